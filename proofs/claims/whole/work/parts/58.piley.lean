/-! Piles: the reference. -/
section OK25
variable {l : Launch} {D : va_G} {cI cZ : ClassId}
theorem ok_X9_weight : KX9_weight l D cI cZ (fun p s => isH p = true ∧ pat s) (fun p s r => r = nI (wkS s p.toNatClampNeg)) := walkX9_weight ok_X9_ones (by
  rintro p s ⟨h, hp⟩
  obtain ⟨k, hk, rfl⟩ := isH_nI h
  obtain ⟨c, c1, c2, c3⟩ := wkS_ok hp hk
  refine ⟨in10 hk, ?_, ?_⟩
  · rw [cl10 hk]
    exact rng_mono (hp k hk) (by decide)
  · rintro r rfl
    rw [cl10 hk, c2, c3]
    exact nI_add 1 c)
theorem ok_X9_bears : KX9_bears l D cI cZ (fun p w => isH p = true ∧ rng 100 (w p.toNatClampNeg)) (fun p w r => r = nI (bkS w p.toNatClampNeg)) := walkX9_bears (by
  rintro p w ⟨h, hw⟩
  exact ⟨isH_in h, (bkS_ok hw).1⟩)
theorem ok_X9_nextOf : KX9_nextOf l D cI cZ (fun p s w => rng 1024 p ∧ ¬ p = 0 ∧ pat s ∧ woL w p.toNatClampNeg) (fun p s w r => ∃ k, k < 10 ∧ p.toNatClampNeg.testBit k = true ∧ r = nI k ∧ ∀ j, j < 10 → p.toNatClampNeg.testBit j = true → wkS s k + bkS w k ≤ wkS s j + bkS w j) := walkX9_nextOf (IX9_nextOf_5 := fun p s w n q x i => q = p ∧ ∃ m, m + n = 10 ∧ i = nI m ∧ ((x = -6 ∧ ∀ j, j < m → p.toNatClampNeg.testBit j = false) ∨ ∃ k, k < m ∧ p.toNatClampNeg.testBit k = true ∧ x = nI k ∧ ∀ j, j < m → p.toNatClampNeg.testBit j = true → wkS s k + bkS w k ≤ wkS s j + bkS w j)) ok_X9_has ok_X9_weight ok_X9_bears (by
  rintro p s w ⟨⟨S, hS, rfl⟩, h0, hp, hw⟩
  have cS1 : (nI S).toNatClampNeg = S := cl S (by omega)
  have hS0 : ¬ S = 0 := fun z => h0 (by rw [z]; rfl)
  rw [cS1] at hw
  rw [cS1]
  refine ⟨⟨10, rfl, 0, rfl, rfl, Or.inl ⟨rfl, fun j h => absurd h (Nat.not_lt_zero _)⟩⟩, ?_⟩
  rintro n i x ⟨-, m, hm, rfl, hI⟩
  refine ⟨fun h => ?_, fun h => ⟨trivial, ?_⟩⟩
  · obtain ⟨rfl, -⟩ := c10e hm h
    rcases hI with ⟨-, z⟩ | z
    · obtain ⟨j, hj, hb⟩ := bit_ex hS hS0
      rw [z j hj] at hb
      cases hb
    · exact z
  · obtain ⟨h10, hn⟩ := c10 hm h
    have nxt : ∀ x' : Int32, ((x' = -6 ∧ ∀ j, j < m + 1 → S.testBit j = false) ∨ ∃ k, k < m + 1 ∧ S.testBit k = true ∧ x' = nI k ∧ ∀ j, j < m + 1 → S.testBit j = true → wkS s k + bkS w k ≤ wkS s j + bkS w j) → ∀ y : Int32, y = nI m + (1 : Int32) → ∃ n1, n1 < n ∧ nI S = nI S ∧ ∃ m1, m1 + n1 = 10 ∧ y = nI m1 ∧ ((x' = -6 ∧ ∀ j, j < m1 → S.testBit j = false) ∨ ∃ k, k < m1 ∧ S.testBit k = true ∧ x' = nI k ∧ ∀ j, j < m1 → S.testBit j = true → wkS s k + bkS w k ≤ wkS s j + bkS w j) := by
      rintro x' hx y rfl
      exact ⟨n - 1, by omega, rfl, m + 1, by omega, nI_1 m, hx⟩
    rintro r rfl
    rw [bits_hs S hS m h10]
    refine ⟨fun h2 => nxt x ?_, fun h2 => ⟨fun h3 => nxt _ ?_, fun h3 => ?_⟩⟩
    · rw [bi_0] at h2
      rcases hI with ⟨z1, z2⟩ | ⟨k, k1, k2, k3, k4⟩
      · refine Or.inl ⟨z1, fun j hj => ?_⟩
        by_cases e : j = m
        · subst e
          exact h2
        · exact z2 j (by omega)
      · refine Or.inr ⟨k, by omega, k2, k3, fun j hj hb => ?_⟩
        by_cases e : j = m
        · subst e
          rw [h2] at hb
          cases hb
        · exact k4 j (by omega) hb
    · rw [bi_n0] at h2
      rcases hI with ⟨z1, z2⟩ | ⟨k, k1, k2, k3, k4⟩
      · refine Or.inr ⟨m, by omega, h2, rfl, fun j hj hb => ?_⟩
        by_cases e : j = m
        · subst e
          exact Nat.le_refl _
        · rw [z2 j (by omega)] at hb
          cases hb
      · rw [k3] at h3
        exact absurd h3 (nI_pos (by omega))
    · rw [bi_n0] at h2
      rcases hI with ⟨z1, -⟩ | ⟨k, k1, k2, rfl, k4⟩
      · rw [z1] at h3
        exact absurd (by decide) h3
      · have hk10 : k < 10 := by omega
        obtain ⟨a1, a2⟩ := bkS_ok (hw m h10 h2)
        obtain ⟨b1, b2⟩ := bkS_ok (hw k hk10 k2)
        have c1 := wkS_9 hp m h10
        have c2 := wkS_9 hp k hk10
        rw [cl10 h10, cl10 hk10]
        refine ⟨⟨isH_of h10, hp⟩, ?_⟩
        rintro r rfl
        refine ⟨⟨isH_of h10, hw m h10 h2⟩, ?_⟩
        rintro r rfl
        refine ⟨⟨isH_of hk10, hp⟩, ?_⟩
        rintro r rfl
        refine ⟨⟨isH_of hk10, hw k hk10 k2⟩, ?_⟩
        rintro r rfl
        have el : nI (wkS s k + bkS w k) ≤ nI (wkS s m + bkS w m) ↔ wkS s k + bkS w k ≤ wkS s m + bkS w m := nI_leI (by omega) (by omega)
        rw [nI_add, nI_add, el]
        refine ⟨fun h4 => nxt _ (Or.inr ⟨k, by omega, k2, rfl, fun j hj hb => ?_⟩), fun h4 => nxt _ (Or.inr ⟨m, by omega, h2, rfl, fun j hj hb => ?_⟩)⟩
        · by_cases e : j = m
          · subst e
            exact h4
          · exact k4 j (by omega) hb
        · by_cases e : j = m
          · subst e
            exact Nat.le_refl _
          · have := k4 j (by omega) hb
            omega)
theorem ok_X9_isPile : KX9_isPile l D cI cZ (fun p s w => rng 1024 p ∧ pat s ∧ woL w p.toNatClampNeg) (fun p s w r => (tp (wkS s) (bkS w) p.toNatClampNeg 0 → r = 1) ∧ (¬ tp (wkS s) (bkS w) p.toNatClampNeg 0 → r = 0)) := walkX9_isPile (IX9_isPile_7 := fun p s w n x a c => ∃ L A, n = L ∧ L < 1024 ∧ sb L p.toNatClampNeg ∧ x = nI L ∧ a = nI A ∧ A + swt (wkS s) L 10 ≤ 90 ∧ ((c = 1 ∧ (tp (wkS s) (bkS w) p.toNatClampNeg 0 ↔ tp (wkS s) (bkS w) L A)) ∨ (c = 0 ∧ ¬ tp (wkS s) (bkS w) p.toNatClampNeg 0))) ok_X9_nextOf ok_X9_bears ok_X9_weight (by
  rintro p s w ⟨⟨S, hS, rfl⟩, hp, hw⟩
  have cS1 : (nI S).toNatClampNeg = S := cl S (by omega)
  rw [cS1] at hw
  rw [cS1]
  refine ⟨⟨S, S, 0, rfl, hS, sb_refl S, rfl, rfl, ?_, Or.inl ⟨rfl, Iff.rfl⟩⟩, ?_⟩
  · have := swt_le (S := S) (wkS_9 hp) 10 (Nat.le_refl 10)
    omega
  rintro n x a c ⟨L, A, rfl, hL, hLS, rfl, rfl, hA, hc⟩
  have eL : nI n = 0 ↔ n = 0 := nI_eq (b := 0) (by omega) (by decide)
  rw [eL]
  refine ⟨fun h => ?_, fun h => ⟨fun h2 => ?_, fun h2 => ?_⟩⟩
  · subst h
    rcases hc with ⟨rfl, z⟩ | ⟨rfl, z⟩
    · exact ⟨Or.inr rfl, fun _ => rfl, fun y => absurd (z.mpr (tp_0 _ _ _)) y⟩
    · exact ⟨Or.inl rfl, fun y => absurd y z, fun _ => rfl⟩
  · rcases hc with ⟨rfl, z⟩ | ⟨rfl, z⟩
    · exact absurd h2 (by decide)
    · exact ⟨Or.inl rfl, fun y => absurd y z, fun _ => rfl⟩
  · have hT : tp (wkS s) (bkS w) S 0 ↔ tp (wkS s) (bkS w) n A := by
      rcases hc with ⟨-, z⟩ | ⟨z, -⟩
      · exact z
      · exact absurd z h2
    have hwn : woL w n := fun k hk hb => hw k hk (hLS k hb)
    have cn1 : (nI n).toNatClampNeg = n := cl n (by omega)
    rw [cn1]
    refine ⟨⟨⟨n, hL, rfl⟩, h, hp, hwn⟩, ?_⟩
    rintro r ⟨k, hk, hkb, rfl, hmin⟩
    obtain ⟨a1, a2⟩ := bkS_ok (hwn k hk hkb)
    have c1 := wkS_9 hp k hk
    have hsw := swt_sd (wk := wkS s) hkb 10 hk
    have hlt := sd_lt2 hkb
    rw [cl10 hk, p2_I k hk, sd_nI hL]
    refine ⟨⟨isH_of hk, hwn k hk hkb⟩, ?_⟩
    rintro r rfl
    have el : nI (bkS w k) < nI A ↔ bkS w k < A := nI_ltI (by omega) (by omega)
    rw [el]
    refine ⟨fun h3 => ⟨⟨isH_of hk, hp⟩, ?_⟩, fun h3 => ⟨⟨isH_of hk, hp⟩, ?_⟩⟩
    · rintro r rfl y rfl z rfl
      refine ⟨sd n (2 ^ k), hlt, sd n (2 ^ k), A + wkS s k, rfl, by omega, sb_trans (sd_sb _ _) hLS, rfl, nI_add _ _, by omega, Or.inr ⟨rfl, fun q => ?_⟩⟩
      have := (tp_top n A k (hT.mp q) hk hkb hmin).1
      omega
    · rintro r rfl y rfl z rfl
      refine ⟨sd n (2 ^ k), hlt, sd n (2 ^ k), A + wkS s k, rfl, by omega, sb_trans (sd_sb _ _) hLS, rfl, nI_add _ _, by omega, Or.inl ⟨rfl, hT.trans ⟨fun q => (tp_top n A k q hk hkb hmin).2, fun q => tp_s hk hkb (by omega) q⟩⟩⟩)
theorem ok_X9_pile : KX9_pile l D cI cZ (fun _ th s w => rng 1024 th ∧ pat s ∧ okW th w) (fun p th s w r => pilA s w th p r) := walkX9_pile (IX9_pile_17 := fun p th s w n q b i => q = p ∧ ∃ m c, 1 ≤ m ∧ m + n = 1024 ∧ i = nI m ∧ b = nI c ∧ hB s w th.toNatClampNeg m c) ok_X9_in ok_X9_ones ok_X9_isPile (by
  rintro p th s w ⟨⟨A, hA, rfl⟩, hp, hw⟩
  have cA : (nI A).toNatClampNeg = A := cl A (by omega)
  rw [cA]
  refine ⟨trivial, fun r hr => ?_⟩
  obtain rfl := hr p 0 1 rfl (by decide) (by decide)
  clear hr
  refine ⟨fun h => ?_, fun h => ?_⟩
  · rw [bi_n0] at h
    refine ⟨⟨1023, rfl, 1, 0, Nat.le_refl 1, rfl, rfl, rfl, hB_1 s w A⟩, ?_⟩
    rintro n i b ⟨-, m, c, hm1, hmn, rfl, rfl, hb⟩
    have e1024 : (1024 : Int32) ≤ nI m ↔ 1024 ≤ m := ctr_le rfl (by decide) (by omega)
    have hc : c < 1024 := by
      have := hb.1
      omega
    rw [e1024]
    refine ⟨fun h2 => ?_, fun h2 => ?_⟩
    · obtain rfl : m = 1024 := by omega
      unfold pilA
      refine ⟨fun h3 => ?_, fun h3 => ⟨⟨c, hc, rfl⟩, ?_⟩⟩
      · rw [if_pos h, cA]
        exact ⟨c, hb, by rw [if_neg h3]⟩
      · rintro r rfl
        rw [if_pos h, cA]
        exact ⟨c, hb, by rw [if_pos h3, bits_pc c hc]⟩
    · have hm : m < 1024 := by omega
      have nxt : ∀ c' : Nat, hB s w A (m + 1) c' → ∀ x : Int32, x = nI m + (1 : Int32) → ∃ n1, n1 < n ∧ p = p ∧ ∃ m1 c1, 1 ≤ m1 ∧ m1 + n1 = 1024 ∧ x = nI m1 ∧ nI c' = nI c1 ∧ hB s w A m1 c1 := by
        rintro c' hc' x rfl
        exact ⟨n - 1, by omega, rfl, m + 1, c', by omega, by omega, nI_1 m, rfl, hc'⟩
      have p1 := pN_10 m hm
      have p2 := pN_10 c hc
      have el2 : nI (pN m) ≤ nI (pN c) ↔ pN m ≤ pN c := nI_leI (by omega) (by omega)
      rw [sb_I hm]
      refine ⟨fun h3 => nxt c (hB_keep hb (fun z => absurd z h3)), fun h3 => ⟨⟨m, hm, rfl⟩, ?_⟩⟩
      rintro r rfl
      refine ⟨⟨c, hc, rfl⟩, ?_⟩
      rintro r rfl
      rw [bits_pc m hm, bits_pc c hc, el2]
      refine ⟨fun h4 => nxt c (hB_keep hb (fun _ _ => h4)), fun h4 => ⟨⟨⟨m, hm, rfl⟩, hp, ?_⟩, ?_⟩⟩
      · rw [cl m (by omega)]
        exact okW_L hA rfl hw h3
      · rw [cl m (by omega)]
        rintro r ⟨r1, r2⟩
        refine ⟨fun h5 => nxt c (hB_keep hb (fun _ z => ?_)), fun h5 => nxt m (hB_new hb h3 ?_ h4)⟩
        · rw [r1 z] at h5
          exact absurd h5 (by decide)
        · by_cases z : tp (wkS s) (bkS w) m 0
          · exact z
          · exact absurd (r2 z) h5
  · rw [bi_0] at h
    unfold pilA
    rw [if_neg (by rw [h]; decide)])
end OK25
