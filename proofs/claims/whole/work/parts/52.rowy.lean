/-! The row: the reference. -/
theorem mn_nI {a b : Nat} (ha : a < 2 ^ 31) (hb : b < 2 ^ 31) : mn (nI a) (nI b) = nI (min a b) := by
  have el : nI b ≤ nI a ↔ b ≤ a := nI_leI hb ha
  unfold mn
  by_cases h : b ≤ a
  · rw [if_pos (el.mpr h)]
    congr 1
    omega
  · rw [if_neg (fun y => h (el.mp y))]
    congr 1
    omega
theorem isB_no {c : Nat → Nat → Nat} {t k hi x : Nat} (h : t.testBit k = false) (q : isB c t (k + 1) hi x) : isB c t k hi x := by
  obtain ⟨q1, q2, q3, q4⟩ := q
  refine ⟨by omega, q2, q3, fun j h1 h2 h3 => ?_⟩
  by_cases e : j = k
  · subst e
    rw [h] at h3
    cases h3
  · exact q4 j (by omega) h2 h3
theorem isB_keep {c : Nat → Nat → Nat} {t k hi x : Nat} (h : rv c t x < rv c t k) (q : isB c t (k + 1) hi x) : isB c t k hi x := by
  obtain ⟨q1, q2, q3, q4⟩ := q
  refine ⟨by omega, q2, q3, fun j h1 h2 h3 => ?_⟩
  by_cases e : j = k
  · subst e
    exact ⟨by omega, fun z => by omega⟩
  · exact q4 j (by omega) h2 h3
theorem isB_new {c : Nat → Nat → Nat} {t k hi x : Nat} (h : ¬ rv c t x < rv c t k) (hk : k < hi) (hb : t.testBit k = true) (q : isB c t (k + 1) hi x) : isB c t k hi k := by
  obtain ⟨q1, q2, q3, q4⟩ := q
  refine ⟨Nat.le_refl _, hk, hb, fun j h1 h2 h3 => ?_⟩
  by_cases e : j = k
  · subst e
    exact ⟨Nat.le_refl _, fun _ => Nat.le_refl _⟩
  · have := q4 j (by omega) h2 h3
    exact ⟨by omega, fun _ => h1⟩
section OK21
variable {l : Launch} {D : va_G} {cI cZ : ClassId}
theorem ok_X9_rowFrom : KX9_rowFrom l D cI cZ (fun p0 p1 f s => rng 1024 p0 ∧ rng 10 p1 ∧ pat s ∧ ixT f (cS s) (wo p0.toNatClampNeg p1.toNatClampNeg)) (fun p0 p1 _ s r => r = nI (lrS (cS s) (wo p0.toNatClampNeg p1.toNatClampNeg) p1.toNatClampNeg)) := walkX9_rowFrom (IX9_rowFrom_24 := fun p0 p1 _ s n q1 x best i => q1 = p1 ∧ x = nI (wo p0.toNatClampNeg p1.toNatClampNeg) ∧ ∃ m, m + n = 10 ∧ i = nI m ∧ best = (if wo p0.toNatClampNeg p1.toNatClampNeg = 0 then 0 else nI (mnL (cS s) (rv (cS s) (wo p0.toNatClampNeg p1.toNatClampNeg)) (wo p0.toNatClampNeg p1.toNatClampNeg) p1.toNatClampNeg m))) ok_X9_has ok_X9_unlike ok_X9_less (by
  rintro p0 p1 f s ⟨⟨N, hN, rfl⟩, ⟨K, hK, rfl⟩, hp, hf⟩
  have cN : (nI N).toNatClampNeg = N := cl N (by omega)
  have cK : (nI K).toNatClampNeg = K := cl K (by omega)
  rw [cN, cK] at hf
  rw [cN, cK]
  obtain ⟨W, hW⟩ : ∃ W, W = wo N K := ⟨_, rfl⟩
  have hW1 : W < 1024 := by
    rw [hW]
    exact wo_1024 hN
  have eW : nI N &&& (((1 : Int32) <<< (nI K &&& 31)) ^^^ (-1 : Int32)) = nI W := by
    rw [hW]
    exact awy_wo hN hK
  rw [← hW] at hf
  rw [← hW, eW]
  have hz : nI W = 0 ↔ W = 0 := nI_eq (b := 0) (by omega) (by decide)
  have h9 : ∀ j, j < 10 → rv (cS s) W j + cS s j K < 9999 := fun j hj => by
    have h1 := rv_le (cS_8 hp) hW1 hj
    have h2 := cS_8 hp j K hj hK
    omega
  rintro x rfl
  rw [hz]
  refine ⟨fun h => ⟨⟨10, rfl, rfl, 0, rfl, rfl, by rw [if_neg h]; rfl⟩, ?_⟩, fun h => ⟨⟨10, rfl, rfl, 0, rfl, rfl, by rw [if_pos h]⟩, ?_⟩⟩
  all_goals
    rintro n i best ⟨-, -, m, hm, rfl, rfl⟩
    refine ⟨fun h2 => ?_, fun h2 => ⟨trivial, ?_⟩⟩
    · obtain ⟨rfl, -⟩ := c10e hm h2
      unfold lrS
      by_cases z : W = 0
      · rw [if_pos z, if_pos z]
        rfl
      · rw [if_neg z, if_neg z]
    · obtain ⟨h10, hn⟩ := c10 hm h2
      rintro r rfl
      rw [bits_hs W hW1 m h10]
      refine ⟨fun h3 => ?_, fun h3 => ⟨⟨isH_of hK, isH_of h10, hp⟩, ?_⟩⟩
      · rw [bi_0] at h3
        rintro x rfl
        refine ⟨n - 1, by omega, rfl, rfl, m + 1, by omega, nI_1 m, ?_⟩
        rw [mnL_no h3]
      · rw [bi_n0] at h3
        have hz2 : ¬ W = 0 := fun z => by
          rw [z, Nat.zero_testBit] at h3
          cases h3
        have ex : pc (s K ^^^ s m) = nI (cS s m K) := by
          rw [xor_comm32]
          exact (cS_ok hp h10 hK).1
        have el : mnL (cS s) (rv (cS s) W) W K m ≤ 9999 := (mnL_9999 (r := W) m (fun j hj => h9 j (by omega))).1
        have e9 := h9 m h10
        rw [cl10 h10, ex]
        rintro r rfl
        rw [ixB]
        refine ⟨vp_in_nI (by omega) (by decide), trivial, ?_⟩
        rw [cl (10 * W + m) (by omega), show 10 * W + m = W * 10 + m by omega, hf m h10 h3, nI_add, if_neg hz2, mn_nI (by omega) (by omega)]
        rintro r rfl x rfl
        refine ⟨n - 1, by omega, rfl, rfl, m + 1, by omega, nI_1 m, ?_⟩
        rw [if_neg hz2, mnL_yes h3]
        congr 1
        omega)
theorem ok_X9_row : KX9_row l D cI cZ (fun _ th _ s => rng 1024 th ∧ pat s) (fun v th _ s r _ => r = roR s th.toNatClampNeg v) := walkX9_row (IX9_row_15 := fun v th _ s n v2 i f => v2 = v ∧ ∃ m, 1 ≤ m ∧ m + n = 1024 ∧ m ≤ th.toNatClampNeg + 1 ∧ i = nI m ∧ ∀ N, N < m → ixT f (cS s) N) (IX9_row_25 := fun v th _ s n v2 i k f => v2 = v ∧ ∃ m q, i = nI m ∧ 1 ≤ m ∧ m ≤ th.toNatClampNeg ∧ q + n = 10 ∧ k = nI q ∧ (∀ N, N < m → ixT f (cS s) N) ∧ ∀ k, k < q → m.testBit k = true → f (m * 10 + k) = nI (rv (cS s) m k)) (IX9_row_80 := fun v th _ s n v2 best i f => v2 = v ∧ i = nI n + (-1) ∧ n ≤ 10 ∧ ixT f (cS s) th.toNatClampNeg ∧ ((best = -6 ∧ ∀ j, n ≤ j → j < 10 → th.toNatClampNeg.testBit j = false) ∨ ∃ x, isB (cS s) th.toNatClampNeg n 10 x ∧ best = nI x)) ok_X9_in ok_X9_has ok_X9_rowFrom (by
  rintro v th r0 s ⟨⟨T, hT, rfl⟩, hp⟩
  have cT : (nI T).toNatClampNeg = T := cl T (by omega)
  rw [cT]
  refine ⟨trivial, fun r hr => ?_⟩
  obtain rfl := hr v 0 1 rfl (by decide) (by decide)
  clear hr
  refine ⟨fun h => ?_, fun h => ?_⟩
  · rw [bi_n0] at h
    have v0 : ¬ v = 1 → v = 0 := fun z => by
      obtain ⟨K, hK, rfl⟩ := wi_of (N := 1) (by decide) h
      rcases Nat.lt_or_ge K 1 with q | q
      · obtain rfl : K = 0 := by omega
        rfl
      · obtain rfl : K = 1 := by omega
        exact absurd rfl z
    refine ⟨⟨1023, rfl, 1, Nat.le_refl 1, rfl, by omega, rfl, fun N hN => ?_⟩, ?_⟩
    · obtain rfl : N = 0 := by omega
      exact ixT_0 _ _
    rintro n i f ⟨-, m, hm1, hmn, hmT, rfl, hf⟩
    refine ⟨fun h2 => ?_, fun h2 => ?_⟩
    · have hTm := (nI_ltI (by omega) (by omega)).mp h2
      have hfT := hf T hTm
      refine ⟨⟨10, rfl, by decide, Nat.le_refl 10, hfT, Or.inl ⟨rfl, fun j h1 h2 => by omega⟩⟩, ?_⟩
      rintro q i best ⟨-, rfl, hq10, -, hB⟩
      refine ⟨fun h3 => ?_, fun h3 => ?_⟩
      · have hq0 : q = 0 := by
          cases q with
          | zero => rfl
          | succ k =>
            rw [pk_m1] at h3
            exact absurd h3 (nI_pos (by omega))
        subst hq0
        rcases rB_or (cS_8 hp) hT 10 (Nat.le_refl 10) with ⟨e1, e2⟩ | ⟨x, hx, e1⟩
        · have eb : best = -6 := by
            rcases hB with ⟨z, -⟩ | ⟨y, hy, -⟩
            · exact z
            · have := e2 y hy.2.1
              rw [hy.2.2.1] at this
              cases this
          subst eb
          unfold roR
          rw [if_pos h, e1]
          refine ⟨fun h4 => ⟨fun h5 => absurd h5 (by decide), fun _ => ?_⟩, fun h4 => ?_⟩
          · rw [if_pos (v0 h4)]
          · rw [if_neg (by rw [h4]; decide)]
        · have eb : best = nI x := by
            rcases hB with ⟨-, z⟩ | ⟨y, hy, z⟩
            · have := z x (Nat.zero_le _) hx.2.1
              rw [hx.2.2.1] at this
              cases this
            · rw [z, isB_one hy hx]
          subst eb
          have hx10 := hx.2.1
          unfold roR
          rw [if_pos h, e1, ixB]
          refine ⟨fun h4 => ⟨fun h5 => ⟨vp_in_nI (by omega) (by decide), ?_⟩, fun h5 => absurd (nI_pos' (by omega)) h5⟩, fun h4 => ?_⟩
          · rw [if_pos (v0 h4), cl (10 * T + x) (by omega), show 10 * T + x = T * 10 + x by omega]
            exact hfT x hx10 hx.2.2.1
          · rw [if_neg (by rw [h4]; decide)]
      · obtain ⟨k, rfl⟩ : ∃ k, q = k + 1 := by
          cases q with
          | zero => exact absurd (by decide) h3
          | succ k => exact ⟨k, rfl⟩
        rw [pk_m1]
        clear h3
        have hk10 : k < 10 := by omega
        refine ⟨trivial, ?_⟩
        rintro r rfl
        rw [bits_hs T hT k hk10]
        refine ⟨fun h4 => ?_, fun h4 => ⟨fun h5 => ?_, fun h5 => ?_⟩⟩
        · rw [bi_0] at h4
          rintro x rfl
          refine ⟨k, by omega, rfl, rfl, by omega, hfT, ?_⟩
          rcases hB with ⟨z1, z2⟩ | ⟨y, hy, z⟩
          · refine Or.inl ⟨z1, fun j hj1 hj2 => ?_⟩
            by_cases e : j = k
            · subst e
              exact h4
            · exact z2 j (by omega) hj2
          · exact Or.inr ⟨y, isB_no h4 hy, z⟩
        · rw [bi_n0] at h4
          rintro x rfl
          refine ⟨k, by omega, rfl, rfl, by omega, hfT, Or.inr ⟨k, ?_, rfl⟩⟩
          rcases hB with ⟨-, z2⟩ | ⟨y, hy, z⟩
          · refine ⟨Nat.le_refl _, hk10, h4, fun j h1 h2 h3 => ?_⟩
            by_cases e : j = k
            · subst e
              exact ⟨Nat.le_refl _, fun _ => Nat.le_refl _⟩
            · rw [z2 j (by omega) h2] at h3
              cases h3
          · rw [z] at h5
            have := hy.2.1
            exact absurd h5 (nI_pos (by omega))
        · rw [bi_n0] at h4
          rcases hB with ⟨z, -⟩ | ⟨y, hy, rfl⟩
          · subst z
            exact absurd (by decide) h5
          · have hy10 := hy.2.1
            have l1 := rv_le (cS_8 hp) hT hy10
            have l2 := rv_le (cS_8 hp) hT hk10
            rw [ixB, ixB, cl (10 * T + y) (by omega), cl (10 * T + k) (by omega), show 10 * T + y = T * 10 + y by omega, show 10 * T + k = T * 10 + k by omega, hfT y hy10 hy.2.2.1, hfT k hk10 h4, nI_ltI (by omega) (by omega)]
            refine ⟨vp_in_nI (by omega) (by decide), vp_in_nI (by omega) (by decide), fun h6 => ?_, fun h6 => ?_⟩
            · rintro x rfl
              exact ⟨k, by omega, rfl, rfl, by omega, hfT, Or.inr ⟨y, isB_keep h6 hy, rfl⟩⟩
            · rintro x rfl
              exact ⟨k, by omega, rfl, rfl, by omega, hfT, Or.inr ⟨k, isB_new h6 hk10 h4 hy, rfl⟩⟩
    · have hmT2 : ¬ T < m := (not_congr (nI_ltI (by omega) (by omega))).mp h2
      have hm1024 : m < 1024 := by omega
      refine ⟨⟨10, rfl, m, 0, rfl, hm1, by omega, rfl, rfl, hf, fun k h => absurd h (Nat.not_lt_zero _)⟩, ?_⟩
      rintro n2 k2 f2 ⟨-, m2, q, em, hm2, hm3, hq, rfl, hf1, hf2⟩
      have em2 : m2 = m := ((nI_eq (by omega) (by omega)).mp em).symm
      subst em2
      refine ⟨fun h3 => ?_, fun h3 => ⟨trivial, ?_⟩⟩
      · obtain ⟨rfl, -⟩ := c10e hq h3
        rintro x rfl
        refine ⟨n - 1, by omega, rfl, m2 + 1, by omega, by omega, by omega, nI_1 m2, fun N hN => ?_⟩
        by_cases e : N = m2
        · subst e
          exact hf2
        · exact hf1 N (by omega)
      · obtain ⟨h10, hn2⟩ := c10 hq h3
        have hix : ∀ x : Int32, (m2.testBit q = true → x = nI (rv (cS s) m2 q)) → (∀ N, N < m2 → ixT (upd f2 (m2 * 10 + q) x) (cS s) N) ∧ ∀ k, k < q + 1 → m2.testBit k = true → upd f2 (m2 * 10 + q) x (m2 * 10 + k) = nI (rv (cS s) m2 k) := fun x hx => by
          refine ⟨fun N hN k hk hb => ?_, fun k hk hb => ?_⟩
          · rw [upd_n (by omega)]
            exact hf1 N hN k hk hb
          · by_cases e : k = q
            · subst e
              rw [upd_s]
              exact hx hb
            · rw [upd_n (by omega)]
              exact hf2 k (by omega) hb
        rintro r rfl
        rw [bits_hs m2 hm1024 q h10, ixB, cl (10 * m2 + q) (by omega), cl m2 (by omega), cl10 h10, show 10 * m2 + q = m2 * 10 + q by omega]
        refine ⟨fun h4 => ⟨vp_in_nI (by omega) (by decide), ?_⟩, fun h4 => ⟨⟨⟨m2, hm1024, rfl⟩, ⟨q, h10, rfl⟩, hp, ?_⟩, ?_⟩⟩
        · rw [bi_0] at h4
          rintro x rfl
          obtain ⟨a1, a2⟩ := hix 9999 (fun z => by rw [h4] at z; cases z)
          exact ⟨n2 - 1, by omega, rfl, m2, q + 1, rfl, hm2, hm3, by omega, nI_1 q, a1, a2⟩
        · rw [bi_n0] at h4
          exact hf1 _ (wo_lt m2 hm1024 q h10 h4)
        · rw [bi_n0] at h4
          rw [← rv_eq (cS s) hm1024 h10 h4]
          rintro r rfl
          refine ⟨vp_in_nI (by omega) (by decide), ?_⟩
          rintro x rfl
          obtain ⟨a1, a2⟩ := hix _ (fun _ => rfl)
          exact ⟨n2 - 1, by omega, rfl, m2, q + 1, rfl, hm2, hm3, by omega, nI_1 q, a1, a2⟩
  · rw [bi_0] at h
    unfold roR
    rw [if_neg (by rw [h]; decide)])
end OK21
