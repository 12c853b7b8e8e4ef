/-! The row: the class. -/
theorem ixA (a b : Nat) : nI a * (10 : Int32) + nI b = nI (a * 10 + b) := by
  show nI a * nI 10 + nI b = nI (a * 10 + b)
  rw [pk_mul, nI_add]
theorem ixB (a b : Nat) : (10 : Int32) * nI a + nI b = nI (10 * a + b) := by
  show nI 10 * nI a + nI b = nI (10 * a + b)
  rw [pk_mul, nI_add]
def cB (f : Nat → Int32) (a b : Nat) : Nat := (f (a * 10 + b)).toNatClampNeg
def btO (f : Nat → Int32) : Prop := ∀ a b, a < 10 → b < 10 → rng 9 (f (a * 10 + b))
theorem cB_ok {f : Nat → Int32} (h : btO f) {a b : Nat} (ha : a < 10) (hb : b < 10) : f (a * 10 + b) = nI (cB f a b) ∧ cB f a b ≤ 8 := by
  obtain ⟨n, hn, e⟩ := h a b ha hb
  unfold cB
  rw [e, cl n (by omega)]
  exact ⟨rfl, by omega⟩
theorem cB_8 {f : Nat → Int32} (h : btO f) : c8 (cB f) := fun _ _ ha hb => (cB_ok h ha hb).2
def ixT (f : Nat → Int32) (c : Nat → Nat → Nat) (n : Nat) : Prop := ∀ k, k < 10 → n.testBit k = true → f (n * 10 + k) = nI (rv c n k)
theorem ixT_c {f : Nat → Int32} {c c' : Nat → Nat → Nat} {n : Nat} (h : ∀ i j, i < 10 → j < 10 → c i j = c' i j) (q : ixT f c n) : ixT f c' n := fun k hk hb => by rw [q k hk hb, rv_c h hk]
theorem ixT_0 (f : Nat → Int32) (c : Nat → Nat → Nat) : ixT f c 0 := fun k _ hb => by
  rw [Nat.zero_testBit] at hb
  cases hb
/-- the least so far, NONE before -/
def mnI (c : Nat → Nat → Nat) (g : Nat → Nat) (r k m : Nat) : Int32 := if mnL c g r k m = 9999 then -6 else nI (mnL c g r k m)
theorem mnL_no {c : Nat → Nat → Nat} {g : Nat → Nat} {r k m : Nat} (h : r.testBit m = false) : mnL c g r k (m + 1) = mnL c g r k m := if_neg (by rw [h]; decide)
theorem mnL_yes {c : Nat → Nat → Nat} {g : Nat → Nat} {r k m : Nat} (h : r.testBit m = true) : mnL c g r k (m + 1) = min (mnL c g r k m) (g m + c m k) := if_pos h
theorem mnI_yes {c : Nat → Nat → Nat} {g : Nat → Nat} {r k m : Nat} (hb : ∀ j, j < m → g j + c j k < 9999) (h9 : g m + c m k < 9999) (h : r.testBit m = true) :
    (mnI c g r k m = -6 → mnI c g r k (m + 1) = nI (g m + c m k)) ∧ (¬ mnI c g r k m = -6 → mnI c g r k (m + 1) = (if nI (g m + c m k) < mnI c g r k m then nI (g m + c m k) else mnI c g r k m)) := by
  have e := (mnL_9999 (r := r) m hb).1
  have n6 : ∀ z, z < 9999 → ¬ nI z = (-6 : Int32) := fun z hz q => nI_pos (n := z) (by omega) (by rw [q]; decide)
  unfold mnI
  rw [mnL_yes h]
  have z2 : ¬ min (mnL c g r k m) (g m + c m k) = 9999 := by omega
  rw [if_neg z2]
  refine ⟨fun q => ?_, fun q => ?_⟩
  · have z : mnL c g r k m = 9999 := by
      by_cases w : mnL c g r k m = 9999
      · exact w
      · rw [if_neg w] at q
        exact absurd q (n6 _ (by omega))
    rw [z]
    congr 1
    omega
  · have z : ¬ mnL c g r k m = 9999 := fun w => q (if_pos w)
    have el : nI (g m + c m k) < nI (mnL c g r k m) ↔ g m + c m k < mnL c g r k m := nI_ltI (by omega) (by omega)
    rw [if_neg z]
    by_cases w : g m + c m k < mnL c g r k m
    · rw [if_pos (el.mpr w)]
      congr 1
      omega
    · rw [if_neg (fun y => w (el.mp y))]
      congr 1
      omega
section OK20
variable {l : Launch} {D : va_G} {cI cZ : ClassId}
theorem ok_X0_leastRow : KX0_leastRow l D cI cZ (fun p0 p1 vb vr => rng 1024 p0 ∧ rng 10 p1 ∧ btO vb ∧ ixT vr (cB vb) p0.toNatClampNeg) (fun p0 p1 vb _ r => r = nI (lrS (cB vb) p0.toNatClampNeg p1.toNatClampNeg)) := walkX0_leastRow (IX0_leastRow_12 := fun p0 p1 vb _ n q0 q1 lst i => q0 = p0 ∧ q1 = p1 ∧ ∃ m, m + n = 10 ∧ i = nI m ∧ lst = mnI (cB vb) (rv (cB vb) p0.toNatClampNeg) p0.toNatClampNeg p1.toNatClampNeg m) ok_X8_isIn (by
  rintro p0 p1 vb vr ⟨⟨N, hN, rfl⟩, ⟨K, hK, rfl⟩, hb, hr⟩
  have cN : (nI N).toNatClampNeg = N := cl N (by omega)
  have cK : (nI K).toNatClampNeg = K := cl K (by omega)
  rw [cN] at hr
  rw [cN, cK]
  have h9 : ∀ j, j < 10 → rv (cB vb) N j + cB vb j K < 9999 := fun j hj => by
    have h1 := rv_le (cB_8 hb) hN hj
    have h2 := cB_8 hb j K hj hK
    omega
  refine ⟨fun h => ⟨⟨10, rfl, rfl, 0, rfl, rfl, rfl⟩, ?_⟩, fun h => ?_⟩
  · rintro n i x ⟨-, -, m, hm, rfl, rfl⟩
    refine ⟨fun h2 => ?_, fun h2 => ⟨trivial, ?_⟩⟩
    · obtain ⟨rfl, -⟩ := c10e hm h2
      have hN0 : ¬ N = 0 := fun z => h (by rw [z]; rfl)
      obtain ⟨j, hj, hjb⟩ := bit_ex hN hN0
      have e := (mnL_9999 (r := N) 10 h9).2
      unfold mnI lrS
      rw [if_neg hN0, if_neg (fun z => by have := e.mp z j hj; rw [hjb] at this; cases this)]
    · obtain ⟨h10, hn⟩ := c10 hm h2
      rintro r rfl
      rw [bits_hs N hN m h10]
      refine ⟨fun h3 => ?_, fun h3 => ?_⟩
      · rw [bi_0] at h3
        rintro x rfl
        refine ⟨n - 1, by omega, rfl, rfl, m + 1, by omega, nI_1 m, ?_⟩
        unfold mnI
        rw [mnL_no h3]
      · rw [bi_n0] at h3
        rw [ixA, ixA]
        refine ⟨vp_in_nI (by omega) (by decide), vp_in_nI (by omega) (by decide), ?_⟩
        rw [cl (N * 10 + m) (by omega), cl (m * 10 + K) (by omega), hr m h10 h3, (cB_ok hb h10 hK).1, nI_add]
        obtain ⟨s1, s2⟩ := mnI_yes (c := cB vb) (g := rv (cB vb) N) (k := K) (fun j hj => h9 j (by omega)) (h9 m h10) h3
        rintro x rfl
        refine ⟨fun h4 => ?_, fun h4 => ?_⟩
        · rintro y rfl z rfl
          exact ⟨n - 1, by omega, rfl, rfl, m + 1, by omega, nI_1 m, (s2 h4).symm⟩
        · rintro z rfl
          exact ⟨n - 1, by omega, rfl, rfl, m + 1, by omega, nI_1 m, (s1 h4).symm⟩
  · have hN0 : N = 0 := (nI_eq (b := 0) (by omega) (by decide)).mp h
    unfold lrS
    rw [if_pos hN0]
    rfl)
theorem ok_X0_rankSet : KX0_rankSet l D cI cZ (fun p0 vb vr => rng 1024 p0 ∧ btO vb ∧ ∀ k, k < 10 → p0.toNatClampNeg.testBit k = true → ixT vr (cB vb) (wo p0.toNatClampNeg k)) (fun p0 vb vr f => ixT f (cB vb) p0.toNatClampNeg ∧ ∀ i, (i < p0.toNatClampNeg * 10 ∨ p0.toNatClampNeg * 10 + 10 ≤ i) → f i = vr i) := walkX0_rankSet (IX0_rankSet_2 := fun p0 vb vr n q0 i f => q0 = p0 ∧ ∃ m, m + n = 10 ∧ i = nI m ∧ (∀ k, k < m → p0.toNatClampNeg.testBit k = true → f (p0.toNatClampNeg * 10 + k) = nI (rv (cB vb) p0.toNatClampNeg k)) ∧ ∀ j, (j < p0.toNatClampNeg * 10 ∨ p0.toNatClampNeg * 10 + 10 ≤ j) → f j = vr j) ok_X8_isIn ok_X0_leastRow (by
  rintro p0 vb vr ⟨⟨N, hN, rfl⟩, hb, hr⟩
  have cN : (nI N).toNatClampNeg = N := cl N (by omega)
  rw [cN] at hr
  rw [cN]
  refine ⟨⟨10, rfl, 0, rfl, rfl, fun k h => absurd h (Nat.not_lt_zero _), fun j _ => rfl⟩, ?_⟩
  rintro n i f ⟨-, m, hm, rfl, hf1, hf2⟩
  refine ⟨fun h2 => ?_, fun h2 => ⟨trivial, ?_⟩⟩
  · obtain ⟨rfl, -⟩ := c10e hm h2
    exact ⟨hf1, hf2⟩
  · obtain ⟨h10, hn⟩ := c10 hm h2
    rintro r rfl
    rw [bits_hs N hN m h10]
    refine ⟨fun h3 => ?_, fun h3 => ?_⟩
    · rw [bi_0] at h3
      rintro x rfl
      refine ⟨n - 1, by omega, rfl, m + 1, by omega, nI_1 m, fun k hk hkb => ?_, hf2⟩
      by_cases e : k = m
      · subst e
        rw [h3] at hkb
        cases hkb
      · exact hf1 k (by omega) hkb
    · rw [bi_n0] at h3
      have ea : nI N &&& (((1 : Int32) <<< (nI m &&& 31)) ^^^ (-1 : Int32)) = nI (wo N m) := awy_wo hN h10
      have hw := wo_lt N hN m h10 h3
      rw [ea]
      refine ⟨⟨⟨_, by omega, rfl⟩, ⟨m, h10, rfl⟩, hb, ?_⟩, ?_⟩
      · rw [cl (wo N m) (by omega)]
        intro k hk hkb
        rw [hf2 _ (by omega)]
        exact hr m h10 h3 k hk hkb
      · rw [cl (wo N m) (by omega), cl m (by omega), ← rv_eq (cB vb) hN h10 h3]
        rintro r rfl
        rw [ixA]
        refine ⟨vp_in_nI (by omega) (by decide), ?_⟩
        rw [cl (N * 10 + m) (by omega)]
        rintro x rfl
        refine ⟨n - 1, by omega, rfl, m + 1, by omega, nI_1 m, fun k hk hkb => ?_, fun j hj => ?_⟩
        · by_cases e : k = m
          · subst e
            rw [upd_s]
          · rw [upd_n (by omega)]
            exact hf1 k (by omega) hkb
        · rw [upd_n (by omega)]
          exact hf2 j hj)
theorem ok_X0_measureBorders : KX0_measureBorders l D cI cZ (fun _ _ => True) (fun _ s f => ∀ a b, a < 10 → b < 10 → f (a * 10 + b) = pc (s a ^^^ s b)) := walkX0_measureBorders (IX0_measureBorders_2 := fun _ s n i f => ∃ k, k + n = 10 ∧ i = nI k ∧ ∀ a b, a < k → b < 10 → f (a * 10 + b) = pc (s a ^^^ s b)) (IX0_measureBorders_10 := fun _ s n i j f => ∃ k h, k < 10 ∧ h + n = 10 ∧ i = nI k ∧ j = nI h ∧ (∀ a b, a < k → b < 10 → f (a * 10 + b) = pc (s a ^^^ s b)) ∧ ∀ b, b < h → f (k * 10 + b) = pc (s k ^^^ s b)) ok_bitCount (by
  rintro v s -
  refine ⟨⟨10, 0, rfl, rfl, fun a b h => absurd h (Nat.not_lt_zero _)⟩, ?_⟩
  rintro n i f ⟨k, hk, rfl, hf⟩
  refine ⟨fun h => ?_, fun h => ?_⟩
  · obtain ⟨rfl, -⟩ := c10e hk h
    exact hf
  · obtain ⟨h10, hn⟩ := c10 hk h
    refine ⟨⟨10, k, 0, h10, rfl, rfl, rfl, hf, fun b h => absurd h (Nat.not_lt_zero _)⟩, ?_⟩
    rintro n2 j f2 ⟨k2, h2, hk2, hh, ek, rfl, hf1, hf2⟩
    have ek2 : k2 = k := ((nI_eq (by omega) (by omega)).mp ek).symm
    subst ek2
    refine ⟨fun q => ?_, fun q => ?_⟩
    · obtain ⟨rfl, -⟩ := c10e hh q
      rintro x rfl
      refine ⟨n - 1, by omega, k2 + 1, by omega, nI_1 k2, fun a b ha hb => ?_⟩
      by_cases e : a = k2
      · subst e
        exact hf2 b hb
      · exact hf1 a b (by omega) hb
    · obtain ⟨hh10, hn2⟩ := c10 hh q
      refine ⟨in10 hk2, in10 hh10, trivial, ?_⟩
      rintro r rfl
      rw [ixA, cl10 hk2, cl10 hh10]
      refine ⟨vp_in_nI (by omega) (by decide), ?_⟩
      rw [cl (k2 * 10 + h2) (by omega)]
      rintro x rfl
      refine ⟨n2 - 1, by omega, k2, h2 + 1, hk2, by omega, rfl, nI_1 h2, fun a b ha hb => ?_, fun b hb => ?_⟩
      · rw [upd_n (by omega)]
        exact hf1 a b ha hb
      · by_cases e : b = h2
        · subst e
          rw [upd_s]
        · rw [upd_n (by omega)]
          exact hf2 b (by omega))
theorem ok_X0_rank : KX0_rank l D cI cZ (fun _ _ _ _ th s => rng 1024 th ∧ pat s) (fun _ _ _ _ th s g8 g9 _ _ => g8 = (rB (cS s) th.toNatClampNeg 10).1 ∧ g9 = (rB (cS s) th.toNatClampNeg 10).2) := walkX0_rank (IX0_rank_16 := fun _ _ _ _ th s n x i _ _ f2 f => x = th ∧ (∀ a b, a < 10 → b < 10 → f2 (a * 10 + b) = pc (s a ^^^ s b)) ∧ ∃ m, 1 ≤ m ∧ m + n = 1024 ∧ m ≤ th.toNatClampNeg + 1 ∧ i = nI m ∧ ∀ N, N < m → sbs N th.toNatClampNeg → ixT f (cS s) N) (IX0_rank_53 := fun _ _ _ _ th s n x i g8 g9 _ f => x = th ∧ ∃ m, m + n = 10 ∧ i = nI m ∧ g8 = (rB (cS s) th.toNatClampNeg m).1 ∧ g9 = (rB (cS s) th.toNatClampNeg m).2 ∧ ixT f (cS s) th.toNatClampNeg) ok_X0_measureBorders ok_X8_isIn ok_X0_rankSet (by
  rintro v1 v2 v3 v4 th s ⟨⟨T, hT, rfl⟩, hp⟩
  have cT : (nI T).toNatClampNeg = T := cl T (by omega)
  rw [cT]
  have e1 : nI T &&& (1023 : Int32) = nI T := by
    have := pk_andN (n := T) (by omega) (m := (1023 : Int32)) 10 (by decide)
    rw [this]
    congr 1
    exact Nat.mod_eq_of_lt hT
  rintro x hx
  rw [e1] at hx
  subst hx
  refine ⟨trivial, ?_⟩
  rintro f2 hf2
  have hbt : btO f2 := fun a b ha hb => ⟨cS s a b, by have := (cS_ok hp ha hb).2; omega, by rw [hf2 a b ha hb]; exact (cS_ok hp ha hb).1⟩
  have hcc : ∀ a b, a < 10 → b < 10 → cB f2 a b = cS s a b := fun a b ha hb => by
    unfold cB cS
    rw [hf2 a b ha hb]
  refine ⟨⟨1023, rfl, hf2, 1, Nat.le_refl 1, rfl, by omega, rfl, fun N hN _ => ?_⟩, ?_⟩
  · obtain rfl : N = 0 := by omega
    exact ixT_0 _ _
  rintro n i f ⟨-, -, m, hm1, hmn, hmT, rfl, hf⟩
  refine ⟨fun h => ?_, fun h => ?_⟩
  · have hTm := (nI_ltI (by omega) (by omega)).mp h
    refine ⟨⟨10, rfl, 0, rfl, rfl, rfl, rfl, hf T hTm (fun j _ hb => hb)⟩, ?_⟩
    rintro n2 i2 g8 g9 ⟨-, q, hq, rfl, rfl, rfl, hfT⟩
    refine ⟨fun h2 => ?_, fun h2 => ⟨trivial, ?_⟩⟩
    · obtain ⟨rfl, -⟩ := c10e hq h2
      exact ⟨rfl, rfl⟩
    · obtain ⟨h10, hn⟩ := c10 hq h2
      rintro r rfl
      rw [bits_hs T hT q h10]
      have er : rB (cS s) T (q + 1) = (if T.testBit q = true ∧ ((rB (cS s) T q).2 = -6 ∨ nI (rv (cS s) T q) < (rB (cS s) T q).1) then (nI (rv (cS s) T q), nI q) else rB (cS s) T q) := rfl
      refine ⟨fun h3 => ?_, fun h3 => ?_⟩
      · rw [bi_0] at h3
        rintro x rfl
        have er2 : rB (cS s) T (q + 1) = rB (cS s) T q := by
          rw [er, if_neg (fun z => by rw [h3] at z; cases z.1)]
        exact ⟨n2 - 1, by omega, rfl, q + 1, by omega, nI_1 q, by rw [er2], by rw [er2], hfT⟩
      · rw [bi_n0] at h3
        rw [ixA, cl (T * 10 + q) (by omega), hfT q h10 h3]
        refine ⟨fun h4 => ⟨vp_in_nI (by omega) (by decide), ?_⟩, fun h4 => ⟨vp_in_nI (by omega) (by decide), fun h5 => ?_, fun h5 => ⟨vp_in_nI (by omega) (by decide), ?_⟩⟩⟩
        · rintro x rfl y rfl
          have er2 : rB (cS s) T (q + 1) = (nI (rv (cS s) T q), nI q) := by
            rw [er, if_pos ⟨h3, Or.inl h4⟩]
          exact ⟨n2 - 1, by omega, rfl, q + 1, by omega, nI_1 q, by rw [er2], by rw [er2], hfT⟩
        · rintro x rfl
          have er2 : rB (cS s) T (q + 1) = rB (cS s) T q := by
            rw [er, if_neg]
            rintro ⟨-, y | y⟩
            · exact h4 y
            · exact i32_nlt.mpr h5 y
          exact ⟨n2 - 1, by omega, rfl, q + 1, by omega, nI_1 q, by rw [er2], by rw [er2], hfT⟩
        · rintro x rfl y rfl
          have er2 : rB (cS s) T (q + 1) = (nI (rv (cS s) T q), nI q) := by
            rw [er, if_pos ⟨h3, Or.inr (i32_nle.mp h5)⟩]
          exact ⟨n2 - 1, by omega, rfl, q + 1, by omega, nI_1 q, by rw [er2], by rw [er2], hfT⟩
  · have hmT2 : ¬ T < m := (not_congr (nI_ltI (by omega) (by omega))).mp h
    have hm1024 : m < 1024 := by omega
    rw [sb_iff hm1024]
    refine ⟨fun h2 => ?_, fun h2 => ⟨⟨⟨m, hm1024, rfl⟩, hbt, ?_⟩, ?_⟩⟩
    · rintro x rfl
      refine ⟨n - 1, by omega, rfl, hf2, m + 1, by omega, by omega, by omega, nI_1 m, fun N hN hNs => ?_⟩
      by_cases e : N = m
      · subst e
        exact absurd hNs h2
      · exact hf N (by omega) hNs
    · rw [cl m (by omega)]
      intro k hk hkb
      exact ixT_c (fun i j hi hj => (hcc i j hi hj).symm) (hf _ (wo_lt m hm1024 k hk hkb) (sbs_wo hm1024 hk h2))
    · rintro f3 ⟨g1, g2⟩
      rw [cl m (by omega)] at g1 g2
      rintro x rfl
      refine ⟨n - 1, by omega, rfl, hf2, m + 1, by omega, by omega, by omega, nI_1 m, fun N hN hNs => ?_⟩
      by_cases e : N = m
      · subst e
        exact ixT_c hcc g1
      · intro k hk hkb
        rw [g2 _ (by omega)]
        exact hf N (by omega) hNs k hk hkb)
theorem ok_X8_row : KX8_row l D cI cZ (fun _ _ _ _ _ th s => rng 1024 th ∧ pat s) (fun v _ _ _ _ th s r _ _ _ _ => r = roR s th.toNatClampNeg v) := walkX8_row ok_X8_isWithin ok_X0_rank (by
  rintro v a b c d th s ⟨ht, hp⟩
  refine ⟨trivial, ?_⟩
  rintro r rfl
  refine ⟨fun h => ⟨⟨ht, hp⟩, ?_⟩, fun h => ?_⟩
  · rw [bi_n0] at h
    rintro g2 g3 f4 f5 ⟨rfl, rfl⟩
    unfold roR
    rw [if_pos h]
    refine ⟨fun h2 => ?_, fun h2 => ?_⟩
    · rw [if_neg h2]
    · rw [if_pos h2]
  · rw [bi_0] at h
    unfold roR
    rw [if_neg (by rw [h]; decide)])
end OK20
