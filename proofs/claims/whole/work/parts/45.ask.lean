/-! What to ask about: the Sunday by which the most that fit stand least together. -/
theorem ctr_lt {k N : Nat} {c : Int32} (hc : c = nI N) (hN : N < 2 ^ 31) (hk : k < 2 ^ 31) : c < nI k ↔ N < k := by
  subst hc
  exact nI_ltI hN hk
theorem wb_dec : ∀ k, k < 61 → ∀ a, a < 10 → ∀ c, c < 10 → ¬ wb (nI k) (nI a) (nI c) < 0 ∧ wb (nI k) (nI a) (nI c) < 100 := by decide +kernel
/-- the wool that t leaves on the Sunday d -/
def wv (d t : Int32) : Nat := (wb d (t / (10 : Int32)) (t - t / (10 : Int32) * (10 : Int32))).toNatClampNeg
theorem wv_ok {k t : Nat} (hk : k ≤ 60) (ht : t < 100) : wb (nI k) (nI t / (10 : Int32)) (nI t - nI t / (10 : Int32) * (10 : Int32)) = nI (wv (nI k) (nI t)) ∧ wv (nI k) (nI t) < 100 := by
  have e1 : nI t / (10 : Int32) = nI (t / 10) := pk_div (a := t) (d := 10) (by omega) (by omega) (by omega)
  have e2 : nI t - nI t / (10 : Int32) * (10 : Int32) = nI (t % 10) := m10 (by omega)
  obtain ⟨h1, h2⟩ := wb_dec k (by omega) (t / 10) (by omega) (t % 10) (by omega)
  unfold wv
  rw [e2, e1]
  obtain ⟨j, hj, e⟩ := nI_of h1
  rw [e] at h2 ⊢
  rw [cl j hj]
  have e100 : nI j < (100 : Int32) ↔ j < 100 := nI_ltI (b := 100) hj (by decide)
  exact ⟨rfl, e100.mp h2⟩
theorem wv_ok9 {k t : Nat} (hk : k ≤ 60) (ht : t < 100) : wb (nI k) (nI (t / 10)) (nI (t % 10)) = nI (wv (nI k) (nI t)) := by
  have e1 : nI t / (10 : Int32) = nI (t / 10) := pk_div (a := t) (d := 10) (by omega) (by omega) (by omega)
  have e2 : nI t - nI t / (10 : Int32) * (10 : Int32) = nI (t % 10) := m10 (by omega)
  rw [← (wv_ok hk ht).1, e2, e1]
/-- how many of the first i of a list leave w -/
def lc (g : Nat → Int32) (d : Int32) (w : Nat) : Nat → Nat
  | 0 => 0
  | i + 1 => if wv d (g i) = w then lc g d w i + 1 else lc g d w i
def lb (g : Nat → Int32) (d : Int32) : Nat → Nat
  | 0 => 0
  | i + 1 => if lb g d i < lc g d (wv d (g i)) (i + 1) then lc g d (wv d (g i)) (i + 1) else lb g d i
theorem lc_le (g : Nat → Int32) (d : Int32) (w : Nat) : ∀ i, lc g d w i ≤ i := by
  intro i
  induction i with
  | zero => exact Nat.le_refl 0
  | succ i ih =>
    show (if wv d (g i) = w then lc g d w i + 1 else lc g d w i) ≤ i + 1
    split <;> omega
theorem lb_le (g : Nat → Int32) (d : Int32) : ∀ i, lb g d i ≤ i := by
  intro i
  induction i with
  | zero => exact Nat.le_refl 0
  | succ i ih =>
    show (if lb g d i < lc g d (wv d (g i)) (i + 1) then lc g d (wv d (g i)) (i + 1) else lb g d i) ≤ i + 1
    have := lc_le g d (wv d (g i)) (i + 1)
    split <;> omega
/-- the same, of what fits -/
def gc (cn : Nat) (fd fv : Nat → Int32) (d : Int32) (w : Nat) : Nat → Nat
  | 0 => 0
  | m + 1 => if ft cn fd fv (10 + m) = true ∧ wv d (nI (10 + m)) = w then gc cn fd fv d w m + 1 else gc cn fd fv d w m
def gb (cn : Nat) (fd fv : Nat → Int32) (d : Int32) : Nat → Nat
  | 0 => 0
  | m + 1 => if ft cn fd fv (10 + m) = true ∧ gb cn fd fv d m < gc cn fd fv d (wv d (nI (10 + m))) (m + 1) then gc cn fd fv d (wv d (nI (10 + m))) (m + 1) else gb cn fd fv d m
theorem gc_le (cn : Nat) (fd fv : Nat → Int32) (d : Int32) (w : Nat) : ∀ i, gc cn fd fv d w i ≤ i := by
  intro i
  induction i with
  | zero => exact Nat.le_refl 0
  | succ i ih =>
    show (if ft cn fd fv (10 + i) = true ∧ wv d (nI (10 + i)) = w then gc cn fd fv d w i + 1 else gc cn fd fv d w i) ≤ i + 1
    split <;> omega
theorem gb_le (cn : Nat) (fd fv : Nat → Int32) (d : Int32) : ∀ i, gb cn fd fv d i ≤ i := by
  intro i
  induction i with
  | zero => exact Nat.le_refl 0
  | succ i ih =>
    show (if ft cn fd fv (10 + i) = true ∧ gb cn fd fv d i < gc cn fd fv d (wv d (nI (10 + i))) (i + 1) then gc cn fd fv d (wv d (nI (10 + i))) (i + 1) else gb cn fd fv d i) ≤ i + 1
    have := gc_le cn fd fv d (wv d (nI (10 + i))) (i + 1)
    split <;> omega
theorem gb_0 (cn : Nat) (fd fv : Nat → Int32) (d : Int32) : ∀ m, fc cn fd fv m = 0 ↔ gb cn fd fv d m = 0 := by
  intro m
  induction m with
  | zero => exact Iff.rfl
  | succ m ih =>
    have e1 : fc cn fd fv (m + 1) = (if ft cn fd fv (10 + m) = true then fc cn fd fv m + 1 else fc cn fd fv m) := rfl
    have e2 : gb cn fd fv d (m + 1) = (if ft cn fd fv (10 + m) = true ∧ gb cn fd fv d m < gc cn fd fv d (wv d (nI (10 + m))) (m + 1) then gc cn fd fv d (wv d (nI (10 + m))) (m + 1) else gb cn fd fv d m) := rfl
    by_cases h : ft cn fd fv (10 + m) = true
    · have e3 : gc cn fd fv d (wv d (nI (10 + m))) (m + 1) = gc cn fd fv d (wv d (nI (10 + m))) m + 1 := by
        show (if ft cn fd fv (10 + m) = true ∧ _ = _ then _ else _) = _
        rw [if_pos ⟨h, rfl⟩]
      rw [e1, if_pos h, e2]
      by_cases h2 : gb cn fd fv d m < gc cn fd fv d (wv d (nI (10 + m))) (m + 1)
      · rw [if_pos ⟨h, h2⟩]
        omega
      · rw [if_neg (fun z => h2 z.2)]
        omega
    · rw [e1, if_neg h, e2, if_neg (fun z => h z.1)]
      exact ih
theorem l_gc {cn : Nat} {fd fv g : Nat → Int32} (d : Int32) : ∀ m, fl cn fd fv g m → (∀ w, lc g d w (fc cn fd fv m) = gc cn fd fv d w m) ∧ lb g d (fc cn fd fv m) = gb cn fd fv d m := by
  intro m
  induction m with
  | zero => exact fun _ => ⟨fun _ => rfl, rfl⟩
  | succ m ih =>
    intro h
    obtain ⟨i1, i2⟩ := ih (fun j hj => h j (by omega))
    have e1 : fc cn fd fv (m + 1) = (if ft cn fd fv (10 + m) = true then fc cn fd fv m + 1 else fc cn fd fv m) := rfl
    have e2 : gb cn fd fv d (m + 1) = (if ft cn fd fv (10 + m) = true ∧ gb cn fd fv d m < gc cn fd fv d (wv d (nI (10 + m))) (m + 1) then gc cn fd fv d (wv d (nI (10 + m))) (m + 1) else gb cn fd fv d m) := rfl
    have e3 : ∀ w, gc cn fd fv d w (m + 1) = (if ft cn fd fv (10 + m) = true ∧ wv d (nI (10 + m)) = w then gc cn fd fv d w m + 1 else gc cn fd fv d w m) := fun _ => rfl
    by_cases hf : ft cn fd fv (10 + m) = true
    · have hm := h m (by omega) hf
      have k1 : ∀ w, lc g d w (fc cn fd fv (m + 1)) = gc cn fd fv d w (m + 1) := by
        intro w
        rw [e1, if_pos hf, e3 w]
        show (if wv d (g (fc cn fd fv m)) = w then lc g d w (fc cn fd fv m) + 1 else lc g d w (fc cn fd fv m)) = _
        rw [hm, i1 w]
        by_cases hw : wv d (nI (10 + m)) = w
        · rw [if_pos hw, if_pos ⟨hf, hw⟩]
        · rw [if_neg hw, if_neg (fun z => hw z.2)]
      refine ⟨k1, ?_⟩
      have k2 : lb g d (fc cn fd fv (m + 1)) = (if lb g d (fc cn fd fv m) < lc g d (wv d (g (fc cn fd fv m))) (fc cn fd fv (m + 1)) then lc g d (wv d (g (fc cn fd fv m))) (fc cn fd fv (m + 1)) else lb g d (fc cn fd fv m)) := by
        rw [e1, if_pos hf]
        rfl
      rw [k2, hm, k1, i2, e2]
      by_cases h2 : gb cn fd fv d m < gc cn fd fv d (wv d (nI (10 + m))) (m + 1)
      · rw [if_pos h2, if_pos ⟨hf, h2⟩]
      · rw [if_neg h2, if_neg (fun z => h2 z.2)]
    · rw [e1, if_neg hf, e2, if_neg (fun z => hf z.1)]
      refine ⟨fun w => ?_, i2⟩
      rw [e3 w, if_neg (fun z => hf z.1)]
      exact i1 w
/-- the least of the first of h, and where -/
def cs (h : Nat → Nat) : Nat → Nat × Nat
  | 0 => (0, h 0)
  | j + 1 => if h (j + 1) < (cs h j).2 then (j + 1, h (j + 1)) else cs h j
theorem cs_1 (h : Nat → Nat) : ∀ j, (cs h j).1 ≤ j := by
  intro j
  induction j with
  | zero => exact Nat.le_refl 0
  | succ j ih =>
    show (if h (j + 1) < (cs h j).2 then (j + 1, h (j + 1)) else cs h j).1 ≤ j + 1
    split
    · exact Nat.le_refl _
    · omega
theorem cs_2 (h : Nat → Nat) : ∀ j, (cs h j).2 = h (cs h j).1 := by
  intro j
  induction j with
  | zero => rfl
  | succ j ih =>
    show (if h (j + 1) < (cs h j).2 then (j + 1, h (j + 1)) else cs h j).2 = h (if h (j + 1) < (cs h j).2 then (j + 1, h (j + 1)) else cs h j).1
    split
    · rfl
    · exact ih
def aH (cn : Nat) (fd fv : Nat → Int32) (k : Nat) : Nat := gb cn fd fv (nI k) 90
def aR (cn : Nat) (fd fv : Nat → Int32) (v : Int32) : Int32 := if wi v 0 1 = true then (if fc cn fd fv 90 = 0 then -6 else if v = 0 then nI (cs (aH cn fd fv) 60).1 else nI (cs (aH cn fd fv) 60).2) else -2
section OK15
variable {l : Launch} {D : va_G} {cI cZ : ClassId}
def lOk (n : Int32) (g : Nat → Int32) : Prop := (n = nI n.toNatClampNeg ∧ n.toNatClampNeg ≤ 90) ∧ ∀ j, j < n.toNatClampNeg → ∃ t, t < 100 ∧ g j = nI t
theorem ok_X6_mostLeftBy : KX6_mostLeftBy l D cI cZ (fun d n _ g => (∃ k, k ≤ 60 ∧ d = nI k) ∧ lOk n g) (fun d n _ g r _ => r = nI (lb g d n.toNatClampNeg)) := walkX6_mostLeftBy (IX6_mostLeftBy_2 := fun d _ _ _ q d2 i f => d2 = d ∧ ∃ k, k + q = 100 ∧ i = nI k ∧ ∀ j, j < k → f j = 0) (IX6_mostLeftBy_25 := fun d n _ g q d2 b i f => d2 = d ∧ ∃ k, k + q = n.toNatClampNeg ∧ i = nI k ∧ b = nI (lb g d k) ∧ ∀ w, w < 100 → f w = nI (lc g d w k)) ok_X6_woolBehind (by
  rintro d n fs g ⟨⟨k0, hk0, rfl⟩, ⟨en, hn⟩, hg⟩
  generalize hc : n.toNatClampNeg = nn at *
  subst en
  refine ⟨⟨100, rfl, 0, rfl, rfl, fun j h => absurd h (Nat.not_lt_zero _)⟩, ?_⟩
  rintro q i f ⟨-, k, hk, rfl, hf⟩
  have e100 : ((100 : Int32) ≤ nI k) ↔ 100 ≤ k := ctr_le rfl (by decide) (by omega)
  rw [e100]
  refine ⟨fun h => ⟨⟨nn, rfl, 0, Nat.zero_add _, rfl, rfl, fun w hw => by rw [hf w (by omega)]; rfl⟩, ?_⟩, fun h => ⟨vp_in_nI (by omega) (by decide), ?_⟩⟩
  · rintro q2 i2 b f2 ⟨-, k2, hk2, rfl, rfl, hf2⟩
    rw [nI_leI (by omega) (by omega)]
    refine ⟨fun h => ?_, fun h => ⟨fun h2 => ?_, fun h2 => ⟨vp_in_nI (by omega) (by decide), vp_in_nI (by omega) (by decide), trivial, ?_⟩⟩⟩
    · obtain rfl : k2 = nn := by omega
      rfl
    · have := (ctr_le (N := 90) (c := (90 : Int32)) rfl (by decide) (by omega)).mp h2
      omega
    · rintro r rfl
      have ck : (nI k2).toNatClampNeg = k2 := cl k2 (by omega)
      rw [ck]
      obtain ⟨t, ht, hgt⟩ := hg k2 (by omega)
      obtain ⟨w1, w2⟩ := wv_ok hk0 ht
      rw [hgt, w1]
      have cw : (nI (wv (nI k0) (nI t))).toNatClampNeg = wv (nI k0) (nI t) := cl _ (by omega)
      rw [cw]
      have e1 : ∀ w, lc g (nI k0) w (k2 + 1) = (if wv (nI k0) (nI t) = w then lc g (nI k0) w k2 + 1 else lc g (nI k0) w k2) := by
        intro w
        show (if wv (nI k0) (g k2) = w then _ else _) = _
        rw [hgt]
      have e2 : lb g (nI k0) (k2 + 1) = (if lb g (nI k0) k2 < lc g (nI k0) (wv (nI k0) (nI t)) (k2 + 1) then lc g (nI k0) (wv (nI k0) (nI t)) (k2 + 1) else lb g (nI k0) k2) := by
        show (if lb g (nI k0) k2 < lc g (nI k0) (wv (nI k0) (g k2)) (k2 + 1) then lc g (nI k0) (wv (nI k0) (g k2)) (k2 + 1) else _) = _
        rw [hgt]
      generalize wv (nI k0) (nI t) = v at *
      refine ⟨fun h3 => ?_, fun h3 => ⟨vp_in_nI w2 (by decide), ?_⟩⟩
      · have := (ctr_le (N := 100) (c := (100 : Int32)) rfl (by decide) (by omega)).mp h3
        omega
      · have l1 := lc_le g (nI k0) v (k2 + 1)
        have l2 := lb_le g (nI k0) k2
        have a1 : f2 v + 1 = nI (lc g (nI k0) v (k2 + 1)) := by
          rw [hf2 v w2, e1 v, if_pos rfl]
          exact nI_1 _
        rw [a1]
        rintro x rfl
        refine ⟨vp_in_nI w2 (by decide), vp_in_nI w2 (by decide), ?_⟩
        rw [upd_s]
        rintro y rfl z rfl
        refine ⟨q2 - 1, by omega, rfl, k2 + 1, by omega, nI_1 k2, ?_, ?_⟩
        · rw [e2]
          by_cases h4 : lb g (nI k0) k2 < lc g (nI k0) v (k2 + 1)
          · rw [if_pos h4, if_pos ((nI_ltI (by omega) (by omega)).mpr h4)]
          · rw [if_neg h4, if_neg (fun z => h4 ((nI_ltI (by omega) (by omega)).mp z))]
        · intro w hw
          by_cases e : w = v
          · subst e
            rw [upd_s]
          · rw [upd_n e, hf2 w hw, e1 w, if_neg (fun z => e z.symm)]
  · rintro x rfl
    refine ⟨q - 1, by omega, rfl, k + 1, by omega, nI_1 k, ?_⟩
    intro j hj
    rw [cl k (by omega)]
    by_cases e : j = k
    · subst e
      rw [upd_s]
    · rw [upd_n e]
      exact hf j (by omega))
theorem ok_X6_chooseSunday : KX6_chooseSunday l D cI cZ (fun n _ _ _ g => lOk n g) (fun n _ _ _ g b m _ => (n.toNatClampNeg = 0 → b = -6 ∧ m = -6) ∧ (¬ n.toNatClampNeg = 0 → b = nI (cs (fun k => lb g (nI k) n.toNatClampNeg) 60).1 ∧ m = nI (cs (fun k => lb g (nI k) n.toNatClampNeg) 60).2)) := walkX6_chooseSunday (IX6_chooseSunday_14 := fun n _ _ _ g q d b m _ => ∃ k, k + q = 61 ∧ d = nI k ∧ ((k = 0 ∧ b = -6 ∧ m = -6) ∨ (0 < n.toNatClampNeg ∧ ∃ j, k = j + 1 ∧ b = nI (cs (fun k => lb g (nI k) n.toNatClampNeg) j).1 ∧ m = nI (cs (fun k => lb g (nI k) n.toNatClampNeg) j).2))) ok_X6_mostLeftBy (by
  rintro n b0 m0 fs g hl
  have hl0 := hl
  obtain ⟨⟨en, hn⟩, hg⟩ := hl
  generalize hc : n.toNatClampNeg = nn at *
  refine ⟨⟨61, 0, rfl, rfl, Or.inl ⟨rfl, rfl, rfl⟩⟩, ?_⟩
  rintro q d b m f ⟨k, hk, rfl, hb⟩
  have e60 : ((60 : Int32) < nI k) ↔ 60 < k := ctr_lt rfl (by decide) (by omega)
  have en0 : n ≤ 0 ↔ nn = 0 := by
    rw [en]
    have : nI nn ≤ (0 : Int32) ↔ nn ≤ 0 := nI_leI (b := 0) (by omega) (by decide)
    rw [this]
    omega
  rw [e60, en0]
  refine ⟨fun h => ?_, fun h => ⟨fun h2 => ?_, fun h2 => ⟨⟨⟨k, by omega, rfl⟩, hl0⟩, ?_⟩⟩⟩
  · rcases hb with ⟨h0, -, -⟩ | ⟨h0, j, h1, h3, h4⟩
    · omega
    · obtain rfl : j = 60 := by omega
      exact ⟨fun z => by omega, fun _ => ⟨h3, h4⟩⟩
  · rcases hb with ⟨h0, h1, h3⟩ | ⟨h0, j, h1, h3, h4⟩
    · exact ⟨fun _ => ⟨h1, h3⟩, fun z => absurd h2 z⟩
    · omega
  · rintro r f2 rfl
    have bl2 := lb_le g (nI k) nn
    rcases hb with ⟨h0, rfl, rfl⟩ | ⟨h0, j, h1, rfl, rfl⟩
    · subst h0
      refine ⟨fun _ => ?_, fun z => absurd rfl z⟩
      rintro x rfl
      exact ⟨q - 1, by omega, 1, by omega, rfl, Or.inr ⟨by omega, 0, rfl, rfl, rfl⟩⟩
    · subst h1
      generalize hH : (fun k => lb g (nI k) nn) = H at *
      have eH : lb g (nI (j + 1)) nn = H (j + 1) := by rw [← hH]
      have c1 := cs_1 H j
      have c2 := cs_2 H j
      have c3 : H (cs H j).1 ≤ 90 := by
        have := lb_le g (nI (cs H j).1) nn
        rw [← hH]
        show lb g (nI (cs (fun k => lb g (nI k) nn) j).1) nn ≤ 90
        rw [hH]
        omega
      have e1 : cs H (j + 1) = (if H (j + 1) < (cs H j).2 then (j + 1, H (j + 1)) else cs H j) := rfl
      rw [eH] at bl2 ⊢
      have e2 : nI (cs H j).2 ≤ nI (H (j + 1)) ↔ (cs H j).2 ≤ H (j + 1) := nI_leI (by omega) (by omega)
      rw [e2]
      refine ⟨fun z => ?_, fun _ => ⟨fun h3 => ?_, fun h3 => ?_⟩⟩
      · exact absurd z (nI_n6 (by omega))
      · rintro x rfl
        exact ⟨q - 1, by omega, j + 1 + 1, by omega, nI_1 _, Or.inr ⟨h0, j + 1, rfl, by rw [e1, if_neg (by omega)], by rw [e1, if_neg (by omega)]⟩⟩
      · rintro x rfl
        exact ⟨q - 1, by omega, j + 1 + 1, by omega, nI_1 _, Or.inr ⟨h0, j + 1, rfl, by rw [e1, if_pos (by omega)], by rw [e1, if_pos (by omega)]⟩⟩)
theorem ok_X8_ask : KX8_ask l D cI cZ (fun _ c _ _ _ _ _ _ _ => okC8 c) (fun v c fd fv _ _ _ _ _ r _ _ _ _ _ => r = aR c.toNatClampNeg fv fd v) := walkX8_ask ok_X8_isWithin ok_X6_fit ok_X6_chooseSunday (by
  rintro v c fv fd n0 b0 m0 f0 g0 hc
  refine ⟨trivial, ?_⟩
  rintro r rfl
  refine ⟨fun h => ⟨hc, ?_⟩, fun h => ?_⟩
  · rw [bi_n0] at h
    rintro n2 g2 ⟨rfl, hg⟩
    have hle := fc_le c.toNatClampNeg fd fv 90
    have cn : (nI (fc c.toNatClampNeg fd fv 90)).toNatClampNeg = fc c.toNatClampNeg fd fv 90 := cl _ (by omega)
    refine ⟨⟨⟨by rw [cn], by rw [cn]; exact hle⟩, ?_⟩, ?_⟩
    · rw [cn]
      intro j hj
      obtain ⟨i, i1, i2, i3⟩ := fc_has c.toNatClampNeg fd fv 90 j hj
      exact ⟨10 + i, by omega, by rw [← i3]; exact hg i i1 i2⟩
    · rw [cn]
      have eH : (fun k => lb g2 (nI k) (fc c.toNatClampNeg fd fv 90)) = aH c.toNatClampNeg fd fv := funext fun k => (l_gc (nI k) 90 hg).2
      rw [eH]
      rintro b m f2 ⟨hb1, hb2⟩
      refine ⟨fun h2 => ?_, fun h2 => ?_⟩
      · unfold aR
        rw [if_pos h]
        by_cases h3 : fc c.toNatClampNeg fd fv 90 = 0
        · rw [if_pos h3]
          exact (hb1 h3).2
        · rw [if_neg h3, if_neg h2]
          exact (hb2 h3).2
      · unfold aR
        rw [if_pos h]
        by_cases h3 : fc c.toNatClampNeg fd fv 90 = 0
        · rw [if_pos h3]
          exact (hb1 h3).1
        · rw [if_neg h3, if_pos h2]
          exact (hb2 h3).1
  · rw [bi_0] at h
    unfold aR
    rw [h]
    rfl)
theorem ok_X9_mostLeft : KX9_mostLeft l D cI cZ (fun d c _ _ _ => (∃ k, k ≤ 60 ∧ d = nI k) ∧ okC8 c) (fun d c _ fd fv r _ => r = nI (gb c.toNatClampNeg fd fv d 90)) := walkX9_mostLeft (IX9_mostLeft_4 := fun d _ _ _ _ q d2 z i f => d2 = d ∧ z = 0 ∧ ∃ k, k + q = 100 ∧ i = nI k ∧ ∀ j, j < k → f j = 0) (IX9_mostLeft_26 := fun d c _ fd fv q d2 b t f => d2 = d ∧ ∃ m, m + q = 90 ∧ t = nI (10 + m) ∧ b = nI (gb c.toNatClampNeg fd fv d m) ∧ ∀ w, w < 100 → f w = nI (gc c.toNatClampNeg fd fv d w m)) ok_X9_isFit ok_X9_woolBy (by
  rintro d c bw fd fv ⟨⟨k0, hk0, rfl⟩, hcc⟩
  refine ⟨⟨100, rfl, rfl, 0, rfl, rfl, fun j h => absurd h (Nat.not_lt_zero _)⟩, ?_⟩
  rintro q i f ⟨-, -, k, hk, rfl, hf⟩
  have e100 : ((100 : Int32) ≤ nI k) ↔ 100 ≤ k := ctr_le rfl (by decide) (by omega)
  rw [e100]
  refine ⟨fun h => ⟨⟨90, rfl, 0, rfl, rfl, rfl, fun w hw => by rw [hf w (by omega)]; rfl⟩, ?_⟩, fun h => ⟨vp_in_nI (by omega) (by decide), ?_⟩⟩
  · rintro q2 t f2 b ⟨-, m, hm, rfl, rfl, hf2⟩
    have e1 : ((100 : Int32) ≤ nI (10 + m)) ↔ 100 ≤ 10 + m := ctr_le rfl (by decide) (by omega)
    have tc : (nI (10 + m)).toNatClampNeg = 10 + m := cl _ (by omega)
    rw [e1]
    refine ⟨fun h => ?_, fun h => ⟨⟨⟨10 + m, by omega, rfl⟩, hcc⟩, ?_⟩⟩
    · obtain rfl : m = 90 := by omega
      rfl
    · rw [tc]
      rintro r rfl
      have w1 := wv_ok9 hk0 (t := 10 + m) (by omega)
      have w2 := (wv_ok hk0 (t := 10 + m) (by omega)).2
      have e3 : ∀ w, gc c.toNatClampNeg fd fv (nI k0) w (m + 1) = (if ft c.toNatClampNeg fd fv (10 + m) = true ∧ wv (nI k0) (nI (10 + m)) = w then gc c.toNatClampNeg fd fv (nI k0) w m + 1 else gc c.toNatClampNeg fd fv (nI k0) w m) := fun _ => rfl
      have e2 : gb c.toNatClampNeg fd fv (nI k0) (m + 1) = (if ft c.toNatClampNeg fd fv (10 + m) = true ∧ gb c.toNatClampNeg fd fv (nI k0) m < gc c.toNatClampNeg fd fv (nI k0) (wv (nI k0) (nI (10 + m))) (m + 1) then gc c.toNatClampNeg fd fv (nI k0) (wv (nI k0) (nI (10 + m))) (m + 1) else gb c.toNatClampNeg fd fv (nI k0) m) := rfl
      refine ⟨fun h2 => ?_, fun h2 => ⟨⟨10 + m, by omega, rfl⟩, ?_⟩⟩
      · rw [bi_0] at h2
        rintro x rfl
        refine ⟨q2 - 1, by omega, rfl, m + 1, by omega, nI_1 _, ?_, fun w hw => ?_⟩
        · rw [e2, h2, if_neg (fun z => Bool.false_ne_true z.1)]
        · rw [e3, h2, if_neg (fun z => Bool.false_ne_true z.1)]
          exact hf2 w hw
      · rw [bi_n0] at h2
        rw [w1]
        generalize wv (nI k0) (nI (10 + m)) = v at *
        have cw : (nI v).toNatClampNeg = v := cl _ (by omega)
        have a1 : f2 v + 1 = nI (gc c.toNatClampNeg fd fv (nI k0) v (m + 1)) := by
          rw [hf2 v w2, e3 v, if_pos ⟨h2, rfl⟩]
          exact nI_1 _
        have l1 := gc_le c.toNatClampNeg fd fv (nI k0) v (m + 1)
        have l2 := gb_le c.toNatClampNeg fd fv (nI k0) m
        have pw : ∀ w, w < 100 → upd f2 v (nI (gc c.toNatClampNeg fd fv (nI k0) v (m + 1))) w = nI (gc c.toNatClampNeg fd fv (nI k0) w (m + 1)) := by
          intro w hw
          by_cases e : w = v
          · subst e
            rw [upd_s]
          · rw [upd_n e, hf2 w hw, e3 w, if_neg (fun z => e z.2.symm)]
        rintro r rfl
        rw [cw, a1]
        refine ⟨vp_in_nI w2 (by decide), ?_⟩
        rintro x rfl
        refine ⟨vp_in_nI w2 (by decide), ⟨10 + m, by omega, rfl⟩, ?_⟩
        rintro r rfl
        rw [cw, upd_s, nI_leI (by omega) (by omega)]
        refine ⟨vp_in_nI w2 (by decide), fun h4 => ?_, fun h4 => ⟨⟨10 + m, by omega, rfl⟩, ?_⟩⟩
        · rintro x rfl
          exact ⟨q2 - 1, by omega, rfl, m + 1, by omega, nI_1 _, by rw [e2, if_neg (fun z => by omega)], pw⟩
        · rintro r rfl
          rw [cw, upd_s]
          refine ⟨vp_in_nI w2 (by decide), ?_⟩
          rintro x rfl y rfl
          exact ⟨q2 - 1, by omega, rfl, m + 1, by omega, nI_1 _, by rw [e2, if_pos ⟨h2, by omega⟩], pw⟩
  · rintro x rfl
    refine ⟨q - 1, by omega, rfl, rfl, k + 1, by omega, nI_1 k, ?_⟩
    intro j hj
    rw [cl k (by omega)]
    by_cases e : j = k
    · subst e
      rw [upd_s]
    · rw [upd_n e]
      exact hf j (by omega))
theorem ok_X9_ask : KX9_ask l D cI cZ (fun _ c _ _ _ => okC8 c) (fun v c _ fd fv r _ => r = aR c.toNatClampNeg fd fv v) := walkX9_ask (IX9_ask_24 := fun v c _ fd fv q v2 b sm i _ => v2 = v ∧ ∃ j, j + q = 60 ∧ i = nI (j + 1) ∧ b = nI (cs (aH c.toNatClampNeg fd fv) j).1 ∧ sm = nI (cs (aH c.toNatClampNeg fd fv) j).2) ok_X9_in ok_X9_mostLeft ok_X9_less (by
  rintro v c bw fd fv hc
  refine ⟨trivial, fun r hr => ?_⟩
  obtain rfl := hr v 0 1 rfl (by decide) (by decide)
  clear hr
  refine ⟨fun h => ⟨⟨⟨0, by omega, rfl⟩, hc⟩, ?_⟩, fun h => ?_⟩
  · rw [bi_n0] at h
    rintro r f2 rfl
    refine ⟨⟨60, rfl, 0, rfl, rfl, rfl, rfl⟩, ?_⟩
    rintro q sm i f3 b ⟨-, j, hj, rfl, rfl, rfl⟩
    have e60 : ((60 : Int32) < nI (j + 1)) ↔ 60 < j + 1 := ctr_lt rfl (by decide) (by omega)
    have hb : ∀ k, aH c.toNatClampNeg fd fv k ≤ 90 := fun k => gb_le _ _ _ _ _
    have c2 := cs_2 (aH c.toNatClampNeg fd fv) j
    have c3 := hb (cs (aH c.toNatClampNeg fd fv) j).1
    rw [e60]
    refine ⟨fun h2 => ?_, fun h2 => ⟨⟨⟨j + 1, by omega, rfl⟩, hc⟩, ?_⟩⟩
    · obtain rfl : j = 60 := by omega
      have z0 : nI (cs (aH c.toNatClampNeg fd fv) 60).2 = 0 ↔ fc c.toNatClampNeg fd fv 90 = 0 := by
        have z1 : nI (cs (aH c.toNatClampNeg fd fv) 60).2 = (0 : Int32) ↔ (cs (aH c.toNatClampNeg fd fv) 60).2 = 0 := nI_eq (b := 0) (by omega) (by decide)
        rw [z1, c2]
        exact (gb_0 c.toNatClampNeg fd fv _ 90).symm
      rw [z0]
      unfold aR
      rw [if_pos h]
      refine ⟨fun h3 => ⟨fun h4 => ?_, fun h4 => ?_⟩, fun h3 => ?_⟩
      · rw [if_neg h3, if_neg h4]
      · rw [if_neg h3, if_pos h4]
      · rw [if_pos h3]
    · rintro r f4 rfl
      have eH : gb c.toNatClampNeg fd fv (nI (j + 1)) 90 = aH c.toNatClampNeg fd fv (j + 1) := rfl
      rw [eH]
      have c4 := hb (j + 1)
      generalize aH c.toNatClampNeg fd fv = H at *
      have e1 : cs H (j + 1) = (if H (j + 1) < (cs H j).2 then (j + 1, H (j + 1)) else cs H j) := rfl
      have e2 : nI (cs H j).2 ≤ nI (H (j + 1)) ↔ (cs H j).2 ≤ H (j + 1) := nI_leI (by omega) (by omega)
      have e3 : nI (H (j + 1)) ≤ nI (cs H j).2 ↔ H (j + 1) ≤ (cs H j).2 := nI_leI (by omega) (by omega)
      rw [e2]
      refine ⟨fun h3 => ⟨trivial, ?_⟩, fun h3 => ⟨trivial, ?_⟩⟩
      · rintro r rfl x rfl
        refine ⟨q - 1, by omega, rfl, j + 1, by omega, nI_1 _, by rw [e1, if_neg (by omega)], ?_⟩
        rw [e1, if_neg (by omega)]
        unfold mn
        by_cases h5 : H (j + 1) ≤ (cs H j).2
        · rw [if_pos (e3.mpr h5), show H (j + 1) = (cs H j).2 by omega]
        · rw [if_neg (fun z => h5 (e3.mp z))]
      · rintro r rfl x rfl
        refine ⟨q - 1, by omega, rfl, j + 1, by omega, nI_1 _, by rw [e1, if_pos (by omega)], ?_⟩
        rw [e1, if_pos (by omega)]
        unfold mn
        rw [if_pos (e3.mpr (by omega))]
  · rw [bi_0] at h
    unfold aR
    rw [h]
    rfl)
end OK15
