/-! Wear: what fits. -/
def wb (d a c : Int32) : Int32 := if (0 : Int32) < (((99 : Int32) - (d * a)) - (c * (d / (4 : Int32)))) then (((99 : Int32) - (d * a)) - (c * (d / (4 : Int32)))) else 0
/-- the first n sights are so -/
def al (fd fv : Nat → Int32) (a c : Int32) : Nat → Bool
  | 0 => true
  | k + 1 => al fd fv a c k && decide (wb (fd k) a c = fv k)
/-- ten times a, and c: does it fit -/
def ft (cn : Nat) (fd fv : Nat → Int32) (t : Nat) : Bool := al fd fv (nI (t / 10)) (nI (t % 10)) cn
/-- how many of the first m fit -/
def fc (cn : Nat) (fd fv : Nat → Int32) : Nat → Nat
  | 0 => 0
  | m + 1 => if ft cn fd fv (10 + m) = true then fc cn fd fv m + 1 else fc cn fd fv m
/-- the i-th that fits, of the first m -/
def nF (cn : Nat) (fd fv : Nat → Int32) (i : Int32) : Nat → Int32
  | 0 => -6
  | m + 1 => if ft cn fd fv (10 + m) = true ∧ nI (fc cn fd fv m) = i then nI (10 + m) else nF cn fd fv i m
def fiR (cn : Nat) (fd fv : Nat → Int32) (i : Int32) : Int32 := if i = -1 then nI (fc cn fd fv 90) else nF cn fd fv i 90
theorem fc_le (cn : Nat) (fd fv : Nat → Int32) : ∀ m, fc cn fd fv m ≤ m := by
  intro m
  induction m with
  | zero => exact Nat.le_refl 0
  | succ m ih =>
    show (if ft cn fd fv (10 + m) = true then fc cn fd fv m + 1 else fc cn fd fv m) ≤ m + 1
    split <;> omega
theorem fc_mono (cn : Nat) (fd fv : Nat → Int32) : ∀ m j, fc cn fd fv m ≤ fc cn fd fv (m + j) := by
  intro m j
  induction j with
  | zero => exact Nat.le_refl _
  | succ j ih =>
    show fc cn fd fv m ≤ (if ft cn fd fv (10 + (m + j)) = true then fc cn fd fv (m + j) + 1 else fc cn fd fv (m + j))
    split <;> omega
/-- behind the i-th no other is the i-th -/
theorem nF_stay (cn : Nat) (fd fv : Nat → Int32) (i : Int32) {m : Nat} (h : ft cn fd fv (10 + m) = true ∧ nI (fc cn fd fv m) = i) : ∀ j, m + 1 + j ≤ 1000 → nF cn fd fv i (m + 1 + j) = nI (10 + m) := by
  intro j
  induction j with
  | zero =>
    intro _
    show (if ft cn fd fv (10 + m) = true ∧ nI (fc cn fd fv m) = i then nI (10 + m) else nF cn fd fv i m) = _
    rw [if_pos h]
  | succ j ih =>
    intro hj
    show (if ft cn fd fv (10 + (m + 1 + j)) = true ∧ nI (fc cn fd fv (m + 1 + j)) = i then nI (10 + (m + 1 + j)) else nF cn fd fv i (m + 1 + j)) = _
    rw [if_neg, ih (by omega)]
    rintro ⟨-, h2⟩
    rw [← h.2] at h2
    have l1 := fc_mono cn fd fv (m + 1) j
    have e1 : fc cn fd fv (m + 1) = fc cn fd fv m + 1 := by
      show (if ft cn fd fv (10 + m) = true then fc cn fd fv m + 1 else fc cn fd fv m) = _
      rw [if_pos h.1]
    have l2 := fc_le cn fd fv (m + 1 + j)
    have := (nI_eq (a := fc cn fd fv (m + 1 + j)) (b := fc cn fd fv m) (by omega) (by omega)).mp h2
    omega
theorem nF_none (cn : Nat) (fd fv : Nat → Int32) (i : Int32) : ∀ m, (∀ j, j < m → ¬ (ft cn fd fv (10 + j) = true ∧ nI (fc cn fd fv j) = i)) → nF cn fd fv i m = -6 := by
  intro m
  induction m with
  | zero => exact fun _ => rfl
  | succ m ih =>
    intro h
    show (if ft cn fd fv (10 + m) = true ∧ nI (fc cn fd fv m) = i then nI (10 + m) else nF cn fd fv i m) = _
    rw [if_neg (h m (by omega))]
    exact ih (fun j hj => h j (by omega))
/-- the list of what fits, of the first m -/
def fl (cn : Nat) (fd fv g : Nat → Int32) (m : Nat) : Prop := ∀ j, j < m → ft cn fd fv (10 + j) = true → g (fc cn fd fv j) = nI (10 + j)
theorem fc_has (cn : Nat) (fd fv : Nat → Int32) : ∀ m q, q < fc cn fd fv m → ∃ j, j < m ∧ ft cn fd fv (10 + j) = true ∧ fc cn fd fv j = q := by
  intro m
  induction m with
  | zero => exact fun q h => absurd h (Nat.not_lt_zero _)
  | succ m ih =>
    intro q h
    by_cases e : ft cn fd fv (10 + m) = true
    · have e1 : fc cn fd fv (m + 1) = fc cn fd fv m + 1 := by
        show (if ft cn fd fv (10 + m) = true then fc cn fd fv m + 1 else fc cn fd fv m) = _
        rw [if_pos e]
      rw [e1] at h
      rcases Nat.lt_or_ge q (fc cn fd fv m) with z | z
      · obtain ⟨j, j1, j2⟩ := ih q z
        exact ⟨j, by omega, j2⟩
      · exact ⟨m, by omega, e, by omega⟩
    · have e1 : fc cn fd fv (m + 1) = fc cn fd fv m := by
        show (if ft cn fd fv (10 + m) = true then fc cn fd fv m + 1 else fc cn fd fv m) = _
        rw [if_neg e]
      rw [e1] at h
      obtain ⟨j, j1, j2⟩ := ih q h
      exact ⟨j, by omega, j2⟩
theorem okC8_cl {c : Int32} (h : okC8 c) : c = nI c.toNatClampNeg ∧ c.toNatClampNeg ≤ 8 := by
  obtain ⟨n, hn, rfl⟩ := h
  rw [cl n (by omega)]
  exact ⟨rfl, hn⟩
theorem al_false {fd fv : Nat → Int32} {a c : Int32} {k : Nat} (h : ¬ wb (fd k) a c = fv k) : ∀ n, k < n → al fd fv a c n = false := by
  intro n
  induction n with
  | zero => exact fun q => absurd q (Nat.not_lt_zero _)
  | succ n ih =>
    intro hk
    show (al fd fv a c n && decide (wb (fd n) a c = fv n)) = false
    by_cases e : k = n
    · subst e
      rw [decide_eq_false h, Bool.and_false]
    · rw [ih (by omega), Bool.false_and]
section OK14
variable {l : Launch} {D : va_G} {cI cZ : ClassId}
theorem ok_X6_woolBehind : KX6_woolBehind l D cI cZ (fun _ _ _ => True) (fun d a c r => r = wb d a c) := walkX6_woolBehind (by
  rintro d a c - x rfl
  rfl)
theorem ok_X9_woolBy : KX9_woolBy l D cI cZ (fun t _ => ∃ m, m < 100 ∧ t = nI m) (fun t d r => r = wb d (nI (t.toNatClampNeg / 10)) (nI (t.toNatClampNeg % 10))) := walkX9_woolBy (by
  rintro t d ⟨m, hm, rfl⟩ x rfl
  have e1 : nI m / (10 : Int32) = nI (m / 10) := pk_div (a := m) (d := 10) (by omega) (by omega) (by omega)
  rw [m10 (by omega), e1, cl m (by omega)]
  unfold wb
  refine ⟨fun h => ?_, fun h => ?_⟩
  · split
    · rfl
    · rename_i q
      exact i32_antisymm (i32_nlt.mp q) h
  · rw [if_neg (fun q => h (by rw [Int32.le_iff_toInt_le]; rw [Int32.lt_iff_toInt_lt] at q; omega))])
theorem ok_X4_allAreSo : KX4_allAreSo l D cI cZ (fun _ _ c _ _ => okC8 c) (fun a c n fv fd r => r = bi (al fd fv a c n.toNatClampNeg)) := walkX4_allAreSo (IX4_allAreSo_2 := fun a c n fv fd q a2 c2 i => a2 = a ∧ c2 = c ∧ ∃ k, k + q = n.toNatClampNeg ∧ i = nI k ∧ al fd fv a c k = true) ok_X6_woolBehind (by
  rintro a c n fv fd hn
  obtain ⟨en, hn8⟩ := okC8_cl hn
  generalize hc : n.toNatClampNeg = cn at *
  subst en
  refine ⟨⟨cn, rfl, rfl, 0, Nat.zero_add _, rfl, rfl⟩, ?_⟩
  rintro q i ⟨-, -, k, hk, rfl, hal⟩
  have kc : (nI k).toNatClampNeg = k := cl k (by omega)
  rw [nI_leI (by omega) (by omega), kc]
  refine ⟨fun h => ?_, fun h => ⟨fun h2 => ?_, fun h2 => ?_⟩⟩
  · obtain rfl : k = cn := by omega
    rw [hal]
    rfl
  · have := (ctr_le (N := 8) (c := (8 : Int32)) rfl (by decide) (by omega)).mp h2
    omega
  · refine ⟨vp_in_nI (by omega) (by decide), trivial, ?_⟩
    rintro r rfl
    refine ⟨vp_in_nI (by omega) (by decide), fun h3 => ?_, fun h3 => ?_⟩
    · rintro x rfl
      refine ⟨q - 1, by omega, rfl, rfl, k + 1, by omega, nI_1 k, ?_⟩
      show (al fd fv a c k && decide (wb (fd k) a c = fv k)) = true
      rw [hal, decide_eq_true h3]
      rfl
    · rw [al_false h3 cn (by omega)]
      rfl)
theorem ok_X9_isFit : KX9_isFit l D cI cZ (fun t c _ _ => (∃ m, m < 100 ∧ t = nI m) ∧ okC8 c) (fun t c fd fv r => r = bi (ft c.toNatClampNeg fd fv t.toNatClampNeg)) := walkX9_isFit (IX9_isFit_4 := fun t c fd fv q t2 b i => t2 = t ∧ ∃ k, k + q = c.toNatClampNeg ∧ i = nI k ∧ b = bi (al fd fv (nI (t.toNatClampNeg / 10)) (nI (t.toNatClampNeg % 10)) k)) ok_X9_woolBy (by
  rintro t c fd fv ⟨ht, hn⟩
  obtain ⟨en, hn8⟩ := okC8_cl hn
  generalize hc : c.toNatClampNeg = cn at *
  subst en
  refine ⟨⟨cn, rfl, 0, Nat.zero_add _, rfl, rfl⟩, ?_⟩
  rintro q b i ⟨-, k, hk, rfl, rfl⟩
  have kc : (nI k).toNatClampNeg = k := cl k (by omega)
  have e1 : al fd fv (nI (t.toNatClampNeg / 10)) (nI (t.toNatClampNeg % 10)) (k + 1) = (al fd fv (nI (t.toNatClampNeg / 10)) (nI (t.toNatClampNeg % 10)) k && decide (wb (fd k) (nI (t.toNatClampNeg / 10)) (nI (t.toNatClampNeg % 10)) = fv k)) := rfl
  rw [nI_leI (by omega) (by omega), kc]
  refine ⟨fun h => ⟨bi_isB _, ?_⟩, fun h => ⟨fun h2 => ?_, fun h2 => ⟨vp_in_nI (by omega) (by decide), ht, ?_⟩⟩⟩
  · obtain rfl : k = cn := by omega
    rfl
  · rw [bi_0] at h2
    rintro x rfl
    exact ⟨q - 1, by omega, rfl, k + 1, by omega, nI_1 k, by rw [e1, h2]; rfl⟩
  · rw [bi_n0] at h2
    rintro r rfl
    refine ⟨vp_in_nI (by omega) (by decide), fun h3 => ?_, fun h3 => ?_⟩
    · rintro x rfl
      exact ⟨q - 1, by omega, rfl, k + 1, by omega, nI_1 k, by rw [e1, decide_eq_false h3, Bool.and_false]; rfl⟩
    · rintro x rfl
      exact ⟨q - 1, by omega, rfl, k + 1, by omega, nI_1 k, by rw [e1, h2, decide_eq_true h3]; rfl⟩)
theorem ok_X6_fit : KX6_fit l D cI cZ (fun _ _ c _ _ => okC8 c) (fun _ _ c fv fd n2 g2 => n2 = nI (fc c.toNatClampNeg fd fv 90) ∧ fl c.toNatClampNeg fd fv g2 90) := walkX6_fit (IX6_fit_7 := fun _ _ c fv fd q a n2 g2 => ∃ k, k + q = 9 ∧ a = nI (k + 1) ∧ n2 = nI (fc c.toNatClampNeg fd fv (10 * k)) ∧ fl c.toNatClampNeg fd fv g2 (10 * k)) (IX6_fit_15 := fun _ _ c fv fd q a c2 n2 g2 => ∃ k m, k < 9 ∧ m + q = 10 ∧ a = nI (k + 1) ∧ c2 = nI m ∧ n2 = nI (fc c.toNatClampNeg fd fv (10 * k + m)) ∧ fl c.toNatClampNeg fd fv g2 (10 * k + m)) ok_X4_allAreSo (by
  rintro n0 g0 c fv fd hc
  have e9 : (9 : Int32) = nI 9 := rfl
  refine ⟨⟨9, 0, rfl, rfl, rfl, fun j h => absurd h (Nat.not_lt_zero _)⟩, ?_⟩
  rintro q a n2 g2 ⟨k, hk, rfl, rfl, hg⟩
  rw [e9, nI_ltI (by omega) (by omega)]
  refine ⟨fun h => ?_, fun h => ⟨⟨10, k, 0, by omega, rfl, rfl, rfl, rfl, hg⟩, ?_⟩⟩
  · obtain rfl : k = 9 := by omega
    exact ⟨rfl, hg⟩
  · rintro q2 c2 n3 g3 ⟨k2, m, hk2, hm, ek, rfl, rfl, hg3⟩
    have := (nI_eq (by omega) (by omega)).mp ek
    obtain rfl : k2 = k := by omega
    clear ek this
    have hle := fc_le c.toNatClampNeg fd fv (10 * k2 + m)
    have e1 : fc c.toNatClampNeg fd fv (10 * k2 + m + 1) = (if ft c.toNatClampNeg fd fv (10 + (10 * k2 + m)) = true then fc c.toNatClampNeg fd fv (10 * k2 + m) + 1 else fc c.toNatClampNeg fd fv (10 * k2 + m)) := rfl
    have ext : ∀ g4, (∀ j, j < fc c.toNatClampNeg fd fv (10 * k2 + m) → g4 j = g3 j) → (ft c.toNatClampNeg fd fv (10 + (10 * k2 + m)) = true → g4 (fc c.toNatClampNeg fd fv (10 * k2 + m)) = nI (10 + (10 * k2 + m))) → fl c.toNatClampNeg fd fv g4 (10 * k2 + m + 1) := by
      intro g4 h1 h2 j hj hf
      by_cases e : j = 10 * k2 + m
      · subst e
        exact h2 hf
      · have e3 : fc c.toNatClampNeg fd fv (j + 1) = fc c.toNatClampNeg fd fv j + 1 := by
          show (if ft c.toNatClampNeg fd fv (10 + j) = true then _ else _) = _
          rw [if_pos hf]
        have := fc_mono c.toNatClampNeg fd fv (j + 1) (10 * k2 + m - (j + 1))
        rw [show j + 1 + (10 * k2 + m - (j + 1)) = 10 * k2 + m by omega] at this
        rw [h1 _ (by omega)]
        exact hg3 j (by omega) hf
    rw [nI_ltI (by omega) (by omega)]
    refine ⟨fun h2 => ?_, fun h2 => ⟨fun h3 => ?_, fun h3 => ⟨hc, ?_⟩⟩⟩
    · rintro x rfl
      obtain rfl : m = 10 := by omega
      exact ⟨q - 1, by omega, k2 + 1, by omega, nI_1 _, by rw [show 10 * (k2 + 1) = 10 * k2 + 10 by omega], by rw [show 10 * (k2 + 1) = 10 * k2 + 10 by omega]; exact hg3⟩
    · have := (ctr_le (N := 90) (c := (90 : Int32)) rfl (by decide) (by omega)).mp h3
      omega
    · have h90 := (not_congr (ctr_le (N := 90) (c := (90 : Int32)) (k := fc c.toNatClampNeg fd fv (10 * k2 + m)) rfl (by decide) (by omega))).mp h3
      rintro r rfl
      have eft : al fd fv (nI (k2 + 1)) (nI m) c.toNatClampNeg = ft c.toNatClampNeg fd fv (10 + (10 * k2 + m)) := by
        unfold ft
        rw [show (10 + (10 * k2 + m)) / 10 = k2 + 1 by omega, show (10 + (10 * k2 + m)) % 10 = m by omega]
      rw [eft]
      refine ⟨fun h4 => ?_, fun h4 => ?_⟩
      · rw [bi_0] at h4
        rintro x rfl
        refine ⟨q2 - 1, by omega, k2, m + 1, hk2, by omega, rfl, nI_1 m, ?_, ?_⟩
        · rw [show 10 * k2 + (m + 1) = 10 * k2 + m + 1 by omega, e1, h4]
          rfl
        · rw [show 10 * k2 + (m + 1) = 10 * k2 + m + 1 by omega]
          exact ext g3 (fun _ _ => rfl) (fun z => by rw [h4] at z; cases z)
      · rw [bi_n0] at h4
        rintro x rfl
        refine ⟨vp_in_nI (by omega) (by decide), ?_⟩
        rintro y rfl z rfl
        have e10 : (10 : Int32) * nI (k2 + 1) + nI m = nI (10 + (10 * k2 + m)) := by
          have : (10 : Int32) * nI (k2 + 1) = nI (10 * (k2 + 1)) := pk_mul 10 (k2 + 1)
          rw [this, nI_add]
          congr 1
          omega
        have cf : (nI (fc c.toNatClampNeg fd fv (10 * k2 + m))).toNatClampNeg = fc c.toNatClampNeg fd fv (10 * k2 + m) := cl _ (by omega)
        refine ⟨q2 - 1, by omega, k2, m + 1, hk2, by omega, rfl, nI_1 m, ?_, ?_⟩
        · rw [show 10 * k2 + (m + 1) = 10 * k2 + m + 1 by omega, e1, if_pos h4]
          exact nI_1 _
        · rw [show 10 * k2 + (m + 1) = 10 * k2 + m + 1 by omega, e10, cf]
          refine ext _ (fun j hj => upd_n (by omega)) (fun _ => ?_)
          rw [upd_s])
theorem ok_X6_fitAt : KX6_fitAt l D cI cZ (fun _ c _ => ∃ n, n ≤ 90 ∧ c = nI n) (fun i c g r => r = (if i < 0 then -6 else if c ≤ i then -6 else g i.toNatClampNeg)) := walkX6_fitAt (by
  rintro i c g ⟨n, hn, rfl⟩
  refine ⟨fun h => by rw [if_pos h], fun h => ⟨fun h2 => by rw [if_neg h, if_pos h2], fun h2 => ?_⟩⟩
  obtain ⟨j, hj, rfl⟩ := nI_of h
  have h3 := (not_congr (nI_leI (a := n) (b := j) (by omega) hj)).mp h2
  refine ⟨fun h4 => ?_, fun h4 => ⟨vp_in_nI (by omega) (by decide), by rw [if_neg h, if_neg h2]⟩⟩
  have := (ctr_le (N := 90) (c := (90 : Int32)) rfl (by decide) hj).mp h4
  omega)
theorem fit_at {cn : Nat} {fd fv g : Nat → Int32} {i : Int32} (hg : fl cn fd fv g 90) : (if i < 0 then -6 else if nI (fc cn fd fv 90) ≤ i then -6 else g i.toNatClampNeg) = nF cn fd fv i 90 := by
  have hle := fc_le cn fd fv 90
  by_cases h : i < 0
  · rw [if_pos h, nF_none]
    rintro j hj ⟨-, h2⟩
    rw [← h2] at h
    have := fc_le cn fd fv j
    exact nI_pos (by omega) h
  · rw [if_neg h]
    obtain ⟨q, hq, rfl⟩ := nI_of h
    have h2' : nI (fc cn fd fv 90) ≤ nI q ↔ fc cn fd fv 90 ≤ q := nI_leI (by omega) hq
    by_cases h2 : fc cn fd fv 90 ≤ q
    · rw [if_pos (h2'.mpr h2), nF_none]
      rintro j hj ⟨h3, h4⟩
      have l2 := fc_le cn fd fv j
      have := (nI_eq (by omega) hq).mp h4
      have e3 : fc cn fd fv (j + 1) = fc cn fd fv j + 1 := by
        show (if ft cn fd fv (10 + j) = true then _ else _) = _
        rw [if_pos h3]
      have := fc_mono cn fd fv (j + 1) (90 - (j + 1))
      rw [show j + 1 + (90 - (j + 1)) = 90 by omega] at this
      omega
    · rw [if_neg (fun z => h2 (h2'.mp z)), cl q hq]
      obtain ⟨j, j1, j2, j3⟩ := fc_has cn fd fv 90 q (by omega)
      have := nF_stay cn fd fv (nI q) (m := j) ⟨j2, by rw [j3]⟩ (90 - (j + 1)) (by omega)
      rw [show j + 1 + (90 - (j + 1)) = 90 by omega] at this
      rw [this, ← j3]
      exact hg j j1 j2
theorem ok_X8_fits : KX8_fits l D cI cZ (fun _ c _ _ _ _ => okC8 c) (fun i c fv fd _ _ r _ _ => r = fiR c.toNatClampNeg fd fv i) := walkX8_fits ok_X6_fit ok_X6_fitAt (by
  rintro i c fv fd n0 g0 hc
  refine ⟨hc, ?_⟩
  rintro n2 g2 ⟨rfl, hg⟩
  have hle := fc_le c.toNatClampNeg fd fv 90
  refine ⟨fun h => ⟨⟨_, hle, rfl⟩, ?_⟩, fun h => ?_⟩
  · rintro r rfl
    unfold fiR
    rw [if_neg h]
    exact fit_at hg
  · unfold fiR
    rw [if_pos h])
theorem ok_X9_fits : KX9_fits l D cI cZ (fun _ c _ _ => okC8 c) (fun i c fd fv r => r = fiR c.toNatClampNeg fd fv i) := walkX9_fits (IX9_fits_5 := fun i c fd fv q i2 n t => i2 = i ∧ ∃ m, m + q = 90 ∧ t = nI (10 + m) ∧ n = nI (fc c.toNatClampNeg fd fv m) ∧ (¬ i = -1 → nF c.toNatClampNeg fd fv i m = -6)) ok_X9_isFit (by
  rintro i c fd fv hc
  refine ⟨⟨90, rfl, 0, rfl, rfl, rfl, fun _ => rfl⟩, ?_⟩
  rintro q t n ⟨-, m, hm, rfl, rfl, hn⟩
  have hle := fc_le c.toNatClampNeg fd fv m
  have e100 : ((100 : Int32) ≤ nI (10 + m)) ↔ 100 ≤ 10 + m := ctr_le rfl (by decide) (by omega)
  have tc : (nI (10 + m)).toNatClampNeg = 10 + m := cl _ (by omega)
  rw [e100]
  refine ⟨fun h => ?_, fun h => ⟨⟨⟨10 + m, by omega, rfl⟩, hc⟩, ?_⟩⟩
  · obtain rfl : m = 90 := by omega
    refine ⟨fun h2 => ?_, fun h2 => ?_⟩
    · unfold fiR
      rw [if_neg h2]
      exact (hn h2).symm
    · unfold fiR
      rw [if_pos h2]
  · rw [tc]
    rintro r rfl
    have e1 : fc c.toNatClampNeg fd fv (m + 1) = (if ft c.toNatClampNeg fd fv (10 + m) = true then fc c.toNatClampNeg fd fv m + 1 else fc c.toNatClampNeg fd fv m) := rfl
    have e2 : nF c.toNatClampNeg fd fv i (m + 1) = (if ft c.toNatClampNeg fd fv (10 + m) = true ∧ nI (fc c.toNatClampNeg fd fv m) = i then nI (10 + m) else nF c.toNatClampNeg fd fv i m) := rfl
    refine ⟨fun h2 => ?_, fun h2 => ⟨fun h3 => ?_, fun h3 => ?_⟩⟩
    · rw [bi_0] at h2
      rintro x rfl
      exact ⟨q - 1, by omega, rfl, m + 1, by omega, nI_1 _, by rw [e1, h2]; rfl, fun z => by rw [e2, h2, if_neg (by simp)]; exact hn z⟩
    · rw [bi_n0] at h2
      rintro x rfl y rfl
      exact ⟨q - 1, by omega, rfl, m + 1, by omega, nI_1 _, by rw [e1, if_pos h2]; exact nI_1 _, fun z => by rw [e2, if_neg (fun w => h3 w.2)]; exact hn z⟩
    · rw [bi_n0] at h2
      have hi : ¬ i = -1 := by
        rintro rfl
        have : ¬ nI (fc c.toNatClampNeg fd fv m) = (-1 : Int32) := fun e => nI_pos (n := fc c.toNatClampNeg fd fv m) (by omega) (by rw [e]; decide)
        exact this h3
      unfold fiR
      rw [if_neg hi]
      have := nF_stay c.toNatClampNeg fd fv i (m := m) ⟨h2, h3⟩ (90 - (m + 1)) (by omega)
      rw [show m + 1 + (90 - (m + 1)) = 90 by omega] at this
      exact this.symm)
end OK14
