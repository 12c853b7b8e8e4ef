/-! Texts: where acts begin, how the reference's reader comes to the same. -/
def ps (cn : Nat) (g : Nat → Int32) : Nat → Nat
  | 0 => 0
  | j + 1 => ps cn g j + ln cn g (ps cn g j)
def nac (cn : Nat) (g : Nat → Int32) : Nat → Nat → Nat
  | 0, _ => 0
  | f + 1, a => if cn ≤ a then 0 else 1 + nac cn g f (a + ln cn g a)
/-- how many acts -/
def nA (cn : Nat) (g : Nat → Int32) : Nat := nac cn g 60 0
/-- whose act it is (0 for a year) -/
def wz (cn : Nat) (g : Nat → Int32) (a : Nat) : Int32 := if kd cn g a = 6 then 0 else wh cn g a
theorem ps_ge (cn : Nat) (g : Nat → Int32) : ∀ j, j ≤ ps cn g j := by
  intro j
  induction j with
  | zero => exact Nat.le_refl 0
  | succ k ih =>
    have := (ln_pos cn g (ps cn g k)).1
    show k + 1 ≤ ps cn g k + ln cn g (ps cn g k)
    omega
theorem flt_at (cn : Nat) (g : Nat → Int32) : ∀ j, j ≤ 60 → (∀ t, t < j → ps cn g t < cn ∧ fa cn g (ps cn g t) = -6) → flt cn g 60 0 = flt cn g (60 - j) (ps cn g j) := by
  intro j
  induction j with
  | zero => exact fun _ _ => rfl
  | succ k ih =>
    intro hk h
    rw [ih (by omega) (fun t ht => h t (by omega))]
    obtain ⟨h1, h2⟩ := h k (by omega)
    obtain ⟨m, hm⟩ : ∃ m, 60 - k = m + 1 := ⟨60 - k - 1, by omega⟩
    rw [hm, show 60 - (k + 1) = m by omega]
    show (if cn ≤ ps cn g k then _ else if fa cn g (ps cn g k) = -6 then flt cn g m (ps cn g k + ln cn g (ps cn g k)) else _) = flt cn g m (ps cn g k + ln cn g (ps cn g k))
    rw [if_neg (by omega), if_pos h2]
theorem nac_at (cn : Nat) (g : Nat → Int32) : ∀ j, j ≤ 60 → (∀ t, t < j → ps cn g t < cn) → nA cn g = j + nac cn g (60 - j) (ps cn g j) := by
  intro j
  induction j with
  | zero => exact fun _ _ => (Nat.zero_add _).symm
  | succ k ih =>
    intro hk h
    rw [ih (by omega) (fun t ht => h t (by omega))]
    have h1 := h k (by omega)
    obtain ⟨m, hm⟩ : ∃ m, 60 - k = m + 1 := ⟨60 - k - 1, by omega⟩
    rw [hm, show 60 - (k + 1) = m by omega]
    show k + (if cn ≤ ps cn g k then 0 else 1 + nac cn g m (ps cn g k + ln cn g (ps cn g k))) = (k + 1) + nac cn g m (ps cn g k + ln cn g (ps cn g k))
    rw [if_neg (by omega)]
    omega
theorem flt_end (cn : Nat) (g : Nat → Int32) (f : Nat) {a : Nat} (h : cn ≤ a) : flt cn g f a = -6 := by
  cases f with
  | zero => rfl
  | succ f =>
    show (if cn ≤ a then _ else _) = _
    rw [if_pos h]
theorem nac_end (cn : Nat) (g : Nat → Int32) (f : Nat) {a : Nat} (h : cn ≤ a) : nac cn g f a = 0 := by
  cases f with
  | zero => rfl
  | succ f =>
    show (if cn ≤ a then _ else _) = _
    rw [if_pos h]
theorem flt_bad (cn : Nat) (g : Nat → Int32) {f a : Nat} (hf : 0 < f) (h : a < cn) (hb : ¬ fa cn g a = -6) : flt cn g f a = fa cn g a := by
  obtain ⟨m, rfl⟩ : ∃ m, f = m + 1 := ⟨f - 1, by omega⟩
  show (if cn ≤ a then _ else if fa cn g a = -6 then _ else fa cn g a) = _
  rw [if_neg (by omega), if_neg hb]
theorem nI_n6 {n : Nat} (h : n < 1000) : ¬ nI n = (-6 : Int32) := fun e => nI_pos (n := n) (by omega) (by rw [e]; decide)
theorem sg_lt {cn : Nat} {g : Nat → Int32} {a : Nat} (h : a < cn) : sg cn g a = g a := by
  unfold sg
  rw [if_pos h]
theorem sg_ge {cn : Nat} {g : Nat → Int32} {a : Nat} (h : cn ≤ a) : sg cn g a = 0 := by
  unfold sg
  rw [if_neg (by omega)]
theorem isL_46 {x : Int32} (h : isL x = true) : ¬ x = 46 := by
  rintro rfl
  exact absurd h (by decide)
section OK7
variable {l : Launch} {D : va_G} {cI cZ : ClassId}
theorem ok_X9_close : KX9_close l D cI cZ (fun _ _ a _ _ => vp_in a 60) (fun k v a ac mu r a2 ac2 mu2 => r = 0 ∧ a2 = a + (1 : Int32) ∧ ac2 = upd ac a.toNatClampNeg k ∧ mu2 = upd mu a.toNatClampNeg v) := walkX9_close (by
  rintro k v a ac mu h
  refine ⟨h, h, ?_⟩
  rintro x rfl
  exact ⟨rfl, rfl, rfl, rfl⟩)
theorem ok_X9_isLetter : KX9_isLetter l D cI cZ (fun _ => True) (fun x r => r = bi (isL x)) := walkX9_isLetter ok_X9_in (by
  rintro x -
  refine ⟨trivial, fun r hr => ?_⟩
  rw [hr x 65 74 rfl (by decide) (by decide)]
  exact ⟨bi_isB _, rfl⟩)
theorem ok_X9_begin : KX9_begin l D cI cZ (fun _ a _ _ _ => vp_in a 60) (fun c a ac mu wh_ r a2 ac2 mu2 wh2 => (isL c = true → r = 1 ∧ a2 = a ∧ ac2 = ac ∧ mu2 = mu ∧ wh2 = upd wh_ a.toNatClampNeg (c - (65 : Int32))) ∧ (isL c = false → c = 46 → r = 0 ∧ a2 = a + (1 : Int32) ∧ ac2 = upd ac a.toNatClampNeg 6 ∧ mu2 = upd mu a.toNatClampNeg 0 ∧ wh2 = upd wh_ a.toNatClampNeg 0) ∧ (isL c = false → ¬ c = 46 → r = -6)) := walkX9_begin ok_X9_isLetter ok_X9_close (by
  rintro c a ac mu wh_ ha
  refine ⟨trivial, ?_⟩
  rintro r rfl
  refine ⟨fun h => ⟨ha, trivial, ?_⟩, fun h => ?_⟩
  · rw [bi_0] at h
    rintro r rfl
    refine ⟨fun h2 => ⟨fun h3 => ?_, fun h3 => ⟨ha, ?_⟩⟩, fun h2 => absurd (bi_0.mpr h) h2⟩
    · exact ⟨fun q => (by rw [h] at q; cases q), fun _ q => absurd q h3, fun _ _ => rfl⟩
    · rintro r g f1 f2 ⟨rfl, rfl, rfl, rfl⟩
      exact ⟨fun q => (by rw [h] at q; cases q), fun _ _ => ⟨rfl, rfl, rfl, rfl, rfl⟩, fun _ q => absurd h3 q⟩
  · rw [bi_n0] at h
    rintro x rfl
    refine ⟨ha, trivial, ?_⟩
    rintro r rfl
    refine ⟨fun h2 => absurd (bi_0.mp h2) (by rw [h]; decide), fun h2 => ?_⟩
    exact ⟨fun _ => ⟨rfl, rfl, rfl, rfl, rfl⟩, fun q => (by rw [h] at q; cases q), fun q => (by rw [h] at q; cases q)⟩)
/-- an act is closed -/
def Cl (k v a : Int32) (ac mu : Nat → Int32) (r a2 : Int32) (ac2 mu2 : Nat → Int32) : Prop := r = 0 ∧ a2 = a + (1 : Int32) ∧ ac2 = upd ac a.toNatClampNeg k ∧ mu2 = upd mu a.toNatClampNeg v
def Sm (a : Int32) (ac mu : Nat → Int32) (a2 : Int32) (ac2 mu2 : Nat → Int32) : Prop := a2 = a ∧ ac2 = ac ∧ mu2 = mu
def Dd (c a : Int32) (ac mu : Nat → Int32) (r a2 : Int32) (ac2 mu2 : Nat → Int32) : Prop := (c = 36 → Cl 5 0 a ac mu r a2 ac2 mu2) ∧ (c = 38 → r = 3 ∧ Sm a ac mu a2 ac2 mu2) ∧ (c = 42 → r = 2 ∧ Sm a ac mu a2 ac2 mu2) ∧ (c = 43 → Cl 1 0 a ac mu r a2 ac2 mu2) ∧ (c = 61 → r = 4 ∧ Sm a ac mu a2 ac2 mu2) ∧ (¬ c = 36 → ¬ c = 38 → ¬ c = 42 → ¬ c = 43 → ¬ c = 61 → (wi c 49 57 = true → Cl 0 (c - (48 : Int32)) a ac mu r a2 ac2 mu2) ∧ (wi c 49 57 = false → r = -6))
theorem ok_X9_deed : KX9_deed l D cI cZ (fun _ a _ _ => vp_in a 60) (fun c a ac mu r a2 ac2 mu2 => Dd c a ac mu r a2 ac2 mu2) := walkX9_deed ok_X9_close ok_X9_in (by
  rintro c a ac mu ha
  refine ⟨?_, fun n1 => ⟨?_, fun n2 => ⟨?_, fun n3 => ⟨?_, fun n4 => ⟨?_, fun n5 => ⟨trivial, fun r hr => ?_⟩⟩⟩⟩⟩⟩
  · rintro rfl
    refine ⟨ha, fun r g f1 f2 h => ⟨fun _ => h, fun q => absurd q (by decide), fun q => absurd q (by decide), fun q => absurd q (by decide), fun q => absurd q (by decide), fun q => absurd rfl q⟩⟩
  · rintro rfl
    exact ⟨fun q => absurd q (by decide), fun _ => ⟨rfl, rfl, rfl, rfl⟩, fun q => absurd q (by decide), fun q => absurd q (by decide), fun q => absurd q (by decide), fun _ q => absurd rfl q⟩
  · rintro rfl
    exact ⟨fun q => absurd q (by decide), fun q => absurd q (by decide), fun _ => ⟨rfl, rfl, rfl, rfl⟩, fun q => absurd q (by decide), fun q => absurd q (by decide), fun _ _ q => absurd rfl q⟩
  · rintro rfl
    refine ⟨ha, fun r g f1 f2 h => ⟨fun q => absurd q (by decide), fun q => absurd q (by decide), fun q => absurd q (by decide), fun _ => h, fun q => absurd q (by decide), fun _ _ _ q => absurd rfl q⟩⟩
  · rintro rfl
    exact ⟨fun q => absurd q (by decide), fun q => absurd q (by decide), fun q => absurd q (by decide), fun q => absurd q (by decide), fun _ => ⟨rfl, rfl, rfl, rfl⟩, fun _ _ _ _ q => absurd rfl q⟩
  · rw [hr c 49 57 rfl (by decide) (by decide)]
    refine ⟨fun h => ?_, fun h => ⟨ha, fun r g f1 f2 h2 => ?_⟩⟩
    · rw [bi_0] at h
      exact ⟨fun q => absurd q n1, fun q => absurd q n2, fun q => absurd q n3, fun q => absurd q n4, fun q => absurd q n5, fun _ _ _ _ _ => ⟨fun q => (by rw [h] at q; cases q), fun _ => rfl⟩⟩
    · rw [bi_n0] at h
      exact ⟨fun q => absurd q n1, fun q => absurd q n2, fun q => absurd q n3, fun q => absurd q n4, fun q => absurd q n5, fun _ _ _ _ _ => ⟨fun _ => h2, fun q => (by rw [h] at q; cases q)⟩⟩)
theorem ok_X9_readOn : KX9_readOn l D cI cZ (fun _ _ a _ _ _ => vp_in a 60) (fun d c a ac mu wh_ r a2 ac2 mu2 wh2 => (d = 0 → (isL c = true → r = 1 ∧ Sm a ac mu a2 ac2 mu2 ∧ wh2 = upd wh_ a.toNatClampNeg (c - (65 : Int32))) ∧ (isL c = false → c = 46 → Cl 6 0 a ac mu r a2 ac2 mu2 ∧ wh2 = upd wh_ a.toNatClampNeg 0) ∧ (isL c = false → ¬ c = 46 → r = -6)) ∧ (d = 1 → Dd c a ac mu r a2 ac2 mu2 ∧ wh2 = wh_) ∧ (d = 2 → (wi c 48 55 = true → Cl 2 (c - (48 : Int32)) a ac mu r a2 ac2 mu2 ∧ wh2 = wh_) ∧ (wi c 48 55 = false → r = -6)) ∧ (d = 3 → (isL c = true → Cl 3 (c - (65 : Int32)) a ac mu r a2 ac2 mu2 ∧ wh2 = wh_) ∧ (isL c = false → r = -6)) ∧ (d = 4 → (isL c = true → Cl 4 (c - (65 : Int32)) a ac mu r a2 ac2 mu2 ∧ wh2 = wh_) ∧ (isL c = false → r = -6))) := walkX9_readOn ok_X9_isLetter ok_X9_close ok_X9_in ok_X9_deed ok_X9_begin (by
  rintro d c a ac mu wh_ ha
  refine ⟨fun n0 => ⟨fun n1 => ⟨fun n2 => ⟨trivial, ?_⟩, ?_⟩, ?_⟩, ?_⟩
  · rintro r rfl
    refine ⟨fun h => ?_, fun h => ⟨fun n3 => ⟨ha, fun r g f1 f2 h2 => ?_⟩, fun n3 => ⟨ha, fun r g f1 f2 h2 => ?_⟩⟩⟩
    · rw [bi_0] at h
      exact ⟨fun q => absurd q n0, fun q => absurd q n1, fun q => absurd q n2, fun _ => ⟨fun q => (by rw [h] at q; cases q), fun _ => rfl⟩, fun _ => ⟨fun q => (by rw [h] at q; cases q), fun _ => rfl⟩⟩
    · rw [bi_n0] at h
      exact ⟨fun q => absurd q n0, fun q => absurd q n1, fun q => absurd q n2, fun q => absurd q n3, fun _ => ⟨fun _ => ⟨h2, rfl⟩, fun q => (by rw [h] at q; cases q)⟩⟩
    · rw [bi_n0] at h
      subst n3
      exact ⟨fun q => absurd q n0, fun q => absurd q n1, fun q => absurd q n2, fun _ => ⟨fun _ => ⟨h2, rfl⟩, fun q => (by rw [h] at q; cases q)⟩, fun q => absurd q (by decide)⟩
  · rintro rfl
    refine ⟨trivial, fun r hr => ?_⟩
    rw [hr c 48 55 rfl (by decide) (by decide)]
    refine ⟨fun h => ?_, fun h => ⟨ha, fun r g f1 f2 h2 => ?_⟩⟩
    · rw [bi_0] at h
      exact ⟨fun q => absurd q n0, fun q => absurd q n1, fun _ => ⟨fun q => (by rw [h] at q; cases q), fun _ => rfl⟩, fun q => absurd q (by decide), fun q => absurd q (by decide)⟩
    · rw [bi_n0] at h
      exact ⟨fun q => absurd q n0, fun q => absurd q n1, fun _ => ⟨fun _ => ⟨h2, rfl⟩, fun q => (by rw [h] at q; cases q)⟩, fun q => absurd q (by decide), fun q => absurd q (by decide)⟩
  · rintro rfl
    exact ⟨ha, fun r g f1 f2 h2 => ⟨fun q => absurd q n0, fun _ => ⟨h2, rfl⟩, fun q => absurd q (by decide), fun q => absurd q (by decide), fun q => absurd q (by decide)⟩⟩
  · rintro rfl
    refine ⟨ha, fun r g f1 f2 f3 h2 => ⟨fun _ => ⟨fun q => ?_, fun q q2 => ?_, h2.2.2⟩, fun q => absurd q (by decide), fun q => absurd q (by decide), fun q => absurd q (by decide), fun q => absurd q (by decide)⟩⟩
    · obtain ⟨e1, e2, e3, e4, e5⟩ := h2.1 q
      exact ⟨e1, ⟨e2, e3, e4⟩, e5⟩
    · obtain ⟨e1, e2, e3, e4, e5⟩ := h2.2.1 q q2
      exact ⟨⟨e1, e2, e3, e4⟩, e5⟩)
/-- the acts read so far -/
def rdd (cn : Nat) (g ac mu wh_ : Nat → Int32) (j : Nat) : Prop := ∀ t, t < j → ps cn g t < cn ∧ fa cn g (ps cn g t) = -6 ∧ ac t = kd cn g (ps cn g t) ∧ mu t = nu cn g (ps cn g t) ∧ wh_ t = wz cn g (ps cn g t)
/-- in the midst of an act -/
def mid (cn : Nat) (g wh_ : Nat → Int32) (j i : Nat) (d : Int32) : Prop :=
  (d = 0 ∧ i = ps cn g j) ∨ (isL (sg cn g (ps cn g j)) = true ∧ wh_ j = wh cn g (ps cn g j) ∧ ps cn g j < cn ∧
    ((d = 1 ∧ i = ps cn g j + 1) ∨ (i = ps cn g j + 2 ∧ ((d = 2 ∧ sg cn g (ps cn g j + 1) = 42) ∨ (d = 3 ∧ sg cn g (ps cn g j + 1) = 38) ∨ (d = 4 ∧ sg cn g (ps cn g j + 1) = 61)))))
theorem rdd_close {cn : Nat} {g ac mu wh_ ac2 mu2 wh2 : Nat → Int32} {j : Nat} (hr : rdd cn g ac mu wh_ j) (hp : ps cn g j < cn) (hf : fa cn g (ps cn g j) = -6) (h1 : ac2 = upd ac j (kd cn g (ps cn g j))) (h2 : mu2 = upd mu j (nu cn g (ps cn g j))) (h3 : ∀ t, t < j → wh2 t = wh_ t) (h4 : wh2 j = wz cn g (ps cn g j)) : rdd cn g ac2 mu2 wh2 (j + 1) := by
  intro t ht
  by_cases e : t = j
  · subst e
    rw [h1, h2, upd_s, upd_s]
    exact ⟨hp, hf, rfl, rfl, h4⟩
  · rw [h1, h2, upd_n e, upd_n e, h3 t (by omega)]
    exact hr t (by omega)
theorem ok_X9_fault : KX9_fault l D cI cZ (fun c _ _ _ _ _ => okC c) (fun c _ _ _ g _ r a2 ac2 mu2 wh2 => r = flt c.toNatClampNeg g 60 0 ∧ (flt c.toNatClampNeg g 60 0 = -6 → a2 = nI (nA c.toNatClampNeg g) ∧ nA c.toNatClampNeg g ≤ 60 ∧ rdd c.toNatClampNeg g ac2 mu2 wh2 (nA c.toNatClampNeg g))) := walkX9_fault (IX9_fault_9 := fun c _ _ _ g _ n d i a ac mu wh_ => ∃ k j, k + n = c.toNatClampNeg ∧ i = nI k ∧ a = nI j ∧ rdd c.toNatClampNeg g ac mu wh_ j ∧ mid c.toNatClampNeg g wh_ j k d) ok_X9_readOn (by
  rintro c a0 ac0 mu0 g wh0 hc
  obtain ⟨ec, hc60⟩ := okC_cl hc
  generalize hcn : c.toNatClampNeg = cn at *
  subst ec
  refine ⟨⟨cn, 0, 0, Nat.zero_add _, rfl, rfl, fun t ht => absurd ht (Nat.not_lt_zero _), Or.inl ⟨rfl, rfl⟩⟩, ?_⟩
  rintro n d i a ac mu wh_ ⟨k, j, hk, rfl, rfl, hr, hm⟩
  have hjk : j ≤ k := by
    have := ps_ge cn g j
    rcases hm with ⟨-, e⟩ | ⟨-, -, -, ⟨-, e⟩ | ⟨e, -⟩⟩ <;> omega
  have hF := fun (hj : j ≤ 60) => flt_at cn g j hj (fun t ht => ⟨(hr t ht).1, (hr t ht).2.1⟩)
  have hN := fun (hj : j ≤ 60) => nac_at cn g j hj (fun t ht => (hr t ht).1)
  refine ⟨fun h => ?_, fun h => ?_⟩
  · have hle := (nI_leI (by omega) (by omega)).mp h
    obtain rfl : k = cn := by omega
    rcases hm with ⟨rfl, e⟩ | ⟨m1, m2, m3, m4⟩
    · refine ⟨fun q => absurd rfl q, fun _ => ?_⟩
      rw [hF (by omega), flt_end _ _ _ (by omega)]
      refine ⟨rfl, fun _ => ?_⟩
      have e2 := hN (by omega)
      rw [nac_end _ _ _ (by omega), Nat.add_zero] at e2
      rw [e2]
      exact ⟨rfl, by omega, hr⟩
    · have s46 := isL_46 m1
      have key : fa k g (ps k g j) = nI k := by
        rcases m4 with ⟨-, e⟩ | ⟨e, m5⟩
        · have z : sg k g (ps k g j + 1) = 0 := sg_ge (by omega)
          unfold fa
          rw [if_neg s46, if_neg (by rw [m1]; decide), z, if_neg (by decide), if_neg (by decide), if_neg (by decide)]
          congr 1
          omega
        · have z : sg k g (ps k g j + 2) = 0 := sg_ge (by omega)
          unfold fa
          rw [if_neg s46, if_neg (by rw [m1]; decide), z]
          rcases m5 with ⟨-, m5⟩ | ⟨-, m5⟩ | ⟨-, m5⟩
          · rw [m5, if_neg (by decide), if_pos rfl, if_neg (by decide)]
            congr 1
            omega
          · rw [m5, if_neg (by decide), if_neg (by decide), if_pos (by decide), if_neg (by decide)]
            congr 1
            omega
          · rw [m5, if_neg (by decide), if_neg (by decide), if_pos (by decide), if_neg (by decide)]
            congr 1
            omega
      have hj60 : j < 60 := by have := ps_ge k g j; omega
      have key2 : flt k g 60 0 = nI k := by
        rw [hF (by omega), flt_bad _ _ (by omega) m3 (by rw [key]; exact nI_n6 (by omega)), key]
      have hd : ¬ d = 0 := by
        rcases m4 with ⟨q, -⟩ | ⟨-, ⟨q, -⟩ | ⟨q, -⟩ | ⟨q, -⟩⟩ <;> (rw [q]; decide)
      refine ⟨fun _ => ?_, fun q => absurd q hd⟩
      rw [key2]
      exact ⟨rfl, fun q => absurd q (nI_n6 (by omega))⟩
  · have hlt : k < cn := by
      have := (not_congr (nI_leI (a := cn) (b := k) (by omega) (by omega))).mp h
      omega
    have hj60 : j < 60 := by omega
    have hkc : (nI k).toNatClampNeg = k := cl k (by omega)
    have hjc : (nI j).toNatClampNeg = j := cl j (by omega)
    have hgk : sg cn g k = g k := sg_lt hlt
    refine ⟨vp_in_nI (by omega) (by decide), vp_in_nI (by omega) (by decide), ?_⟩
    rw [hkc]
    rintro r a2 ac2 mu2 wh2 ⟨q0, q1, q2, q3, q4⟩
    simp only [hjc] at q0
    have ej : nI j + (1 : Int32) = nI (j + 1) := nI_1 j
    -- what goes on: the next place, with the acts read
    have good : ∀ d2 j2 ac2 mu2 wh2, rdd cn g ac2 mu2 wh2 j2 → mid cn g wh2 j2 (k + 1) d2 → (∀ x : Int32, x = nI k + (1 : Int32) → ∃ n1, n1 < n ∧ ∃ k2 j3, k2 + n1 = cn ∧ x = nI k2 ∧ nI j2 = nI j3 ∧ rdd cn g ac2 mu2 wh2 j3 ∧ mid cn g wh2 j3 k2 d2) := by
      rintro d2 j2 ac2 mu2 wh2 z1 z2 x rfl
      exact ⟨n - 1, by omega, k + 1, j2, by omega, nI_1 k, rfl, z1, z2⟩
    -- a fault here
    have bad : ps cn g j < cn → fa cn g (ps cn g j) = nI k → ∀ (a2 : Int32) (ac2 mu2 wh2 : Nat → Int32), nI k = flt cn g 60 0 ∧ (flt cn g 60 0 = -6 → a2 = nI (nA cn g) ∧ nA cn g ≤ 60 ∧ rdd cn g ac2 mu2 wh2 (nA cn g)) := by
      intro z1 z2 a2 ac2 mu2 wh2
      have e : flt cn g 60 0 = nI k := by
        rw [hF (by omega), flt_bad _ _ (by omega) z1 (by rw [z2]; exact nI_n6 (by omega)), z2]
      rw [e]
      exact ⟨rfl, fun q => absurd q (nI_n6 (by omega))⟩
    have n6 : ¬ (0 : Int32) ≤ -6 := by decide
    -- an act closed here: kind kk, number vv
    have closed : ∀ kk vv r a2 ac2 mu2 wh2, ps cn g j < cn → fa cn g (ps cn g j) = -6 → kd cn g (ps cn g j) = kk → nu cn g (ps cn g j) = vv → ps cn g (j + 1) = k + 1 → (∀ t, t < j → wh2 t = wh_ t) → wh2 j = wz cn g (ps cn g j) → Cl kk vv (nI j) ac mu r a2 ac2 mu2 → ((0 ≤ r → ∀ x : Int32, x = nI k + (1 : Int32) → ∃ n1, n1 < n ∧ ∃ k2 j3, k2 + n1 = cn ∧ x = nI k2 ∧ a2 = nI j3 ∧ rdd cn g ac2 mu2 wh2 j3 ∧ mid cn g wh2 j3 k2 r) ∧ (¬ 0 ≤ r → nI k = flt cn g 60 0 ∧ (flt cn g 60 0 = -6 → a2 = nI (nA cn g) ∧ nA cn g ≤ 60 ∧ rdd cn g ac2 mu2 wh2 (nA cn g)))) := by
      rintro kk vv r a2 ac2 mu2 wh2 z1 z2 z3 z4 z5 z6 z7 ⟨rfl, rfl, rfl, rfl⟩
      rw [hjc, ej]
      refine ⟨fun _ => good 0 (j + 1) _ _ _ (rdd_close hr z1 z2 (by rw [z3]) (by rw [z4]) z6 z7) (Or.inl ⟨rfl, z5.symm⟩), fun q => absurd (by decide) q⟩
    rcases hm with ⟨rfl, e⟩ | ⟨m1, m2, m3, ⟨rfl, e⟩ | ⟨e, m5⟩⟩
    · subst e
      obtain ⟨b1, b2, b3⟩ := q0 rfl
      rw [← hgk] at b1 b2 b3
      cases hL : isL (sg cn g (ps cn g j))
      · by_cases h46 : sg cn g (ps cn g j) = 46
        · obtain ⟨c1, c2⟩ := b2 hL h46
          have hkd : kd cn g (ps cn g j) = 6 := by
            unfold kd
            rw [if_pos h46]
          refine closed 6 0 r a2 ac2 mu2 wh2 hlt (by unfold fa; rw [if_pos h46]) hkd (by unfold nu; rw [hkd]; rfl) ?_ ?_ ?_ c1
          · show ps cn g j + ln cn g (ps cn g j) = _
            unfold ln
            rw [if_pos hkd]
          · intro t ht
            rw [c2, upd_n (by omega)]
          · rw [c2, upd_s]
            unfold wz
            rw [if_pos hkd]
        · have hr6 := b3 hL h46
          subst hr6
          refine ⟨fun q => absurd q n6, fun _ => bad hlt ?_ _ _ _ _⟩
          unfold fa
          rw [if_neg h46, if_pos hL]
      · obtain ⟨rfl, ⟨rfl, rfl, rfl⟩, rfl⟩ := b1 hL
        refine ⟨fun _ => good 1 j _ _ _ ?_ (Or.inr ⟨hL, by rw [upd_s]; rfl, hlt, Or.inl ⟨rfl, rfl⟩⟩), fun q => absurd (by decide) q⟩
        intro t ht
        rw [upd_n (by omega)]
        exact hr t ht
    · subst e
      have s46 := isL_46 m1
      obtain ⟨⟨d1, d2, d3, d4, d5, d6⟩, rfl⟩ := q1 rfl
      rw [← hgk] at d1 d2 d3 d4 d5 d6
      have nL : ¬ isL (sg cn g (ps cn g j)) = false := by rw [m1]; decide
      have stay : ∀ d2, mid cn g wh2 j (ps cn g j + 1 + 1) d2 → (∀ x : Int32, x = nI (ps cn g j + 1) + (1 : Int32) → ∃ n1, n1 < n ∧ ∃ k2 j3, k2 + n1 = cn ∧ x = nI k2 ∧ nI j = nI j3 ∧ rdd cn g ac mu wh2 j3 ∧ mid cn g wh2 j3 k2 d2) := fun d2 z => good d2 j ac mu wh2 hr z
      have cl2 : ∀ kk vv, kd cn g (ps cn g j) = kk → ¬ kk = 6 → ¬ (kk = 2 ∨ kk = 3 ∨ kk = 4) → nu cn g (ps cn g j) = vv → fa cn g (ps cn g j) = -6 → Cl kk vv (nI j) ac mu r a2 ac2 mu2 → _ := fun kk vv z1 z2 z3 z4 z5 z6 => closed kk vv r a2 ac2 mu2 wh2 m3 z5 z1 z4 (by
        show ps cn g j + ln cn g (ps cn g j) = _
        unfold ln
        rw [z1, if_neg z2, if_neg z3]) (fun _ _ => rfl) (by rw [m2]; unfold wz; rw [if_neg (by rw [z1]; exact z2)]) z6
      by_cases c36 : sg cn g (ps cn g j + 1) = 36
      · have hkd : kd cn g (ps cn g j) = 5 := by simp [kd, s46, c36]
        exact cl2 5 0 hkd (by decide) (by decide) (by simp [nu, hkd]) (by unfold fa; rw [if_neg s46, if_neg nL, if_pos (Or.inr (Or.inr c36))]) (d1 c36)
      by_cases c38 : sg cn g (ps cn g j + 1) = 38
      · obtain ⟨rfl, rfl, rfl, rfl⟩ := d2 c38
        exact ⟨fun _ => stay 3 (Or.inr ⟨m1, m2, m3, Or.inr ⟨rfl, Or.inr (Or.inl ⟨rfl, c38⟩)⟩⟩), fun q => absurd (by decide) q⟩
      by_cases c42 : sg cn g (ps cn g j + 1) = 42
      · obtain ⟨rfl, rfl, rfl, rfl⟩ := d3 c42
        exact ⟨fun _ => stay 2 (Or.inr ⟨m1, m2, m3, Or.inr ⟨rfl, Or.inl ⟨rfl, c42⟩⟩⟩), fun q => absurd (by decide) q⟩
      by_cases c43 : sg cn g (ps cn g j + 1) = 43
      · have hkd : kd cn g (ps cn g j) = 1 := by simp [kd, s46, c43]
        exact cl2 1 0 hkd (by decide) (by decide) (by simp [nu, hkd]) (by unfold fa; rw [if_neg s46, if_neg nL, if_pos (Or.inr (Or.inl c43))]) (d4 c43)
      by_cases c61 : sg cn g (ps cn g j + 1) = 61
      · obtain ⟨rfl, rfl, rfl, rfl⟩ := d5 c61
        exact ⟨fun _ => stay 4 (Or.inr ⟨m1, m2, m3, Or.inr ⟨rfl, Or.inr (Or.inr ⟨rfl, c61⟩)⟩⟩), fun q => absurd (by decide) q⟩
      obtain ⟨f1, f2⟩ := d6 c36 c38 c42 c43 c61
      have hkd : kd cn g (ps cn g j) = 0 := by simp [kd, s46, c36, c38, c42, c43, c61]
      cases hw : wi (sg cn g (ps cn g j + 1)) 49 57
      · have hr6 := f2 hw
        subst hr6
        refine ⟨fun q => absurd q n6, fun _ => bad m3 ?_ _ _ _ _⟩
        unfold fa
        rw [if_neg s46, if_neg nL, if_neg (by simp [hw, c43, c36]), if_neg c42, if_neg (by simp [c38, c61])]
      · exact cl2 0 _ hkd (by decide) (by decide) (by simp [nu, hkd]) (by unfold fa; rw [if_neg s46, if_neg nL, if_pos (Or.inl hw)]) (f1 hw)
    · subst e
      have s46 := isL_46 m1
      have nL : ¬ isL (sg cn g (ps cn g j)) = false := by rw [m1]; decide
      have cl3 : ∀ kk vv, kd cn g (ps cn g j) = kk → ¬ kk = 6 → (kk = 2 ∨ kk = 3 ∨ kk = 4) → nu cn g (ps cn g j) = vv → fa cn g (ps cn g j) = -6 → wh2 = wh_ → Cl kk vv (nI j) ac mu r a2 ac2 mu2 → _ := fun kk vv z1 z2 z3 z4 z5 z7 z6 => closed kk vv r a2 ac2 mu2 wh2 m3 z5 z1 z4 (by
        show ps cn g j + ln cn g (ps cn g j) = _
        unfold ln
        rw [z1, if_neg z2, if_pos z3]) (fun _ _ => by rw [z7]) (by rw [z7, m2]; unfold wz; rw [if_neg (by rw [z1]; exact z2)]) z6
      rcases m5 with ⟨rfl, m5⟩ | ⟨rfl, m5⟩ | ⟨rfl, m5⟩
      · obtain ⟨b1, b2⟩ := q2 rfl
        rw [← hgk] at b1 b2
        have hkd : kd cn g (ps cn g j) = 2 := by simp [kd, s46, m5]
        cases hw : wi (sg cn g (ps cn g j + 2)) 48 55
        · have hr6 := b2 hw
          subst hr6
          refine ⟨fun q => absurd q n6, fun _ => bad m3 ?_ _ _ _ _⟩
          unfold fa
          rw [if_neg s46, if_neg nL, if_neg (by rw [m5]; decide), if_pos m5, if_neg (by rw [hw]; decide)]
        · obtain ⟨b3, b4⟩ := b1 hw
          exact cl3 2 _ hkd (by decide) (by decide) (by simp [nu, hkd]) (by unfold fa; rw [if_neg s46, if_neg nL, if_neg (by rw [m5]; decide), if_pos m5, if_pos hw]) b4 b3
      · obtain ⟨b1, b2⟩ := q3 rfl
        rw [← hgk] at b1 b2
        have hkd : kd cn g (ps cn g j) = 3 := by simp [kd, s46, m5]
        cases hw : isL (sg cn g (ps cn g j + 2))
        · have hr6 := b2 hw
          subst hr6
          refine ⟨fun q => absurd q n6, fun _ => bad m3 ?_ _ _ _ _⟩
          unfold fa
          rw [if_neg s46, if_neg nL, if_neg (by rw [m5]; decide), if_neg (by rw [m5]; decide), if_pos (Or.inl m5), if_neg (by rw [hw]; decide)]
        · obtain ⟨b3, b4⟩ := b1 hw
          exact cl3 3 _ hkd (by decide) (by decide) (by simp [nu, hkd]) (by unfold fa; rw [if_neg s46, if_neg nL, if_neg (by rw [m5]; decide), if_neg (by rw [m5]; decide), if_pos (Or.inl m5), if_pos hw]) b4 b3
      · obtain ⟨b1, b2⟩ := q4 rfl
        rw [← hgk] at b1 b2
        have hkd : kd cn g (ps cn g j) = 4 := by simp [kd, s46, m5]
        cases hw : isL (sg cn g (ps cn g j + 2))
        · have hr6 := b2 hw
          subst hr6
          refine ⟨fun q => absurd q n6, fun _ => bad m3 ?_ _ _ _ _⟩
          unfold fa
          rw [if_neg s46, if_neg nL, if_neg (by rw [m5]; decide), if_neg (by rw [m5]; decide), if_pos (Or.inr m5), if_neg (by rw [hw]; decide)]
        · obtain ⟨b3, b4⟩ := b1 hw
          exact cl3 4 _ hkd (by decide) (by decide) (by simp [nu, hkd]) (by unfold fa; rw [if_neg s46, if_neg nL, if_neg (by rw [m5]; decide), if_neg (by rw [m5]; decide), if_pos (Or.inr m5), if_pos hw]) b4 b3)
end OK7
