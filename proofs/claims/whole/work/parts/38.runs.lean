/-! Texts told: acts one behind another. -/
abbrev dT (σ : DSt) : Int32 := σ.1
abbrev dH (σ : DSt) : Int32 := σ.2.1
abbrev dY (σ : DSt) : Int32 := σ.2.2.1
abbrev dP (σ : DSt) : Nat → Int32 := σ.2.2.2.1
abbrev dS (σ : DSt) : Nat → Int32 := σ.2.2.2.2.1
abbrev dW (σ : DSt) : Nat → Int32 := σ.2.2.2.2.2
def stp (σ : DSt) (a k v : Int32) : DSt := (acT (dT σ) (dW σ) a k v, acH (dT σ) (dH σ) (dS σ) (dW σ) a, acY (dY σ) a, acP (dP σ) a k v, acS (dT σ) (dH σ) (dS σ) (dW σ) a k v, acW (dT σ) (dH σ) (dS σ) (dW σ) a k v)
def whS (σ : DSt) (a k v : Int32) : Int32 := why (dT σ) (dH σ) (dY σ) (dW σ) a k v
def okσ (σ : DSt) : Prop := okS (dT σ) (dH σ) (dY σ) (dP σ) (dS σ) (dW σ)
def runD (σ : DSt) (ak aw am : Nat → Int32) : Nat → DSt
  | 0 => σ
  | j + 1 => stp (runD σ ak aw am j) (ak j) (aw j) (am j)
def whD (σ : DSt) (ak aw am : Nat → Int32) (j : Nat) : Int32 := whS (runD σ ak aw am j) (ak j) (aw j) (am j)
def swb (w : Nat → Int32) (a k v : Int32) : Bool := decide (a = 0 ∧ ¬ 0 < w k.toNatClampNeg - (3 : Int32) * v)
theorem swp_iff {w : Nat → Int32} {a k v : Int32} : swp w a k v ↔ swb w a k v = true := by
  unfold swp swb
  rw [decide_eq_true_iff]
def swD (σ : DSt) (ak aw am : Nat → Int32) : Nat → Int32 × Int32 × Int32
  | 0 => (0, -6, -6)
  | j + 1 => if swb (dW (runD σ ak aw am j)) (ak j) (aw j) (am j) = true then ((swD σ ak aw am j).1 + 1, if (swD σ ak aw am j).1 = 0 then nI j else (swD σ ak aw am j).2.1, if (swD σ ak aw am j).1 = 0 then aw j else (swD σ ak aw am j).2.2) else swD σ ak aw am j
/-- the first act that can not be, of f from j on -/
def goJ (σ : DSt) (ak aw am : Nat → Int32) : Nat → Nat → Nat
  | 0, j => j
  | f + 1, j => if whD σ ak aw am j = 0 then goJ σ ak aw am f (j + 1) else j
theorem goJ_le (σ : DSt) (ak aw am : Nat → Int32) : ∀ f j, j ≤ goJ σ ak aw am f j ∧ goJ σ ak aw am f j ≤ j + f := by
  intro f
  induction f with
  | zero => exact fun j => ⟨Nat.le_refl _, Nat.le_refl _⟩
  | succ f ih =>
    intro j
    show j ≤ (if whD σ ak aw am j = 0 then goJ σ ak aw am f (j + 1) else j) ∧ (if whD σ ak aw am j = 0 then goJ σ ak aw am f (j + 1) else j) ≤ j + (f + 1)
    have := ih (j + 1)
    split <;> omega
theorem goJ_go {σ : DSt} {ak aw am : Nat → Int32} {f j : Nat} (hf : 0 < f) (h : whD σ ak aw am j = 0) : goJ σ ak aw am f j = goJ σ ak aw am (f - 1) (j + 1) := by
  obtain ⟨m, rfl⟩ : ∃ m, f = m + 1 := ⟨f - 1, by omega⟩
  show (if whD σ ak aw am j = 0 then goJ σ ak aw am m (j + 1) else j) = _
  rw [if_pos h]
  rfl
theorem goJ_stop {σ : DSt} {ak aw am : Nat → Int32} {f j : Nat} (h : ¬ whD σ ak aw am j = 0) : goJ σ ak aw am f j = j := by
  cases f with
  | zero => rfl
  | succ m =>
    show (if whD σ ak aw am j = 0 then goJ σ ak aw am m (j + 1) else j) = _
    rw [if_neg h]
theorem goJ_all {σ : DSt} {ak aw am : Nat → Int32} : ∀ f j t, j ≤ t → t < goJ σ ak aw am f j → whD σ ak aw am t = 0 := by
  intro f
  induction f with
  | zero =>
    intro j t h1 h2
    have : goJ σ ak aw am 0 j = j := rfl
    omega
  | succ f ih =>
    intro j t h1 h2
    by_cases h : whD σ ak aw am j = 0
    · rw [goJ_go (by omega) h] at h2
      by_cases e : t = j
      · subst e
        exact h
      · exact ih (j + 1) t (by omega) h2
    · rw [goJ_stop h] at h2
      omega
theorem swD_inv (σ : DSt) (ak aw am : Nat → Int32) : ∀ j, ∃ c, c ≤ j ∧ (swD σ ak aw am j).1 = nI c ∧ (c = 0 → (swD σ ak aw am j).2.1 = -6) ∧ (0 < c → ∃ t, t < j ∧ (swD σ ak aw am j).2.1 = nI t) := by
  intro j
  induction j with
  | zero => exact ⟨0, Nat.le_refl 0, rfl, fun _ => rfl, fun h => absurd h (by omega)⟩
  | succ j ih =>
    obtain ⟨c, h1, h2, h3, h4⟩ := ih
    by_cases q : swb (dW (runD σ ak aw am j)) (ak j) (aw j) (am j) = true
    · have e : swD σ ak aw am (j + 1) = ((swD σ ak aw am j).1 + 1, if (swD σ ak aw am j).1 = 0 then nI j else (swD σ ak aw am j).2.1, if (swD σ ak aw am j).1 = 0 then aw j else (swD σ ak aw am j).2.2) := by
        show (if _ then _ else _) = _
        rw [if_pos q]
      rw [e]
      refine ⟨c + 1, by omega, by show (swD σ ak aw am j).1 + 1 = _; rw [h2]; exact nI_1 c, fun h => absurd h (by omega), fun _ => ?_⟩
      show ∃ t, t < j + 1 ∧ (if (swD σ ak aw am j).1 = 0 then nI j else (swD σ ak aw am j).2.1) = nI t
      split
      · exact ⟨j, by omega, rfl⟩
      · rename_i q2
        have : 0 < c := by
          rcases Nat.eq_zero_or_pos c with z | z
          · subst z
            exact absurd h2 q2
          · exact z
        obtain ⟨t, t1, t2⟩ := h4 this
        exact ⟨t, by omega, t2⟩
    · have e : swD σ ak aw am (j + 1) = swD σ ak aw am j := by
        show (if _ then _ else _) = _
        rw [if_neg q]
      rw [e]
      exact ⟨c, by omega, h2, h3, fun h => by obtain ⟨t, t1, t2⟩ := h4 h; exact ⟨t, by omega, t2⟩⟩
/-- the acts' numbers may be so -/
def okAct (ak aw am : Nat → Int32) (N : Nat) : Prop := ∀ t, t < N → okA (ak t) (aw t) (am t) ∧ okV (ak t) (am t)
theorem run_ok {σ : DSt} {ak aw am : Nat → Int32} {N : Nat} (h : okσ σ) (hA : okAct ak aw am N) : ∀ j, j ≤ N → (∀ t, t < j → whD σ ak aw am t = 0) → okσ (runD σ ak aw am j) := by
  intro j
  induction j with
  | zero => exact fun _ _ => h
  | succ j ih =>
    intro hj hw
    have h1 := ih (by omega) (fun t ht => hw t (by omega))
    obtain ⟨a1, a2⟩ := hA j (by omega)
    exact act_ok h1 a1.1 a2 (hw j (by omega))
theorem run_congr {σ : DSt} {ak aw am bk bw bm : Nat → Int32} {N : Nat} (h : ∀ t, t < N → ak t = bk t ∧ aw t = bw t ∧ am t = bm t) : (∀ j, j ≤ N → runD σ ak aw am j = runD σ bk bw bm j) ∧ (∀ j, j ≤ N → swD σ ak aw am j = swD σ bk bw bm j) ∧ (∀ j, j < N → whD σ ak aw am j = whD σ bk bw bm j) ∧ (∀ f j, j + f ≤ N → goJ σ ak aw am f j = goJ σ bk bw bm f j) := by
  have r1 : ∀ j, j ≤ N → runD σ ak aw am j = runD σ bk bw bm j := by
    intro j
    induction j with
    | zero => exact fun _ => rfl
    | succ j ih =>
      intro hj
      obtain ⟨e1, e2, e3⟩ := h j (by omega)
      show stp _ _ _ _ = stp _ _ _ _
      rw [ih (by omega), e1, e2, e3]
  have r2 : ∀ j, j ≤ N → swD σ ak aw am j = swD σ bk bw bm j := by
    intro j
    induction j with
    | zero => exact fun _ => rfl
    | succ j ih =>
      intro hj
      obtain ⟨e1, e2, e3⟩ := h j (by omega)
      show (if _ then _ else _) = (if _ then _ else _)
      rw [ih (by omega), r1 j (by omega), e1, e2, e3]
  have r3 : ∀ j, j < N → whD σ ak aw am j = whD σ bk bw bm j := by
    intro j hj
    obtain ⟨e1, e2, e3⟩ := h j hj
    unfold whD
    rw [r1 j (by omega), e1, e2, e3]
  refine ⟨r1, r2, r3, ?_⟩
  intro f
  induction f with
  | zero => exact fun _ _ => rfl
  | succ f ih =>
    intro j hj
    show (if _ then _ else _) = (if _ then _ else _)
    rw [r3 j (by omega), ih (j + 1) (by omega)]
/-- what is told of a run of N acts -/
def rJ (σ : DSt) (ak aw am : Nat → Int32) (N : Nat) : Nat := goJ σ ak aw am N 0
def rBad (σ : DSt) (ak aw am : Nat → Int32) (N : Nat) : Int32 := if rJ σ ak aw am N = N then -6 else nI (rJ σ ak aw am N)
def rWhy (σ : DSt) (ak aw am : Nat → Int32) (N : Nat) : Int32 := if rJ σ ak aw am N = N then -6 else whD σ ak aw am (rJ σ ak aw am N)
def rEnd (σ : DSt) (ak aw am : Nat → Int32) (N : Nat) : DSt := runD σ ak aw am (rJ σ ak aw am N)
def rSw (σ : DSt) (ak aw am : Nat → Int32) (N : Nat) : Int32 × Int32 × Int32 := swD σ ak aw am (rJ σ ak aw am N)
theorem r_congr {σ : DSt} {ak aw am bk bw bm : Nat → Int32} {N : Nat} (h : ∀ t, t < N → ak t = bk t ∧ aw t = bw t ∧ am t = bm t) : rJ σ ak aw am N = rJ σ bk bw bm N ∧ rBad σ ak aw am N = rBad σ bk bw bm N ∧ rWhy σ ak aw am N = rWhy σ bk bw bm N ∧ rEnd σ ak aw am N = rEnd σ bk bw bm N ∧ rSw σ ak aw am N = rSw σ bk bw bm N := by
  obtain ⟨r1, r2, r3, r4⟩ := run_congr (σ := σ) h
  have e : rJ σ ak aw am N = rJ σ bk bw bm N := r4 N 0 (by omega)
  have hle := (goJ_le σ bk bw bm N 0).2
  have hle2 : rJ σ bk bw bm N ≤ N := by
    show goJ σ bk bw bm N 0 ≤ N
    omega
  refine ⟨e, ?_, ?_, ?_, ?_⟩
  · unfold rBad
    rw [e]
  · unfold rWhy
    rw [e]
    by_cases q : rJ σ bk bw bm N = N
    · rw [if_pos q, if_pos q]
    · rw [if_neg q, if_neg q]
      exact r3 _ (by omega)
  · unfold rEnd
    rw [e]
    exact r1 _ hle2
  · unfold rSw
    rw [e]
    exact r2 _ hle2
theorem rEnd_ok {σ : DSt} {ak aw am : Nat → Int32} {N : Nat} (h : okσ σ) (hA : okAct ak aw am N) : okσ (rEnd σ ak aw am N) := by
  have hle := (goJ_le σ ak aw am N 0).2
  exact run_ok h hA _ (by show goJ σ ak aw am N 0 ≤ N; omega) (fun t ht => goJ_all N 0 t (Nat.zero_le t) ht)
section OK8
variable {l : Launch} {D : va_G} {cI cZ : ClassId}
theorem ok_X9_goOne : KX9_goOne l D cI cZ (fun i _ _ _ m _ _ ac mu _ s wh_ _ => vp_in i 60 ∧ okA (ac i.toNatClampNeg) (wh_ i.toNatClampNeg) (mu i.toNatClampNeg) ∧ pat s ∧ ∃ c, c < 1000 ∧ m = nI c) (fun i th ha ye m sa sw ac mu p s wh_ w th2 ha2 ye2 m2 sa2 sw2 p2 s2 w2 => (th2, ha2, ye2, p2, s2, w2) = stp (th, ha, ye, p, s, w) (ac i.toNatClampNeg) (wh_ i.toNatClampNeg) (mu i.toNatClampNeg) ∧ (swb w (ac i.toNatClampNeg) (wh_ i.toNatClampNeg) (mu i.toNatClampNeg) = true → m2 = m + (1 : Int32) ∧ (sa < 0 → sa2 = i ∧ sw2 = wh_ i.toNatClampNeg) ∧ (¬ sa < 0 → sa2 = sa ∧ sw2 = sw)) ∧ (swb w (ac i.toNatClampNeg) (wh_ i.toNatClampNeg) (mu i.toNatClampNeg) = false → m2 = m ∧ sa2 = sa ∧ sw2 = sw)) := walkX9_goOne ok_X9_happen (by
  rintro i th ha ye m sa sw ac mu p s wh_ w ⟨hi, hA, hp, c, hc, rfl⟩
  refine ⟨hi, hi, hi, ⟨hA, hp⟩, ?_⟩
  rintro th2 ha2 ye2 m2 p2 s2 w2 ⟨rfl, rfl, rfl, ⟨m3, m4⟩, rfl, rfl, rfl⟩
  have lt1 : ¬ nI c + (1 : Int32) ≤ nI c := by
    rw [nI_1 c, nI_leI (by omega) (by omega)]
    omega
  refine ⟨fun h => ?_, fun h => ?_⟩
  · refine ⟨rfl, fun q => ?_, fun q => ⟨?_, rfl, rfl⟩⟩
    · rw [m3 (swp_iff.mpr q)] at h
      exact absurd h lt1
    · exact m4 (fun z => by rw [swp_iff.mp z] at q; cases q)
  · have q : swb w (ac i.toNatClampNeg) (wh_ i.toNatClampNeg) (mu i.toNatClampNeg) = true := by
      cases e : swb w (ac i.toNatClampNeg) (wh_ i.toNatClampNeg) (mu i.toNatClampNeg)
      · refine absurd ?_ h
        rw [m4 (fun z => by rw [swp_iff.mp z] at e; cases e)]
        exact i32_nlt.mp (by rw [Int32.lt_iff_toInt_lt]; omega)
      · rfl
    have e2 := m3 (swp_iff.mpr q)
    refine ⟨fun h2 => ?_, fun h2 => ⟨hi, ?_⟩⟩
    · exact ⟨rfl, fun _ => ⟨e2, fun z => absurd h2 (i32_nle.mpr z), fun _ => ⟨rfl, rfl⟩⟩, fun z => by rw [q] at z; cases z⟩
    · rintro x rfl
      exact ⟨rfl, fun _ => ⟨e2, fun _ => ⟨rfl, rfl⟩, fun z => absurd (i32_nle.mp h2) z⟩, fun z => by rw [q] at z; cases z⟩)
theorem why_nn (th ha ye : Int32) (w : Nat → Int32) (a k v : Int32) : ∃ c, c < 7 ∧ why th ha ye w a k v = nI c := by
  unfold why
  repeat' split
  all_goals first
    | exact ⟨0, by decide, rfl⟩
    | exact ⟨1, by decide, rfl⟩
    | exact ⟨2, by decide, rfl⟩
    | exact ⟨3, by decide, rfl⟩
    | exact ⟨4, by decide, rfl⟩
    | exact ⟨5, by decide, rfl⟩
    | exact ⟨6, by decide, rfl⟩
theorem ok_X9_goYears : KX9_goYears l D cI cZ (fun th ha ye a _ _ _ _ _ ac mu p s wh_ w => okS th ha ye p s w ∧ ∃ N, N ≤ 60 ∧ a = nI N ∧ okAct ac wh_ mu N) (fun th ha ye a _ _ _ _ _ ac mu p s wh_ w th2 ha2 ye2 m2 b2 y2 sa2 sw2 p2 s2 w2 => (th2, ha2, ye2, p2, s2, w2) = rEnd (th, ha, ye, p, s, w) ac wh_ mu a.toNatClampNeg ∧ (m2, sa2, sw2) = rSw (th, ha, ye, p, s, w) ac wh_ mu a.toNatClampNeg ∧ b2 = rBad (th, ha, ye, p, s, w) ac wh_ mu a.toNatClampNeg ∧ y2 = rWhy (th, ha, ye, p, s, w) ac wh_ mu a.toNatClampNeg) := walkX9_goYears (IX9_goYears_31 := fun th ha ye a _ _ _ _ _ ac mu p s wh_ w n i th2 ha2 ye2 m2 b2 y2 sa2 sw2 p2 s2 w2 => ∃ k, k + n = a.toNatClampNeg + 1 ∧ i = nI k ∧ ((k ≤ a.toNatClampNeg ∧ b2 = -6 ∧ y2 = -6 ∧ (th2, ha2, ye2, p2, s2, w2) = runD (th, ha, ye, p, s, w) ac wh_ mu k ∧ (m2, sa2, sw2) = swD (th, ha, ye, p, s, w) ac wh_ mu k ∧ goJ (th, ha, ye, p, s, w) ac wh_ mu (a.toNatClampNeg - k) k = rJ (th, ha, ye, p, s, w) ac wh_ mu a.toNatClampNeg ∧ okσ (runD (th, ha, ye, p, s, w) ac wh_ mu k)) ∨ ((th2, ha2, ye2, p2, s2, w2) = rEnd (th, ha, ye, p, s, w) ac wh_ mu a.toNatClampNeg ∧ (m2, sa2, sw2) = rSw (th, ha, ye, p, s, w) ac wh_ mu a.toNatClampNeg ∧ b2 = rBad (th, ha, ye, p, s, w) ac wh_ mu a.toNatClampNeg ∧ y2 = rWhy (th, ha, ye, p, s, w) ac wh_ mu a.toNatClampNeg ∧ 0 ≤ b2))) ok_X9_whyNot ok_X9_goOne (by
  rintro th ha ye a m0 b0 y0 sa0 sw0 ac mu p s wh_ w ⟨hS, N, hN, rfl, hA⟩
  rw [cl N (by omega)]
  generalize hσ : (th, ha, ye, p, s, w) = σ at *
  have hσ2 : okσ σ := by rw [← hσ]; exact hS
  refine ⟨⟨N + 1, 0, by omega, rfl, Or.inl ⟨Nat.zero_le _, rfl, rfl, rfl, rfl, rfl, hσ2⟩⟩, ?_⟩
  rintro n i th2 ha2 ye2 m2 sa2 sw2 p2 s2 w2 y2 b2 ⟨k, hk, rfl, hI⟩
  have fin : ∀ J, (th2, ha2, ye2, p2, s2, w2) = runD σ ac wh_ mu J → J = N → J = k → rJ σ ac wh_ mu N = k → (m2, sa2, sw2) = swD σ ac wh_ mu k → b2 = -6 → y2 = -6 → (th2, ha2, ye2, p2, s2, w2) = rEnd σ ac wh_ mu N ∧ (m2, sa2, sw2) = rSw σ ac wh_ mu N ∧ b2 = rBad σ ac wh_ mu N ∧ y2 = rWhy σ ac wh_ mu N := by
    rintro J e1 rfl rfl e4 e5 rfl rfl
    refine ⟨by unfold rEnd; rw [e4]; exact e1, by unfold rSw; rw [e4]; exact e5, by unfold rBad; rw [if_pos e4], by unfold rWhy; rw [if_pos e4]⟩
  refine ⟨fun h => ?_, fun h => ⟨fun h2 => ?_, fun h2 => ?_⟩⟩
  · rcases hI with ⟨h1, h2, h3, h4, h5, h6, -⟩ | ⟨h1, h2, h3, h4, -⟩
    · have := (nI_leI (by omega) (by omega)).mp h
      obtain rfl : k = N := by omega
      refine fin k h4 rfl rfl ?_ h5 h2 h3
      rw [← h6, Nat.sub_self]
      rfl
    · exact ⟨h1, h2, h3, h4⟩
  · rcases hI with ⟨h1, h3, -⟩ | ⟨h1, h3, h4, h5, -⟩
    · rw [h3] at h2
      exact absurd h2 (by decide)
    · exact ⟨h1, h3, h4, h5⟩
  · rcases hI with ⟨h1, rfl, rfl, h4, h5, h6, h7⟩ | ⟨-, -, -, -, h5⟩
    rotate_left
    · exact absurd h5 h2
    have hlt : k < N := by
      have := (not_congr (nI_leI (a := N) (b := k) (by omega) (by omega))).mp h
      omega
    have hv : vp_in (nI k) 60 := vp_in_nI (by omega) (by decide)
    have kc : (nI k).toNatClampNeg = k := cl k (by omega)
    rw [kc]
    obtain ⟨aA, aV⟩ := hA k hlt
    have e7 : okσ (th2, ha2, ye2, p2, s2, w2) := by rw [h4]; exact h7
    obtain ⟨s1, s2', s3, s4, s5, s6, s7, s8, s9⟩ := id e7
    have hy : ye2 ≤ 99 := by
      have := rng_le s3 (by decide)
      rw [Int32.le_iff_toInt_le]
      have e9 : (99 : Int32).toInt = 99 := by decide
      simp only [dY] at this
      omega
    refine ⟨hv, hv, hv, ⟨aA, s1, hy, s6⟩, ?_⟩
    have hwd : why th2 ha2 ye2 w2 (ac k) (wh_ k) (mu k) = whD σ ac wh_ mu k := by
      unfold whD
      rw [← h4]
      rfl
    rintro r rfl
    obtain ⟨cw, hcw, ew⟩ := why_nn th2 ha2 ye2 w2 (ac k) (wh_ k) (mu k)
    obtain ⟨cs, g1, g2, g3, g4⟩ := swD_inv σ ac wh_ mu k
    rw [← h5] at g2 g3 g4
    have hswc : okA (ac k) (wh_ k) (mu k) := aA
    have pre1 : vp_in (nI k) 60 ∧ okA (ac k) (wh_ k) (mu k) ∧ pat s2 ∧ ∃ c, c < 1000 ∧ m2 = nI c := by
      exact ⟨hv, aA, s5, cs, by omega, g2⟩
    -- an act that can be
    have good : why th2 ha2 ye2 w2 (ac k) (wh_ k) (mu k) = 0 → ∀ (th3 ha3 ye3 m3 sa3 sw3 : Int32) (p3 s3 w3 : Nat → Int32), ((th3, ha3, ye3, p3, s3, w3) = stp (th2, ha2, ye2, p2, s2, w2) (ac k) (wh_ k) (mu k) ∧ (swb w2 (ac k) (wh_ k) (mu k) = true → m3 = m2 + (1 : Int32) ∧ (sa2 < 0 → sa3 = nI k ∧ sw3 = wh_ k) ∧ (¬ sa2 < 0 → sa3 = sa2 ∧ sw3 = sw2)) ∧ (swb w2 (ac k) (wh_ k) (mu k) = false → m3 = m2 ∧ sa3 = sa2 ∧ sw3 = sw2)) → ∀ x : Int32, x = nI k + (1 : Int32) → ∃ n1, n1 < n ∧ ∃ k1, k1 + n1 = N + 1 ∧ x = nI k1 ∧ ((k1 ≤ N ∧ (-6 : Int32) = -6 ∧ (-6 : Int32) = -6 ∧ (th3, ha3, ye3, p3, s3, w3) = runD σ ac wh_ mu k1 ∧ (m3, sa3, sw3) = swD σ ac wh_ mu k1 ∧ goJ σ ac wh_ mu (N - k1) k1 = rJ σ ac wh_ mu N ∧ okσ (runD σ ac wh_ mu k1)) ∨ ((th3, ha3, ye3, p3, s3, w3) = rEnd σ ac wh_ mu N ∧ (m3, sa3, sw3) = rSw σ ac wh_ mu N ∧ (-6 : Int32) = rBad σ ac wh_ mu N ∧ (-6 : Int32) = rWhy σ ac wh_ mu N ∧ (0 : Int32) ≤ -6)) := by
      rintro hw th3 ha3 ye3 m3 sa3 sw3 p3 s3 w3 ⟨q1, q2, q3⟩ x rfl
      rw [hwd] at hw
      have er : runD σ ac wh_ mu (k + 1) = stp (th2, ha2, ye2, p2, s2, w2) (ac k) (wh_ k) (mu k) := by
        show stp _ _ _ _ = _
        rw [h4]
      have ed : dW (runD σ ac wh_ mu k) = w2 := by rw [← h4]
      refine ⟨n - 1, by omega, k + 1, by omega, nI_1 k, Or.inl ⟨by omega, rfl, rfl, by rw [q1, er], ?_, ?_, ?_⟩⟩
      · show _ = (if swb (dW (runD σ ac wh_ mu k)) (ac k) (wh_ k) (mu k) = true then ((swD σ ac wh_ mu k).1 + 1, if (swD σ ac wh_ mu k).1 = 0 then nI k else (swD σ ac wh_ mu k).2.1, if (swD σ ac wh_ mu k).1 = 0 then wh_ k else (swD σ ac wh_ mu k).2.2) else swD σ ac wh_ mu k)
        rw [ed, ← h5]
        cases e : swb w2 (ac k) (wh_ k) (mu k)
        · obtain ⟨rfl, rfl, rfl⟩ := q3 e
          rw [if_neg (by decide)]
        · obtain ⟨rfl, z1, z2⟩ := q2 e
          rw [if_pos rfl]
          show _ = (m2 + 1, if m2 = 0 then nI k else sa2, if m2 = 0 then wh_ k else sw2)
          by_cases z : cs = 0
          · have hm2 : m2 = 0 := by
              have g2' : m2 = nI cs := g2
              rw [g2', z]
              rfl
            have hsa : sa2 = -6 := g3 z
            obtain ⟨rfl, rfl⟩ := z1 (by rw [hsa]; decide)
            rw [if_pos hm2, if_pos hm2]
          · have hm2 : ¬ m2 = 0 := by
              have g2' : m2 = nI cs := g2
              rw [g2']
              exact nI_ne0 (by omega) (by omega)
            obtain ⟨t, ht, e3⟩ := g4 (by omega)
            have e3' : sa2 = nI t := e3
            obtain ⟨rfl, rfl⟩ := z2 (by rw [e3']; exact nI_pos (by omega))
            rw [if_neg hm2, if_neg hm2]
      · rw [← h6, goJ_go (by omega) hw]
        congr 1
      · rw [er]
        exact act_ok e7 aA.1 aV (by rw [hwd]; exact hw)
    have stop : ¬ why th2 ha2 ye2 w2 (ac k) (wh_ k) (mu k) = 0 → rJ σ ac wh_ mu N = k := by
      intro hw
      rw [hwd] at hw
      rw [← h6, goJ_stop hw]
    have bad : ¬ why th2 ha2 ye2 w2 (ac k) (wh_ k) (mu k) = 0 → ∀ x : Int32, x = nI k + (1 : Int32) → ∃ n1, n1 < n ∧ ∃ k1, k1 + n1 = N + 1 ∧ x = nI k1 ∧ ((k1 ≤ N ∧ nI k = -6 ∧ why th2 ha2 ye2 w2 (ac k) (wh_ k) (mu k) = -6 ∧ (th2, ha2, ye2, p2, s2, w2) = runD σ ac wh_ mu k1 ∧ (m2, sa2, sw2) = swD σ ac wh_ mu k1 ∧ goJ σ ac wh_ mu (N - k1) k1 = rJ σ ac wh_ mu N ∧ okσ (runD σ ac wh_ mu k1)) ∨ ((th2, ha2, ye2, p2, s2, w2) = rEnd σ ac wh_ mu N ∧ (m2, sa2, sw2) = rSw σ ac wh_ mu N ∧ nI k = rBad σ ac wh_ mu N ∧ why th2 ha2 ye2 w2 (ac k) (wh_ k) (mu k) = rWhy σ ac wh_ mu N ∧ (0 : Int32) ≤ nI k)) := by
      rintro hw x rfl
      have e := stop hw
      refine ⟨n - 1, by omega, k + 1, by omega, nI_1 k, Or.inr ⟨by unfold rEnd; rw [e]; exact h4, by unfold rSw; rw [e]; exact h5, by unfold rBad; rw [e, if_neg (by omega)], by unfold rWhy; rw [e, if_neg (by omega)]; exact hwd, nI_pos' (by omega)⟩⟩
    have c0 : ∀ {c : Nat}, c < 7 → (nI c ≤ (0 : Int32) ↔ c = 0) := by decide
    have c0' : ∀ {c : Nat}, c < 7 → (nI c = (0 : Int32) ↔ c = 0) := by decide
    have w0 : why th2 ha2 ye2 w2 (ac k) (wh_ k) (mu k) ≤ 0 ↔ why th2 ha2 ye2 w2 (ac k) (wh_ k) (mu k) = 0 := by
      rw [ew, c0 hcw, c0' hcw]
    refine ⟨fun g => ⟨fun g' => ⟨fun z => absurd (w0.mp g) z, fun z => ⟨pre1, good z⟩⟩, fun g' => absurd g g'⟩, fun g => ⟨fun g' => absurd g' g, fun g' => ⟨fun z => bad z, fun z => absurd (w0.mpr z) g⟩⟩⟩)
end OK8
