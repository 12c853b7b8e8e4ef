/-! Acts, done. -/
/-- wool keeps its bounds, who is there has some -/
def okW (th : Int32) (w : Nat → Int32) : Prop := ∀ j, j < 10 → (-100 : Int32) ≤ w j ∧ w j ≤ (99 : Int32) ∧ (hs th (nI j) = true → (1 : Int32) ≤ w j)
set_option maxRecDepth 100000 in
theorem bits_one : ∀ n, n < 1024 → ∀ j, j < 10 → n.testBit j = true → (pc (nI n) = 1 ↔ nI n = ((1 : Int32) <<< (nI j &&& 31))) := by decide +kernel
theorem one_left {th k : Int32} (ht : rng 1024 th) (hk : thr th k = true) : pc th = 1 ↔ th = ((1 : Int32) <<< (k &&& 31)) := by
  obtain ⟨n, hn, rfl⟩ := ht
  unfold thr at hk
  rw [Bool.and_eq_true] at hk
  obtain ⟨j, hj, rfl⟩ := isH_nI hk.1
  have h2 := hk.2
  rw [bits_hs n hn j hj] at h2
  exact bits_one n hn j hj h2
theorem thr_of {th k : Int32} (hk : isH k = true) : thr th k = hs th k := by simp [thr, hk]
theorem le_ne_lt {a b : Int32} (h : a ≤ b) : a < b ↔ ¬ a = b := by
  rw [Int32.lt_iff_toInt_lt]
  rw [Int32.le_iff_toInt_le] at h
  constructor
  · intro h1 h2
    subst h2
    omega
  · intro h1
    have : ¬ a.toInt = b.toInt := fun e => h1 (Int32.toInt_inj.mp e)
    omega
section OK4
variable {l : Launch} {D : va_G} {cI cZ : ClassId}
theorem ok_X1_whyNot : KX1_whyNot l D cI cZ (fun _ _ _ _ _ _ _ => True) (fun a k v th ha ye w r => r = why th ha ye w a k v) := walkX1_whyNot ok_X1_isThere ok_X1_howMany (by
  rintro a k v th ha ye w -
  repeat' first
    | exact trivial
    | (refine isH_in ?_)
    | (refine And.intro ?_ ?_)
    | (rintro _ rfl)
    | (intro _)
  all_goals simp_all [bi_0, bi_n0, why, thr]
  all_goals (intro hh_; exact absurd hh_ (i32_nle.mpr (by assumption))))
theorem ok_X9_whyNot : KX9_whyNot l D cI cZ (fun a k v th ha ye w => okA a k v ∧ rng 1024 th ∧ ye ≤ 99 ∧ okW th w) (fun a k v th ha ye w r => r = why th ha ye w a k v) := walkX9_whyNot ok_X9_has (by
  rintro a k v th ha ye w ⟨hA, ht, hy, hw⟩
  have hy2 := le_ne_lt hy
  obtain ⟨hA1, hA2⟩ := hA
  rcases hA2 with rfl | ⟨hk, hv⟩
  · repeat' first
      | exact trivial
      | (refine And.intro ?_ ?_)
      | (rintro _ rfl)
      | (intro _)
    all_goals simp_all [bi_0, bi_n0, why]
  · have hw2 : ∀ j : Int32, isH j = true → (w j.toNatClampNeg < 99 ↔ ¬ w j.toNatClampNeg = 99) := fun j hj => by
      obtain ⟨i, hi, rfl⟩ := isH_nI hj
      rw [cl10 hi]
      exact le_ne_lt (hw i hi).2.1
    have hw3 := hw2 k hk
    have e1 := thr_of (th := th) hk
    have e2 : hs th k = true → (pc th = 1 ↔ th = ((1 : Int32) <<< (k &&& 31))) := fun h => one_left ht (by rw [e1]; exact h)
    repeat' first
      | exact trivial
      | (refine isH_in ?_)
      | (refine And.intro ?_ ?_)
      | (rintro _ rfl)
      | (intro _)
    all_goals simp_all [bi_0, bi_n0, why, thr]
    all_goals (intro hh_; exact absurd hh_ (i32_nle.mpr (by assumption))))
theorem ok_X1_kneelOn : KX1_kneelOn l D cI cZ (fun k _ _ _ => isH k = true) (fun k n th w th2 w2 => th2 = knT th w k n ∧ w2 = knW w k n) := walkX1_kneelOn ok_X1_takeAway (by
  rintro k n th w hk
  refine ⟨isH_in hk, ?_⟩
  rintro x rfl
  refine ⟨isH_in hk, isH_in hk, fun h => ?_, fun h => ⟨trivial, ?_⟩⟩
  · rw [upd_s] at h
    exact ⟨by simp [knT, h], rfl⟩
  · rw [upd_s] at h
    rintro g rfl
    exact ⟨by simp [knT, h], rfl⟩)
theorem ok_X9_kneel : KX9_kneel l D cI cZ (fun k _ _ _ _ => isH k = true) (fun k n th m w th2 m2 w2 => th2 = knT th w k n ∧ m2 = (if 0 < w k.toNatClampNeg - (3 : Int32) * n then m else m + (1 : Int32)) ∧ w2 = knW w k n) := walkX9_kneel (by
  rintro k n th m w hk
  refine ⟨isH_in hk, ?_⟩
  rintro x rfl
  refine ⟨isH_in hk, isH_in hk, fun h => ?_, fun h => ?_⟩
  · rw [upd_s] at h
    exact ⟨by simp [knT, h], by simp [h], rfl⟩
  · rw [upd_s] at h
    rintro g rfl g2 rfl
    exact ⟨by simp [knT, h, awy], by simp [h], rfl⟩)
theorem ok_X9_withoutHighest : KX9_withoutHighest l D cI cZ (fun x => rng 256 x) (fun x r => r = whf x) := walkX9_withoutHighest (IX9_withoutHighest_4 := fun x n p b i => p = x ∧ ∃ k, k + n = 8 ∧ i = nI k ∧ ((b = 0 ∧ ∀ j, j < k → hs x (nI j) = false) ∨ ∃ t, t < k ∧ b = ((1 : Int32) <<< (nI t &&& 31)) ∧ hs x (nI t) = true ∧ ∀ j, j < k → t < j → hs x (nI j) = false)) ok_X9_has (by
  rintro x ⟨a, ha, rfl⟩
  refine ⟨⟨8, rfl, 0, rfl, rfl, Or.inl ⟨rfl, fun j h => by omega⟩⟩, ?_⟩
  rintro n i b ⟨-, k, hk, rfl, hb⟩
  refine ⟨fun h => ?_, fun h => ⟨trivial, ?_⟩⟩
  · have hk8 := (ctr_le (N := 8) (c := (8 : Int32)) rfl (by decide) (by omega)).mp h
    obtain rfl : k = 8 := by omega
    rcases hb with ⟨rfl, hb⟩ | ⟨t, ht, rfl, h1, h2⟩
    · rw [← whf_X1e a ha (fun j hj => hb j hj)]
      simp
    · rw [← whf_X1 a ha t ht (fun j hj hj2 => h2 j hj hj2) h1]
      have key : ∀ n, n < 256 → ∀ j, j < 8 → hs (nI n) (nI j) = true → nI n &&& (((1 : Int32) <<< (nI j &&& 31)) ^^^ (-1 : Int32)) = nI n ^^^ ((1 : Int32) <<< (nI j &&& 31)) := by decide +kernel
      exact key a ha t ht h1
  · have hk8 := (not_congr (ctr_le (N := 8) (c := (8 : Int32)) rfl (by decide) (by omega))).mp h
    rintro r rfl
    refine ⟨fun h2 => ?_, fun h2 => ?_⟩
    · rw [bi_0] at h2
      rintro x rfl
      refine ⟨n - 1, by omega, rfl, k + 1, by omega, nI_1 k, ?_⟩
      have ext : ∀ j, j < k + 1 → j < k ∨ j = k := fun j hj => by omega
      rcases hb with ⟨rfl, hb⟩ | ⟨t, ht, rfl, h1, h3⟩
      · refine Or.inl ⟨rfl, fun j hj => ?_⟩
        rcases ext j hj with q | rfl
        · exact hb j q
        · exact h2
      · refine Or.inr ⟨t, by omega, rfl, h1, fun j hj hj2 => ?_⟩
        rcases ext j hj with q | rfl
        · exact h3 j q hj2
        · exact h2
    · rw [bi_n0] at h2
      rintro x rfl x rfl
      exact ⟨n - 1, by omega, rfl, k + 1, by omega, nI_1 k, Or.inr ⟨k, by omega, rfl, h2, fun j hj hj2 => by omega⟩⟩)
theorem ok_X9_passOne : KX9_passOne l D cI cZ (fun k _ s _ => isH k = true ∧ pat s) (fun k ha s w ha2 s2 w2 => ha2 = yrH ha w k.toNatClampNeg ∧ s2 = yrS s w k.toNatClampNeg ∧ w2 = yrW w k.toNatClampNeg) := walkX9_passOne ok_X9_less ok_X9_withoutHighest (by
  rintro k ha s w ⟨hk, hp⟩
  have hv := isH_in hk
  have hr : rng 256 (s k.toNatClampNeg) := by
    obtain ⟨j, hj, rfl⟩ := isH_nI hk
    rw [cl10 hj]
    exact hp j hj
  refine ⟨hv, fun h => ⟨hv, fun h2 => ?_, fun h2 => ⟨hv, ?_⟩⟩, fun h => ⟨hv, hr, ?_⟩⟩
  · have h3 := i32_nlt.mpr h
    exact ⟨by simp [yrH, h3, h2], by simp [yrS, h3], by simp [yrW, h3, h2]⟩
  · have h3 := i32_nlt.mpr h
    rintro x rfl
    refine ⟨hv, trivial, ?_⟩
    rintro r rfl
    exact ⟨by simp [yrH, h3, h2], by simp [yrS, h3], by simp [yrW, h3, h2]⟩
  · have h3 := i32_nle.mp h
    rintro r rfl
    have h5 : w k.toNatClampNeg < (50 : Int32) := by
      rw [Int32.lt_iff_toInt_lt] at h3 ⊢
      have e1 : (20 : Int32).toInt = 20 := by decide
      have e2 : (50 : Int32).toInt = 50 := by decide
      omega
    refine ⟨hv, hv, fun h2 => ?_, fun h2 => absurd h5 h2⟩
    exact ⟨by simp [yrH, h3], by simp [yrS, h3], by simp [yrW, h3]⟩)
theorem ok_X9_passYear : KX9_passYear l D cI cZ (fun _ _ _ s _ => pat s) (fun th ha ye s w ha2 ye2 s2 w2 => ha2 = (yr th ha s w 10).1 ∧ ye2 = ye + (1 : Int32) ∧ s2 = (yr th ha s w 10).2.1 ∧ w2 = (yr th ha s w 10).2.2) := walkX9_passYear (IX9_passYear_2 := fun th ha ye s w n i ha2 ye2 s2 w2 => ∃ k, k + n = 10 ∧ i = nI k ∧ ha2 = (yr th ha s w k).1 ∧ ye2 = ye ∧ s2 = (yr th ha s w k).2.1 ∧ w2 = (yr th ha s w k).2.2) ok_X9_has ok_X9_passOne (by
  rintro th ha ye s w hp
  refine ⟨⟨10, 0, rfl, rfl, rfl, rfl, rfl, rfl⟩, ?_⟩
  rintro n i ha2 s2 w2 ⟨k, hk, rfl, rfl, -, rfl, rfl⟩
  refine ⟨fun h => ?_, fun h => ⟨trivial, ?_⟩⟩
  · obtain ⟨rfl, -⟩ := c10e hk h
    rintro x rfl
    exact ⟨rfl, rfl, rfl, rfl⟩
  · obtain ⟨h10, hn⟩ := c10 hk h
    rintro r rfl
    refine ⟨fun h2 => ?_, fun h2 => ⟨⟨isH_of h10, yr_pat hp k (by omega)⟩, ?_⟩⟩
    · rw [bi_0] at h2
      rintro x rfl
      exact ⟨n - 1, by omega, k + 1, by omega, nI_1 k, by simp [yr, h2], rfl, by simp [yr, h2], by simp [yr, h2]⟩
    · rw [bi_n0] at h2
      rintro g1 g2 g3 ⟨rfl, rfl, rfl⟩ x rfl
      rw [cl10 h10]
      exact ⟨n - 1, by omega, k + 1, by omega, nI_1 k, by simp [yr, h2], rfl, by simp [yr, h2], by simp [yr, h2]⟩)
theorem ok_X1_passYear : KX1_passYear l D cI cZ (fun _ _ _ s _ => pat s) (fun th ha ye s w ha2 ye2 s2 w2 => ha2 = (yr th ha s w 10).1 ∧ ye2 = ye + (1 : Int32) ∧ s2 = (yr th ha s w 10).2.1 ∧ w2 = (yr th ha s w 10).2.2) := walkX1_passYear (IX1_passYear_12 := fun th ha ye s w n i ha2 ye2 s2 w2 => ∃ k, k + n = 10 ∧ i = nI k ∧ ha2 = (yr th ha s w k).1 ∧ ye2 = ye + (1 : Int32) ∧ s2 = (yr th ha s w k).2.1 ∧ w2 = (yr th ha s w k).2.2) ok_X8_isIn ok_X1_withoutHighest (by
  rintro th ha ye s w hp x rfl
  refine ⟨⟨10, 0, rfl, rfl, rfl, rfl, rfl, rfl⟩, ?_⟩
  rintro n i ha2 w2 s2 ⟨k, hk, rfl, rfl, -, rfl, rfl⟩
  refine ⟨fun h => ?_, fun h => ⟨trivial, ?_⟩⟩
  · obtain ⟨rfl, -⟩ := c10e hk h
    exact ⟨rfl, rfl, rfl, rfl⟩
  · obtain ⟨h10, hn⟩ := c10 hk h
    have hv := in10 h10
    have hr := yr_pat (th := th) (ha := ha) (w := w) hp k (by omega) k h10
    rw [cl10 h10]
    rintro r rfl
    refine ⟨fun h2 => ⟨trivial, ?_⟩, fun h2 => ⟨hv, fun h3 => ⟨trivial, ?_⟩, fun h3 => ⟨hv, hr, ?_⟩⟩⟩
    · rw [bi_0] at h2
      rintro r rfl
      refine ⟨fun h4 => ?_, fun h4 => absurd (bi_0.mpr h2) h4⟩
      rintro x rfl
      exact ⟨n - 1, by omega, k + 1, by omega, nI_1 k, by simp [yr, h2], rfl, by simp [yr, h2], by simp [yr, h2]⟩
    · rw [bi_n0] at h2
      have h5 := i32_nlt.mpr h3
      rintro r rfl
      refine ⟨fun h4 => absurd h2 (by rw [bi_0.mp h4]; decide), fun h4 => ⟨hv, fun h6 => ?_, fun h6 => ⟨hv, ?_⟩⟩⟩
      · rintro x rfl
        exact ⟨n - 1, by omega, k + 1, by omega, nI_1 k, by simp [yr, h2, yrH, h5, h6], rfl, by simp [yr, h2, yrS, h5], by simp [yr, h2, yrW, h5, h6]⟩
      · rintro x rfl
        refine ⟨hv, ?_⟩
        rintro y rfl z rfl
        exact ⟨n - 1, by omega, k + 1, by omega, nI_1 k, by simp [yr, h2, yrH, h5, h6, mn_l], rfl, by simp [yr, h2, yrS, h5], by simp [yr, h2, yrW, h5, h6]⟩
    · rw [bi_n0] at h2
      have h5 := i32_nle.mp h3
      rintro r rfl
      refine ⟨hv, ?_⟩
      rintro x rfl
      exact ⟨n - 1, by omega, k + 1, by omega, nI_1 k, by simp [yr, h2, yrH, h5], rfl, by simp [yr, h2, yrS, h5], by simp [yr, h2, yrW, h5]⟩)
end OK4
