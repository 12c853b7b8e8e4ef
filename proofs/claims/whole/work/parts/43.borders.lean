/-! Borders. -/
/-- who stands at a place, of the first k: the last of them -/
def wat (th : Int32) (p : Nat → Int32) (q : Int32) : Nat → Int32
  | 0 => -6
  | k + 1 => if p k = q ∧ hs th (nI k) = true then nI k else wat th p q k
def bl (th : Int32) (p : Nat → Int32) : Nat → Int32
  | 0 => -6
  | k + 1 => if wat th p (nI k) 10 = -6 then bl th p k else wat th p (nI k) 10
def bs (th : Int32) (p s : Nat → Int32) : Nat → Int32
  | 0 => 0
  | k + 1 => if wat th p (nI k) 10 = -6 then bs th p s k else if bl th p k = -6 then bs th p s k else bs th p s k + pc (s (bl th p k).toNatClampNeg ^^^ s (wat th p (nI k) 10).toNatClampNeg)
theorem wat_or (th : Int32) (p : Nat → Int32) (q : Int32) : ∀ k, k ≤ 10 → (wat th p q k = -6 ∨ ∃ h, h < 10 ∧ wat th p q k = nI h) := by
  intro k
  induction k with
  | zero => exact fun _ => Or.inl rfl
  | succ k ih =>
    intro hk
    show (if p k = q ∧ hs th (nI k) = true then nI k else wat th p q k) = -6 ∨ ∃ h, h < 10 ∧ (if p k = q ∧ hs th (nI k) = true then nI k else wat th p q k) = nI h
    split
    · exact Or.inr ⟨k, by omega, rfl⟩
    · exact ih (by omega)
theorem bl_or (th : Int32) (p : Nat → Int32) : ∀ k, (bl th p k = -6 ∨ ∃ h, h < 10 ∧ bl th p k = nI h) := by
  intro k
  induction k with
  | zero => exact Or.inl rfl
  | succ k ih =>
    show (if wat th p (nI k) 10 = -6 then bl th p k else wat th p (nI k) 10) = -6 ∨ ∃ h, h < 10 ∧ (if wat th p (nI k) 10 = -6 then bl th p k else wat th p (nI k) 10) = nI h
    split
    · exact ih
    · exact wat_or th p (nI k) 10 (Nat.le_refl 10)
theorem wat_none {th : Int32} {p : Nat → Int32} {q : Int32} : ∀ k, (∀ h, h < k → ¬ (p h = q ∧ hs th (nI h) = true)) → wat th p q k = -6 := by
  intro k
  induction k with
  | zero => exact fun _ => rfl
  | succ k ih =>
    intro h
    show (if p k = q ∧ hs th (nI k) = true then nI k else wat th p q k) = -6
    rw [if_neg (h k (by omega))]
    exact ih (fun j hj => h j (by omega))
theorem wat_one {th : Int32} {p : Nat → Int32} {q : Int32} {h : Nat} (h1 : p h = q ∧ hs th (nI h) = true) : ∀ k, h < k → (∀ j, j < k → p j = q → j = h) → wat th p q k = nI h := by
  intro k
  induction k with
  | zero => exact fun q => absurd q (by omega)
  | succ k ih =>
    intro hk hj
    show (if p k = q ∧ hs th (nI k) = true then nI k else wat th p q k) = nI h
    by_cases e : k = h
    · subst e
      rw [if_pos h1]
    · rw [if_neg (fun z => e (hj k (by omega) z.1))]
      exact ih (by omega) (fun j z => hj j (by omega))
theorem xor_comm32 (a b : Int32) : a ^^^ b = b ^^^ a := by
  apply Int32.toBitVec_inj.mp
  simp [BitVec.xor_comm]
theorem pat_n6 {s : Nat → Int32} (h : pat s) {k : Nat} (hk : k < 10) : ¬ s k = -6 := by
  obtain ⟨n, hn, e⟩ := h k hk
  rw [e]
  exact nI_n6 (by omega)
section OK13
variable {l : Launch} {D : va_G} {cI cZ : ClassId}
theorem ok_X1_whoIsAt : KX1_whoIsAt l D cI cZ (fun _ _ p => prm p) (fun q th p r => r = wat th p q 10) := walkX1_whoIsAt (IX1_whoIsAt_2 := fun q th p n q2 i => q2 = q ∧ ∃ k, k + n = 10 ∧ i = nI k ∧ ∀ h, h < k → ¬ (p h = q ∧ hs th (nI h) = true)) ok_X8_isIn (by
  rintro q th p hp
  refine ⟨⟨10, rfl, 0, rfl, rfl, fun h hh => absurd hh (Nat.not_lt_zero _)⟩, ?_⟩
  rintro n i ⟨-, k, hk, rfl, hn⟩
  refine ⟨fun h => ?_, fun h => ?_⟩
  · obtain ⟨rfl, -⟩ := c10e hk h
    exact (wat_none 10 hn).symm
  · obtain ⟨h10, hn0⟩ := c10 hk h
    rw [cl10 h10]
    have next : ¬ (p k = q ∧ hs th (nI k) = true) → ∀ x : Int32, x = nI k + (1 : Int32) → ∃ n1, n1 < n ∧ q = q ∧ ∃ k1, k1 + n1 = 10 ∧ x = nI k1 ∧ ∀ h, h < k1 → ¬ (p h = q ∧ hs th (nI h) = true) := by
      rintro z x rfl
      refine ⟨n - 1, by omega, rfl, k + 1, by omega, nI_1 k, fun j hj => ?_⟩
      by_cases e : j = k
      · subst e
        exact z
      · exact hn j (by omega)
    refine ⟨in10 h10, fun h2 => next (fun z => h2 z.1), fun h2 => ⟨trivial, ?_⟩⟩
    rintro r rfl
    refine ⟨fun h3 => next (fun z => by rw [bi_0.mp h3] at z; cases z.2), fun h3 => ?_⟩
    rw [bi_n0] at h3
    exact (wat_one ⟨h2, h3⟩ 10 h10 (fun j hj e => (hp k h10).2 j hj (by rw [e, h2]))).symm)
theorem ok_X1_bordersInPlaces : KX1_bordersInPlaces l D cI cZ (fun _ p s => prm p ∧ pat s) (fun th p s r => r = bs th p s 10) := walkX1_bordersInPlaces (IX1_bordersInPlaces_7 := fun th p s n c b i => ∃ k, k + n = 10 ∧ i = nI k ∧ c = bs th p s k ∧ b = (if bl th p k = -6 then -6 else s (bl th p k).toNatClampNeg)) ok_X1_whoIsAt ok_bitCount (by
  rintro th p s ⟨hp, hs0⟩
  refine ⟨⟨10, 0, rfl, rfl, rfl, rfl⟩, ?_⟩
  rintro n i c b ⟨k, hk, rfl, rfl, rfl⟩
  refine ⟨fun h => ?_, fun h => ⟨hp, ?_⟩⟩
  · obtain ⟨rfl, -⟩ := c10e hk h
    rfl
  · obtain ⟨h10, hn0⟩ := c10 hk h
    rintro r rfl
    have e1 : bs th p s (k + 1) = (if wat th p (nI k) 10 = -6 then bs th p s k else if bl th p k = -6 then bs th p s k else bs th p s k + pc (s (bl th p k).toNatClampNeg ^^^ s (wat th p (nI k) 10).toNatClampNeg)) := rfl
    have e2 : bl th p (k + 1) = (if wat th p (nI k) 10 = -6 then bl th p k else wat th p (nI k) 10) := rfl
    refine ⟨fun h2 => ?_, fun h2 => ?_⟩
    · rintro x rfl
      refine ⟨n - 1, by omega, k + 1, by omega, nI_1 k, ?_, ?_⟩
      · rw [e1, if_pos h2]
      · rw [e2, if_pos h2]
    · obtain ⟨j, hj, ej⟩ : ∃ h, h < 10 ∧ wat th p (nI k) 10 = nI h := by
        rcases wat_or th p (nI k) 10 (Nat.le_refl 10) with q | q
        · exact absurd q h2
        · exact q
      have hvj : vp_in (wat th p (nI k) 10) 10 := by
        rw [ej]
        exact in10 hj
      have hnj : ¬ (nI j = (-6 : Int32)) := nI_n6 (by omega)
      refine ⟨fun h3 => ⟨hvj, trivial, ?_⟩, fun h3 => ?_⟩
      · rintro r rfl x rfl
        refine ⟨hvj, ?_⟩
        rintro y rfl z rfl
        have hbl : ¬ bl th p k = -6 := fun q => h3 (by rw [if_pos q])
        refine ⟨n - 1, by omega, k + 1, by omega, nI_1 k, ?_, ?_⟩
        · rw [e1, if_neg h2, if_neg hbl, if_neg hbl]
        · rw [e2, if_neg h2, if_neg h2]
      · rintro x rfl
        refine ⟨hvj, ?_⟩
        rintro y rfl z rfl
        have hbl : bl th p k = -6 := by
          rcases bl_or th p k with q | ⟨m, hm, q⟩
          · exact q
          · rw [if_neg (by rw [q]; exact nI_n6 (by omega)), q, cl10 hm] at h3
            exact absurd h3 (pat_n6 hs0 hm)
        refine ⟨n - 1, by omega, k + 1, by omega, nI_1 k, ?_, ?_⟩
        · rw [e1, if_neg h2, if_pos hbl, zadd]
        · rw [e2, if_neg h2, if_neg h2])
theorem ok_X8_borders : KX8_borders l D cI cZ (fun _ p s => prm p ∧ pat s) (fun th p s r => r = bs th p s 10) := walkX8_borders ok_X1_bordersInPlaces (by
  rintro th p s h
  refine ⟨h, ?_⟩
  rintro r rfl
  rfl)
theorem ok_X9_unlike : KX9_unlike l D cI cZ (fun a b s => isH a = true ∧ isH b = true ∧ pat s) (fun a b s r => r = pc (s a.toNatClampNeg ^^^ s b.toNatClampNeg)) := walkX9_unlike ok_X9_ones (by
  rintro a b s ⟨ha, hb, hp⟩
  refine ⟨isH_in ha, isH_in hb, ?_, ?_⟩
  · obtain ⟨i, hi, rfl⟩ := isH_nI ha
    obtain ⟨j, hj, rfl⟩ := isH_nI hb
    rw [cl10 hi, cl10 hj]
    exact rng_mono (rng_xor (k := 8) (hp i hi) (hp j hj)) (by decide)
  · rintro r rfl
    rfl)
theorem ok_X9_borders : KX9_borders l D cI cZ (fun _ _ s => pat s) (fun th p s r => r = bs th p s 10) := walkX9_borders (IX9_borders_7 := fun th p s n la c i => ∃ k, k + n = 10 ∧ i = nI k ∧ c = bs th p s k ∧ la = bl th p k) (IX9_borders_20 := fun th p s n la c i here k_ => ∃ h, h + n = 10 ∧ k_ = nI h ∧ here = wat th p i h) ok_X9_unlike ok_X9_has (by
  rintro th p s hs0
  refine ⟨⟨10, 0, rfl, rfl, rfl, rfl⟩, ?_⟩
  rintro n c i la ⟨k, hk, rfl, rfl, rfl⟩
  refine ⟨fun h => ?_, fun h => ⟨⟨10, 0, rfl, rfl, rfl⟩, ?_⟩⟩
  · obtain ⟨rfl, -⟩ := c10e hk h
    rfl
  · obtain ⟨h10, hn0⟩ := c10 hk h
    rintro n2 k_ here ⟨j, hj, rfl, rfl⟩
    have e1 : bs th p s (k + 1) = (if wat th p (nI k) 10 = -6 then bs th p s k else if bl th p k = -6 then bs th p s k else bs th p s k + pc (s (bl th p k).toNatClampNeg ^^^ s (wat th p (nI k) 10).toNatClampNeg)) := rfl
    have e2 : bl th p (k + 1) = (if wat th p (nI k) 10 = -6 then bl th p k else wat th p (nI k) 10) := rfl
    refine ⟨fun h2 => ?_, fun h2 => ?_⟩
    · obtain ⟨rfl, -⟩ := c10e hj h2
      have w6 : wat th p (nI k) 10 < 0 ↔ wat th p (nI k) 10 = -6 := by
        rcases wat_or th p (nI k) 10 (Nat.le_refl 10) with q | ⟨m, hm, q⟩
        · rw [q]; decide
        · rw [q]
          exact ⟨fun z => absurd z (nI_pos (by omega)), fun z => absurd z (nI_n6 (by omega))⟩
      have b6 : bl th p k < 0 ↔ bl th p k = -6 := by
        rcases bl_or th p k with q | ⟨m, hm, q⟩
        · rw [q]; decide
        · rw [q]
          exact ⟨fun z => absurd z (nI_pos (by omega)), fun z => absurd z (nI_n6 (by omega))⟩
      rw [w6, b6]
      refine ⟨fun h3 => ?_, fun h3 => ⟨fun h4 => ?_, fun h4 => ?_⟩⟩
      · rintro x rfl
        rw [zadd]
        refine ⟨fun _ => ?_, fun z => absurd h3 z⟩
        rintro x rfl
        exact ⟨n - 1, by omega, k + 1, by omega, nI_1 k, by rw [e1, if_pos h3], by rw [e2, if_pos h3]⟩
      · rintro x rfl
        rw [zadd]
        refine ⟨fun z => absurd z h3, fun _ => ?_⟩
        rintro x rfl
        exact ⟨n - 1, by omega, k + 1, by omega, nI_1 k, by rw [e1, if_neg h3, if_pos h4], by rw [e2, if_neg h3]⟩
      · obtain ⟨m, hm, q⟩ : ∃ h, h < 10 ∧ wat th p (nI k) 10 = nI h := by
          rcases wat_or th p (nI k) 10 (Nat.le_refl 10) with q | q
          · exact absurd q h3
          · exact q
        obtain ⟨m2, hm2, q2⟩ : ∃ h, h < 10 ∧ bl th p k = nI h := by
          rcases bl_or th p k with q | q
          · exact absurd q h4
          · exact q
        refine ⟨⟨by rw [q]; exact isH_of hm, by rw [q2]; exact isH_of hm2, hs0⟩, ?_⟩
        rintro r rfl x rfl
        refine ⟨fun z => absurd z h3, fun _ => ?_⟩
        rintro x rfl
        refine ⟨n - 1, by omega, k + 1, by omega, nI_1 k, ?_, by rw [e2, if_neg h3]⟩
        rw [e1, if_neg h3, if_neg h4, xor_comm32]
    · obtain ⟨hj10, hn2⟩ := c10 hj h2
      rw [cl10 hj10]
      have e3 : wat th p (nI k) (j + 1) = (if p j = nI k ∧ hs th (nI j) = true then nI j else wat th p (nI k) j) := rfl
      refine ⟨in10 hj10, fun h3 => ?_, fun h3 => ⟨trivial, ?_⟩⟩
      · rintro x rfl
        exact ⟨n2 - 1, by omega, j + 1, by omega, nI_1 j, by rw [e3, if_neg (fun z => h3 z.1)]⟩
      · rintro r rfl
        refine ⟨fun h4 => ?_, fun h4 => ?_⟩
        · rintro x rfl
          exact ⟨n2 - 1, by omega, j + 1, by omega, nI_1 j, by rw [e3, if_neg (fun z => by rw [bi_0.mp h4] at z; cases z.2)]⟩
        · rintro x rfl
          exact ⟨n2 - 1, by omega, j + 1, by omega, nI_1 j, by rw [e3, if_pos ⟨h3, bi_n0.mp h4⟩]⟩)
end OK13
