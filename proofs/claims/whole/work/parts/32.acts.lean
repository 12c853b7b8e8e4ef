/-! Acts: what each is, for the class and the reference alike. -/
theorem zadd (x : Int32) : x + (0 : Int32) = x := by simp
/-- stitches in all -/
def sIA (th : Int32) (s : Nat → Int32) : Nat → Int32
  | 0 => 0
  | k + 1 => if hs th (nI k) = true then sIA th s k + pc (s k) else sIA th s k
/-- how many have some of a set -/
def hSo (th : Int32) (s : Nat → Int32) (z : Int32) : Nat → Int32
  | 0 => 0
  | k + 1 => if hs th (nI k) = true ∧ ¬ (s k &&& z) = 0 then hSo th s z k + 1 else hSo th s z k
/-- a pattern without its highest stitch -/
def whf (x : Int32) : Int32 := if hs x 7 = true then x ^^^ 128 else if hs x 6 = true then x ^^^ 64 else if hs x 5 = true then x ^^^ 32 else if hs x 4 = true then x ^^^ 16 else if hs x 3 = true then x ^^^ 8 else if hs x 2 = true then x ^^^ 4 else if hs x 1 = true then x ^^^ 2 else if hs x 0 = true then x ^^^ 1 else x
set_option maxRecDepth 100000 in
theorem whf_rng : ∀ n, n < 256 → ∃ m, m < 256 ∧ whf (nI n) = nI m := by
  have h : ∀ n, n < 256 → (whf (nI n)).toNatClampNeg < 256 ∧ whf (nI n) = nI (whf (nI n)).toNatClampNeg := by decide +kernel
  exact fun n hn => ⟨_, (h n hn).1, (h n hn).2⟩
/-- one hassock's part of a year: hair, stitches, wool, when it is there -/
def yrH (ha : Int32) (w : Nat → Int32) (k : Nat) : Int32 := if w k < (20 : Int32) then ha else if w k < (50 : Int32) then ha else mn (999 : Int32) (ha + (1 : Int32))
def yrS (s w : Nat → Int32) (k : Nat) : Nat → Int32 := if w k < (20 : Int32) then upd s k (whf (s k)) else s
def yrW (w : Nat → Int32) (k : Nat) : Nat → Int32 := if w k < (20 : Int32) then w else if w k < (50 : Int32) then w else upd w k (w k - (1 : Int32))
/-- a year over the first n: hair, stitches, wool -/
def yr (th ha : Int32) (s w : Nat → Int32) : Nat → Int32 × (Nat → Int32) × (Nat → Int32)
  | 0 => (ha, s, w)
  | k + 1 => if hs th (nI k) = true then (yrH (yr th ha s w k).1 (yr th ha s w k).2.2 k, yrS (yr th ha s w k).2.1 (yr th ha s w k).2.2 k, yrW (yr th ha s w k).2.2 k) else yr th ha s w k
/-- knees: wool, and who are there -/
def knW (w : Nat → Int32) (k n : Int32) : Nat → Int32 := upd w k.toNatClampNeg (w k.toNatClampNeg - (3 : Int32) * n)
def knT (th : Int32) (w : Nat → Int32) (k n : Int32) : Int32 := if 0 < w k.toNatClampNeg - (3 : Int32) * n then th else awy th k
/-- why an act can not be -/
def why (th ha ye : Int32) (w : Nat → Int32) (a k v : Int32) : Int32 :=
  if a = 6 then (if ye < 99 then 0 else 6)
  else if thr th k = false then 1
  else if a = 1 then (if (5 : Int32) ≤ ha then (if w k.toNatClampNeg < 99 then 0 else 3) else 2)
  else if a = 3 ∨ a = 4 then (if thr th v = false then 1 else if k = v then 4 else 0)
  else if a = 5 then (if pc th = 1 then 5 else 0)
  else 0
/-- what an act that can be does: who are there, hair, year, places, stitches, wool -/
def acT (th : Int32) (w : Nat → Int32) (a k v : Int32) : Int32 := if a = 0 then knT th w k v else if a = 3 then awy th v else if a = 5 then awy th k else th
def acH (th ha : Int32) (s w : Nat → Int32) (a : Int32) : Int32 := if a = 1 then ha - (5 : Int32) else if a = 5 then mn (999 : Int32) (ha + (10 : Int32)) else if a = 6 then (yr th ha s w 10).1 else ha
def acY (ye a : Int32) : Int32 := if a = 6 then ye + (1 : Int32) else ye
def acP (p : Nat → Int32) (a k v : Int32) : Nat → Int32 := if a = 4 then chg p k v else p
def acS (th ha : Int32) (s w : Nat → Int32) (a k v : Int32) : Nat → Int32 := if a = 2 then upd s k.toNatClampNeg (s k.toNatClampNeg ^^^ ((1 : Int32) <<< (v &&& 31))) else if a = 3 then upd s k.toNatClampNeg (s k.toNatClampNeg ||| s v.toNatClampNeg) else if a = 6 then (yr th ha s w 10).2.1 else s
def acW (th ha : Int32) (s w : Nat → Int32) (a k v : Int32) : Nat → Int32 := if a = 0 then knW w k v else if a = 1 then upd w k.toNatClampNeg (mn (99 : Int32) (w k.toNatClampNeg + (20 : Int32))) else if a = 3 then upd w k.toNatClampNeg (mn (99 : Int32) (w k.toNatClampNeg + w v.toNatClampNeg)) else if a = 6 then (yr th ha s w 10).2.2 else w
/-- acts' kinds -/
def isK (a : Int32) : Prop := a = 0 ∨ a = 1 ∨ a = 2 ∨ a = 3 ∨ a = 4 ∨ a = 5 ∨ a = 6
/-- what an act's numbers are, when it may be done -/
def okA (a k v : Int32) : Prop := isK a ∧ (a = 6 ∨ (isH k = true ∧ (a = 3 ∨ a = 4 → isH v = true)))
/-- stitches are patterns -/
def pat (s : Nat → Int32) : Prop := ∀ k, k < 10 → rng 256 (s k)
theorem pat_upd {s : Nat → Int32} {k : Nat} {x : Int32} (h : pat s) (hx : rng 256 x) : pat (upd s k x) := by
  intro j hj
  by_cases e : j = k
  · subst e
    rw [upd_s]
    exact hx
  · rw [upd_n e]
    exact h j hj
theorem yr_pat {th ha : Int32} {s w : Nat → Int32} (h : pat s) : ∀ n, n ≤ 10 → pat (yr th ha s w n).2.1 := by
  intro n
  induction n with
  | zero => exact fun _ => h
  | succ k ih =>
    intro hk
    have h1 := ih (by omega)
    show pat (if hs th (nI k) = true then _ else yr th ha s w k).2.1
    split
    · show pat (yrS _ _ k)
      unfold yrS
      split
      · refine pat_upd h1 ?_
        obtain ⟨n, hn, e⟩ := h1 k (by omega)
        rw [e]
        exact whf_rng n hn
      · exact h1
    · exact h1
section OK3
variable {l : Launch} {D : va_G} {cI cZ : ClassId}
theorem ok_X1_stitchesInAll : KX1_stitchesInAll l D cI cZ (fun _ _ => True) (fun th s r => r = sIA th s 10) := walkX1_stitchesInAll (IX1_stitchesInAll_4 := fun th s n c i => ∃ k, k + n = 10 ∧ i = nI k ∧ c = sIA th s k) ok_X8_isIn ok_bitCount (by
  rintro th s -
  refine ⟨⟨10, 0, rfl, rfl, rfl⟩, ?_⟩
  rintro n i c ⟨k, hk, rfl, rfl⟩
  refine ⟨fun h => ?_, fun h => ?_⟩
  · obtain ⟨rfl, -⟩ := c10e hk h
    rfl
  · obtain ⟨h10, hn⟩ := c10 hk h
    refine ⟨trivial, ?_⟩
    rintro r rfl
    refine ⟨fun h2 => ?_, fun h2 => ⟨in10 h10, trivial, ?_⟩⟩
    · rw [bi_0] at h2
      rintro x rfl
      exact ⟨n - 1, by omega, k + 1, by omega, nI_1 k, by simp [sIA, h2]⟩
    · rw [bi_n0] at h2
      rintro r rfl x rfl x rfl
      exact ⟨n - 1, by omega, k + 1, by omega, nI_1 k, by simp [sIA, h2, cl10 h10]⟩)
theorem ok_X9_allStitches : KX9_allStitches l D cI cZ (fun _ s => pat s) (fun th s r => r = sIA th s 10) := walkX9_allStitches (IX9_allStitches_4 := fun th s n c i => ∃ k, k + n = 10 ∧ i = nI k ∧ c = sIA th s k) ok_X9_has ok_X9_ones (by
  rintro th s hs0
  refine ⟨⟨10, 0, rfl, rfl, rfl⟩, ?_⟩
  rintro n c i ⟨k, hk, rfl, rfl⟩
  refine ⟨fun h => ?_, fun h => ?_⟩
  · obtain ⟨rfl, -⟩ := c10e hk h
    rfl
  · obtain ⟨h10, hn⟩ := c10 hk h
    refine ⟨trivial, ?_⟩
    rintro r rfl
    refine ⟨fun h2 => ?_, fun h2 => ⟨in10 h10, ?_, ?_⟩⟩
    · rw [bi_0] at h2
      rintro x rfl x rfl
      exact ⟨n - 1, by omega, k + 1, by omega, nI_1 k, by simp [sIA, h2]⟩
    · rw [cl10 h10]
      exact rng_mono (hs0 k h10) (by decide)
    · rw [bi_n0] at h2
      rintro r rfl x rfl x rfl
      exact ⟨n - 1, by omega, k + 1, by omega, nI_1 k, by simp [sIA, h2, cl10 h10]⟩)
theorem ok_X1_howManyHaveSome : KX1_howManyHaveSome l D cI cZ (fun _ _ _ => True) (fun z th s r => r = hSo th s z 10) := walkX1_howManyHaveSome (IX1_howManyHaveSome_4 := fun z th s n p c i => ∃ k, k + n = 10 ∧ i = nI k ∧ c = hSo th s z k ∧ p = z) ok_X8_isIn (by
  rintro z th s -
  refine ⟨⟨10, 0, rfl, rfl, rfl, rfl⟩, ?_⟩
  rintro n i c ⟨k, hk, rfl, rfl, -⟩
  refine ⟨fun h => ?_, fun h => ?_⟩
  · obtain ⟨rfl, -⟩ := c10e hk h
    rfl
  · obtain ⟨h10, hn⟩ := c10 hk h
    refine ⟨trivial, ?_⟩
    rintro r rfl
    refine ⟨fun h2 => ?_, fun h2 => ⟨in10 h10, fun h3 => ?_, fun h3 => ?_⟩⟩
    · rw [bi_0] at h2
      rintro x rfl
      exact ⟨n - 1, by omega, k + 1, by omega, nI_1 k, by simp [hSo, h2], rfl⟩
    · rw [cl10 h10] at h3
      rintro x rfl
      exact ⟨n - 1, by omega, k + 1, by omega, nI_1 k, by simp [hSo, h3], rfl⟩
    · rw [bi_n0] at h2
      rw [cl10 h10] at h3
      rintro x rfl x rfl
      exact ⟨n - 1, by omega, k + 1, by omega, nI_1 k, by simp [hSo, h2, h3], rfl⟩)
set_option maxRecDepth 100000 in
theorem whf_X1 : ∀ n, n < 256 → ∀ j, j < 8 → (∀ i, i < 8 → j < i → hs (nI n) (nI i) = false) → hs (nI n) (nI j) = true → nI n ^^^ ((1 : Int32) <<< (nI j &&& 31)) = whf (nI n) := by decide +kernel
set_option maxRecDepth 100000 in
theorem whf_X1e : ∀ n, n < 256 → (∀ i, i < 8 → hs (nI n) (nI i) = false) → nI n = whf (nI n) := by decide +kernel
theorem ok_X1_withoutHighest : KX1_withoutHighest l D cI cZ (fun x => rng 256 x) (fun x r => r = whf x) := walkX1_withoutHighest (IX1_withoutHighest_3 := fun x n p i => p = x ∧ ∃ k, k ≤ 8 ∧ n = k ∧ i = nI k - 1 ∧ ∀ j, j < 8 → k ≤ j → hs x (nI j) = false) ok_X8_isIn (by
  rintro x ⟨a, ha, rfl⟩
  refine ⟨⟨8, rfl, 8, by omega, rfl, by decide, fun j h1 h2 => by omega⟩, ?_⟩
  rintro n i ⟨-, k, hk, rfl, rfl, hj⟩
  refine ⟨fun h => ?_, fun h => ⟨trivial, ?_⟩⟩
  · have h0 : n = 0 := by
      rcases Nat.eq_zero_or_pos n with q | q
      · exact q
      · obtain ⟨m, rfl⟩ : ∃ m, n = m + 1 := ⟨n - 1, by omega⟩
        rw [nI_pred] at h
        exact absurd h (nI_pos (by omega))
    subst h0
    exact whf_X1e a ha (fun j h1 => hj j h1 (Nat.zero_le _))
  · have h0 : 0 < n := by
      rcases Nat.eq_zero_or_pos n with q | q
      · subst q
        exact absurd (by decide) h
      · exact q
    obtain ⟨m, rfl⟩ : ∃ m, n = m + 1 := ⟨n - 1, by omega⟩
    rw [nI_pred]
    rintro r rfl
    refine ⟨fun h2 => ?_, fun h2 => ?_⟩
    · rw [bi_0] at h2
      rintro x rfl
      refine ⟨m, by omega, rfl, m, by omega, rfl, ?_, fun j h3 h4 => ?_⟩
      · show nI m + (-1) = nI m - 1
        rw [Int32.sub_eq_add_neg]
      · rcases Nat.lt_or_ge m j with q | q
        · exact hj j h3 (by omega)
        · have : j = m := by omega
          subst this
          exact h2
    · rw [bi_n0] at h2
      exact whf_X1 a ha m (by omega) (fun j h3 h4 => hj j h3 (by omega)) h2)
end OK3
