/-! Pure words: what single bits, bounds and counters say. -/
def bi (b : Bool) : Int32 := if b then 1 else 0
theorem bi_0 {b : Bool} : bi b = 0 ↔ b = false := by cases b <;> decide
theorem bi_n0 {b : Bool} : ¬ bi b = 0 ↔ b = true := by cases b <;> decide
theorem bi_1 {b : Bool} : bi b = 1 ↔ b = true := by cases b <;> decide
theorem bi_isB (b : Bool) : bi b = 0 ∨ bi b = 1 := by cases b <;> decide
/-- bit k of t -/
def hs (t k : Int32) : Bool := decide (((t >>> (k &&& 31)) &&& (1 : Int32)) = (1 : Int32))
/-- a hassock's number -/
def isH (k : Int32) : Bool := decide (¬ k < 0 ∧ ¬ (10 : Int32) ≤ k)
def wi (v lo hi : Int32) : Bool := decide (¬ v < lo ∧ ¬ hi < v)
/-- ones, as the library counts them -/
def pc1 (x : Int32) : Int32 := x - ((x.toUInt32 >>> ((1 : Int32).toUInt32 &&& Int32.toUInt32 31)).toInt32 &&& (1431655765 : Int32))
def pc2 (x : Int32) : Int32 := (x &&& (858993459 : Int32)) + ((x.toUInt32 >>> ((2 : Int32).toUInt32 &&& Int32.toUInt32 31)).toInt32 &&& (858993459 : Int32))
def pc3 (x : Int32) : Int32 := (x + (x.toUInt32 >>> ((4 : Int32).toUInt32 &&& Int32.toUInt32 31)).toInt32) &&& (252645135 : Int32)
def pc4 (x : Int32) : Int32 := x + (x.toUInt32 >>> ((8 : Int32).toUInt32 &&& Int32.toUInt32 31)).toInt32
def pc5 (x : Int32) : Int32 := x + (x.toUInt32 >>> ((16 : Int32).toUInt32 &&& Int32.toUInt32 31)).toInt32
def pc (x : Int32) : Int32 := pc5 (pc4 (pc3 (pc2 (pc1 x)))) &&& (63 : Int32)
def mn (a b : Int32) : Int32 := if b ≤ a then b else a
theorem i32_lt_or (a b : Int32) : a < b ∨ b ≤ a := by
  rw [Int32.lt_iff_toInt_lt, Int32.le_iff_toInt_le]
  omega
theorem i32_nlt {a b : Int32} : ¬ a < b ↔ b ≤ a := by
  rw [Int32.lt_iff_toInt_lt, Int32.le_iff_toInt_le]
  omega
theorem i32_nle {a b : Int32} : ¬ a ≤ b ↔ b < a := by
  rw [Int32.lt_iff_toInt_lt, Int32.le_iff_toInt_le]
  omega
theorem i32_antisymm {a b : Int32} (h : a ≤ b) (h2 : b ≤ a) : a = b := by
  rw [Int32.le_iff_toInt_le] at h h2
  exact Int32.toInt_inj.mp (by omega)
theorem mn_l (a b : Int32) : (if b < a then b else a) = mn a b := by
  unfold mn
  by_cases h : b < a
  · rw [if_pos h, if_pos (by rw [Int32.lt_iff_toInt_lt] at h; rw [Int32.le_iff_toInt_le]; omega)]
  · rw [if_neg h]
    by_cases h2 : b ≤ a
    · rw [if_pos h2]
      exact i32_antisymm (i32_nlt.mp h) h2
    · rw [if_neg h2]
theorem mn_comm (a b : Int32) : mn a b = mn b a := by
  unfold mn
  by_cases h : b ≤ a
  · by_cases h2 : a ≤ b
    · rw [if_pos h, if_pos h2]
      exact i32_antisymm h h2
    · rw [if_pos h, if_neg h2]
  · rw [if_neg h, if_pos]
    rw [Int32.le_iff_toInt_le] at h ⊢
    omega
/-- a counter against a written bound -/
theorem ctr_le {k N : Nat} {c : Int32} (hc : c = nI N) (hN : N < 2 ^ 31) (hk : k < 2 ^ 31) : c ≤ nI k ↔ N ≤ k := by
  subst hc
  exact nI_leI hN hk
theorem cl (k : Nat) (h : k < 2 ^ 31) : (nI k).toNatClampNeg = k := nI_clamp h
theorem cl10 {k : Nat} (h : k < 10) : (nI k).toNatClampNeg = k := nI_clamp (by omega)
theorem in10 {k : Nat} (h : k < 10) : vp_in (nI k) 10 := vp_in_nI h (by decide)
theorem c10 {k n : Nat} (hk : k + n = 10) (h : ¬ (10 : Int32) ≤ nI k) : k < 10 ∧ 0 < n := by
  have := (not_congr (ctr_le (N := 10) (c := (10 : Int32)) rfl (by decide) (by omega))).mp h
  omega
theorem c10e {k n : Nat} (hk : k + n = 10) (h : (10 : Int32) ≤ nI k) : k = 10 ∧ n = 0 := by
  have := (ctr_le (N := 10) (c := (10 : Int32)) rfl (by decide) (by omega)).mp h
  omega
/-- a number that is a hassock's -/
theorem isH_nI {k : Int32} (h : isH k = true) : ∃ j : Nat, j < 10 ∧ k = nI j := by
  unfold isH at h
  have h := of_decide_eq_true h
  obtain ⟨j, h1, rfl⟩ := nI_of h.1
  refine ⟨j, ?_, rfl⟩
  have := (not_congr (ctr_le (N := 10) (c := (10 : Int32)) rfl (by decide) (by omega))).mp h.2
  omega
theorem isH_of {j : Nat} (h : j < 10) : isH (nI j) = true := by
  unfold isH
  refine decide_eq_true ⟨nI_pos (by omega), ?_⟩
  exact (not_congr (ctr_le (N := 10) (c := (10 : Int32)) rfl (by decide) (by omega))).mpr (by omega)
theorem isH_in {k : Int32} (h : isH k = true) : vp_in k 10 := by
  obtain ⟨j, hj, rfl⟩ := isH_nI h
  exact in10 hj
theorem upd_s {f : Nat → Int32} {k : Nat} {x : Int32} : upd f k x k = x := pk_us
theorem upd_n {f : Nat → Int32} {k j : Nat} {x : Int32} (h : j ≠ k) : upd f k x j = f j := pk_un h
/-- the hassock k is there -/
def thr (th k : Int32) : Bool := isH k && hs th k
section OK1
variable {l : Launch} {D : va_G} {cI cZ : ClassId}
theorem ok_bitCount : KJ6_bitCount_0f7a4 l D cI cZ (fun _ => True) (fun x r => r = pc x) := walkJ6_bitCount_0f7a4 (by
  rintro p0 - x1 rfl x2 rfl x3 rfl x4 rfl x5 rfl
  rfl)
theorem ok_X8_isIn : KX8_isIn l D cI cZ (fun _ _ => True) (fun t k r => r = bi (hs t k)) := walkX8_isIn (by
  rintro t k -
  refine ⟨fun h => ?_, fun h => ?_⟩
  · simp [hs, bi, h]
  · simp [hs, bi, h])
theorem ok_X9_has : KX9_has l D cI cZ (fun _ _ => True) (fun t k r => r = bi (hs t k)) := walkX9_has (by
  rintro t k -
  refine ⟨fun h => ?_, fun h => ?_⟩
  · simp [hs, bi, h]
  · simp [hs, bi, h])
theorem ok_X8_isHassock : KX8_isHassock l D cI cZ (fun _ => True) (fun k r => r = bi (isH k)) := walkX8_isHassock (by
  rintro k -
  refine ⟨fun h => ?_, fun h => ⟨fun h2 => ?_, fun h2 => ?_⟩⟩
  · simp [isH, bi, h]
  · simp [isH, bi, h, h2]
  · simp [isH, bi, h, h2])
theorem ok_X8_isWithin : KX8_isWithin l D cI cZ (fun _ _ _ => True) (fun v lo hi r => r = bi (wi v lo hi)) := walkX8_isWithin (by
  rintro v lo hi -
  refine ⟨fun h => ?_, fun h => ⟨fun h2 => ?_, fun h2 => ?_⟩⟩
  · simp [wi, bi, h]
  · simp [wi, bi, h, h2]
  · simp [wi, bi, h, h2])
theorem ok_X9_in : KX9_in l D cI cZ (fun _ _ _ => True) (fun v lo hi r => ∀ a b c : Int32, v = a.toInt64 → lo = b.toInt64 → hi = c.toInt64 → r = bi (wi a b c)) := walkX9_in (by
  rintro v lo hi -
  have w1 : ∀ a b : Int32, lg_cmp a.toInt64 b.toInt64 < 0 ↔ a < b := by
    intro a b
    have h := lg_cmp_ge a.toInt64 b.toInt64
    rw [← i32_nle, h, Int64.le_iff_toInt_le, Int32.toInt_toInt64, Int32.toInt_toInt64, Int32.lt_iff_toInt_lt]
    omega
  have w2 : ∀ a b : Int32, 0 < lg_cmp a.toInt64 b.toInt64 ↔ b < a := by
    intro a b
    unfold lg_cmp
    simp only [gt_iff_lt, Int64.lt_iff_toInt_lt, ← Int64.toInt_inj, Int32.toInt_toInt64, Int32.lt_iff_toInt_lt]
    split
    · rename_i h
      exact ⟨fun _ => h, fun _ => by decide⟩
    · split
      · rename_i h1 h2
        exact ⟨fun h => absurd h (by decide), fun h => absurd h h1⟩
      · rename_i h1 h2
        exact ⟨fun h => absurd h (by decide), fun h => absurd h h1⟩
  refine ⟨fun h => ?_, fun h => ⟨fun h2 => ?_, fun h2 => ?_⟩⟩
  · rintro a b c rfl rfl rfl
    rw [w1] at h
    simp [wi, bi, h]
  · rintro a b c rfl rfl rfl
    rw [w1] at h
    rw [w2] at h2
    simp [wi, bi, h, h2]
  · rintro a b c rfl rfl rfl
    rw [w1] at h
    rw [w2] at h2
    simp [wi, bi, h, h2])
theorem ok_X9_isHassock : KX9_isHassock l D cI cZ (fun _ => True) (fun k r => r = bi (isH k)) := walkX9_isHassock ok_X9_in (by
  rintro k -
  refine ⟨trivial, fun r hr => ?_⟩
  have h := hr k 0 9 rfl (by decide) (by decide)
  have e : wi k 0 9 = isH k := by
    unfold wi isH
    have : ((9 : Int32) < k) ↔ ((10 : Int32) ≤ k) := by
      rw [Int32.lt_iff_toInt_lt, Int32.le_iff_toInt_le]
      have h9 : (9 : Int32).toInt = 9 := by decide
      have h10 : (10 : Int32).toInt = 10 := by decide
      omega
    simp only [this]
  rw [h, e]
  exact ⟨bi_isB _, rfl⟩)
theorem ok_X9_less : KX9_less l D cI cZ (fun _ _ => True) (fun a b r => r = mn a b) := walkX9_less (by
  rintro a b -
  refine ⟨fun h => ?_, fun h => ?_⟩
  · simp [mn, h]
  · simp [mn, h])
theorem ok_X1_isThere : KX1_isThere l D cI cZ (fun _ _ => True) (fun k th r => r = bi (thr th k)) := walkX1_isThere ok_X8_isHassock ok_X8_isIn (by
  rintro k th -
  refine ⟨trivial, ?_⟩
  rintro r rfl
  refine ⟨fun h => ?_, fun h => ⟨trivial, ?_⟩⟩
  · rw [bi_0] at h
    simp [thr, h, bi]
  · rintro r rfl
    rw [bi_n0] at h
    refine ⟨fun h2 => ?_, fun h2 => ?_⟩
    · rw [bi_0] at h2
      simp [thr, h, h2, bi]
    · rw [bi_n0] at h2
      simp [thr, h, h2, bi])
theorem ok_X1_howMany : KX1_howMany l D cI cZ (fun _ => True) (fun th r => r = pc th) := walkX1_howMany ok_bitCount (by
  rintro th -
  refine ⟨trivial, ?_⟩
  rintro r rfl
  rfl)
theorem ok_X1_bring : KX1_bring l D cI cZ (fun k _ _ _ _ _ => isH k = true) (fun k w s th fs fw th2 fs2 fw2 => th2 = (th ||| ((1 : Int32) <<< (k &&& 31))) ∧ fs2 = upd fs k.toNatClampNeg s ∧ fw2 = upd fw k.toNatClampNeg w) := walkX1_bring (by
  rintro k w s th fs fw hk x rfl
  exact ⟨isH_in hk, isH_in hk, rfl, rfl, rfl⟩)
/-- a hassock is there no more -/
def awy (th k : Int32) : Int32 := th &&& (((1 : Int32) <<< (k &&& 31)) ^^^ (-1 : Int32))
theorem ok_X1_takeAway : KX1_takeAway l D cI cZ (fun _ _ => True) (fun k th th2 => th2 = awy th k) := walkX1_takeAway (by
  rintro k th - x rfl
  rfl)
/-- two change places -/
def chg (p : Nat → Int32) (a b : Int32) : Nat → Int32 := upd (upd p a.toNatClampNeg (p b.toNatClampNeg)) b.toNatClampNeg (p a.toNatClampNeg)
theorem ok_X1_changePlaces : KX1_changePlaces l D cI cZ (fun a b _ => isH a = true ∧ isH b = true) (fun a b p p2 => p2 = chg p a b) := walkX1_changePlaces (by
  rintro a b p ⟨ha, hb⟩
  refine ⟨isH_in ha, ?_⟩
  rintro x rfl
  refine ⟨isH_in hb, ?_⟩
  rintro y rfl
  exact ⟨isH_in ha, isH_in hb, rfl⟩)
theorem ok_X9_change : KX9_change l D cI cZ (fun a b _ => isH a = true ∧ isH b = true) (fun a b p p2 => p2 = chg p a b) := walkX9_change (by
  rintro a b p ⟨ha, hb⟩
  refine ⟨isH_in ha, ?_⟩
  rintro x rfl
  refine ⟨isH_in hb, ?_⟩
  rintro y rfl
  exact ⟨isH_in ha, isH_in hb, rfl⟩)
end OK1
