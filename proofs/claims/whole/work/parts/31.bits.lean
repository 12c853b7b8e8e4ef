/-! Sets of ten as numbers below 1024: all single facts, by the kernel's own counting. -/
def pN (n : Nat) : Nat := (if n.testBit 0 then 1 else 0) + (if n.testBit 1 then 1 else 0) + (if n.testBit 2 then 1 else 0) + (if n.testBit 3 then 1 else 0) + (if n.testBit 4 then 1 else 0) + (if n.testBit 5 then 1 else 0) + (if n.testBit 6 then 1 else 0) + (if n.testBit 7 then 1 else 0) + (if n.testBit 8 then 1 else 0) + (if n.testBit 9 then 1 else 0)
def rng (N : Nat) (x : Int32) : Prop := ∃ n : Nat, n < N ∧ x = nI n
set_option maxRecDepth 100000 in
theorem bits_pc : ∀ n, n < 1024 → pc (nI n) = nI (pN n) := by decide +kernel
set_option maxRecDepth 100000 in
theorem bits_hs : ∀ n, n < 1024 → ∀ j, j < 10 → hs (nI n) (nI j) = n.testBit j := by decide +kernel
set_option maxRecDepth 100000 in
theorem bits_awy : ∀ n, n < 1024 → ∀ j, j < 10 → awy (nI n) (nI j) = nI (n &&& (1023 ^^^ 2 ^ j)) := by decide +kernel
set_option maxRecDepth 100000 in
theorem bits_or : ∀ n, n < 1024 → ∀ j, j < 10 → nI n ||| ((1 : Int32) <<< (nI j &&& 31)) = nI (n ||| 2 ^ j) := by decide +kernel
set_option maxRecDepth 100000 in
theorem bits_low : ∀ n, n < 1024 → ¬ n = 0 → nI n &&& (nI n - (1 : Int32)) = nI (n &&& (n - 1)) ∧ pN (n &&& (n - 1)) + 1 = pN n ∧ n &&& (n - 1) < n ∧ ¬ nI n = 0 := by decide +kernel
theorem rng_awy {t k : Int32} (ht : rng 1024 t) (hk : isH k = true) : rng 1024 (awy t k) := by
  obtain ⟨n, hn, rfl⟩ := ht
  obtain ⟨j, hj, rfl⟩ := isH_nI hk
  exact ⟨_, Nat.lt_of_le_of_lt Nat.and_le_left hn, bits_awy n hn j hj⟩
theorem rng_or {t k : Int32} (ht : rng 1024 t) (hk : isH k = true) : rng 1024 (t ||| ((1 : Int32) <<< (k &&& 31))) := by
  obtain ⟨n, hn, rfl⟩ := ht
  obtain ⟨j, hj, rfl⟩ := isH_nI hk
  refine ⟨_, ?_, bits_or n hn j hj⟩
  exact Nat.or_lt_two_pow (n := 10) hn (Nat.pow_lt_pow_right (by decide) hj)
theorem xor_nI (a b : Nat) : nI a ^^^ nI b = nI (a ^^^ b) := by
  apply Int32.toBitVec_inj.mp
  simp [nI]
theorem and_nI (a b : Nat) : nI a &&& nI b = nI (a &&& b) := by
  apply Int32.toBitVec_inj.mp
  simp [nI]
theorem or_nI (a b : Nat) : nI a ||| nI b = nI (a ||| b) := by
  apply Int32.toBitVec_inj.mp
  simp [nI]
theorem rng_xor {a b : Int32} {k : Nat} (ha : rng (2 ^ k) a) (hb : rng (2 ^ k) b) : rng (2 ^ k) (a ^^^ b) := by
  obtain ⟨n, hn, rfl⟩ := ha
  obtain ⟨j, hj, rfl⟩ := hb
  exact ⟨_, Nat.xor_lt_two_pow hn hj, xor_nI n j⟩
theorem rng_or2 {a b : Int32} {k : Nat} (ha : rng (2 ^ k) a) (hb : rng (2 ^ k) b) : rng (2 ^ k) (a ||| b) := by
  obtain ⟨n, hn, rfl⟩ := ha
  obtain ⟨j, hj, rfl⟩ := hb
  exact ⟨_, Nat.or_lt_two_pow hn hj, or_nI n j⟩
theorem rng_mono {N M : Nat} {x : Int32} (h : rng N x) (hle : N ≤ M) : rng M x := by
  obtain ⟨n, hn, rfl⟩ := h
  exact ⟨n, by omega, rfl⟩
section OK2
variable {l : Launch} {D : va_G} {cI cZ : ClassId}
theorem ok_X9_ones : KX9_ones l D cI cZ (fun x => rng 1024 x) (fun x r => r = pc x) := walkX9_ones (IX9_ones_4 := fun x n c lf => ∃ b, n < 1024 ∧ lf = nI n ∧ c = nI b ∧ pc x = nI (b + pN n)) (by
  rintro x ⟨a, ha, rfl⟩
  refine ⟨⟨a, 0, ha, rfl, rfl, by rw [bits_pc a ha, Nat.zero_add]⟩, ?_⟩
  rintro n c lf ⟨b, h2, rfl, rfl, hp⟩
  refine ⟨fun h => ?_, fun h => ?_⟩
  · have h0 : n = 0 := by
      rcases Nat.eq_zero_or_pos n with q | q
      · exact q
      · exact absurd h (nI_ne0 q (by omega))
    subst h0
    rw [hp]
    rfl
  · have h0 : ¬ n = 0 := fun q => h (by rw [q]; rfl)
    obtain ⟨e1, e2, e3, -⟩ := bits_low n h2 h0
    rintro x1 rfl x2 rfl
    exact ⟨_, e3, b + 1, by omega, e1, nI_1 b, by rw [hp]; congr 1; omega⟩)
end OK2
