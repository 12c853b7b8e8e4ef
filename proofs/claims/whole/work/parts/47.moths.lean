/-! Moths: a chance in lowest terms. -/
def tN (x : Int64) : Nat := x.toInt.toNat
theorem tN_l {n : Nat} (h : n < 2 ^ 63) : tN (lN n) = n := by
  unfold tN
  rw [pk_lT h]
  rfl
theorem wi_of {v : Int32} {N : Nat} (hN : N < 2 ^ 31) (h : wi v 0 (nI N) = true) : ∃ k, k ≤ N ∧ v = nI k := by
  unfold wi at h
  have h := of_decide_eq_true h
  obtain ⟨j, hj, rfl⟩ := nI_of h.1
  refine ⟨j, ?_, rfl⟩
  have := h.2
  rw [nI_ltI hN hj] at this
  omega
def gdR (u lo : Int64) (p : Int32) : Int64 := if p = 0 then lN (tN u / Nat.gcd (tN u) (tN lo)) else lN (tN lo / Nat.gcd (tN u) (tN lo))
abbrev moC (n m t w p : Int32) : Prop := wi n 0 16 = true ∧ wi m 0 16 = true ∧ ¬ (16 : Int32) < n * m ∧ wi t 0 10 = true ∧ wi w 0 1 = true ∧ wi p 0 1 = true
def moA (m : Int32) : Nat := 10 ^ m.toNatClampNeg
def moL (m t : Int32) : Nat := (10 - t.toNatClampNeg) ^ m.toNatClampNeg
def moR (n m t w p : Int32) : Int64 := if moC n m t w p then (if w = 0 then gdR (lN ((moA m - moL m t) ^ n.toNatClampNeg)) (lN (moA m ^ n.toNatClampNeg)) p else gdR (lN (n.toNatClampNeg * moL m t)) (lN (moA m)) p) else -1000000000000000002
def gdP (u lo : Int64) : Prop := ∃ A B, u = lN A ∧ lo = lN B ∧ A < 2 ^ 60 ∧ 0 < B ∧ B < 2 ^ 60
theorem p10 : ∀ k, k ≤ 16 → 10 ^ k < 2 ^ 60 ∧ 16 * 10 ^ k < 2 ^ 60 := by decide +kernel
theorem moC_ok {n m t w p : Int32} (h : moC n m t w p) : ∃ N M T, n = nI N ∧ m = nI M ∧ t = nI T ∧ N ≤ 16 ∧ M ≤ 16 ∧ T ≤ 10 ∧ N * M ≤ 16 := by
  obtain ⟨h1, h2, h3, h4, -, -⟩ := h
  obtain ⟨N, hN, rfl⟩ := wi_of (N := 16) (by decide) h1
  obtain ⟨M, hM, rfl⟩ := wi_of (N := 16) (by decide) h2
  obtain ⟨T, hT, rfl⟩ := wi_of (N := 10) (by decide) h4
  have hb : N * M ≤ 16 * 16 := Nat.mul_le_mul hN hM
  have e : nI N * nI M = nI (N * M) := pk_mul N M
  rw [e] at h3
  have h5 : ((16 : Int32) < nI (N * M)) ↔ 16 < N * M := ctr_lt rfl (by decide) (by omega)
  rw [h5] at h3
  exact ⟨N, M, T, rfl, rfl, rfl, hN, hM, hT, by omega⟩
theorem moL_le {M T : Nat} : (10 - T) ^ M ≤ 10 ^ M := Nat.pow_le_pow_left (by omega) M
/-- what the chance is made of -/
theorem mo_gd0 {N M T : Nat} (h : N * M ≤ 16) : gdP (lN ((10 ^ M - (10 - T) ^ M) ^ N)) (lN ((10 ^ M) ^ N)) := by
  have h1 : (10 ^ M) ^ N = 10 ^ (N * M) := by rw [← Nat.pow_mul, Nat.mul_comm]
  have h2 : (10 ^ M - (10 - T) ^ M) ^ N ≤ (10 ^ M) ^ N := Nat.pow_le_pow_left (Nat.sub_le _ _) N
  have h3 := (p10 (N * M) h).1
  refine ⟨_, _, rfl, rfl, ?_, Nat.pow_pos (Nat.pow_pos (by omega)), ?_⟩
  · rw [h1] at h2
    omega
  · rw [h1]
    exact h3
theorem mo_gd1 {N M T : Nat} (hN : N ≤ 16) (hM : M ≤ 16) : gdP (lN (N * (10 - T) ^ M)) (lN (10 ^ M)) := by
  have h3 := p10 M hM
  refine ⟨_, _, rfl, rfl, ?_, Nat.pow_pos (by omega), h3.1⟩
  exact Nat.lt_of_le_of_lt (Nat.mul_le_mul hN moL_le) h3.2
theorem eu_step {C E : Nat} (hE : 0 < E) (hC : E < C) (k : Nat) (h : C * E * 2 ^ k < 2 ^ 120) : E * (C % E) * 2 ^ (k + 1) < 2 ^ 120 := by
  have h1 : 2 * (C % E) ≤ C := by
    have a1 := Nat.mod_add_div C E
    have a2 := Nat.mod_lt C hE
    have a3 : 1 ≤ C / E := (Nat.one_le_div_iff hE).mpr (by omega)
    have a4 : E * 1 ≤ E * (C / E) := Nat.mul_le_mul_left E a3
    omega
  have h2 : E * (C % E) * 2 ^ (k + 1) = E * (2 * (C % E)) * 2 ^ k := by
    rw [Nat.pow_succ]
    ac_rfl
  rw [h2]
  refine Nat.lt_of_le_of_lt (Nat.mul_le_mul_right _ ?_) h
  rw [Nat.mul_comm C E]
  exact Nat.mul_le_mul_left E h1
section OK17
variable {l : Launch} {D : va_G} {cI cZ : ClassId}
theorem ok_X8_power : KX8_power l D cI cZ (fun _ n => ∃ k, k ≤ 16 ∧ n = nI k) (fun v n r => ∀ b, v = lN b → r = lN (b ^ n.toNatClampNeg)) := walkX8_power (IX8_power_5 := fun v n q v2 n2 j i => v2 = v ∧ n2 = n ∧ ∃ k, k + q = n.toNatClampNeg ∧ i = nI k ∧ ∀ b, v = lN b → j = lN (b ^ k)) (by
  rintro v n ⟨N, hN, rfl⟩
  have cN : (nI N).toNatClampNeg = N := cl N (by omega)
  refine ⟨⟨N, rfl, rfl, 0, by rw [cN, Nat.zero_add], rfl, fun b _ => by rw [Nat.pow_zero]; rfl⟩, ?_⟩
  rintro q j i ⟨-, -, k, hk, rfl, hj⟩
  rw [cN] at hk
  rw [nI_leI (by omega) (by omega)]
  refine ⟨fun h => ?_, fun h => ?_⟩
  · obtain rfl : k = N := by omega
    intro b hb
    rw [cN]
    exact hj b hb
  · rintro x rfl y rfl
    refine ⟨q - 1, by omega, rfl, rfl, k + 1, by rw [cN]; omega, nI_1 k, fun b hb => ?_⟩
    rw [hj b hb, hb, Nat.pow_succ]
    exact lN_mul _ _)
theorem ok_X9_power : KX9_power l D cI cZ (fun _ n => ∃ k, k ≤ 16 ∧ n = nI k) (fun v n r => ∀ b, v = lN b → r = lN (b ^ n.toNatClampNeg)) := walkX9_power (IX9_power_5 := fun v n q v2 n2 j i => v2 = v ∧ n2 = n ∧ ∃ k, k + q = n.toNatClampNeg ∧ i = nI k ∧ ∀ b, v = lN b → j = lN (b ^ k)) (by
  rintro v n ⟨N, hN, rfl⟩
  have cN : (nI N).toNatClampNeg = N := cl N (by omega)
  refine ⟨⟨N, rfl, rfl, 0, by rw [cN, Nat.zero_add], rfl, fun b _ => by rw [Nat.pow_zero]; rfl⟩, ?_⟩
  rintro q j i ⟨-, -, k, hk, rfl, hj⟩
  rw [cN] at hk
  rw [nI_leI (by omega) (by omega)]
  refine ⟨fun h => ?_, fun h => ?_⟩
  · obtain rfl : k = N := by omega
    intro b hb
    rw [cN]
    exact hj b hb
  · rintro x rfl y rfl
    refine ⟨q - 1, by omega, rfl, rfl, k + 1, by rw [cN]; omega, nI_1 k, fun b hb => ?_⟩
    rw [hj b hb, hb, Nat.pow_succ]
    exact lN_mul _ _)
theorem ok_X8_commonDivisor : KX8_commonDivisor l D cI cZ (fun u lo => gdP u lo) (fun u lo r => r = lN (Nat.gcd (tN u) (tN lo)) ∧ 0 < Nat.gcd (tN u) (tN lo) ∧ Nat.gcd (tN u) (tN lo) < 2 ^ 60) := walkX8_commonDivisor (IX8_commonDivisor_9 := fun u lo q a b i => ∃ C E k, a = lN C ∧ b = lN E ∧ C < 2 ^ 60 ∧ E < 2 ^ 60 ∧ i = nI k ∧ k + q = 128 ∧ Nat.gcd C E = Nat.gcd (tN u) (tN lo) ∧ ((k = 0 ∧ 0 < E) ∨ (0 < k ∧ E < C ∧ C * E * 2 ^ (k - 1) < 2 ^ 120))) (by
  rintro u lo ⟨A, B, rfl, rfl, hA, hB0, hB⟩
  rw [tN_l (by omega), tN_l (by omega)]
  have gpos : 0 < Nat.gcd A B := Nat.gcd_pos_of_pos_right A hB0
  refine ⟨⟨128, A, B, 0, rfl, rfl, hA, hB, rfl, rfl, rfl, Or.inl ⟨rfl, hB0⟩⟩, ?_⟩
  rintro q a b i ⟨C, E, k, rfl, rfl, hC, hE, rfl, hk, hg, hd⟩
  have e128 : ((128 : Int32) ≤ nI k) ↔ 128 ≤ k := ctr_le rfl (by decide) (by omega)
  have e0 : lg_cmp (lN E) (0 : Int64) = 0 ↔ E = 0 := by
    rw [lg_cmp_eq]
    exact pk_lEQ (b := 0) (by omega) (by omega)
  have e00 : lN E = (0 : Int64) ↔ E = 0 := pk_lEQ (b := 0) (by omega) (by omega)
  have e1 : lN C < (1 : Int64) ↔ C < 1 := pk_lLT (b := 1) (by omega) (by omega)
  have fin : E = 0 → ∀ x, x = (if lN C < (1 : Int64) then (1 : Int64) else lN C) → x = lN (Nat.gcd A B) ∧ 0 < Nat.gcd A B ∧ Nat.gcd A B < 2 ^ 60 := by
    rintro rfl x rfl
    rw [Nat.gcd_zero_right] at hg
    subst hg
    rw [if_neg (fun z => by have := e1.mp z; omega)]
    exact ⟨rfl, gpos, hC⟩
  rw [e128, e0, e00]
  refine ⟨fun h => fin ?_, fun h => ⟨fun h2 => fin h2, fun h2 => ⟨h2, ?_⟩⟩⟩
  · rcases hd with ⟨h1, -⟩ | ⟨h1, h2, h3⟩
    · omega
    · obtain rfl : k = 128 := by omega
      rcases Nat.eq_zero_or_pos E with z | z
      · exact z
      · have h4 : 1 * 1 ≤ C * E := Nat.mul_le_mul (by omega) z
        have h5 : 1 * 2 ^ (128 - 1) ≤ C * E * 2 ^ (128 - 1) := Nat.mul_le_mul_right _ (by omega)
        have h6 : (2 : Nat) ^ 120 < 1 * 2 ^ (128 - 1) := by decide
        omega
  · rw [pk_lRem (by omega) (by omega) (by omega)]
    rintro x rfl y rfl
    have hm := Nat.mod_lt C (y := E) (by omega)
    refine ⟨q - 1, by omega, E, C % E, k + 1, rfl, rfl, hE, by omega, nI_1 k, by omega, ?_, Or.inr ⟨by omega, hm, ?_⟩⟩
    · rw [← hg, Nat.gcd_comm E, ← Nat.gcd_rec, Nat.gcd_comm]
    · rcases hd with ⟨rfl, -⟩ | ⟨h1, h3, h4⟩
      · show E * (C % E) * 2 ^ 0 < 2 ^ 120
        rw [Nat.pow_zero, Nat.mul_one]
        have a1 : E * (C % E) < 2 ^ 60 * 2 ^ 60 := Nat.mul_lt_mul'' hE (by omega)
        have a2 : (2 : Nat) ^ 60 * 2 ^ 60 = 2 ^ 120 := by decide
        omega
      · have := eu_step (by omega) h3 (k - 1) h4
        rw [show k - 1 + 1 = k + 1 - 1 by omega] at this
        exact this)
theorem ok_X8_partInLowestTerms : KX8_partInLowestTerms l D cI cZ (fun u lo _ => gdP u lo) (fun u lo p r => r = gdR u lo p) := walkX8_partInLowestTerms ok_X8_commonDivisor (by
  rintro u lo p h
  refine ⟨h, ?_⟩
  obtain ⟨A, B, rfl, rfl, hA, hB0, hB⟩ := h
  rintro r ⟨rfl, h1, h2⟩
  have e00 : lN (Nat.gcd (tN (lN A)) (tN (lN B))) = (0 : Int64) ↔ Nat.gcd (tN (lN A)) (tN (lN B)) = 0 := pk_lEQ (b := 0) (by omega) (by omega)
  rw [e00]
  unfold gdR
  refine ⟨fun h3 => ⟨by omega, ?_⟩, fun h3 => ⟨by omega, ?_⟩⟩
  · rw [if_neg h3, pk_lDiv (by omega) h1 (by omega), tN_l (n := B) (by omega)]
  · rw [if_pos h3, pk_lDiv (by omega) h1 (by omega), tN_l (n := A) (by omega)])
theorem ok_X9_lowest : KX9_lowest l D cI cZ (fun u lo _ => gdP u lo) (fun u lo p r => r = gdR u lo p) := walkX9_lowest (IX9_lowest_6 := fun u lo p q u2 lo2 p2 a b => u2 = u ∧ lo2 = lo ∧ p2 = p ∧ ∃ C, a = lN C ∧ b = lN q ∧ C < 2 ^ 60 ∧ q < 2 ^ 60 ∧ Nat.gcd C q = Nat.gcd (tN u) (tN lo)) (by
  rintro u lo p ⟨A, B, rfl, rfl, hA, hB0, hB⟩
  have tA : tN (lN A) = A := tN_l (by omega)
  have tB : tN (lN B) = B := tN_l (by omega)
  have gpos : 0 < Nat.gcd A B := Nat.gcd_pos_of_pos_right A hB0
  refine ⟨⟨A, rfl, rfl, rfl, B, rfl, rfl, hB, hA, by rw [tA, tB, Nat.gcd_comm]⟩, ?_⟩
  rintro q a b ⟨-, -, -, C, rfl, rfl, hC, hE, hg⟩
  have e0 : lg_cmp (lN q) (0 : Int64) = 0 ↔ q = 0 := by
    rw [lg_cmp_eq]
    exact pk_lEQ (b := 0) (by omega) (by omega)
  have e00 : lN q = (0 : Int64) ↔ q = 0 := pk_lEQ (b := 0) (by omega) (by omega)
  have eC : lN C = (0 : Int64) ↔ C = 0 := pk_lEQ (b := 0) (by omega) (by omega)
  rw [e0, e00, eC]
  rw [tA, tB] at hg
  unfold gdR
  rw [tA, tB]
  refine ⟨fun h => ?_, fun h => ⟨h, ?_⟩⟩
  · subst h
    rw [Nat.gcd_zero_right] at hg
    subst hg
    refine ⟨fun h3 => ⟨by omega, ?_⟩, fun h3 => ⟨by omega, ?_⟩⟩
    · rw [if_neg h3, pk_lDiv (by omega) gpos (by omega)]
    · rw [if_pos h3, pk_lDiv (by omega) gpos (by omega)]
  · rw [pk_lRem (by omega) (by omega) (by omega)]
    rintro x rfl
    have hm := Nat.mod_lt C (y := q) (by omega)
    refine ⟨C % q, hm, rfl, rfl, rfl, q, rfl, rfl, hE, by omega, ?_⟩
    rw [← hg, Nat.gcd_comm q, ← Nat.gcd_rec, Nat.gcd_comm])
theorem ok_X8_moths : KX8_moths l D cI cZ (fun _ _ _ _ _ => True) (fun n m t w p r => r = moR n m t w p) := walkX8_moths ok_X8_isWithin ok_X8_power ok_X8_partInLowestTerms (by
  rintro n m t w p -
  have no : ¬ moC n m t w p → (-1000000000000000002 : Int64) = moR n m t w p := fun h => by
    unfold moR
    rw [if_neg h]
  refine ⟨trivial, ?_⟩
  rintro r rfl
  refine ⟨fun h => ?_, fun h1 => ⟨trivial, ?_⟩⟩
  · rw [bi_0] at h
    exact no (fun z => Bool.false_ne_true (h.symm.trans z.1))
  rintro r rfl
  refine ⟨fun h => ?_, fun h2 => ⟨fun h => ?_, fun h3 => ⟨trivial, ?_⟩⟩⟩
  · rw [bi_0] at h
    exact no (fun z => Bool.false_ne_true (h.symm.trans z.2.1))
  · exact no (fun z => z.2.2.1 h)
  rintro r rfl
  refine ⟨fun h => ?_, fun h4 => ⟨trivial, ?_⟩⟩
  · rw [bi_0] at h
    exact no (fun z => Bool.false_ne_true (h.symm.trans z.2.2.2.1))
  rintro r rfl
  refine ⟨fun h => ?_, fun h5 => ⟨trivial, ?_⟩⟩
  · rw [bi_0] at h
    exact no (fun z => Bool.false_ne_true (h.symm.trans z.2.2.2.2.1))
  rintro r rfl
  refine ⟨fun h6 => ?_, fun h => ?_⟩
  rotate_left
  · rw [bi_0] at h
    exact no (fun z => Bool.false_ne_true (h.symm.trans z.2.2.2.2.2))
  rw [bi_n0] at h1 h2 h4 h5 h6
  have hC : moC n m t w p := ⟨h1, h2, h3, h4, h5, h6⟩
  unfold moR
  rw [if_pos hC]
  clear no h1 h2 h3 h4 h5 h6
  obtain ⟨N, M, T, rfl, rfl, rfl, hN, hM, hT, hNM⟩ := moC_ok hC
  have eT : (10 : Int32) - nI T = nI (10 - T) := pk_sub (a := 10) hT
  have cN : (nI N).toNatClampNeg = N := cl N (by omega)
  have cM : (nI M).toNatClampNeg = M := cl M (by omega)
  have cT : (nI T).toNatClampNeg = T := cl T (by omega)
  rw [eT, nI_l (by omega), nI_l (by omega)]
  unfold moA moL
  rw [cN, cM, cT]
  refine ⟨⟨M, hM, rfl⟩, fun r6 hr6 => ⟨⟨M, hM, rfl⟩, fun r7 hr7 => ?_⟩⟩
  obtain rfl := hr6 10 rfl
  obtain rfl := hr7 (10 - T) rfl
  rw [lN_sub moL_le, lN_mul]
  refine ⟨fun h => ⟨mo_gd1 hN hM, ?_⟩, fun h => ⟨⟨N, hN, rfl⟩, fun r9 hr9 => ⟨⟨N, hN, rfl⟩, fun r10 hr10 => ?_⟩⟩⟩
  · rintro r rfl
    rw [if_neg h]
  · obtain rfl := hr9 _ rfl
    obtain rfl := hr10 _ rfl
    refine ⟨mo_gd0 hNM, ?_⟩
    rintro r rfl
    rw [if_pos h])
theorem ok_X9_moths : KX9_moths l D cI cZ (fun _ _ _ _ _ => True) (fun n m t w p r => r = moR n m t w p) := walkX9_moths ok_X9_in ok_X9_power ok_X9_lowest (by
  rintro n m t w p -
  have no : ¬ moC n m t w p → (-1000000000000000002 : Int64) = moR n m t w p := fun h => by
    unfold moR
    rw [if_neg h]
  refine ⟨trivial, fun r hr => ?_⟩
  obtain rfl := hr n 0 16 rfl (by decide) (by decide)
  clear hr
  refine ⟨fun h => ?_, fun h1 => ⟨trivial, fun r hr => ?_⟩⟩
  · rw [bi_0] at h
    exact no (fun z => Bool.false_ne_true (h.symm.trans z.1))
  obtain rfl := hr m 0 16 rfl (by decide) (by decide)
  clear hr
  refine ⟨fun h => ?_, fun h2 => ⟨trivial, fun r hr => ?_⟩⟩
  · rw [bi_0] at h
    exact no (fun z => Bool.false_ne_true (h.symm.trans z.2.1))
  obtain rfl := hr (n * m) 0 16 rfl (by decide) (by decide)
  clear hr
  rw [bi_n0] at h1 h2
  have h33 : wi (n * m) 0 16 = true ↔ ¬ (16 : Int32) < n * m := by
    obtain ⟨N, hN, rfl⟩ := wi_of (N := 16) (by decide) h1
    obtain ⟨M, hM, rfl⟩ := wi_of (N := 16) (by decide) h2
    have hb : N * M ≤ 16 * 16 := Nat.mul_le_mul hN hM
    have e : nI N * nI M = nI (N * M) := pk_mul N M
    rw [e]
    unfold wi
    rw [decide_eq_true_iff]
    exact ⟨fun z => z.2, fun z => ⟨nI_pos (by omega), z⟩⟩
  refine ⟨fun h => ?_, fun h3 => ⟨trivial, fun r hr => ?_⟩⟩
  · rw [bi_0] at h
    exact no (fun z => Bool.false_ne_true (h.symm.trans (h33.mpr z.2.2.1)))
  obtain rfl := hr t 0 10 rfl (by decide) (by decide)
  clear hr
  rw [bi_n0] at h3
  replace h3 := h33.mp h3
  refine ⟨fun h => ?_, fun h4 => ⟨trivial, fun r hr => ?_⟩⟩
  · rw [bi_0] at h
    exact no (fun z => Bool.false_ne_true (h.symm.trans z.2.2.2.1))
  obtain rfl := hr w 0 1 rfl (by decide) (by decide)
  clear hr
  refine ⟨fun h => ?_, fun h5 => ⟨trivial, fun r hr => ?_⟩⟩
  · rw [bi_0] at h
    exact no (fun z => Bool.false_ne_true (h.symm.trans z.2.2.2.2.1))
  obtain rfl := hr p 0 1 rfl (by decide) (by decide)
  clear hr
  refine ⟨fun h6 => ?_, fun h => ?_⟩
  rotate_left
  · rw [bi_0] at h
    exact no (fun z => Bool.false_ne_true (h.symm.trans z.2.2.2.2.2))
  rw [bi_n0] at h4 h5 h6
  have hC : moC n m t w p := ⟨h1, h2, h3, h4, h5, h6⟩
  unfold moR
  rw [if_pos hC]
  clear no h1 h2 h3 h4 h5 h6 h33
  obtain ⟨N, M, T, rfl, rfl, rfl, hN, hM, hT, hNM⟩ := moC_ok hC
  have eT : (10 : Int64) - lN T = lN (10 - T) := lN_sub (a := 10) hT
  have cN : (nI N).toNatClampNeg = N := cl N (by omega)
  have cM : (nI M).toNatClampNeg = M := cl M (by omega)
  have cT : (nI T).toNatClampNeg = T := cl T (by omega)
  rw [nI_l (n := T) (by omega), eT, nI_l (n := N) (by omega)]
  unfold moA moL
  rw [cN, cM, cT]
  refine ⟨⟨M, hM, rfl⟩, fun r6 hr6 => ⟨⟨M, hM, rfl⟩, fun r7 hr7 => ?_⟩⟩
  obtain rfl := hr6 10 rfl
  obtain rfl := hr7 (10 - T) rfl
  rw [lN_sub moL_le, lN_mul]
  refine ⟨fun h => ⟨mo_gd1 hN hM, ?_⟩, fun h => ⟨⟨N, hN, rfl⟩, fun r9 hr9 => ⟨⟨N, hN, rfl⟩, fun r10 hr10 => ?_⟩⟩⟩
  · rintro r rfl
    rw [if_neg h]
  · obtain rfl := hr9 _ rfl
    obtain rfl := hr10 _ rfl
    refine ⟨mo_gd0 hNM, ?_⟩
    rintro r rfl
    rw [if_pos h])
end OK17
