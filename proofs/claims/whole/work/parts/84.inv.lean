/-! What holds between calls, of the class and the reference together. -/
def imK (k : Int32) (ι : DSt) (d : Int32) (fv fd kp : Nat → Int32) (b : Nat) (ik : Int32) : Prop := (k = 0 ∨ k = 1) ∧ ik = k ∧ Z3 (dP ι) (dS ι) (dW ι) ∧ Zf 8 fv ∧ Zf 8 fd ∧ (k = 1 → im kp b ι d fv fd ∧ okσ ι ∧ okC8 d)
def inv (σ σ9 : DSt) (zp zs zw : Nat → Int32) (c c9 : Int32) (g g9 mvv : Nat → Int32) (sc sc9 : Int32) (sd sd9 fv fv9 : Nat → Int32) (k1 : Int32) (ι1 : DSt) (d1 : Int32) (fv1 fd1 : Nat → Int32) (k2 : Int32) (ι2 : DSt) (d2 : Int32) (fv2 fd2 kp ik : Nat → Int32) : Prop :=
  okσ σ ∧ σ9 = σ ∧ Z3 zp zs zw ∧ okC c ∧ c9 = c ∧ g9 = g ∧ (∀ j, j < 256 → mvv j = mv j) ∧ okC8 sc ∧ sc9 = sc ∧ sd9 = sd ∧ fv9 = fv ∧ Zf 8 sd ∧ Zf 8 fv ∧ imK k1 ι1 d1 fv1 fd1 kp 0 (ik 0) ∧ imK k2 ι2 d2 fv2 fd2 kp 60 (ik 1)
theorem hk_ok {k w' s' th ha ye : Int32} {p s w : Nat → Int32} (h : okσ (th, ha, ye, p, s, w)) : okσ (hkT k w' s' th, ha, ye, p, hkS k w' s' s, hkW k w' s' w) := by
  unfold hkT hkS hkW
  by_cases q : hkO k w' s' = true
  · rw [if_pos q, if_pos q, if_pos q]
    obtain ⟨h1, h2, h3, h4, h5, h6, h7, h8, h9⟩ := h
    have q2 := q
    unfold hkO at q2
    rw [Bool.and_eq_true, Bool.and_eq_true] at q2
    refine ⟨rng_or h1 q2.1, h2, h3, h4, ?_, ?_, h7, Zf_cl h8 q2.1, Zf_cl h9 q2.1⟩
    · refine pat_upd h5 ?_
      obtain ⟨K, hK, e⟩ := wi_of (N := 255) (by decide) q2.2.2
      exact ⟨K, by omega, e⟩
    · obtain ⟨n, hn, en⟩ := h1
      have en : th = nI n := en
      obtain ⟨j, hj, rfl⟩ := isH_nI q2.1
      obtain ⟨m, m1, m2, em⟩ := wi_nI (L := 1) (H := 99) q2.2.1 rfl rfl (by decide) (by decide)
      intro i hi
      by_cases e : i = j
      · subst e
        have t := nI_toInt (n := m) (by omega)
        have a1 : (-100 : Int32).toInt = -100 := by decide
        have a2 : (99 : Int32).toInt = 99 := by decide
        have a3 : (1 : Int32).toInt = 1 := by decide
        show (-100 : Int32) ≤ upd w (nI i).toNatClampNeg w' i ∧ upd w (nI i).toNatClampNeg w' i ≤ (99 : Int32) ∧ (_ → (1 : Int32) ≤ upd w (nI i).toNatClampNeg w' i)
        rw [cl10 hi, upd_s, em, Int32.le_iff_toInt_le, Int32.le_iff_toInt_le, Int32.le_iff_toInt_le]
        exact ⟨by omega, by omega, fun _ => by omega⟩
      · obtain ⟨a, b, c⟩ := h6 i hi
        show (-100 : Int32) ≤ upd w (nI j).toNatClampNeg w' i ∧ upd w (nI j).toNatClampNeg w' i ≤ (99 : Int32) ∧ (hs (th ||| ((1 : Int32) <<< (nI j &&& 31))) (nI i) = true → (1 : Int32) ≤ upd w (nI j).toNatClampNeg w' i)
        rw [cl10 hj, upd_n e]
        refine ⟨a, b, fun z => c ?_⟩
        rw [en, bits_or n hn j hj, bits_hs _ (Nat.or_lt_two_pow (n := 10) hn (Nat.pow_lt_pow_right (by decide) hj)) i hi, Nat.testBit_or, p2_bit, decide_eq_false (fun y => e y.symm), Bool.or_false] at z
        show hs th (nI i) = true
        rw [en, bits_hs n hn i hi]
        exact z
  · rw [if_neg q, if_neg q, if_neg q]
    exact h
theorem go_ok {k th ha ye : Int32} {p s w : Nat → Int32} (h : okσ (th, ha, ye, p, s, w)) : okσ (goT k th, ha, ye, p, s, w) := by
  unfold goT
  by_cases q : thr th k = true
  · rw [if_pos q]
    obtain ⟨h1, h2, h3, h4, h5, h6, h7, h8, h9⟩ := h
    have hk : isH k = true := by
      unfold thr at q
      rw [Bool.and_eq_true] at q
      exact q.1
    exact ⟨rng_awy h1 hk, h2, h3, h4, h5, okW_awy h1 hk h6, h7, h8, h9⟩
  · rw [if_neg q]
    exact h
theorem hai_ok {v th ha ye : Int32} {p s w : Nat → Int32} (h : okσ (th, ha, ye, p, s, w)) : okσ (th, haH v ha, ye, p, s, w) := by
  unfold haH
  by_cases q : wi v 0 999 = true
  · rw [if_pos q]
    obtain ⟨h1, h2, h3, h4, h5, h6, h7, h8, h9⟩ := h
    obtain ⟨K, hK, e⟩ := wi_of (N := 999) (by decide) q
    exact ⟨h1, ⟨K, by omega, e⟩, h3, h4, h5, h6, h7, h8, h9⟩
  · rw [if_neg q]
    exact h
theorem swa_ok {a b th ha ye : Int32} {p s w : Nat → Int32} (h : okσ (th, ha, ye, p, s, w)) : okσ (th, ha, ye, swaP a b p, s, w) := by
  unfold swaP
  by_cases q : swO a b = true
  · rw [if_pos q]
    obtain ⟨h1, h2, h3, h4, h5, h6, h7, h8, h9⟩ := h
    have q2 := q
    unfold swO at q2
    rw [Bool.and_eq_true, Bool.and_eq_true] at q2
    exact ⟨h1, h2, h3, prm_chg h4 q2.1 q2.2.1, h5, h6, Zf_chg h7 q2.1 q2.2.1, h8, h9⟩
  · rw [if_neg q]
    exact h
theorem say_ok {v c : Int32} (h : okC c) : okC (sayC v c) := by
  unfold sayC
  by_cases q : wi v 33 126 = true ∧ c < 60
  · rw [if_pos q]
    exact ((okC_lt h).2 q.2).2
  · rw [if_neg q]
    exact h
theorem okC_0 : okC 0 := ⟨0, by decide, rfl⟩
theorem okC8_0 : okC8 0 := ⟨0, by decide, rfl⟩
theorem fe_ok {d v c : Int32} {fd fv : Nat → Int32} (h : okC8 c) (z1 : Zf 8 fd) (z2 : Zf 8 fv) : okC8 (feC d v c) ∧ Zf 8 (feD d v c fd) ∧ Zf 8 (feV d v c fv) := by
  cases q : feO d v c with
  | false =>
    obtain ⟨e1, e2, e3⟩ := fe_no q fv fd
    rw [e1, e2, e3]
    exact ⟨h, z1, z2⟩
  | true =>
    obtain ⟨e1, e2, e3⟩ := fe_yes q fv fd
    rw [e1, e2, e3]
    have h8 : c < 8 := by
      unfold feO at q
      rw [Bool.and_eq_true, Bool.and_eq_true] at q
      exact of_decide_eq_true q.2.2
    have hk : c.toNatClampNeg < 8 := by
      obtain ⟨n, hn, rfl⟩ := h
      have e8 : nI n < (8 : Int32) ↔ n < 8 := nI_ltI (b := 8) (by omega) (by decide)
      rw [cl n (by omega)]
      exact e8.mp h8
    exact ⟨((okC8_lt h).2 h8).2, Zf_upd z1 hk, Zf_upd z2 hk⟩
theorem do_ok {σ : DSt} {c : Int32} {g : Nat → Int32} (h : okσ σ) (hc : okC c) : okσ (doS σ c.toNatClampNeg g) := by
  unfold doS
  by_cases q : rf σ c.toNatClampNeg g = 0
  · rw [if_neg (fun z => z q)]
    have q2 : tF c.toNatClampNeg g = -6 := by
      unfold rf at q
      by_cases y : tF c.toNatClampNeg g = -6
      · exact y
      · rw [if_neg y] at q
        exact absurd q (by decide)
    exact tE_ok h q2 (okC_cl hc).2
  · rw [if_pos q]
    exact h
theorem im_cong {f f' : Nat → Int32} {b : Nat} {ι : DSt} {d : Int32} {fv fd : Nat → Int32} (h : ∀ j, b ≤ j → j < b + 50 → f' j = f j) (q : im f b ι d fv fd) : im f' b ι d fv fd := by
  obtain ⟨a1, a2, a3, a4, a5, a6, a7, a8, a9⟩ := q
  refine ⟨?_, ?_, ?_, ?_, fun j hj => ?_, fun j hj => ?_, fun j hj => ?_, fun j hj => ?_, fun j hj => ?_⟩
  · rw [h b (by omega) (by omega)]; exact a1
  · rw [h (b + 1) (by omega) (by omega)]; exact a2
  · rw [h (b + 2) (by omega) (by omega)]; exact a3
  · rw [h (b + 3) (by omega) (by omega)]; exact a4
  · rw [h (b + 4 + j) (by omega) (by omega)]; exact a5 j hj
  · rw [h (b + 14 + j) (by omega) (by omega)]; exact a6 j hj
  · rw [h (b + 24 + j) (by omega) (by omega)]; exact a7 j hj
  · rw [h (b + 34 + j) (by omega) (by omega)]; exact a8 j hj
  · rw [h (b + 42 + j) (by omega) (by omega)]; exact a9 j hj
theorem imK_cong {k d ik ik' : Int32} {ι : DSt} {fv fd kp kp' : Nat → Int32} {b : Nat} (h : ∀ j, b ≤ j → j < b + 50 → kp' j = kp j) (hi : ik' = ik) (q : imK k ι d fv fd kp b ik) : imK k ι d fv fd kp' b ik' := by
  obtain ⟨q1, q2, q3, q4, q5, q6⟩ := q
  exact ⟨q1, by rw [hi]; exact q2, q3, q4, q5, fun z => ⟨im_cong h (q6 z).1, (q6 z).2⟩⟩
theorem imK_new {ι : DSt} {d : Int32} {fv fd kp : Nat → Int32} {b : Nat} {ik : Int32} (hi : ik = 1) (h : im kp b ι d fv fd) (ho : okσ ι) (hd : okC8 d) (z1 : Zf 8 fv) (z2 : Zf 8 fd) : imK 1 ι d fv fd kp b ik := ⟨Or.inr rfl, hi, Z3_ok ho, z1, z2, fun _ => ⟨h, ho, hd⟩⟩
theorem rsR_1 {k F G : Int32} (h : rsR k F G = 1) : wi k 0 1 = true ∧ ((k = 0 ∧ ¬ F = 0) ∨ (k = 1 ∧ ¬ G = 0)) := by
  unfold rsR at h
  by_cases q : wi k 0 1 = true
  · rw [if_pos q] at h
    refine ⟨q, ?_⟩
    by_cases y : (if k = 0 then F else G) = 0
    · rw [if_pos y] at h
      exact absurd h (by decide)
    · rcases wi01 q with z | z
      · rw [if_pos z] at y
        exact Or.inl ⟨z, y⟩
      · rw [if_neg (by rw [z]; decide)] at y
        exact Or.inr ⟨z, y⟩
  · rw [if_neg q] at h
    exact absurd h (by decide)
/-! Objects, made anew. -/
def wool0 : Nat → Int32 := fun k => if k < 10 then 50 else 0
def plac0 : Nat → Int32 := fun k => if k < 10 then nI k else 0
def zer0 : Nat → Int32 := fun _ => 0
theorem wool0_s (k : Nat) : upd (fun i => if i < k then (50 : Int32) else 0) k 50 = (fun i => if i < k + 1 then (50 : Int32) else 0) := by
  funext i
  by_cases e : i = k
  · subst e
    rw [upd_s]
    show _ = if i < i + 1 then (50 : Int32) else 0
    rw [if_pos (by omega)]
  · rw [upd_n e]
    show (if i < k then (50 : Int32) else 0) = if i < k + 1 then (50 : Int32) else 0
    by_cases h : i < k
    · rw [if_pos h, if_pos (by omega)]
    · rw [if_neg h, if_neg (by omega)]
theorem plac0_s (k : Nat) : upd (fun i => if i < k then nI i else 0) k (nI k) = (fun i => if i < k + 1 then nI i else 0) := by
  funext i
  by_cases e : i = k
  · subst e
    rw [upd_s]
    show _ = if i < i + 1 then nI i else 0
    rw [if_pos (by omega)]
  · rw [upd_n e]
    show (if i < k then nI i else 0) = if i < k + 1 then nI i else 0
    by_cases h : i < k
    · rw [if_pos h, if_pos (by omega)]
    · rw [if_neg h, if_neg (by omega)]
theorem Zf_0 (N : Nat) : Zf N zer0 := fun _ _ => rfl
theorem ok_0 : okσ (1023, 20, 0, plac0, zer0, wool0) := by
  refine ⟨⟨1023, by decide, rfl⟩, ⟨20, by decide, rfl⟩, ⟨0, by decide, rfl⟩, ?_, fun k _ => ⟨0, by decide, rfl⟩, ?_, ?_, Zf_0 10, ?_⟩
  · intro j hj
    have e : ∀ i, i < 10 → plac0 i = nI i := fun i hi => if_pos hi
    refine ⟨⟨j, hj, e j hj⟩, fun i hi q => ?_⟩
    have q : plac0 i = plac0 j := q
    rw [e i hi, e j hj] at q
    exact (nI_eq (by omega) (by omega)).mp q
  · intro j hj
    have e : wool0 j = 50 := if_pos hj
    show (-100 : Int32) ≤ wool0 j ∧ wool0 j ≤ (99 : Int32) ∧ (_ → (1 : Int32) ≤ wool0 j)
    rw [e]
    exact ⟨by decide, by decide, fun _ => by decide⟩
  · intro i hi
    exact if_neg (by omega)
  · intro i hi
    exact if_neg (by omega)
section OK26
variable {l : Launch} {D : va_G} {cI cZ : ClassId}
theorem ok_X1_init : KX1_init l D cI cZ (fun th ha ye w s p => th = 1023 ∧ ha = 20 ∧ ye = 0 ∧ w = wool0 ∧ s = zer0 ∧ p = plac0) := walkX1_init (IX1_init_48 := fun n i _ _ _ w s p => ∃ k, k + n = 10 ∧ i = nI k ∧ w = (fun i => if i < k then (50 : Int32) else 0) ∧ s = zer0 ∧ p = (fun i => if i < k then nI i else 0)) (by
  refine ⟨⟨10, 0, rfl, rfl, ?_, rfl, ?_⟩, ?_⟩
  · funext i
    exact (if_neg (by omega)).symm
  · funext i
    exact (if_neg (by omega)).symm
  rintro n i w p ⟨k, hk, rfl, rfl, -, rfl⟩
  refine ⟨fun h => ?_, fun h => ?_⟩
  · obtain ⟨rfl, -⟩ := c10e hk h
    exact ⟨rfl, rfl, rfl, rfl, rfl, rfl⟩
  · obtain ⟨h10, hn⟩ := c10 hk h
    rw [cl10 h10]
    refine ⟨in10 h10, in10 h10, ?_⟩
    rintro x rfl
    exact ⟨n - 1, by omega, k + 1, by omega, nI_1 k, wool0_s k, rfl, plac0_s k⟩)
theorem ok_X4_init : KX4_init l D cI cZ (fun c fd fv => c = 0 ∧ fd = zer0 ∧ fv = zer0) := walkX4_init ⟨rfl, rfl, rfl⟩
theorem ok_X2_init : KX2_init l D cI cZ (fun k _ _ _ w s p _ fd fv => k = 0 ∧ Z3 p s w ∧ Zf 8 fv ∧ Zf 8 fd) := walkX2_init ok_X1_init ok_X4_init (by
  rintro g1 g2 g3 f5 f7 f9 ⟨rfl, rfl, rfl, rfl, rfl, rfl⟩
  rintro c f12 f14 ⟨rfl, rfl, rfl⟩
  exact ⟨rfl, Z3_ok ok_0, Zf_0 8, Zf_0 8⟩)
theorem ok_X3_init : KX3_init l D cI cZ (fun c g => c = 0 ∧ g = zer0) := walkX3_init ⟨rfl, rfl⟩
theorem ok_X0_init : KX0_init l D cI cZ (fun _ _ _ _ _ _ _ => True) := walkX0_init trivial
theorem ok_X6_init : KX6_init l D cI cZ (fun _ _ _ _ _ => True) := walkX6_init trivial
theorem ok_X7_init : KX7_init l D cI cZ (fun _ _ _ _ _ _ => True) := walkX7_init trivial
end OK26
