/-! Years by draws. -/
def lcg (x : Int32) : Int32 := ((75 : Int32) * x + (74 : Int32)) - ((75 : Int32) * x + (74 : Int32)) / (65537 : Int32) * (65537 : Int32)
theorem lcg_nI {X : Nat} (h : X < 65537) : lcg (nI X) = nI ((75 * X + 74) % 65537) := by
  unfold lcg
  have e1 : (75 : Int32) * nI X + (74 : Int32) = nI (75 * X + 74) := by
    have a1 : (75 : Int32) * nI X = nI (75 * X) := pk_mul 75 X
    rw [a1]
    exact nI_add (75 * X) 74
  rw [e1]
  exact pk_rem (a := 75 * X + 74) (d := 65537) (by omega) (by omega) (by omega)
theorem lcg9 {X : Nat} (h : X < 65537) : (((((75 : Int64) * ((nI X).toInt64)) + (74 : Int64)) - (((75 : Int64) * ((nI X).toInt64)) + (74 : Int64)) / (65537 : Int64) * (65537 : Int64)).toInt32) = lcg (nI X) := by
  rw [lcg_nI h, nI_l (by omega)]
  have e1 : (75 : Int64) * lN X + (74 : Int64) = lN (75 * X + 74) := by
    have a1 : (75 : Int64) * lN X = lN (75 * X) := lN_mul 75 X
    rw [a1]
    exact lN_add (75 * X) 74
  rw [e1]
  have e2 : lN (75 * X + 74) - lN (75 * X + 74) / (65537 : Int64) * (65537 : Int64) = lN ((75 * X + 74) % 65537) := pk_lRem (a := 75 * X + 74) (b := 65537) (by omega) (by omega) (by omega)
  rw [e2, lN_i]
def bkX (s : Int32) : Nat → Int32
  | 0 => s
  | j + 1 => lcg (bkX s j)
theorem bkX_rng {s : Int32} (hs : rng 65537 s) : ∀ j, rng 65537 (bkX s j) := by
  intro j
  induction j with
  | zero => exact hs
  | succ j ih =>
    obtain ⟨X, hX, e⟩ := ih
    show rng 65537 (lcg (bkX s j))
    rw [e, lcg_nI hX]
    exact ⟨_, Nat.mod_lt _ (by omega), rfl⟩
def bkA (d : Int32) : Int32 := if d = 0 then 0 else if d = 1 then 0 else if d = 2 then 1 else if d = 3 then 2 else if d = 4 then 2 else if d = 5 then 3 else if d = 6 then 4 else 6
def bkM (a z : Int32) : Int32 := if a = 0 then (1 : Int32) + (z - z / (9 : Int32) * (9 : Int32)) else if a = 2 then z - z / (8 : Int32) * (8 : Int32) else z - z / (10 : Int32) * (10 : Int32)
def att (σ : DSt) (a k v : Int32) : DSt := if whS σ a k v = 0 then stp σ a k v else σ
def bkD (σ : DSt) (k d z : Int32) : DSt := if bkA d = 3 ∧ ¬ (z - z / (8 : Int32) * (8 : Int32)) = 0 then σ else att σ (bkA d) k (bkM (bkA d) z)
def bkY (σ : DSt) (s : Int32) : Nat → DSt
  | 0 => σ
  | j + 1 => bkD (bkY σ s j) (bkX s (j + 1) - bkX s (j + 1) / (10 : Int32) * (10 : Int32)) ((bkX s (j + 1) / (10 : Int32)) - (bkX s (j + 1) / (10 : Int32)) / (8 : Int32) * (8 : Int32)) (bkX s (j + 1) / (80 : Int32))
theorem att_eq (th ha ye : Int32) (p s w : Nat → Int32) (a k v : Int32) : (sT th ha ye w a k v, sHr th ha ye s w a k v, sYe th ha ye w a k v, sPl th ha ye p w a k v, sSt th ha ye s w a k v, sWo th ha ye s w a k v) = att (th, ha, ye, p, s, w) a k v := by
  unfold att sT sHr sYe sPl sSt sWo whS
  by_cases h : why th ha ye w a k v = 0
  · rw [if_pos h, if_pos h, if_pos h, if_pos h, if_pos h, if_pos h]
    exact (if_pos h).symm
  · rw [if_neg h, if_neg h, if_neg h, if_neg h, if_neg h, if_neg h]
    exact (if_neg h).symm
theorem att_1 (σ : DSt) (k v v' : Int32) : att σ 1 k v = att σ 1 k v' := by
  simp [att, whS, stp, why, acT, acH, acY, acP, acS, acW]
theorem att_6 (σ : DSt) (k v k' v' : Int32) : att σ 6 k v = att σ 6 k' v' := by
  simp [att, whS, stp, why, acT, acH, acY, acP, acS, acW]
theorem bkD_of {σ : DSt} {k d z a : Int32} (ha : bkA d = a) (h3 : ¬ a = 3) : bkD σ k d z = att σ a k (bkM a z) := by
  unfold bkD
  rw [ha, if_neg (fun q => h3 q.1)]
theorem bkA_K (d : Int32) : isK (bkA d) := by
  unfold bkA isK
  repeat' split
  all_goals decide
theorem bk_okA (d : Int32) {K Z : Nat} (hK : K < 10) (hZ : Z < 1000) : okA (bkA d) (nI K) (bkM (bkA d) (nI Z)) ∧ okV (bkA d) (bkM (bkA d) (nI Z)) := by
  have e9 : nI Z - nI Z / (9 : Int32) * (9 : Int32) = nI (Z % 9) := pk_rem (a := Z) (d := 9) (by omega) (by omega) (by omega)
  have e8 : nI Z - nI Z / (8 : Int32) * (8 : Int32) = nI (Z % 8) := pk_rem (a := Z) (d := 8) (by omega) (by omega) (by omega)
  have e10 : nI Z - nI Z / (10 : Int32) * (10 : Int32) = nI (Z % 10) := m10 hZ
  refine ⟨⟨bkA_K d, Or.inr ⟨isH_of hK, fun h => ?_⟩⟩, fun h => ?_, fun h => ?_⟩
  · unfold bkM
    rw [if_neg (fun q => by rw [q] at h; rcases h with h | h <;> exact absurd h (by decide)), if_neg (fun q => by rw [q] at h; rcases h with h | h <;> exact absurd h (by decide)), e10]
    exact isH_of (Nat.mod_lt _ (by omega))
  · rw [h]
    unfold bkM
    rw [if_pos rfl, e9]
    exact ⟨1 + Z % 9, by omega, nI_add 1 (Z % 9)⟩
  · rw [h]
    unfold bkM
    rw [if_neg (by decide), if_pos rfl, e8]
    exact ⟨Z % 8, Nat.mod_lt _ (by omega), rfl⟩
theorem bkD_ok {σ : DSt} (d : Int32) {K Z : Nat} (h : okσ σ) (hK : K < 10) (hZ : Z < 1000) : okσ (bkD σ (nI K) d (nI Z)) := by
  obtain ⟨h1, h2⟩ := bk_okA d hK hZ
  unfold bkD
  by_cases q : bkA d = 3 ∧ ¬ (nI Z - nI Z / (8 : Int32) * (8 : Int32)) = 0
  · rw [if_pos q]
    exact h
  · rw [if_neg q]
    unfold att
    by_cases w0 : whS σ (bkA d) (nI K) (bkM (bkA d) (nI Z)) = 0
    · rw [if_pos w0]
      exact act_ok h h1.1 h2 w0
    · rw [if_neg w0]
      exact h
/-- the parts of a draw -/
theorem bk_parts {x : Int32} (h : rng 65537 x) : (∃ K, K < 10 ∧ x - x / (10 : Int32) * (10 : Int32) = nI K) ∧ ∃ Z, Z < 1000 ∧ x / (80 : Int32) = nI Z := by
  obtain ⟨X, hX, rfl⟩ := h
  have e10 : nI X - nI X / (10 : Int32) * (10 : Int32) = nI (X % 10) := pk_rem (a := X) (d := 10) (by omega) (by omega) (by omega)
  have e80 : nI X / (80 : Int32) = nI (X / 80) := pk_div (a := X) (d := 80) (by omega) (by omega) (by omega)
  exact ⟨⟨X % 10, Nat.mod_lt _ (by omega), e10⟩, X / 80, by omega, e80⟩
theorem bkY_ok {σ : DSt} {s : Int32} (h : okσ σ) (hs : rng 65537 s) : ∀ j, okσ (bkY σ s j) := by
  intro j
  induction j with
  | zero => exact h
  | succ j ih =>
    obtain ⟨⟨K, hK, e1⟩, Z, hZ, e2⟩ := bk_parts (bkX_rng hs (j + 1))
    show okσ (bkD (bkY σ s j) (bkX s (j + 1) - bkX s (j + 1) / (10 : Int32) * (10 : Int32)) ((bkX s (j + 1) / (10 : Int32)) - (bkX s (j + 1) / (10 : Int32)) / (8 : Int32) * (8 : Int32)) (bkX s (j + 1) / (80 : Int32)))
    rw [e1, e2]
    exact bkD_ok _ ih hK hZ
def bkR (σ : DSt) (s m v : Int32) : Int32 := if wi s 0 9999 = true ∧ wi m 1 99 = true ∧ wi v 0 2 = true then (if v = 0 then pc (dT (bkY σ s m.toNatClampNeg)) else if v = 1 then dH (bkY σ s m.toNatClampNeg) else bs (dT (bkY σ s m.toNatClampNeg)) (dP (bkY σ s m.toNatClampNeg)) (dS (bkY σ s m.toNatClampNeg)) 10) else -2
theorem wi_seed {s : Int32} (h : wi s 0 9999 = true) : rng 65537 s := by
  obtain ⟨m, -, hm, rfl⟩ := wi_nI (L := 0) (H := 9999) h rfl rfl (by decide) (by decide)
  exact ⟨m, by omega, rfl⟩
theorem wi_many {s : Int32} (h : wi s 1 99 = true) : rng 100 s := by
  obtain ⟨m, -, hm, rfl⟩ := wi_nI (L := 1) (H := 99) h rfl rfl (by decide) (by decide)
  exact ⟨m, by omega, rfl⟩
section OK18
variable {l : Launch} {D : va_G} {cI cZ : ClassId}
theorem ok_X8_drawAct : KX8_drawAct l D cI cZ (fun _ _ _ _ _ _ _ s _ => pat s) (fun k d z th ha ye p s w u1 u2 u3 u4 u5 u6 => (u1, u2, u3, u4, u5, u6) = bkD (th, ha, ye, p, s, w) k d z) := walkX8_drawAct ok_X1_attempt (by
  rintro k d z th ha ye p s w hp
  refine ⟨fun h => ⟨⟨by unfold isK; decide, hp⟩, ?_⟩, fun h0 => ⟨fun h => ⟨⟨by unfold isK; decide, hp⟩, ?_⟩, fun h1 => ⟨fun h => ⟨⟨by unfold isK; decide, hp⟩, ?_⟩, fun h2 => ⟨fun h => ⟨⟨by unfold isK; decide, hp⟩, ?_⟩, fun h3 => ⟨fun h => ⟨⟨by unfold isK; decide, hp⟩, ?_⟩, fun h4 => ⟨fun h => ⟨fun h8 => ?_, fun h8 => ⟨⟨by unfold isK; decide, hp⟩, ?_⟩⟩, fun h5 => ⟨fun h => ⟨⟨by unfold isK; decide, hp⟩, ?_⟩, fun h6 => ⟨⟨by unfold isK; decide, hp⟩, ?_⟩⟩⟩⟩⟩⟩⟩⟩
  · rintro r u1 u2 u3 u4 u5 u6 ⟨-, rfl, rfl, rfl, rfl, rfl, rfl⟩
    subst h
    rw [att_eq, bkD_of (a := 0) (by decide) (by decide)]
    rfl
  · rintro r u1 u2 u3 u4 u5 u6 ⟨-, rfl, rfl, rfl, rfl, rfl, rfl⟩
    subst h
    rw [att_eq, bkD_of (a := 0) (by decide) (by decide)]
    rfl
  · rintro r u1 u2 u3 u4 u5 u6 ⟨-, rfl, rfl, rfl, rfl, rfl, rfl⟩
    subst h
    rw [att_eq, bkD_of (a := 1) (by decide) (by decide)]
    exact att_1 _ _ _ _
  · rintro r u1 u2 u3 u4 u5 u6 ⟨-, rfl, rfl, rfl, rfl, rfl, rfl⟩
    subst h
    rw [att_eq, bkD_of (a := 2) (by decide) (by decide)]
    rfl
  · rintro r u1 u2 u3 u4 u5 u6 ⟨-, rfl, rfl, rfl, rfl, rfl, rfl⟩
    subst h
    rw [att_eq, bkD_of (a := 2) (by decide) (by decide)]
    rfl
  · subst h
    unfold bkD
    rw [if_pos ⟨by decide, h8⟩]
  · rintro r u1 u2 u3 u4 u5 u6 ⟨-, rfl, rfl, rfl, rfl, rfl, rfl⟩
    subst h
    rw [att_eq]
    unfold bkD
    rw [if_neg (fun q => q.2 h8)]
    rfl
  · rintro r u1 u2 u3 u4 u5 u6 ⟨-, rfl, rfl, rfl, rfl, rfl, rfl⟩
    subst h
    rw [att_eq, bkD_of (a := 4) (by decide) (by decide)]
    rfl
  · rintro r u1 u2 u3 u4 u5 u6 ⟨-, rfl, rfl, rfl, rfl, rfl, rfl⟩
    rw [att_eq, bkD_of (a := 6) (by unfold bkA; rw [if_neg h0, if_neg h1, if_neg h2, if_neg h3, if_neg h4, if_neg h5, if_neg h6]) (by decide)]
    exact att_6 _ _ _ _ _)
theorem ok_X8_drawYears : KX8_drawYears l D cI cZ (fun s m th ha ye p st w _ _ _ t4 t5 t6 => rng 65537 s ∧ rng 100 m ∧ okS th ha ye p st w ∧ Z3 t4 t5 t6) (fun s m th ha ye p st w _ _ _ _ _ _ u1 u2 u3 u4 u5 u6 => (u1, u2, u3, u4, u5, u6) = bkY (th, ha, ye, p, st, w) s m.toNatClampNeg) := walkX8_drawYears (IX8_drawYears_16 := fun s m th ha ye p st w _ _ _ _ _ _ q m2 x i u1 u2 u3 u4 u5 u6 => m2 = m ∧ ∃ j, j + q = m.toNatClampNeg ∧ i = nI j ∧ x = bkX s j ∧ (u1, u2, u3, u4, u5, u6) = bkY (th, ha, ye, p, st, w) s j) ok_X1_copyFrom ok_X8_drawAct (by
  rintro s m th ha ye p st w t1 t2 t3 t4 t5 t6 ⟨hs, ⟨M, hM, rfl⟩, hS, hZ⟩
  have cM : (nI M).toNatClampNeg = M := cl M (by omega)
  have hz := Z3_ok (σ := (th, ha, ye, p, st, w)) hS
  refine ⟨trivial, ?_⟩
  rintro u1 u2 u3 u4 u5 u6 ⟨rfl, rfl, rfl, rfl, rfl, rfl⟩
  rw [cp_eq hZ.1 hz.1, cp_eq hZ.2.1 hz.2.1, cp_eq hZ.2.2 hz.2.2]
  refine ⟨⟨M, rfl, 0, by rw [cM, Nat.zero_add], rfl, rfl, rfl⟩, ?_⟩
  rintro q x i v1 v2 v3 v4 v5 v6 ⟨-, j, hj, rfl, rfl, hY⟩
  rw [cM] at hj
  have hok := bkY_ok (σ := (u1, u2, u3, p, st, w)) hS hs j
  rw [← hY] at hok
  rw [nI_leI (by omega) (by omega)]
  refine ⟨fun h => ?_, fun h => ?_⟩
  · obtain rfl : j = M := by omega
    rw [hY, cM]
  · rintro x hx
    have hx : x = bkX s (j + 1) := hx
    subst hx
    refine ⟨hok.2.2.2.2.1, ?_⟩
    rintro w1 w2 w3 w4 w5 w6 hw z rfl
    refine ⟨q - 1, by omega, rfl, j + 1, by rw [cM]; omega, nI_1 j, rfl, ?_⟩
    rw [hw, hY]
    rfl)
theorem ok_X8_book : KX8_book l D cI cZ (fun _ _ _ th ha ye p st w _ _ _ t4 t5 t6 => okS th ha ye p st w ∧ Z3 t4 t5 t6) (fun s m v th ha ye p st w _ _ _ _ _ _ r _ _ _ u4 u5 u6 => r = bkR (th, ha, ye, p, st, w) s m v ∧ Z3 u4 u5 u6) := walkX8_book ok_X8_isWithin ok_X8_drawYears ok_X1_bordersInPlaces ok_X1_howMany (by
  rintro s m v th ha ye p st w t1 t2 t3 t4 t5 t6 ⟨hS, hZ⟩
  have no : ¬ (wi s 0 9999 = true ∧ wi m 1 99 = true ∧ wi v 0 2 = true) → (-2 : Int32) = bkR (th, ha, ye, p, st, w) s m v := fun h => by
    unfold bkR
    rw [if_neg h]
  refine ⟨trivial, ?_⟩
  rintro r rfl
  refine ⟨fun h => ?_, fun h1 => ⟨trivial, ?_⟩⟩
  · rw [bi_0] at h
    exact ⟨no (fun z => Bool.false_ne_true (h.symm.trans z.1)), hZ⟩
  rintro r rfl
  refine ⟨fun h => ?_, fun h2 => ⟨trivial, ?_⟩⟩
  · rw [bi_0] at h
    exact ⟨no (fun z => Bool.false_ne_true (h.symm.trans z.2.1)), hZ⟩
  rintro r rfl
  refine ⟨fun h3 => ?_, fun h => ?_⟩
  rotate_left
  · rw [bi_0] at h
    exact ⟨no (fun z => Bool.false_ne_true (h.symm.trans z.2.2)), hZ⟩
  rw [bi_n0] at h1 h2 h3
  have hs := wi_seed h1
  refine ⟨⟨hs, wi_many h2, hS, hZ⟩, ?_⟩
  rintro u1 u2 u3 u4 u5 u6 hu
  have hok := bkY_ok (σ := (th, ha, ye, p, st, w)) hS hs m.toNatClampNeg
  unfold bkR
  rw [if_pos ⟨h1, h2, h3⟩]
  rw [← hu] at hok ⊢
  have hz := Z3_ok hok
  refine ⟨fun h4 => ⟨fun h5 => ⟨⟨hok.2.2.2.1, hok.2.2.2.2.1⟩, ?_⟩, fun h5 => ?_⟩, fun h4 => ⟨trivial, ?_⟩⟩
  · rintro r rfl
    rw [if_neg h4, if_neg h5]
    exact ⟨rfl, hz⟩
  · rw [if_neg h4, if_pos h5]
    exact ⟨rfl, hz⟩
  · rintro r rfl
    rw [if_pos h4]
    exact ⟨rfl, hz⟩)
theorem ok_X9_actBy : KX9_actBy l D cI cZ (fun _ => True) (fun d r => r = bkA d) := walkX9_actBy (by
  rintro d -
  unfold bkA
  refine ⟨fun h => by rw [if_pos h], fun h0 => ⟨fun h => by rw [if_neg h0, if_pos h], fun h1 => ⟨fun h => by rw [if_neg h0, if_neg h1, if_pos h], fun h2 => ⟨fun h => by rw [if_neg h0, if_neg h1, if_neg h2, if_pos h], fun h3 => ⟨fun h => by rw [if_neg h0, if_neg h1, if_neg h2, if_neg h3, if_pos h], fun h4 => ⟨fun h => by rw [if_neg h0, if_neg h1, if_neg h2, if_neg h3, if_neg h4, if_pos h], fun h5 => ⟨fun h => by rw [if_neg h0, if_neg h1, if_neg h2, if_neg h3, if_neg h4, if_neg h5, if_pos h], fun h6 => by rw [if_neg h0, if_neg h1, if_neg h2, if_neg h3, if_neg h4, if_neg h5, if_neg h6]⟩⟩⟩⟩⟩⟩⟩)
theorem ok_X9_muchBy : KX9_muchBy l D cI cZ (fun _ _ => True) (fun a z r => r = bkM a z) := walkX9_muchBy (by
  rintro a z -
  unfold bkM
  refine ⟨fun h => ⟨fun h2 => ?_, fun h2 => ?_⟩, fun h => ?_⟩
  · rw [if_neg h, if_neg h2]
  · rw [if_neg h, if_pos h2]
  · rw [if_pos h])
theorem ok_X9_book : KX9_book l D cI cZ (fun _ _ _ th ha ye _ _ p st w => okS th ha ye p st w) (fun s m v th ha ye _ _ p st w r u1 u2 u3 _ _ u4 u5 u6 => r = bkR (th, ha, ye, p, st, w) s m v ∧ (u1, u2, u3, u4, u5, u6) = (th, ha, ye, p, st, w)) := walkX9_book (IX9_book_49 := fun s m v th ha ye _ _ p st w q m2 v2 x i u1 u2 u3 _ had u4 u5 u6 => m2 = m ∧ v2 = v ∧ hdd had (th, ha, ye, p, st, w) ∧ ∃ j, j + q = m.toNatClampNeg ∧ i = nI j ∧ x = bkX s j ∧ (u1, u2, u3, u4, u5, u6) = bkY (th, ha, ye, p, st, w) s j) ok_X9_in ok_X9_keepNow ok_X9_borders ok_X9_back ok_X9_ones ok_X9_actBy ok_X9_muchBy ok_X9_whyNot ok_X9_happen (by
  rintro s m v th ha ye sm had p st w hS
  have hz := Z3_ok (σ := (th, ha, ye, p, st, w)) hS
  have no : ¬ (wi s 0 9999 = true ∧ wi m 1 99 = true ∧ wi v 0 2 = true) → (-2 : Int32) = bkR (th, ha, ye, p, st, w) s m v := fun h => by
    unfold bkR
    rw [if_neg h]
  refine ⟨trivial, fun r hr => ?_⟩
  obtain rfl := hr s 0 9999 rfl (by decide) (by decide)
  clear hr
  refine ⟨fun h => ?_, fun h1 => ⟨trivial, fun r hr => ?_⟩⟩
  · rw [bi_0] at h
    exact ⟨no (fun z => Bool.false_ne_true (h.symm.trans z.1)), rfl⟩
  obtain rfl := hr m 1 99 rfl (by decide) (by decide)
  clear hr
  refine ⟨fun h => ?_, fun h2 => ⟨trivial, fun r hr => ?_⟩⟩
  · rw [bi_0] at h
    exact ⟨no (fun z => Bool.false_ne_true (h.symm.trans z.2.1)), rfl⟩
  obtain rfl := hr v 0 2 rfl (by decide) (by decide)
  clear hr
  refine ⟨fun h3 => ⟨trivial, ?_⟩, fun h => ?_⟩
  rotate_left
  · rw [bi_0] at h
    exact ⟨no (fun z => Bool.false_ne_true (h.symm.trans z.2.2)), rfl⟩
  rw [bi_n0] at h1 h2 h3
  have hs := wi_seed h1
  rintro hd hdh
  obtain ⟨M, hM, eM⟩ := wi_many h2
  have cM : m.toNatClampNeg = M := by
    rw [eM]
    exact cl M (by omega)
  refine ⟨⟨M, rfl, rfl, hdh, 0, by rw [cM, Nat.zero_add], rfl, rfl, rfl⟩, ?_⟩
  rintro q x i v1 v2 v3 sm2 v4 v5 v6 ⟨-, -, -, j, hj, rfl, rfl, hY⟩
  rw [cM] at hj
  have hok := bkY_ok (σ := (th, ha, ye, p, st, w)) hS hs j
  rw [← hY] at hok
  have hzv := Z3_ok hok
  have eMj : m ≤ nI j ↔ M ≤ j := by
    rw [eM]
    exact nI_leI (by omega) (by omega)
  rw [eMj]
  refine ⟨fun h => ?_, fun h => ?_⟩
  · obtain rfl : j = M := by omega
    unfold bkR
    rw [if_pos ⟨h1, h2, h3⟩, cM, ← hY]
    refine ⟨fun h4 => ⟨fun h5 => ⟨hok.2.2.2.2.1, ?_⟩, fun h5 => ⟨trivial, ?_⟩⟩, fun h4 => ⟨hok.1, ?_⟩⟩
    · rintro r rfl
      refine ⟨trivial, ?_⟩
      rintro r w1 w2 w3 w4 w5 w6 ⟨rfl, hb⟩
      rw [if_neg h4, if_neg h5]
      exact ⟨rfl, hb _ hdh hz hzv⟩
    · rintro r w1 w2 w3 w4 w5 w6 ⟨rfl, hb⟩
      rw [if_neg h4, if_pos h5]
      exact ⟨rfl, hb _ hdh hz hzv⟩
    · rintro r rfl
      refine ⟨trivial, ?_⟩
      rintro r w1 w2 w3 w4 w5 w6 ⟨rfl, hb⟩
      rw [if_pos h4]
      exact ⟨rfl, hb _ hdh hz hzv⟩
  · obtain ⟨X, hX, eX⟩ := bkX_rng hs j
    rintro x hx
    have hx2 : x = bkX s (j + 1) := by
      rw [hx, eX, lcg9 hX, ← eX]
      rfl
    clear hx
    subst hx2
    obtain ⟨⟨K, hK, e1⟩, Z, hZ, e2⟩ := bk_parts (bkX_rng hs (j + 1))
    have eY : bkY (th, ha, ye, p, st, w) s (j + 1) = bkD (v1, v2, v3, v4, v5, v6) (nI K) ((bkX s (j + 1) / (10 : Int32)) - (bkX s (j + 1) / (10 : Int32)) / (8 : Int32) * (8 : Int32)) (nI Z) := by
      rw [hY, ← e1, ← e2]
      rfl
    generalize hd8 : (bkX s (j + 1) / (10 : Int32)) - (bkX s (j + 1) / (10 : Int32)) / (8 : Int32) * (8 : Int32) = d8 at *
    rw [e1, e2]
    obtain ⟨hA, hV⟩ := bk_okA d8 hK hZ
    have ye99 : v3 ≤ 99 := by
      obtain ⟨n, hn, e⟩ := hok.2.2.1
      have e : v3 = nI n := e
      rw [e]
      exact nI_le (b := 99) (by omega) (by decide)
    refine ⟨trivial, ?_⟩
    rintro a ha2
    rw [← ha2] at hA hV
    rintro z rfl
    have nx : bkA d8 = 3 ∧ ¬ (nI Z - nI Z / (8 : Int32) * (8 : Int32)) = 0 → (v1, v2, v3, v4, v5, v6) = bkY (th, ha, ye, p, st, w) s (j + 1) := fun h => by
      rw [eY]
      unfold bkD
      rw [if_pos h]
    have nw : ¬ (bkA d8 = 3 ∧ ¬ (nI Z - nI Z / (8 : Int32) * (8 : Int32)) = 0) → ¬ why v1 v2 v3 v6 a (nI K) (bkM a (nI Z)) = 0 → (v1, v2, v3, v4, v5, v6) = bkY (th, ha, ye, p, st, w) s (j + 1) := fun h h2 => by
      rw [eY]
      unfold bkD att
      rw [if_neg h, ← ha2]
      exact (if_neg h2).symm
    have yw : ¬ (bkA d8 = 3 ∧ ¬ (nI Z - nI Z / (8 : Int32) * (8 : Int32)) = 0) → why v1 v2 v3 v6 a (nI K) (bkM a (nI Z)) = 0 → (acT v1 v6 a (nI K) (bkM a (nI Z)), acH v1 v2 v5 v6 a, acY v3 a, acP v4 a (nI K) (bkM a (nI Z)), acS v1 v2 v5 v6 a (nI K) (bkM a (nI Z)), acW v1 v2 v5 v6 a (nI K) (bkM a (nI Z))) = bkY (th, ha, ye, p, st, w) s (j + 1) := fun h h2 => by
      rw [eY]
      unfold bkD att
      rw [if_neg h, ← ha2]
      exact (if_pos h2).symm
    have pA : okA a (nI K) (bkM a (nI Z)) ∧ rng 1024 v1 ∧ v3 ≤ 99 ∧ okW v1 v6 := ⟨hA, hok.1, ye99, hok.2.2.2.2.2.1⟩
    refine ⟨fun h3 => ?_, fun h3 => ⟨fun h8 => ?_, fun h8 => ?_⟩⟩
    · have hn : ¬ (bkA d8 = 3 ∧ ¬ (nI Z - nI Z / (8 : Int32) * (8 : Int32)) = 0) := fun q => h3 (by rw [ha2]; exact q.1)
      refine ⟨trivial, ?_⟩
      rintro r rfl
      refine ⟨pA, ?_⟩
      rintro r rfl
      refine ⟨fun h4 => ?_, fun h4 => ⟨trivial, ?_⟩⟩
      · rintro y rfl
        exact ⟨q - 1, by omega, rfl, rfl, hdh, j + 1, by rw [cM]; omega, nI_1 j, rfl, nw hn h4⟩
      · rintro r rfl
        refine ⟨⟨hA, hok.2.2.2.2.1⟩, ?_⟩
        rintro w1 w2 w3 w4 w5 w6 w7 ⟨rfl, rfl, rfl, -, rfl, rfl, rfl⟩ y rfl
        exact ⟨q - 1, by omega, rfl, rfl, hdh, j + 1, by rw [cM]; omega, nI_1 j, rfl, yw hn h4⟩
    · rintro y rfl
      exact ⟨q - 1, by omega, rfl, rfl, hdh, j + 1, by rw [cM]; omega, nI_1 j, rfl, nx ⟨by rw [← ha2]; exact h3, h8⟩⟩
    · have hn : ¬ (bkA d8 = 3 ∧ ¬ (nI Z - nI Z / (8 : Int32) * (8 : Int32)) = 0) := fun q => q.2 h8
      refine ⟨trivial, ?_⟩
      rintro r rfl
      refine ⟨pA, ?_⟩
      rintro r rfl
      refine ⟨fun h4 => ?_, fun h4 => ⟨trivial, ?_⟩⟩
      · rintro y rfl
        exact ⟨q - 1, by omega, rfl, rfl, hdh, j + 1, by rw [cM]; omega, nI_1 j, rfl, nw hn h4⟩
      · rintro r rfl
        refine ⟨⟨hA, hok.2.2.2.2.1⟩, ?_⟩
        rintro w1 w2 w3 w4 w5 w6 w7 ⟨rfl, rfl, rfl, -, rfl, rfl, rfl⟩ y rfl
        exact ⟨q - 1, by omega, rfl, rfl, hdh, j + 1, by rw [cM]; omega, nI_1 j, rfl, yw hn h4⟩)
end OK18
