/-! Images. -/
abbrev ISt := Int32 × (Nat → Int32) × (Nat → Int32)
def im (f : Nat → Int32) (b : Nat) (σ : DSt) (c : Int32) (fv fd : Nat → Int32) : Prop := f b = dT σ ∧ f (b + 1) = dH σ ∧ f (b + 2) = dY σ ∧ f (b + 3) = c ∧ (∀ j, j < 10 → f (b + 4 + j) = dW σ j) ∧ (∀ j, j < 10 → f (b + 14 + j) = dS σ j) ∧ (∀ j, j < 10 → f (b + 24 + j) = dP σ j) ∧ (∀ j, j < 8 → f (b + 34 + j) = fd j) ∧ (∀ j, j < 8 → f (b + 42 + j) = fv j)
/-- n of g laid into f from a on -/
def pkR (f : Nat → Int32) (a : Nat) (g : Nat → Int32) (n : Nat) : Nat → Int32 := fun j => if a ≤ j ∧ j < a + n then g (j - a) else f j
theorem pkR_0 (f : Nat → Int32) (a : Nat) (g : Nat → Int32) : pkR f a g 0 = f := by
  funext j
  unfold pkR
  rw [if_neg (by omega)]
theorem pkR_s (f : Nat → Int32) (a : Nat) (g : Nat → Int32) (n : Nat) : upd (pkR f a g n) (a + n) (g n) = pkR f a g (n + 1) := by
  funext j
  by_cases e : j = a + n
  · subst e
    rw [upd_s]
    unfold pkR
    rw [if_pos (by omega), show a + n - a = n by omega]
  · rw [upd_n e]
    unfold pkR
    by_cases h : a ≤ j ∧ j < a + n
    · rw [if_pos h, if_pos (by omega)]
    · rw [if_neg h, if_neg (by omega)]
theorem pkR_o {f g : Nat → Int32} {a n j : Nat} (h : j < a ∨ a + n ≤ j) : pkR f a g n j = f j := by
  unfold pkR
  rw [if_neg (by omega)]
theorem pkR_i {f g : Nat → Int32} {a n j : Nat} (h : j < n) : pkR f a g n (a + j) = g j := by
  unfold pkR
  rw [if_pos (by omega), show a + j - a = j by omega]
theorem upd_same (f : Nat → Int32) (k : Nat) : upd f k (f k) = f := by
  funext j
  by_cases e : j = k
  · subst e
    rw [upd_s]
  · rw [upd_n e]
section OK19
variable {l : Launch} {D : va_G} {cI cZ : ClassId}
theorem ok_X4_copyFrom : KX4_copyFrom l D cI cZ (fun _ fv fd _ fv2 fd2 => Zf 8 fv ∧ Zf 8 fd ∧ Zf 8 fv2 ∧ Zf 8 fd2) (fun _ _ _ c fv fd c2 fv2 fd2 => (c2, fv2, fd2) = (c, fv, fd)) := walkX4_copyFrom (IX4_copyFrom_10 := fun _ fv fd _ fv1 fd1 q i _ fv2 fd2 => ∃ k, k + q = 8 ∧ i = nI k ∧ fv2 = cpN k fv fv1 ∧ fd2 = cpN k fd fd1) (by
  rintro c0 fv fd c fv1 fd1 ⟨z1, z2, z3, z4⟩
  refine ⟨⟨8, 0, rfl, rfl, (cp_0 _ _).symm, (cp_0 _ _).symm⟩, ?_⟩
  rintro q i g1 g2 ⟨k, hk, rfl, rfl, rfl⟩
  have e8 : ((8 : Int32) ≤ nI k) ↔ 8 ≤ k := ctr_le rfl (by decide) (by omega)
  rw [e8]
  refine ⟨fun h => ?_, fun h => ?_⟩
  · obtain rfl : k = 8 := by omega
    rw [cp_eq z1 z3, cp_eq z2 z4]
  · have hv : vp_in (nI k) 8 := vp_in_nI (by omega) (by decide)
    rw [cl k (by omega)]
    refine ⟨hv, ?_⟩
    rintro x rfl
    refine ⟨hv, hv, ?_⟩
    rintro y rfl
    refine ⟨hv, ?_⟩
    rintro z rfl
    exact ⟨q - 1, by omega, k + 1, by omega, nI_1 k, cp_s _ _ _, cp_s _ _ _⟩)
theorem ok_X2_keep : KX2_keep l D cI cZ (fun _ _ _ _ p s w _ fv fd _ _ _ p1 s1 w1 _ fv1 fd1 => Z3 p s w ∧ (Zf 8 fv ∧ Zf 8 fd) ∧ Z3 p1 s1 w1 ∧ Zf 8 fv1 ∧ Zf 8 fd1) (fun _ _ _ _ _ _ _ _ _ _ th ha ye p s w c fv fd k2 th2 ha2 ye2 p2 s2 w2 c2 fv2 fd2 => k2 = 1 ∧ (th2, ha2, ye2, p2, s2, w2) = (th, ha, ye, p, s, w) ∧ (c2, fv2, fd2) = (c, fv, fd)) := walkX2_keep ok_X1_copyFrom ok_X4_copyFrom (by
  rintro k a1 a2 a3 a4 a5 a6 a7 a8 a9 th ha ye p s w c fv fd ⟨z1, z2, z3, z4, z5⟩
  refine ⟨trivial, ?_⟩
  rintro u1 u2 u3 u4 u5 u6 ⟨rfl, rfl, rfl, rfl, rfl, rfl⟩
  refine ⟨⟨z2.1, z2.2, z4, z5⟩, ?_⟩
  rintro v1 v2 v3 hv
  rw [cp_eq z1.1 z3.1, cp_eq z1.2.1 z3.2.1, cp_eq z1.2.2 z3.2.2]
  exact ⟨rfl, rfl, hv⟩)
theorem ok_X2_bringBack : KX2_bringBack l D cI cZ (fun k _ _ _ p s w _ fv fd _ _ _ p1 s1 w1 _ fv1 fd1 => (k = 0 ∨ k = 1) ∧ Z3 p s w ∧ (Zf 8 fv ∧ Zf 8 fd) ∧ Z3 p1 s1 w1 ∧ Zf 8 fv1 ∧ Zf 8 fd1) (fun k th ha ye p s w c fv fd th0 ha0 ye0 p0 s0 w0 c0 fv0 fd0 r th2 ha2 ye2 p2 s2 w2 c2 fv2 fd2 => r = k ∧ (k = 0 → (th2, ha2, ye2, p2, s2, w2) = (th0, ha0, ye0, p0, s0, w0) ∧ (c2, fv2, fd2) = (c0, fv0, fd0)) ∧ (¬ k = 0 → (th2, ha2, ye2, p2, s2, w2) = (th, ha, ye, p, s, w) ∧ (c2, fv2, fd2) = (c, fv, fd))) := walkX2_bringBack ok_X1_copyFrom ok_X4_copyFrom (by
  rintro k th ha ye p s w c fv fd a1 a2 a3 a4 a5 a6 a7 a8 a9 ⟨hk, z1, z2, z3, z4, z5⟩
  refine ⟨fun h => ⟨hk, rfl, fun _ => ⟨rfl, rfl⟩, fun z => absurd h z⟩, fun h => ⟨trivial, ?_⟩⟩
  rintro u1 u2 u3 u4 u5 u6 ⟨rfl, rfl, rfl, rfl, rfl, rfl⟩
  refine ⟨⟨z4, z5, z2.1, z2.2⟩, ?_⟩
  rintro v1 v2 v3 hv
  rw [cp_eq z3.1 z1.1, cp_eq z3.2.1 z1.2.1, cp_eq z3.2.2 z1.2.2]
  exact ⟨hk, rfl, fun z => absurd z h, fun _ => ⟨rfl, hv⟩⟩)
theorem ok_X8_imageOf : KX8_imageOf l D cI cZ (fun _ => True) := walkX8_imageOf (by
  rintro k -
  exact ⟨id, id⟩)
def ipR (k : Int32) : Int32 := if wi k 0 1 = true then 1 else -2
theorem ok_X8_image : KX8_image l D cI cZ (fun _ _ _ _ _ p s w _ fv fd _ _ _ p1 s1 w1 _ _ _ _ p2 s2 w2 _ fv2 fd2 _ fv3 fd3 => Z3 p s w ∧ (Zf 8 fv ∧ Zf 8 fd) ∧ Z3 p1 s1 w1 ∧ Z3 p2 s2 w2 ∧ (Zf 8 fv2 ∧ Zf 8 fd2) ∧ Zf 8 fv3 ∧ Zf 8 fd3) (fun k f1 f2 f3 f4 f5 f6 f7 f8 f9 f10 th ha ye p s w g1 g2 g3 g4 g5 g6 g7 g8 g9 g10 c fv fd r u1 u2 u3 u4 u5 u6 u7 u8 u9 u10 v1 v2 v3 v4 v5 v6 v7 v8 v9 v10 => r = ipR k ∧ ((u1, u2, u3, u4, u5, u6, u7, u8, u9, u10) = (if wi k 0 1 = true ∧ k = 0 then (1, th, ha, ye, p, s, w, c, fv, fd) else (f1, f2, f3, f4, f5, f6, f7, f8, f9, f10))) ∧ ((v1, v2, v3, v4, v5, v6, v7, v8, v9, v10) = (if wi k 0 1 = true ∧ ¬ k = 0 then (1, th, ha, ye, p, s, w, c, fv, fd) else (g1, g2, g3, g4, g5, g6, g7, g8, g9, g10)))) := walkX8_image ok_X8_isWithin ok_X8_imageOf ok_X2_keep (by
  rintro k f1 f2 f3 f4 f5 f6 f7 f8 f9 f10 th ha ye p s w g1 g2 g3 g4 g5 g6 g7 g8 g9 g10 c fv fd ⟨z1, z2, z3, z4, z5, z6⟩
  refine ⟨trivial, ?_⟩
  rintro r rfl
  unfold ipR
  refine ⟨fun h => ⟨trivial, fun h2 => ⟨⟨z1, z2, z3, z6⟩, ?_⟩, fun h2 => ⟨⟨z4, z5, z3, z6⟩, ?_⟩⟩, fun h => ?_⟩
  · rw [bi_n0] at h
    rintro u1 u2 u3 u4 u5 u6 u7 u8 u9 u10 ⟨rfl, e1, e2⟩
    cases e1
    cases e2
    rw [if_pos h, if_pos ⟨h, h2⟩, if_neg (fun z => z.2 h2)]
    exact ⟨rfl, rfl, rfl⟩
  · rw [bi_n0] at h
    rintro u1 u2 u3 u4 u5 u6 u7 u8 u9 u10 ⟨rfl, e1, e2⟩
    cases e1
    cases e2
    rw [if_pos h, if_neg (fun z => h2 z.2), if_pos ⟨h, h2⟩]
    exact ⟨rfl, rfl, rfl⟩
  · rw [bi_0] at h
    rw [if_neg (fun z => Bool.false_ne_true (h.symm.trans z)), if_neg (fun z => Bool.false_ne_true (h.symm.trans z.1)), if_neg (fun z => Bool.false_ne_true (h.symm.trans z.1))]
    exact ⟨rfl, rfl, rfl⟩)
/-- of two kept: the one that is asked, if it is kept -/
def rsR (k F G : Int32) : Int32 := if wi k 0 1 = true then (if (if k = 0 then F else G) = 0 then -3 else 1) else -2
theorem ok_X8_restore : KX8_restore l D cI cZ (fun _ f1 _ _ _ p s w _ fv fd _ _ _ p1 s1 w1 g1 _ _ _ p2 s2 w2 _ fv2 fd2 _ fv3 fd3 => ((f1 = 0 ∨ f1 = 1) ∧ (g1 = 0 ∨ g1 = 1)) ∧ Z3 p s w ∧ (Zf 8 fv ∧ Zf 8 fd) ∧ Z3 p1 s1 w1 ∧ Z3 p2 s2 w2 ∧ (Zf 8 fv2 ∧ Zf 8 fd2) ∧ Zf 8 fv3 ∧ Zf 8 fd3) (fun k f1 f2 f3 f4 f5 f6 f7 f8 f9 f10 th ha ye p s w g1 g2 g3 g4 g5 g6 g7 g8 g9 g10 c fv fd r u1 u2 u3 u4 u5 u6 u7 u8 u9 => r = rsR k f1 g1 ∧ (u1, u2, u3, u4, u5, u6, u7, u8, u9) = (if rsR k f1 g1 = 1 then (if k = 0 then (f2, f3, f4, f5, f6, f7, f8, f9, f10) else (g2, g3, g4, g5, g6, g7, g8, g9, g10)) else (th, ha, ye, p, s, w, c, fv, fd))) := walkX8_restore ok_X8_isWithin ok_X8_imageOf ok_X2_bringBack (by
  rintro k f1 f2 f3 f4 f5 f6 f7 f8 f9 f10 th ha ye p s w g1 g2 g3 g4 g5 g6 g7 g8 g9 g10 c fv fd ⟨⟨b1, b2⟩, z1, z2, z3, z4, z5, z6⟩
  refine ⟨trivial, ?_⟩
  rintro r rfl
  refine ⟨fun h => ⟨trivial, fun h2 => ⟨⟨b1, z1, z2, z3, z6⟩, ?_⟩, fun h2 => ⟨⟨b2, z4, z5, z3, z6⟩, ?_⟩⟩, fun h => ?_⟩
  · rw [bi_n0] at h
    rintro r u1 u2 u3 u4 u5 u6 u7 u8 u9 ⟨rfl, e1, e2⟩
    refine ⟨fun h3 => ?_, fun h3 => ?_⟩
    · obtain ⟨x1, x2⟩ := e1 h3
      cases x1
      cases x2
      have er : rsR k r g1 = -3 := by
        unfold rsR
        rw [if_pos h, if_pos h2, if_pos h3]
      rw [er, if_neg (by decide)]
      exact ⟨rfl, rfl⟩
    · obtain ⟨x1, x2⟩ := e2 h3
      cases x1
      cases x2
      have er : rsR k r g1 = 1 := by
        unfold rsR
        rw [if_pos h, if_pos h2, if_neg h3]
      rw [er, if_pos rfl, if_pos h2]
      exact ⟨rfl, rfl⟩
  · rw [bi_n0] at h
    rintro r u1 u2 u3 u4 u5 u6 u7 u8 u9 ⟨rfl, e1, e2⟩
    refine ⟨fun h3 => ?_, fun h3 => ?_⟩
    · obtain ⟨x1, x2⟩ := e1 h3
      cases x1
      cases x2
      have er : rsR k f1 r = -3 := by
        unfold rsR
        rw [if_pos h, if_neg h2, if_pos h3]
      rw [er, if_neg (by decide)]
      exact ⟨rfl, rfl⟩
    · obtain ⟨x1, x2⟩ := e2 h3
      cases x1
      cases x2
      have er : rsR k f1 r = 1 := by
        unfold rsR
        rw [if_pos h, if_neg h2, if_neg h3]
      rw [er, if_pos rfl, if_neg h2]
      exact ⟨rfl, rfl⟩
  · rw [bi_0] at h
    have er : rsR k f1 g1 = -2 := by
      unfold rsR
      rw [h]
      rfl
    rw [er, if_neg (by decide)]
    exact ⟨rfl, rfl⟩)
theorem ok_X9_pass : KX9_pass l D cI cZ (fun _ a _ _ => rng 120 a) (fun v a b f r a2 f2 => a2 = a + (1 : Int32) ∧ (¬ b = 0 → r = v ∧ f2 = upd f a.toNatClampNeg v) ∧ (b = 0 → r = f a.toNatClampNeg ∧ f2 = f)) := walkX9_pass (by
  rintro v a b f ⟨n, hn, rfl⟩
  have hv : vp_in (nI n) 120 := vp_in_nI hn (by decide)
  refine ⟨fun h => ⟨hv, ?_⟩, fun h => ⟨hv, ?_⟩⟩
  · rintro x rfl
    refine ⟨hv, ?_⟩
    rintro y rfl
    exact ⟨rfl, fun z => absurd h z, fun _ => ⟨rfl, upd_same _ _⟩⟩
  · rintro y rfl
    exact ⟨rfl, fun _ => ⟨rfl, rfl⟩, fun z => absurd z h⟩)
theorem ok_X9_passRow : KX9_passRow l D cI cZ (fun len n a _ _ _ => (n = nI n.toNatClampNeg ∧ n.toNatClampNeg ≤ len ∧ len ≤ 10) ∧ a = nI a.toNatClampNeg ∧ a.toNatClampNeg + n.toNatClampNeg ≤ 120) (fun _ n a b f row a2 f2 row2 => a2 = nI (a.toNatClampNeg + n.toNatClampNeg) ∧ (¬ b = 0 → f2 = pkR f a.toNatClampNeg row n.toNatClampNeg ∧ row2 = row) ∧ (b = 0 → f2 = f ∧ row2 = cpN n.toNatClampNeg row (fun j => f (a.toNatClampNeg + j)))) := walkX9_passRow (IX9_passRow_2 := fun _ n a b f row q n2 i a2 f2 row2 => n2 = n ∧ ∃ k, k + q = n.toNatClampNeg ∧ i = nI k ∧ a2 = nI (a.toNatClampNeg + k) ∧ (¬ b = 0 → f2 = pkR f a.toNatClampNeg row k ∧ row2 = row) ∧ (b = 0 → f2 = f ∧ row2 = cpN k row (fun j => f (a.toNatClampNeg + j)))) ok_X9_pass (by
  rintro len n a b f row ⟨⟨en, hl, hlen⟩, ea, hA⟩
  generalize hcn : n.toNatClampNeg = N at *
  generalize hca : a.toNatClampNeg = A at *
  refine ⟨⟨N, rfl, 0, Nat.zero_add _, rfl, by rw [ea]; rfl, fun _ => ⟨(pkR_0 _ _ _).symm, rfl⟩, fun _ => ⟨rfl, (cp_0 _ _).symm⟩⟩, ?_⟩
  rintro q i a2 f2 row2 ⟨-, k, hk, rfl, rfl, h1, h2⟩
  rw [en, nI_leI (by omega) (by omega)]
  refine ⟨fun h => ?_, fun h => ?_⟩
  · obtain rfl : k = N := by omega
    exact ⟨rfl, h1, h2⟩
  · have hv : vp_in (nI k) len := vp_in_nI (by omega) (by omega)
    have ck : (nI k).toNatClampNeg = k := cl k (by omega)
    have ca : (nI (A + k)).toNatClampNeg = A + k := cl (A + k) (by omega)
    rw [ck, ca]
    refine ⟨hv, ⟨A + k, by omega, rfl⟩, ?_⟩
    rintro r a3 f3 ⟨rfl, h3, h4⟩
    refine ⟨hv, ?_⟩
    rintro x rfl
    refine ⟨q - 1, by omega, en.symm ▸ rfl, k + 1, by omega, nI_1 k, nI_1 _, fun hb => ?_, fun hb => ?_⟩
    · obtain ⟨rfl, rfl⟩ := h3 hb
      obtain ⟨rfl, rfl⟩ := h1 hb
      exact ⟨pkR_s _ _ _ _, upd_same _ _⟩
    · obtain ⟨rfl, rfl⟩ := h4 hb
      obtain ⟨rfl, rfl⟩ := h2 hb
      exact ⟨rfl, cp_s k row _⟩)
theorem ok_X9_passAll : KX9_passAll l D cI cZ (fun _ _ _ _ a _ _ _ _ _ _ _ => ∃ B, B + 60 ≤ 120 ∧ a = nI B) (fun pr ch ye si a b f pl sd sw st wo pr2 ch2 ye2 si2 _ f2 pl2 sd2 sw2 st2 wo2 => (¬ b = 0 → (pr2, ch2, ye2, pl2, st2, wo2) = (pr, ch, ye, pl, st, wo) ∧ (si2, sw2, sd2) = (si, sw, sd) ∧ im f2 a.toNatClampNeg (pr, ch, ye, pl, st, wo) si sw sd ∧ ∀ j, j < a.toNatClampNeg ∨ a.toNatClampNeg + 60 ≤ j → f2 j = f j) ∧ (b = 0 → f2 = f ∧ ∀ (σ : DSt) (c : Int32) (fv fd : Nat → Int32), im f a.toNatClampNeg σ c fv fd → Z3 (dP σ) (dS σ) (dW σ) → Zf 8 fv → Zf 8 fd → Z3 pl st wo → Zf 8 sw → Zf 8 sd → (pr2, ch2, ye2, pl2, st2, wo2) = σ ∧ (si2, sw2, sd2) = (c, fv, fd))) := walkX9_passAll ok_X9_pass ok_X9_passRow (by
  rintro pr ch ye si a b f pl sd sw st wo ⟨B, hB, rfl⟩
  have c0 : (nI B).toNatClampNeg = B := cl B (by omega)
  have t10 : ((10 : Int32)).toNatClampNeg = 10 := by decide
  have t8 : ((8 : Int32)).toNatClampNeg = 8 := by decide
  rw [c0, t10, t8]
  refine ⟨⟨B, by omega, rfl⟩, ?_⟩
  rintro r1 a1 f1 ⟨rfl, w1, v1⟩
  rw [nI_1, cl (B + 1) (by omega)]
  refine ⟨⟨B + 1, by omega, rfl⟩, ?_⟩
  rintro r2 a2 f2 ⟨rfl, w2, v2⟩
  rw [nI_1, cl (B + 1 + 1) (by omega)]
  refine ⟨⟨B + 1 + 1, by omega, rfl⟩, ?_⟩
  rintro r3 a3 f3 ⟨rfl, w3, v3⟩
  rw [nI_1, cl (B + 1 + 1 + 1) (by omega)]
  refine ⟨⟨B + 1 + 1 + 1, by omega, rfl⟩, ?_⟩
  rintro r4 a4 f4 ⟨rfl, w4, v4⟩
  rw [nI_1, cl (B + 1 + 1 + 1 + 1) (by omega)]
  refine ⟨⟨⟨rfl, by omega, by omega⟩, rfl, by omega⟩, ?_⟩
  rintro a5 f5 wo2 ⟨rfl, w5, v5⟩
  rw [cl (B + 1 + 1 + 1 + 1 + 10) (by omega)]
  refine ⟨⟨⟨rfl, by omega, by omega⟩, rfl, by omega⟩, ?_⟩
  rintro a6 f6 st2 ⟨rfl, w6, v6⟩
  rw [cl (B + 1 + 1 + 1 + 1 + 10 + 10) (by omega)]
  refine ⟨⟨⟨rfl, by omega, by omega⟩, rfl, by omega⟩, ?_⟩
  rintro a7 f7 pl2 ⟨rfl, w7, v7⟩
  rw [cl (B + 1 + 1 + 1 + 1 + 10 + 10 + 10) (by omega)]
  refine ⟨⟨⟨rfl, by omega, by omega⟩, rfl, by omega⟩, ?_⟩
  rintro a8 f8 sd2 ⟨rfl, w8, v8⟩
  rw [cl (B + 1 + 1 + 1 + 1 + 10 + 10 + 10 + 8) (by omega)]
  refine ⟨⟨⟨rfl, by omega, by omega⟩, rfl, by omega⟩, ?_⟩
  rintro a9 f9 sw2 ⟨rfl, w9, v9⟩
  refine ⟨fun hb => ?_, fun hb => ?_⟩
  · obtain ⟨rfl, rfl⟩ := w1 hb
    obtain ⟨rfl, rfl⟩ := w2 hb
    obtain ⟨rfl, rfl⟩ := w3 hb
    obtain ⟨rfl, rfl⟩ := w4 hb
    obtain ⟨rfl, rfl⟩ := w5 hb
    obtain ⟨rfl, rfl⟩ := w6 hb
    obtain ⟨rfl, rfl⟩ := w7 hb
    obtain ⟨rfl, rfl⟩ := w8 hb
    obtain ⟨rfl, rfl⟩ := w9 hb
    clear w1 w2 w3 w4 w5 w6 w7 w8 w9 v1 v2 v3 v4 v5 v6 v7 v8 v9
    refine ⟨rfl, rfl, ⟨?_, ?_, ?_, ?_, ?_, ?_, ?_, ?_, ?_⟩, ?_⟩
    · rw [pkR_o (by omega), pkR_o (by omega), pkR_o (by omega), pkR_o (by omega), pkR_o (by omega), upd_n (by omega), upd_n (by omega), upd_n (by omega), upd_s]
    · rw [pkR_o (by omega), pkR_o (by omega), pkR_o (by omega), pkR_o (by omega), pkR_o (by omega), upd_n (by omega), upd_n (by omega), upd_s]
    · rw [pkR_o (by omega), pkR_o (by omega), pkR_o (by omega), pkR_o (by omega), pkR_o (by omega), upd_n (by omega), upd_s]
    · rw [pkR_o (by omega), pkR_o (by omega), pkR_o (by omega), pkR_o (by omega), pkR_o (by omega), upd_s]
    · intro j hj
      rw [pkR_o (by omega), pkR_o (by omega), pkR_o (by omega), pkR_o (by omega)]
      exact pkR_i (a := B + 4) hj
    · intro j hj
      rw [pkR_o (by omega), pkR_o (by omega), pkR_o (by omega)]
      exact pkR_i (a := B + 14) hj
    · intro j hj
      rw [pkR_o (by omega), pkR_o (by omega)]
      exact pkR_i (a := B + 24) hj
    · intro j hj
      rw [pkR_o (by omega)]
      exact pkR_i (a := B + 34) hj
    · intro j hj
      exact pkR_i (a := B + 42) hj
    · intro j hj
      rw [pkR_o (by omega), pkR_o (by omega), pkR_o (by omega), pkR_o (by omega), pkR_o (by omega), upd_n (by omega), upd_n (by omega), upd_n (by omega), upd_n (by omega)]
  · obtain ⟨rfl, rfl⟩ := v1 hb
    obtain ⟨rfl, rfl⟩ := v2 hb
    obtain ⟨rfl, rfl⟩ := v3 hb
    obtain ⟨rfl, rfl⟩ := v4 hb
    obtain ⟨rfl, rfl⟩ := v5 hb
    obtain ⟨rfl, rfl⟩ := v6 hb
    obtain ⟨rfl, rfl⟩ := v7 hb
    obtain ⟨rfl, rfl⟩ := v8 hb
    obtain ⟨rfl, rfl⟩ := v9 hb
    refine ⟨rfl, ?_⟩
    rintro ⟨s1, s2, s3, s4, s5, s6⟩ c fv fd ⟨i1, i2, i3, i4, i5, i6, i7, i8, i9⟩ z1 z2 z3 z4 z5 z6
    have i1 : f9 B = s1 := i1
    have i2 : f9 (B + 1) = s2 := i2
    have i3 : f9 (B + 1 + 1) = s3 := i3
    have i4 : f9 (B + 1 + 1 + 1) = c := i4
    rw [i1, i2, i3, i4, cp_eq2 (h := s6) (fun j hj => i5 j hj), cp_eq2 (h := s5) (fun j hj => i6 j hj), cp_eq2 (h := s4) (fun j hj => i7 j hj), cp_eq2 (h := fd) (fun j hj => i8 j hj), cp_eq2 (h := fv) (fun j hj => i9 j hj), cp_eq z4.1 z1.1, cp_eq z4.2.1 z1.2.1, cp_eq z4.2.2 z1.2.2, cp_eq z5 z2, cp_eq z6 z3]
    exact ⟨rfl, rfl⟩)
theorem wi_01 {k : Int32} (h : wi k 0 1 = true) : ∃ K, K ≤ 1 ∧ k = nI K := wi_of (N := 1) (by decide) h
theorem ok_X9_image : KX9_image l D cI cZ (fun _ _ _ _ _ _ _ _ _ _ _ _ _ _ => True) (fun k pr ch ye si _ _ g f pl sd sw st wo r pr2 ch2 ye2 si2 _ _ g2 f2 pl2 sd2 sw2 st2 wo2 => r = ipR k ∧ (pr2, ch2, ye2, pl2, st2, wo2) = (pr, ch, ye, pl, st, wo) ∧ (si2, sw2, sd2) = (si, sw, sd) ∧ (wi k 0 1 = true → g2 = upd g k.toNatClampNeg 1 ∧ im f2 (60 * k.toNatClampNeg) (pr, ch, ye, pl, st, wo) si sw sd ∧ ∀ j, j < 60 * k.toNatClampNeg ∨ 60 * k.toNatClampNeg + 60 ≤ j → f2 j = f j) ∧ (wi k 0 1 = false → g2 = g ∧ f2 = f)) := walkX9_image ok_X9_in ok_X9_passAll (by
  rintro k pr ch ye si a b g f pl sd sw st wo -
  refine ⟨trivial, fun r hr => ?_⟩
  obtain rfl := hr k 0 1 rfl (by decide) (by decide)
  clear hr
  refine ⟨fun h => ?_, fun h => ?_⟩
  · rw [bi_n0] at h
    obtain ⟨K, hK, rfl⟩ := wi_01 h
    have e60 : (60 : Int32) * nI K = nI (60 * K) := pk_mul 60 K
    rw [e60]
    rintro x rfl
    refine ⟨⟨60 * K, by omega, rfl⟩, ?_⟩
    have c1 : (nI (60 * K)).toNatClampNeg = 60 * K := cl _ (by omega)
    have c2 : (nI K).toNatClampNeg = K := cl _ (by omega)
    rw [c1, c2]
    rintro pr2 ch2 ye2 si2 a2 f2 pl2 sd2 sw2 st2 wo2 ⟨h1, -⟩
    obtain ⟨x1, x2, x3, x4⟩ := h1 (by decide)
    refine ⟨vp_in_nI (by omega) (by decide), ?_, x1, x2, fun _ => ⟨rfl, x3, x4⟩, fun z => Bool.false_ne_true (z.symm.trans h) |>.elim⟩
    unfold ipR
    rw [if_pos h]
  · rw [bi_0] at h
    refine ⟨?_, rfl, rfl, fun z => Bool.false_ne_true (h.symm.trans z) |>.elim, fun _ => ⟨rfl, rfl⟩⟩
    unfold ipR
    rw [h]
    rfl)
theorem ok_X9_restore : KX9_restore l D cI cZ (fun _ _ _ _ _ _ _ _ _ _ _ _ _ _ => True) (fun k pr ch ye si _ _ g f pl sd sw st wo r pr2 ch2 ye2 si2 _ _ f2 pl2 sd2 sw2 st2 wo2 => r = rsR k (g 0) (g 1) ∧ f2 = f ∧ (rsR k (g 0) (g 1) = 1 → ∀ (σ : DSt) (c : Int32) (fv fd : Nat → Int32), im f (60 * k.toNatClampNeg) σ c fv fd → Z3 (dP σ) (dS σ) (dW σ) → Zf 8 fv → Zf 8 fd → Z3 pl st wo → Zf 8 sw → Zf 8 sd → (pr2, ch2, ye2, pl2, st2, wo2) = σ ∧ (si2, sw2, sd2) = (c, fv, fd)) ∧ (¬ rsR k (g 0) (g 1) = 1 → (pr2, ch2, ye2, pl2, st2, wo2) = (pr, ch, ye, pl, st, wo) ∧ (si2, sw2, sd2) = (si, sw, sd))) := walkX9_restore ok_X9_in ok_X9_passAll (by
  rintro k pr ch ye si a b g f pl sd sw st wo -
  refine ⟨trivial, fun r hr => ?_⟩
  obtain rfl := hr k 0 1 rfl (by decide) (by decide)
  clear hr
  refine ⟨fun h => ?_, fun h => ?_⟩
  · rw [bi_n0] at h
    obtain ⟨K, hK, rfl⟩ := wi_01 h
    have e60 : (60 : Int32) * nI K = nI (60 * K) := pk_mul 60 K
    rw [e60]
    have c1 : (nI (60 * K)).toNatClampNeg = 60 * K := cl _ (by omega)
    have c2 : (nI K).toNatClampNeg = K := cl _ (by omega)
    rw [c2]
    have eg : (if nI K = 0 then g 0 else g 1) = g K := by
      have e0 : nI K = (0 : Int32) ↔ K = 0 := nI_eq (b := 0) (by omega) (by decide)
      by_cases z : K = 0
      · rw [if_pos (e0.mpr z), z]
      · rw [if_neg (fun q => z (e0.mp q)), show K = 1 by omega]
    have er : rsR (nI K) (g 0) (g 1) = (if g K = 0 then -3 else 1) := by
      unfold rsR
      rw [if_pos h, eg]
    rw [er]
    refine ⟨vp_in_nI (by omega) (by decide), fun h2 => ?_, fun h2 => ?_⟩
    · rintro x rfl
      refine ⟨⟨60 * K, by omega, rfl⟩, ?_⟩
      rw [c1]
      rintro pr2 ch2 ye2 si2 a2 f2 pl2 sd2 sw2 st2 wo2 ⟨-, h1⟩
      obtain ⟨x1, x2⟩ := h1 rfl
      rw [if_neg h2]
      exact ⟨rfl, x1, fun _ => x2, fun z => absurd rfl z⟩
    · rw [if_pos h2]
      exact ⟨rfl, rfl, fun z => absurd z (by decide), fun _ => ⟨rfl, rfl⟩⟩
  · rw [bi_0] at h
    have er : rsR k (g 0) (g 1) = -2 := by
      unfold rsR
      rw [h]
      rfl
    rw [er]
    exact ⟨rfl, rfl, fun z => absurd z (by decide), fun _ => ⟨rfl, rfl⟩⟩)
end OK19
