/-! Most by unions: the class's answer; the reference. -/
def mstA (s : Nat → Int32) (th p0 p1 r : Int32) : Prop := if wi p0 1 255 = true ∧ wi p1 0 1 = true then (if p1 = 0 then ∃ v, r = nI v ∧ isG (cv (gi s) p0.toNatClampNeg) v (coll (soP th s p0) 10) else r = nI (cnt (soP th s p0) 10)) else r = -2
theorem mstA_one {s : Nat → Int32} {th p0 p1 r r' : Int32} (h : mstA s th p0 p1 r) (h2 : mstA s th p0 p1 r') : r = r' := by
  unfold mstA at h h2
  by_cases q : wi p0 1 255 = true ∧ wi p1 0 1 = true
  · rw [if_pos q] at h h2
    by_cases z : p1 = 0
    · rw [if_pos z] at h h2
      obtain ⟨v, rfl, h⟩ := h
      obtain ⟨u, rfl, h2⟩ := h2
      rw [isG_one h h2]
    · rw [if_neg z] at h h2
      rw [h, h2]
  · rw [if_neg q] at h h2
    rw [h, h2]
theorem hSo_cnt (th : Int32) (s : Nat → Int32) (z : Int32) : ∀ k, hSo th s z k = nI (cnt (soP th s z) k) := by
  intro k
  induction k with
  | zero => rfl
  | succ k ih =>
    show (if hs th (nI k) = true ∧ ¬ (s k &&& z) = 0 then hSo th s z k + 1 else hSo th s z k) = _
    by_cases q : hs th (nI k) = true ∧ ¬ (s k &&& z) = 0
    · rw [if_pos q, cnt_yes (by unfold soP; rw [q.1, decide_eq_true q.2]; rfl), ih, nI_1]
    · rw [if_neg q, cnt_no, ih]
      cases y : soP th s z k with
      | false => rfl
      | true =>
        unfold soP at y
        rw [Bool.and_eq_true] at y
        exact absurd ⟨y.1, of_decide_eq_true y.2⟩ q
def goF (co gr : Nat → Int32) (e : Nat) (j : Nat) (b : Int32) : Int32 := if (if co j = 0 then (0 : Int32) else (1 : Int32) + gr (sd e j)) ≤ b then b else (if co j = 0 then (0 : Int32) else (1 : Int32) + gr (sd e j))
theorem max_J {B V : Nat} (hB : B < 2 ^ 31) (hV : V < 2 ^ 31) : (if nI V ≤ nI B then nI B else nI V) = nI (max B V) := by
  have e : nI V ≤ nI B ↔ V ≤ B := nI_leI hV hB
  by_cases h : V ≤ B
  · rw [if_pos (e.mpr h)]
    congr 1
    omega
  · rw [if_neg (fun z => h (e.mp z))]
    congr 1
    omega
theorem grp_ok {t : Nat → Nat} {w m : Nat} {co gr : Nat → Int32} (hw0 : ¬ w = 0) (hm : m < 1024) (hco : ∀ j, ¬ j = 0 → sb j m → (¬ co j = 0 ↔ cv t w j)) (hgr : ∀ y, sb y m → y < m → okG (cv t w) gr y) : ∃ v, sbL (goF co gr m) m 1024 m 0 = nI v ∧ isG (cv t w) v m := by
  have hC : ∀ s, cv t w s → ¬ s = 0 := fun s => cv_nz hw0
  have hlt : ∀ j, ¬ j = 0 → sb j m → sd m j < m := fun j h0 hj => by
    obtain ⟨i, hi⟩ := nz_bit h0
    exact sd_lt (hj i hi) hi
  have hg : ∀ j, ¬ j = 0 → sb j m → gr (sd m j) = nI (gi gr (sd m j)) ∧ isG (cv t w) (gi gr (sd m j)) (sd m j) ∧ gi gr (sd m j) ≤ 1023 := fun j h0 hj => by
    have := hlt j h0 hj
    exact okG_gi hC (by omega) (hgr _ (sd_sb m j) this)
  have hF : ∀ j B, ¬ j = 0 → sb j m → B ≤ 1024 → goF co gr m j (nI B) = nI (max B (if co j = 0 then 0 else 1 + gi gr (sd m j))) := fun j B h0 hj hB => by
    unfold goF
    by_cases c : co j = 0
    · rw [if_pos c, if_pos c]
      exact max_J (V := 0) (by omega) (by decide)
    · obtain ⟨g1, -, g3⟩ := hg j h0 hj
      have e1 : (1 : Int32) + nI (gi gr (sd m j)) = nI (1 + gi gr (sd m j)) := nI_add 1 _
      rw [if_neg c, if_neg c, g1, e1]
      exact max_J (by omega) (by omega)
  obtain ⟨M, m1, m2, m3, m4, m5⟩ := sbL_spec (F := goF co gr m) (o := m) (val := fun j => if co j = 0 then 0 else 1 + gi gr (sd m j)) hF (fun j h0 hj => by
    have := (hg j h0 hj).2.2
    show (if co j = 0 then 0 else 1 + gi gr (sd m j)) ≤ 1024
    split <;> omega) 1024 m 0 hm (sb_refl m) (by omega)
  refine ⟨M, m1, isG_all (g := gi gr) (fun s a c => (hg s (hC s c) a).2.1) (fun s a c => ?_) ?_⟩
  · have h0 := hC s c
    have this : (if co s = 0 then 0 else 1 + gi gr (sd m s)) ≤ M := m4 s h0 a (sb_le a)
    rw [if_neg ((hco s h0 a).mpr c)] at this
    exact this
  · rcases m5 with z | ⟨x, x1, x2, z⟩
    · exact Or.inl z
    · have z : M = (if co x = 0 then 0 else 1 + gi gr (sd m x)) := z
      by_cases c : co x = 0
      · rw [if_pos c] at z
        exact Or.inl z
      · rw [if_neg c] at z
        exact Or.inr ⟨x, x2, (hco x x1 x2).mp c, z⟩
theorem wi255 {p : Int32} (h : wi p 1 255 = true) : ∃ w, ¬ w = 0 ∧ w < 256 ∧ p = nI w := by
  obtain ⟨m, h1, h2, h3⟩ := wi_nI (L := 1) (H := 255) h rfl rfl (by decide) (by decide)
  exact ⟨m, by omega, by omega, h3⟩
theorem wi01 {p : Int32} (h : wi p 0 1 = true) : p = 0 ∨ p = 1 := by
  obtain ⟨K, hK, rfl⟩ := wi_of (N := 1) (by decide) h
  rcases Nat.lt_or_ge K 1 with q | q
  · obtain rfl : K = 0 := by omega
    exact Or.inl rfl
  · obtain rfl : K = 1 := by omega
    exact Or.inr rfl
section OK23
variable {l : Launch} {D : va_G} {cI cZ : ClassId}
theorem ok_X8_most : KX8_most l D cI cZ (fun _ _ _ _ _ s => pat s) (fun p0 p1 _ _ th s r _ _ => mstA s th p0 p1 r) := walkX8_most ok_X8_isWithin ok_X1_howManyHaveSome ok_X0_mostParishes (by
  rintro p0 p1 vp vs th s hp
  refine ⟨trivial, ?_⟩
  rintro r rfl
  refine ⟨fun h => ?_, fun h => ⟨trivial, ?_⟩⟩
  · rw [bi_0] at h
    unfold mstA
    rw [if_neg (fun z => by rw [h] at z; cases z.1)]
  · rw [bi_n0] at h
    rintro r rfl
    refine ⟨fun h2 => ⟨fun h3 => ⟨trivial, ?_⟩, fun h3 => ⟨trivial, ?_⟩⟩, fun h2 => ?_⟩
    · rw [bi_n0] at h2
      rintro r rfl
      unfold mstA
      rw [if_pos ⟨h, h2⟩, if_neg h3]
      exact hSo_cnt th s p0 10
    · rw [bi_n0] at h2
      rintro r f4 f5 hr
      unfold mstA
      rw [if_pos ⟨h, h2⟩, if_pos h3, hr]
      obtain ⟨w, w0, w1, rfl⟩ := wi255 h
      rw [cl w (by omega)]
      exact mp_ok hp w0 (by omega)
    · rw [bi_0] at h2
      unfold mstA
      rw [if_neg (fun z => by rw [h2] at z; cases z.2)])
theorem ok_X9_isCover : KX9_isCover l D cI cZ (fun p0 p1 s => rng 1024 p0 ∧ rng 1024 p1 ∧ pat s) (fun p0 p1 s r => (cv (gi s) p1.toNatClampNeg p0.toNatClampNeg → r = 1) ∧ (¬ cv (gi s) p1.toNatClampNeg p0.toNatClampNeg → r = 0)) := walkX9_isCover (IX9_isCover_5 := fun p0 p1 s n q0 q1 b i => q0 = p0 ∧ q1 = p1 ∧ ∃ m, m + n = 10 ∧ i = nI m ∧ b = nI (uS (gi s) p0.toNatClampNeg m)) ok_X9_has (by
  rintro p0 p1 s ⟨⟨e, he, rfl⟩, ⟨w, hw, rfl⟩, hp⟩
  have c0 : (nI e).toNatClampNeg = e := cl e (by omega)
  have c1 : (nI w).toNatClampNeg = w := cl w (by omega)
  rw [c0, c1]
  refine ⟨⟨10, rfl, rfl, 0, rfl, rfl, rfl⟩, ?_⟩
  rintro n b i ⟨-, -, m, hm, rfl, rfl⟩
  refine ⟨fun h => ?_, fun h => ⟨trivial, ?_⟩⟩
  · obtain ⟨rfl, -⟩ := c10e hm h
    rw [sb_I hw, cv_uS]
    exact ⟨fun q => ⟨fun z => absurd z q, fun _ => rfl⟩, fun q => ⟨fun _ => rfl, fun z => absurd q z⟩⟩
  · obtain ⟨h10, hn⟩ := c10 hm h
    have e1 : uS (gi s) e (m + 1) = (if e.testBit m = true then uS (gi s) e m ||| gi s m else uS (gi s) e m) := rfl
    rintro r rfl
    rw [bits_hs e he m h10]
    refine ⟨fun h2 => ?_, fun h2 => ⟨in10 h10, ?_⟩⟩
    · rw [bi_0] at h2
      rintro x rfl y rfl
      refine ⟨n - 1, by omega, rfl, rfl, m + 1, by omega, nI_1 m, ?_⟩
      have : nI (uS (gi s) e m) ||| (0 : Int32) = nI (uS (gi s) e m ||| 0) := or_nI _ 0
      rw [this, Nat.or_zero, e1, if_neg (by rw [h2]; decide)]
    · rw [bi_n0] at h2
      rintro x rfl y rfl
      refine ⟨n - 1, by omega, rfl, rfl, m + 1, by omega, nI_1 m, ?_⟩
      obtain ⟨a, ha, ea⟩ := hp m h10
      have eg : gi s m = a := by
        unfold gi
        rw [ea, cl a (by omega)]
      rw [cl10 h10, ea, or_nI, e1, if_pos h2, eg])
theorem ok_X9_groupsOf : KX9_groupsOf l D cI cZ (fun p0 _ _ => rng 1024 p0) (fun p0 co gr r => r = sbL (goF co gr p0.toNatClampNeg) p0.toNatClampNeg 1024 p0.toNatClampNeg 0) := walkX9_groupsOf (IX9_groupsOf_4 := fun p0 co gr n q0 b x => q0 = p0 ∧ n < 1024 ∧ x = nI n ∧ ∃ f, n < f ∧ sbL (goF co gr p0.toNatClampNeg) p0.toNatClampNeg f n b = sbL (goF co gr p0.toNatClampNeg) p0.toNatClampNeg 1024 p0.toNatClampNeg 0) (by
  rintro p0 co gr ⟨e, he, rfl⟩
  have c0 : (nI e).toNatClampNeg = e := cl e (by omega)
  rw [c0]
  refine ⟨⟨e, rfl, he, rfl, 1024, he, rfl⟩, ?_⟩
  rintro j x b ⟨-, hj, rfl, f, hf, hE⟩
  have el : nI j ≤ 0 ↔ j ≤ 0 := nI_leI (b := 0) (by omega) (by decide)
  rw [el]
  refine ⟨fun h => ?_, fun h => ⟨vp_in_nI hj (by decide), ?_⟩⟩
  · obtain rfl : j = 0 := by omega
    rw [← hE, sbL_0]
  · have h0 : ¬ j = 0 := by omega
    obtain ⟨f', rfl⟩ : ∃ f', f = f' + 1 := ⟨f - 1, by omega⟩
    have hlt : (j - 1) &&& e ≤ j - 1 := Nat.and_le_left
    have hsd := sd_le e j
    rw [nI_m1 h0, and_nI, sd_nI he, cl j (by omega), cl (sd e j) (by omega)]
    have nxt : ∀ b', b' = goF co gr e j b → ∀ x : Int32, x = nI ((j - 1) &&& e) → ∃ n1, n1 < j ∧ nI e = nI e ∧ n1 < 1024 ∧ x = nI n1 ∧ ∃ f, n1 < f ∧ sbL (goF co gr e) e f n1 b' = sbL (goF co gr e) e 1024 e 0 := by
      rintro b' rfl x rfl
      exact ⟨(j - 1) &&& e, by omega, rfl, by omega, rfl, f', by omega, by rw [← hE, sbL_s _ _ _ _ h0]⟩
    refine ⟨fun h2 => ⟨fun h3 => ?_, fun h3 => ?_⟩, fun h2 => ⟨vp_in_nI (by omega) (by decide), ?_⟩⟩
    · refine nxt b ?_
      unfold goF
      rw [if_pos h2, if_pos h3]
    · refine nxt 0 ?_
      unfold goF
      rw [if_pos h2, if_neg h3]
    · rintro y rfl
      refine ⟨fun h3 => nxt b ?_, fun h3 => nxt _ ?_⟩
      · unfold goF
        rw [if_neg h2, if_pos h3]
      · unfold goF
        rw [if_neg h2, if_neg h3])
theorem ok_X9_most : KX9_most l D cI cZ (fun _ _ _ _ _ s => pat s) (fun p0 p1 th _ _ s r _ _ => mstA s th p0 p1 r) := walkX9_most (IX9_most_30 := fun p0 p1 th _ _ s n q0 q1 b i _ _ => q0 = p0 ∧ q1 = p1 ∧ ∃ m, m + n = 10 ∧ i = nI m ∧ b = nI (coll (soP th s p0) m)) (IX9_most_91 := fun p0 _ th _ _ s n q0 b e co gr => q0 = p0 ∧ b = nI (coll (soP th s p0) 10) ∧ ∃ m, m + n = 1024 ∧ e = nI m ∧ ∀ y, y < m → sb y (coll (soP th s p0) 10) → (¬ y = 0 → (¬ co y = 0 ↔ cv (gi s) p0.toNatClampNeg y)) ∧ okG (cv (gi s) p0.toNatClampNeg) gr y) ok_X9_in ok_X9_groupsOf ok_X9_isCover ok_X9_ones ok_X9_has (by
  rintro p0 p1 th co0 gr0 s hp
  refine ⟨trivial, fun r hr => ?_⟩
  obtain rfl := hr p0 1 255 rfl (by decide) (by decide)
  clear hr
  refine ⟨fun h => ?_, fun h => ⟨trivial, fun r hr => ?_⟩⟩
  · rw [bi_0] at h
    unfold mstA
    rw [if_neg (fun z => by rw [h] at z; cases z.1)]
  rw [bi_n0] at h
  obtain rfl := hr p1 0 1 rfl (by decide) (by decide)
  clear hr
  refine ⟨fun h2 => ?_, fun h2 => ?_⟩
  · rw [bi_n0] at h2
    obtain ⟨w, w0, w1, ew⟩ := wi255 h
    refine ⟨⟨10, rfl, rfl, 0, rfl, rfl, rfl⟩, ?_⟩
    rintro n b i ⟨-, -, m, hm, rfl, rfl⟩
    refine ⟨fun h3 => ⟨fun h4 => ?_, fun h4 => ⟨⟨_, coll_1024 _ (by omega), rfl⟩, ?_⟩⟩, fun h3 => ⟨trivial, ?_⟩⟩
    · obtain ⟨rfl, -⟩ := c10e hm h3
      have hp1 : p1 = 0 := by
        rcases wi01 h2 with z | z
        · exact z
        · exact absurd z h4
      obtain ⟨A, hA⟩ : ∃ A, A = coll (soP th s p0) 10 := ⟨_, rfl⟩
      have hA1 : A < 1024 := by
        rw [hA]
        exact coll_1024 _ (Nat.le_refl 10)
      have cw : p0.toNatClampNeg = w := by
        rw [ew]
        exact cl w (by omega)
      rw [← hA, cw]
      refine ⟨⟨1024, rfl, rfl, 0, rfl, rfl, fun y hy => absurd hy (Nat.not_lt_zero _)⟩, ?_⟩
      rintro n2 e co gr ⟨-, -, m, hmn, rfl, hI⟩
      have e1024 : (1024 : Int32) ≤ nI m ↔ 1024 ≤ m := ctr_le rfl (by decide) (by omega)
      rw [e1024]
      refine ⟨fun h5 => ⟨vp_in_nI hA1 (by decide), ?_⟩, fun h5 => ?_⟩
      · unfold mstA
        rw [if_pos ⟨h, h2⟩, if_pos hp1, cl A (by omega), ← hA, cw]
        exact (hI A (by omega) (sb_refl A)).2
      · have hm1 : m < 1024 := by omega
        have v1 : vp_in (nI m) 1024 := vp_in_nI hm1 (by decide)
        have cm : (nI m).toNatClampNeg = m := cl m (by omega)
        rw [sb_I hm1, cm]
        have n0 : vp_nar .boolean (0 : Int32) = 0 := nar_isB (Or.inl rfl)
        have n1 : vp_nar .boolean (1 : Int32) = 1 := nar_isB (Or.inr rfl)
        rw [n0, n1]
        refine ⟨fun h6 => ⟨v1, v1, ?_⟩, fun h6 => ?_⟩
        · rintro x rfl
          refine ⟨n2 - 1, by omega, rfl, rfl, m + 1, by omega, nI_1 m, fun y hy hs => ?_⟩
          by_cases d : y = m
          · subst d
            exact absurd hs h6
          · obtain ⟨j1, v, j2, j3⟩ := hI y (by omega) hs
            exact ⟨by rw [upd_n d]; exact j1, v, by rw [upd_n d]; exact j2, j3⟩
        · have nxt : ∀ c r : Int32, (¬ m = 0 → (¬ c = 0 ↔ cv (gi s) w m)) → r = sbL (goF (upd co m c) gr m) m 1024 m 0 → ∀ x : Int32, x = nI m + (1 : Int32) → ∃ n1, n1 < n2 ∧ p0 = p0 ∧ nI A = nI A ∧ ∃ m1, m1 + n1 = 1024 ∧ x = nI m1 ∧ ∀ y, y < m1 → sb y A → (¬ y = 0 → (¬ upd co m c y = 0 ↔ cv (gi s) w y)) ∧ okG (cv (gi s) w) (upd gr m r) y := by
            rintro c r hc hr x rfl
            have hco : ∀ y, y < m + 1 → sb y A → ¬ y = 0 → (¬ upd co m c y = 0 ↔ cv (gi s) w y) := fun y hy hs y0 => by
              by_cases d : y = m
              · subst d
                rw [upd_s]
                exact hc y0
              · rw [upd_n d]
                exact (hI y (by omega) hs).1 y0
            refine ⟨n2 - 1, by omega, rfl, rfl, m + 1, by omega, nI_1 m, fun y hy hs => ⟨hco y hy hs, ?_⟩⟩
            by_cases d : y = m
            · subst d
              obtain ⟨v, g1, g2⟩ := grp_ok (t := gi s) (w := w) (m := y) (co := upd co y c) (gr := gr) w0 hm1 (fun j j0 hj => hco j (by have := sb_le hj; omega) (sb_trans hj h6) j0) (fun z hz hlt => (hI z hlt (sb_trans hz h6)).2)
              exact ⟨v, by rw [upd_s, hr]; exact g1, g2⟩
            · obtain ⟨-, v, j2, j3⟩ := hI y (by omega) hs
              exact ⟨v, by rw [upd_n d]; exact j2, j3⟩
          have el : nI m ≤ 0 ↔ m ≤ 0 := nI_leI (b := 0) (by omega) (by decide)
          rw [el]
          refine ⟨fun h7 => ⟨v1, ⟨m, hm1, rfl⟩, ?_⟩, fun h7 => ⟨⟨⟨m, hm1, rfl⟩, ⟨w, by omega, ew⟩, hp⟩, ?_⟩⟩
          · intro r hr
            exact ⟨v1, nxt 0 r (fun z => absurd (by omega) z) hr⟩
          · rintro r ⟨r1, r2⟩
            refine ⟨fun h8 => ⟨v1, ⟨m, hm1, rfl⟩, ?_⟩, fun h8 => ⟨v1, ⟨m, hm1, rfl⟩, ?_⟩⟩
            · intro r' hr
              refine ⟨v1, nxt 0 r' (fun _ => ⟨fun z => absurd rfl z, fun z => ?_⟩) hr⟩
              have := r1 z
              rw [h8] at this
              exact absurd this (by decide)
            · intro r' hr
              refine ⟨v1, nxt 1 r' (fun _ => ⟨fun _ => ?_, fun _ => by decide⟩) hr⟩
              by_cases z : cv (gi s) w m
              · exact z
              · exact absurd (r2 z) h8
    · obtain ⟨rfl, -⟩ := c10e hm h3
      rintro r rfl
      unfold mstA
      rw [if_pos ⟨h, h2⟩, if_neg (by rw [h4]; decide), bits_pc _ (coll_1024 _ (by omega)), pN_coll]
    · obtain ⟨h10, hn⟩ := c10 hm h3
      have nxt : ∀ b' : Int32, b' = nI (coll (soP th s p0) (m + 1)) → ∀ x : Int32, x = nI m + (1 : Int32) → ∃ n1, n1 < n ∧ p0 = p0 ∧ p1 = p1 ∧ ∃ m1, m1 + n1 = 10 ∧ x = nI m1 ∧ b' = nI (coll (soP th s p0) m1) := by
        rintro b' hb x rfl
        exact ⟨n - 1, by omega, rfl, rfl, m + 1, by omega, nI_1 m, hb⟩
      have or0 : nI (coll (soP th s p0) m) ||| (0 : Int32) = nI (coll (soP th s p0) m) := by
        have : nI (coll (soP th s p0) m) ||| (0 : Int32) = nI (coll (soP th s p0) m ||| 0) := or_nI _ 0
        rw [this, Nat.or_zero]
      rintro r rfl
      rw [or0]
      refine ⟨fun h4 => ?_, fun h4 => ⟨in10 h10, ?_⟩⟩
      · rw [bi_0] at h4
        rintro y rfl
        refine nxt _ ?_
        rw [coll_no (by unfold soP; rw [h4]; rfl)]
      · rw [bi_n0] at h4
        rw [cl10 h10]
        refine ⟨fun h5 => ?_, fun h5 => ?_⟩
        · rintro y rfl
          refine nxt _ ?_
          rw [coll_no (by unfold soP; rw [decide_eq_false (p := ¬ (s m &&& p0) = 0) (fun z => z h5), Bool.and_false])]
        · rintro y rfl
          refine nxt _ ?_
          rw [coll_yes (by unfold soP; rw [h4, decide_eq_true h5]; rfl), bits_or _ (coll_1024 _ (by omega)) m h10]
  · rw [bi_0] at h2
    unfold mstA
    rw [if_neg (fun z => by rw [h2] at z; cases z.2)])
end OK23
