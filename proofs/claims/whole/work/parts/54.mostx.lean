/-! Most by unions: the class's loops. -/
def mwF (vp vs : Nat → Int32) (nx o : Nat) (w : Int32) (j : Nat) (b : Int32) : Int32 := if vs (j ||| nx) = w then (if b < (1 : Int32) + vp (o ^^^ j) then (1 : Int32) + vp (o ^^^ j) else b) else b
theorem nI_m1 {j : Nat} (h : ¬ j = 0) : nI j - (1 : Int32) = nI (j - 1) := pk_sub (a := j) (b := 1) (by omega)
def rkN (q : (Nat → Int32) × (Nat → Int32)) (nx : Nat) (some w : Int32) (m : Nat) : (Nat → Int32) × (Nat → Int32) :=
  (upd q.1 (m ||| nx) (if (q.2 m ||| some) = w then sbL (mwF q.1 (upd q.2 (m ||| nx) (q.2 m ||| some)) nx m w) m 1024 m (q.1 m) else 0), upd q.2 (m ||| nx) (q.2 m ||| some))
def rkL (nx : Nat) (some all w : Int32) (vp vs : Nat → Int32) : Nat → (Nat → Int32) × (Nat → Int32)
  | 0 => (vp, vs)
  | m + 1 => if (nI m &&& (all ^^^ (-1 : Int32))) = 0 then rkN (rkL nx some all w vp vs m) nx some w m else rkL nx some all w vp vs m
def muL (s : Nat → Int32) (all w : Int32) (vp vs : Nat → Int32) : Nat → (Nat → Int32) × (Nat → Int32)
  | 0 => (upd vp 0 0, upd vs 0 0)
  | h + 1 => if hs all (nI h) = true then rkL (2 ^ h) (s h &&& w) all w (muL s all w vp vs h).1 (muL s all w vp vs h).2 (2 ^ h) else muL s all w vp vs h
def whP (th : Int32) (s : Nat → Int32) (w : Int32) (k : Nat) : Bool := hs th (nI k) && decide ((s k &&& w) = w)
def paP (th : Int32) (s : Nat → Int32) (w : Int32) (k : Nat) : Bool := hs th (nI k) && (decide (¬ (s k &&& w) = w) && decide (¬ (s k &&& w) = 0))
def soP (th : Int32) (s : Nat → Int32) (w : Int32) (k : Nat) : Bool := hs th (nI k) && decide (¬ (s k &&& w) = 0)
theorem coll_yes {p : Nat → Bool} {m : Nat} (h : p m = true) : coll p (m + 1) = coll p m ||| 2 ^ m := if_pos h
theorem coll_no {p : Nat → Bool} {m : Nat} (h : p m = false) : coll p (m + 1) = coll p m := if_neg (by rw [h]; decide)
theorem cnt_yes {p : Nat → Bool} {m : Nat} (h : p m = true) : cnt p (m + 1) = cnt p m + 1 := if_pos h
theorem cnt_no {p : Nat → Bool} {m : Nat} (h : p m = false) : cnt p (m + 1) = cnt p m := if_neg (by rw [h]; decide)
theorem p2_lt {h : Nat} (hh : h < 10) : 2 ^ h ≤ 512 := show 2 ^ h ≤ 2 ^ 9 from Nat.pow_le_pow_right (by decide) (by omega)
theorem p2_I : ∀ h, h < 10 → (1 : Int32) <<< (nI h &&& 31) = nI (2 ^ h) := by decide
section OK22
variable {l : Launch} {D : va_G} {cI cZ : ClassId}
theorem ok_X0_mostWith : KX0_mostWith l D cI cZ (fun p0 p1 _ _ _ => rng 1024 p0 ∧ rng 1024 p1) (fun p0 p1 p2 vp vs r => r = sbL (mwF vp vs p0.toNatClampNeg p1.toNatClampNeg p2) p1.toNatClampNeg 1024 p1.toNatClampNeg (vp p1.toNatClampNeg)) := walkX0_mostWith (IX0_mostWith_14 := fun p0 p1 p2 vp vs n q0 q1 q2 b x i => q0 = p0 ∧ q1 = p1 ∧ q2 = p2 ∧ ∃ j k, j < 1024 ∧ x = nI j ∧ i = nI k ∧ k + n = 1024 ∧ sbL (mwF vp vs p0.toNatClampNeg p1.toNatClampNeg p2) p1.toNatClampNeg n j b = sbL (mwF vp vs p0.toNatClampNeg p1.toNatClampNeg p2) p1.toNatClampNeg 1024 p1.toNatClampNeg (vp p1.toNatClampNeg)) (by
  rintro p0 p1 w vp vs ⟨⟨nx, hnx, rfl⟩, ⟨o, ho, rfl⟩⟩
  have c0 : (nI nx).toNatClampNeg = nx := cl nx (by omega)
  have c1 : (nI o).toNatClampNeg = o := cl o (by omega)
  rw [c0, c1]
  refine ⟨vp_in_nI ho (by decide), ?_⟩
  rintro x rfl
  refine ⟨⟨1024, rfl, rfl, rfl, o, 0, ho, rfl, rfl, rfl, rfl⟩, ?_⟩
  rintro n x i b ⟨-, -, -, j, k, hj, rfl, rfl, hk, he⟩
  have e1024 : (1024 : Int32) ≤ nI k ↔ 1024 ≤ k := ctr_le rfl (by decide) (by omega)
  have ej : nI j = 0 ↔ j = 0 := nI_eq (b := 0) (by omega) (by decide)
  rw [e1024, ej]
  refine ⟨fun h => ?_, fun h => ⟨fun h2 => ?_, fun h2 => ?_⟩⟩
  · obtain rfl : n = 0 := by omega
    exact he
  · subst h2
    rw [← he, sbL_0]
  · obtain ⟨n', rfl⟩ : ∃ n', n = n' + 1 := ⟨n - 1, by omega⟩
    have hor : j ||| nx < 1024 := Nat.or_lt_two_pow (n := 10) hj hnx
    have hxo : o ^^^ j < 1024 := Nat.xor_lt_two_pow (n := 10) ho hj
    have hlt : (j - 1) &&& o ≤ j - 1 := Nat.and_le_left
    rw [or_nI, xor_nI, nI_m1 h2, and_nI, cl (j ||| nx) (by omega), cl (o ^^^ j) (by omega)]
    have nxt : ∀ b', b' = mwF vp vs nx o w j b → ∃ n1, n1 < n' + 1 ∧ nI nx = nI nx ∧ nI o = nI o ∧ w = w ∧ ∃ j2 k2, j2 < 1024 ∧ nI ((j - 1) &&& o) = nI j2 ∧ nI k + (1 : Int32) = nI k2 ∧ k2 + n1 = 1024 ∧ sbL (mwF vp vs nx o w) o n1 j2 b' = sbL (mwF vp vs nx o w) o 1024 o (vp o) := by
      rintro b' rfl
      exact ⟨n', by omega, rfl, rfl, rfl, (j - 1) &&& o, k + 1, by omega, rfl, nI_1 k, by omega, by rw [← he, sbL_s _ _ _ _ h2]⟩
    refine ⟨vp_in_nI hor (by decide), fun h3 => ?_, fun h3 => ⟨vp_in_nI hxo (by decide), ?_⟩⟩
    · rintro x rfl y rfl
      refine nxt b ?_
      unfold mwF
      rw [if_neg h3]
    · rintro z rfl x rfl y rfl
      refine nxt _ ?_
      unfold mwF
      rw [if_pos h3])
theorem ok_X0_reckonWith : KX0_reckonWith l D cI cZ (fun p0 _ _ _ _ _ => rng 513 p0) (fun p0 p1 p2 p3 vp vs f3 f4 => (f3, f4) = rkL p0.toNatClampNeg p1 p2 p3 vp vs p0.toNatClampNeg) := walkX0_reckonWith (IX0_reckonWith_3 := fun p0 p1 p2 p3 vp vs n q0 q1 q2 q3 i f3 f4 => q0 = p0 ∧ q1 = p1 ∧ q2 = p2 ∧ q3 = p3 ∧ ∃ m, m + n = p0.toNatClampNeg ∧ i = nI m ∧ (f3, f4) = rkL p0.toNatClampNeg p1 p2 p3 vp vs m) ok_X0_mostWith (by
  rintro p0 p1 p2 p3 vp vs ⟨nx, hnx, rfl⟩
  have c0 : (nI nx).toNatClampNeg = nx := cl nx (by omega)
  rw [c0]
  refine ⟨⟨nx, rfl, rfl, rfl, rfl, 0, by omega, rfl, rfl⟩, ?_⟩
  rintro n i f3 f4 ⟨-, -, -, -, m, hm, rfl, hf⟩
  have el : nI nx ≤ nI m ↔ nx ≤ m := nI_leI (by omega) (by omega)
  rw [el]
  refine ⟨fun h => ?_, fun h => ⟨fun h2 => ?_, fun h2 => ?_⟩⟩
  · obtain rfl : m = nx := by omega
    exact hf
  · rintro x rfl
    exact ⟨n - 1, by omega, rfl, rfl, rfl, rfl, m + 1, by omega, nI_1 m, by rw [hf]; exact (if_neg h2).symm⟩
  · have hor : m ||| nx < 1024 := Nat.or_lt_two_pow (n := 10) (by omega) (by omega)
    have e1 : rkL nx p1 p2 p3 vp vs (m + 1) = rkN (f3, f4) nx p1 p3 m := by
      rw [hf]
      exact if_pos h2
    have cm : (nI m).toNatClampNeg = m := cl m (by omega)
    rintro x hx
    rw [or_nI] at hx
    subst hx
    rw [cm, cl (m ||| nx) (by omega)]
    have v1 : vp_in (nI (m ||| nx)) 1024 := vp_in_nI hor (by decide)
    refine ⟨vp_in_nI (by omega) (by decide), ?_⟩
    rintro y rfl
    rw [upd_s]
    refine ⟨v1, v1, fun h3 => ⟨v1, ?_⟩, fun h3 => ⟨⟨⟨nx, by omega, rfl⟩, ⟨m, by omega, rfl⟩⟩, ?_⟩⟩
    · rintro x rfl
      refine ⟨n - 1, by omega, rfl, rfl, rfl, rfl, m + 1, by omega, nI_1 m, ?_⟩
      rw [e1]
      unfold rkN
      rw [if_neg h3]
    · rintro r rfl
      refine ⟨v1, ?_⟩
      rintro x rfl
      refine ⟨n - 1, by omega, rfl, rfl, rfl, rfl, m + 1, by omega, nI_1 m, ?_⟩
      rw [e1]
      unfold rkN
      rw [if_pos h3])
theorem ok_X0_mostUnions : KX0_mostUnions l D cI cZ (fun p1 _ _ _ _ => rng 1024 p1) (fun p1 p2 vp vs s r _ _ => r = (muL s p1 p2 vp vs 10).1 p1.toNatClampNeg) := walkX0_mostUnions (IX0_mostUnions_17 := fun p1 p2 vp vs s n q1 q2 i f3 f4 => q1 = p1 ∧ q2 = p2 ∧ ∃ m, m + n = 10 ∧ i = nI m ∧ (f3, f4) = muL s p1 p2 vp vs m) ok_X8_isIn ok_X0_reckonWith (by
  rintro p1 p2 vp vs s ⟨A, hA, rfl⟩
  refine ⟨⟨10, rfl, rfl, 0, rfl, rfl, rfl⟩, ?_⟩
  rintro n i f3 f4 ⟨-, -, m, hm, rfl, hf⟩
  refine ⟨fun h => ⟨vp_in_nI hA (by decide), ?_⟩, fun h => ⟨trivial, ?_⟩⟩
  · obtain ⟨rfl, -⟩ := c10e hm h
    rw [← hf]
  · obtain ⟨h10, hn⟩ := c10 hm h
    rintro r rfl
    refine ⟨fun h2 => ?_, fun h2 => ⟨in10 h10, ?_, ?_⟩⟩
    · rw [bi_0] at h2
      rintro x rfl
      exact ⟨n - 1, by omega, rfl, rfl, m + 1, by omega, nI_1 m, by rw [hf]; exact (if_neg (by rw [h2]; decide)).symm⟩
    · rw [p2_I m h10]
      have := p2_lt h10
      exact ⟨2 ^ m, by omega, rfl⟩
    · rw [bi_n0] at h2
      have := p2_lt h10
      rw [p2_I m h10, cl10 h10, cl (2 ^ m) (by omega)]
      rintro f9 f10 hr x rfl
      refine ⟨n - 1, by omega, rfl, rfl, m + 1, by omega, nI_1 m, ?_⟩
      rw [hr]
      have e3 : f3 = (muL s (nI A) p2 vp vs m).1 := congrArg Prod.fst hf
      have e4 : f4 = (muL s (nI A) p2 vp vs m).2 := congrArg Prod.snd hf
      rw [e3, e4]
      exact (if_pos h2).symm)
theorem ok_X0_mostParishes : KX0_mostParishes l D cI cZ (fun _ _ _ _ _ => True) (fun w vp vs th s r _ _ => r = nI (cnt (whP th s w) 10) + (muL s (nI (coll (paP th s w) 10)) w vp vs 10).1 (coll (paP th s w) 10)) := walkX0_mostParishes (IX0_mostParishes_8 := fun w _ _ th s n q1 a b i _ _ => q1 = w ∧ ∃ m, m + n = 10 ∧ i = nI m ∧ a = nI (cnt (whP th s w) m) ∧ b = nI (coll (paP th s w) m)) ok_X0_mostUnions ok_X8_isIn (by
  rintro w vp vs th s -
  refine ⟨⟨10, rfl, 0, rfl, rfl, rfl, rfl⟩, ?_⟩
  rintro n i b a ⟨-, m, hm, rfl, rfl, rfl⟩
  refine ⟨fun h => ⟨⟨_, coll_1024 _ (by omega), rfl⟩, ?_⟩, fun h => ?_⟩
  · obtain ⟨rfl, -⟩ := c10e hm h
    rintro r f5 f6 rfl
    have := coll_1024 (paP th s w) (Nat.le_refl 10)
    rw [cl (coll (paP th s w) 10) (by omega)]
  · obtain ⟨h10, hn⟩ := c10 hm h
    refine ⟨in10 h10, ?_⟩
    rw [cl10 h10]
    have nxt : ∀ a b : Int32, a = nI (cnt (whP th s w) (m + 1)) → b = nI (coll (paP th s w) (m + 1)) → ∀ x : Int32, x = nI m + (1 : Int32) → ∃ n1, n1 < n ∧ w = w ∧ ∃ m1, m1 + n1 = 10 ∧ x = nI m1 ∧ a = nI (cnt (whP th s w) m1) ∧ b = nI (coll (paP th s w) m1) := by
      rintro a b ha hb x rfl
      exact ⟨n - 1, by omega, rfl, m + 1, by omega, nI_1 m, ha, hb⟩
    rintro x hx
    refine ⟨trivial, ?_⟩
    rintro r rfl
    have part : ∀ x14 : Int32, ¬ x = w → ¬ x = 0 → hs th (nI m) = true → x14 = (nI (coll (paP th s w) m) ||| ((1 : Int32) <<< (nI m &&& 31))) → x14 = nI (coll (paP th s w) (m + 1)) ∧ nI (cnt (whP th s w) m) = nI (cnt (whP th s w) (m + 1)) := by
      rintro x14 h1 h2 h3 rfl
      subst hx
      constructor
      · rw [coll_yes (by unfold paP; rw [h3, decide_eq_true h1, decide_eq_true h2]; rfl), bits_or _ (coll_1024 _ (by omega)) m h10]
      · rw [cnt_no (by unfold whP; rw [h3, decide_eq_false h1]; rfl)]
    refine ⟨fun h2 => ⟨trivial, ?_⟩, fun h2 => ⟨fun h3 => ⟨trivial, ?_⟩, fun h3 => ?_⟩⟩
    · rintro r rfl
      refine ⟨fun _ => ?_, fun h4 => absurd h2 h4⟩
      rw [bi_0] at h2
      refine nxt _ _ ?_ ?_
      · rw [cnt_no (by unfold whP; rw [h2]; rfl)]
      · rw [coll_no (by unfold paP; rw [h2]; rfl)]
    · rintro r rfl
      refine ⟨fun h4 => absurd h4 h2, fun _ => ?_⟩
      rw [bi_n0] at h2
      refine ⟨fun h4 => ?_, fun h4 => ?_⟩
      · refine nxt _ _ ?_ ?_
        · rw [cnt_no (by unfold whP; rw [← hx, decide_eq_false h3, Bool.and_false])]
        · rw [coll_no (by unfold paP; rw [← hx, decide_eq_false (p := ¬ x = 0) (fun z => z h4), Bool.and_false, Bool.and_false])]
      · rintro x14 h14
        obtain ⟨e1, e2⟩ := part x14 h3 h4 h2 h14
        exact nxt _ _ e2 e1
    · rw [bi_n0] at h2
      rintro y rfl
      refine nxt _ _ ?_ ?_
      · rw [cnt_yes (by unfold whP; rw [← hx, h2, decide_eq_true h3]; rfl), nI_1]
      · rw [coll_no (by unfold paP; rw [← hx, decide_eq_false (p := ¬ x = w) (fun z => z h3), Bool.false_and, Bool.and_false])])
end OK22
