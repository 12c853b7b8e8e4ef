/-! Unpicking by turns: every pattern's first winning pick. -/
def MVn : Nat := 4810917117926669316226219587112763111456364212501315280926411347369893483709131913911719013391411590988236626242752437184746812508689595301050813591354620482237143135194647321779891119520040116266280153157135913336633708934270667712881932266483447574259086550625402461920943542668481151403904108344471527778353220937740720136005839568172881752935328248407115203353234408761647369571398636095809152798039425894272417985160402738084086505568940406656435964686336289968709060527861919633032122223064957360989730608699161642752338501116972365433077132401314209328582298376286083564631406588609630575080410408669016033024
def mv (k : Nat) : Int32 := nI ((MVn / 2 ^ (8 * k)) % 256) - 6
/-- the one, and the two from k -/
def p1 (k : Nat) : Int32 := (1 : Int32) <<< (nI k &&& 31)
def p2 (k : Nat) : Int32 := (3 : Int32) <<< (nI k &&& 31)
/-- the first pick, by those that lose: q are left to look at -/
def fm (g : Nat → Int32) (p : Int32) : Nat → Int32
  | 0 => -6
  | q + 1 => if (p &&& p1 (7 - q)) = p1 (7 - q) ∧ g (p ^^^ p1 (7 - q)).toNatClampNeg = -6 then (10 : Int32) * nI (7 - q) + 1 else if (p &&& p2 (7 - q)) = p2 (7 - q) ∧ g (p ^^^ p2 (7 - q)).toNatClampNeg = -6 then (10 : Int32) * nI (7 - q) + 2 else fm g p q
set_option maxRecDepth 100000 in
theorem xo_lt : ∀ p, p < 256 → ∀ k, k < 8 → ((nI p &&& p1 k) = p1 k → (nI p ^^^ p1 k).toNatClampNeg < p ∧ ¬ (nI p ^^^ p1 k) < 0) ∧ ((nI p &&& p2 k) = p2 k → (nI p ^^^ p2 k).toNatClampNeg < p ∧ ¬ (nI p ^^^ p2 k) < 0) := by decide +kernel
set_option maxRecDepth 100000 in
theorem fm_mv : ∀ p, p < 256 → fm mv (nI p) 8 = mv p := by decide +kernel
theorem fm_eq {g : Nat → Int32} {p : Nat} (hp : p < 256) (hg : ∀ j, j < p → g j = mv j) : ∀ q, q ≤ 8 → fm g (nI p) q = fm mv (nI p) q := by
  intro q
  induction q with
  | zero => exact fun _ => rfl
  | succ q ih =>
    intro hq
    obtain ⟨x1, x2⟩ := xo_lt p hp (7 - q) (by omega)
    show (if (nI p &&& p1 (7 - q)) = p1 (7 - q) ∧ g (nI p ^^^ p1 (7 - q)).toNatClampNeg = -6 then (10 : Int32) * nI (7 - q) + 1 else if (nI p &&& p2 (7 - q)) = p2 (7 - q) ∧ g (nI p ^^^ p2 (7 - q)).toNatClampNeg = -6 then (10 : Int32) * nI (7 - q) + 2 else fm g (nI p) q) = (if (nI p &&& p1 (7 - q)) = p1 (7 - q) ∧ mv (nI p ^^^ p1 (7 - q)).toNatClampNeg = -6 then (10 : Int32) * nI (7 - q) + 1 else if (nI p &&& p2 (7 - q)) = p2 (7 - q) ∧ mv (nI p ^^^ p2 (7 - q)).toNatClampNeg = -6 then (10 : Int32) * nI (7 - q) + 2 else fm mv (nI p) q)
    have a1 : ((nI p &&& p1 (7 - q)) = p1 (7 - q) ∧ g (nI p ^^^ p1 (7 - q)).toNatClampNeg = -6) ↔ ((nI p &&& p1 (7 - q)) = p1 (7 - q) ∧ mv (nI p ^^^ p1 (7 - q)).toNatClampNeg = -6) := and_congr_right (fun h => by rw [hg _ (x1 h).1])
    have a2 : ((nI p &&& p2 (7 - q)) = p2 (7 - q) ∧ g (nI p ^^^ p2 (7 - q)).toNatClampNeg = -6) ↔ ((nI p &&& p2 (7 - q)) = p2 (7 - q) ∧ mv (nI p ^^^ p2 (7 - q)).toNatClampNeg = -6) := and_congr_right (fun h => by rw [hg _ (x2 h).1])
    rw [ih (by omega)]
    simp only [a1, a2]
theorem in_lt {x : Int32} {p : Nat} (hp : p < 256) (h : x.toNatClampNeg < p ∧ ¬ x < 0) : vp_in x 256 := by
  unfold vp_in
  rintro (h1 | h1)
  · exact h.2 h1
  · omega
/-- the same from the last on, by those that win -/
def lpS (w : Nat → Int32) (p : Int32) (k : Nat) (b : Int32) : Int32 := if hs p (nI k) = true ∧ w (p &&& (p1 k ^^^ (-1 : Int32))).toNatClampNeg = 0 then (10 : Int32) * nI k + 1 else if k < 7 ∧ (p &&& p2 k) = p2 k ∧ w ((p &&& (p2 k ^^^ (-1 : Int32))) &&& (255 : Int32)).toNatClampNeg = 0 then (10 : Int32) * nI k + 2 else b
def lp (w : Nat → Int32) (p : Int32) : Nat → Int32 → Int32
  | 0, b => b
  | k + 1, b => lp w p k (lpS w p k b)
def wm (j : Nat) : Int32 := if mv j = -6 then 0 else 1
set_option maxRecDepth 100000 in
theorem an_in : ∀ p, p < 256 → ∀ k, k < 8 → (nI p &&& (p1 k ^^^ (-1 : Int32))).toNatClampNeg < 256 ∧ ¬ (nI p &&& (p1 k ^^^ (-1 : Int32))) < 0 := by decide +kernel
set_option maxRecDepth 100000 in
theorem an_in2 : ∀ p, p < 256 → ∀ k, k < 8 → ((nI p &&& (p2 k ^^^ (-1 : Int32))) &&& (255 : Int32)).toNatClampNeg < 256 ∧ ¬ ((nI p &&& (p2 k ^^^ (-1 : Int32))) &&& (255 : Int32)) < 0 := by decide +kernel
set_option maxRecDepth 100000 in
theorem an_lt : ∀ p, p < 256 → ∀ k, k < 8 → (hs (nI p) (nI k) = true → (nI p &&& (p1 k ^^^ (-1 : Int32))).toNatClampNeg < p) ∧ ((nI p &&& p2 k) = p2 k → ((nI p &&& (p2 k ^^^ (-1 : Int32))) &&& (255 : Int32)).toNatClampNeg < p) := by decide +kernel
set_option maxRecDepth 100000 in
theorem lp_mv : ∀ p, p < 256 → lp wm (nI p) 8 (-6) = mv p := by decide +kernel
set_option maxRecDepth 100000 in
theorem mv_neg : ∀ p, p < 256 → (mv p < 0 ↔ mv p = -6) := by decide +kernel
theorem lpS_eq {w : Nat → Int32} {p k : Nat} (hp : p < 256) (hk : k < 8) (hw : ∀ j, j < p → w j = wm j) (b : Int32) : lpS w (nI p) k b = lpS wm (nI p) k b := by
  obtain ⟨x1, x2⟩ := an_lt p hp k hk
  have a1 : (hs (nI p) (nI k) = true ∧ w (nI p &&& (p1 k ^^^ (-1 : Int32))).toNatClampNeg = 0) ↔ (hs (nI p) (nI k) = true ∧ wm (nI p &&& (p1 k ^^^ (-1 : Int32))).toNatClampNeg = 0) := and_congr_right (fun h => by rw [hw _ (x1 h)])
  have a2 : ((nI p &&& p2 k) = p2 k ∧ w ((nI p &&& (p2 k ^^^ (-1 : Int32))) &&& (255 : Int32)).toNatClampNeg = 0) ↔ ((nI p &&& p2 k) = p2 k ∧ wm ((nI p &&& (p2 k ^^^ (-1 : Int32))) &&& (255 : Int32)).toNatClampNeg = 0) := and_congr_right (fun h => by rw [hw _ (x2 h)])
  unfold lpS
  simp only [a1, a2]
theorem lp_eq {w : Nat → Int32} {p : Nat} (hp : p < 256) (hw : ∀ j, j < p → w j = wm j) : ∀ k, k ≤ 8 → ∀ b, lp w (nI p) k b = lp wm (nI p) k b := by
  intro k
  induction k with
  | zero => exact fun _ _ => rfl
  | succ k ih =>
    intro hk b
    show lp w (nI p) k (lpS w (nI p) k b) = lp wm (nI p) k (lpS wm (nI p) k b)
    rw [lpS_eq hp (by omega) hw, ih (by omega)]
def upR (k v th : Int32) (fs : Nat → Int32) : Int32 := if thr th k = true then (if wi v 0 1 = true then (if v = 1 then mv (fs k.toNatClampNeg).toNatClampNeg else if mv (fs k.toNatClampNeg).toNatClampNeg = -6 then 0 else 1) else -2) else -1
section OK16
variable {l : Launch} {D : va_G} {cI cZ : ClassId}
theorem ok_X5_findMove : KX5_findMove l D cI cZ (fun p _ => rng 256 p) (fun p g r => r = fm g p 8) := walkX5_findMove (IX5_findMove_2 := fun p g q p2 i => p2 = p ∧ ∃ k, k + q = 8 ∧ i = nI k ∧ fm g p 8 = fm g p q) (by
  rintro p g ⟨n, hn, rfl⟩
  refine ⟨⟨8, rfl, 0, rfl, rfl, rfl⟩, ?_⟩
  rintro q i ⟨-, k, hk, rfl, hq⟩
  have e8 : ((8 : Int32) ≤ nI k) ↔ 8 ≤ k := ctr_le rfl (by decide) (by omega)
  rw [e8]
  refine ⟨fun h => ?_, fun h => ?_⟩
  · obtain rfl : q = 0 := by omega
    exact hq.symm
  · obtain ⟨q', rfl⟩ : ∃ q', q = q' + 1 := ⟨q - 1, by omega⟩
    obtain ⟨x1, x2⟩ := xo_lt n hn k (by omega)
    have e1 : fm g (nI n) (q' + 1) = (if (nI n &&& p1 k) = p1 k ∧ g (nI n ^^^ p1 k).toNatClampNeg = -6 then (10 : Int32) * nI k + 1 else if (nI n &&& p2 k) = p2 k ∧ g (nI n ^^^ p2 k).toNatClampNeg = -6 then (10 : Int32) * nI k + 2 else fm g (nI n) q') := by
      have : 7 - q' = k := by omega
      rw [← this]
      rfl
    rintro x hx y hy
    have hx : x = p1 k := hx
    have hy : y = p2 k := hy
    subst hx
    subst hy
    refine ⟨fun h1 => ⟨fun h2 => ?_, fun h2 => ⟨in_lt hn (x2 h2), fun h3 => ?_, fun h3 => ?_⟩⟩, fun h1 => ⟨in_lt hn (x1 h1), fun h3 => ⟨fun h2 => ?_, fun h2 => ⟨in_lt hn (x2 h2), fun h4 => ?_, fun h4 => ?_⟩⟩, fun h3 => ?_⟩⟩
    · rintro z rfl
      exact ⟨q', by omega, rfl, k + 1, by omega, nI_1 k, by rw [hq, e1, if_neg (fun z => h1 z.1), if_neg (fun z => h2 z.1)]⟩
    · rintro z rfl
      exact ⟨q', by omega, rfl, k + 1, by omega, nI_1 k, by rw [hq, e1, if_neg (fun z => h1 z.1), if_neg (fun z => h3 z.2)]⟩
    · rw [hq, e1, if_neg (fun z => h1 z.1), if_pos ⟨h2, h3⟩]
    · rintro z rfl
      exact ⟨q', by omega, rfl, k + 1, by omega, nI_1 k, by rw [hq, e1, if_neg (fun z => h3 z.2), if_neg (fun z => h2 z.1)]⟩
    · rintro z rfl
      exact ⟨q', by omega, rfl, k + 1, by omega, nI_1 k, by rw [hq, e1, if_neg (fun z => h3 z.2), if_neg (fun z => h4 z.2)]⟩
    · rw [hq, e1, if_neg (fun z => h3 z.2), if_pos ⟨h2, h4⟩]
    · rw [hq, e1, if_pos ⟨h1, h3⟩])
theorem ok_X5_init : KX5_init l D cI cZ (fun f => ∀ j, j < 256 → f j = mv j) := walkX5_init (IX5_init_15 := fun q i f => ∃ k, k + q = 256 ∧ i = nI k ∧ ∀ j, j < k → f j = mv j) ok_X5_findMove (by
  refine ⟨⟨256, 0, rfl, rfl, fun j h => absurd h (Nat.not_lt_zero _)⟩, ?_⟩
  rintro q i f ⟨k, hk, rfl, hf⟩
  have e8 : ((255 : Int32) < nI k) ↔ 255 < k := ctr_lt rfl (by decide) (by omega)
  rw [e8]
  refine ⟨fun h => fun j hj => hf j (by omega), fun h => ⟨⟨k, by omega, rfl⟩, ?_⟩⟩
  rintro r rfl
  refine ⟨vp_in_nI (by omega) (by decide), ?_⟩
  rintro x rfl
  refine ⟨q - 1, by omega, k + 1, by omega, nI_1 k, ?_⟩
  intro j hj
  rw [cl k (by omega)]
  by_cases e : j = k
  · subst e
    rw [upd_s, fm_eq (by omega) hf 8 (Nat.le_refl 8), fm_mv j (by omega)]
  · rw [upd_n e]
    exact hf j (by omega))
theorem ok_X5_leastWinningMove : KX5_leastWinningMove l D cI cZ (fun p _ => rng 256 p) (fun p g r => r = g p.toNatClampNeg) := walkX5_leastWinningMove (by
  rintro p g ⟨n, hn, rfl⟩
  have e : nI n &&& (255 : Int32) = nI n := by
    have := pk_andN (n := n) (by omega) (m := (255 : Int32)) 8 (by decide)
    rw [this]
    congr 1
    exact Nat.mod_eq_of_lt hn
  rw [e]
  exact ⟨vp_in_nI hn (by decide), rfl⟩)
theorem ok_X8_unpick : KX8_unpick l D cI cZ (fun _ _ _ fs g => pat fs ∧ ∀ j, j < 256 → g j = mv j) (fun k v th fs _ r => r = upR k v th fs) := walkX8_unpick ok_X1_isThere ok_X8_isWithin ok_X5_leastWinningMove (by
  rintro k v th fs g ⟨hp, hg⟩
  refine ⟨trivial, ?_⟩
  rintro r rfl
  refine ⟨fun h => ⟨trivial, ?_⟩, fun h => ?_⟩
  · rw [bi_n0] at h
    rintro r rfl
    refine ⟨fun h2 => ?_, fun h2 => ?_⟩
    · rw [bi_n0] at h2
      have hk : isH k = true := by
        unfold thr at h
        cases z : isH k with
        | true => rfl
        | false => rw [z] at h; cases h
      obtain ⟨j, hj, rfl⟩ := isH_nI hk
      have hpj := hp j hj
      obtain ⟨s, hs1, hs2⟩ := hpj
      refine ⟨in10 hj, ⟨s, hs1, by rw [cl10 hj]; exact hs2⟩, ?_⟩
      rintro r rfl
      unfold upR
      rw [if_pos h, if_pos h2, cl10 hj, hs2, cl s (by omega), hg s hs1]
      refine ⟨fun h3 => ⟨fun h4 => ?_, fun h4 => ?_⟩, fun h3 => ?_⟩
      · rw [if_neg h3, if_neg h4]
      · rw [if_neg h3, if_pos h4]
      · rw [if_pos h3]
    · rw [bi_0] at h2
      unfold upR
      rw [if_pos h, h2]
      rfl
  · rw [bi_0] at h
    unfold upR
    rw [h]
    rfl)
theorem ok_X9_leastPick : KX9_leastPick l D cI cZ (fun p _ => rng 256 p) (fun p w r => r = lp w p 8 (-6)) := walkX9_leastPick (IX9_leastPick_6 := fun p w q p2 b i => p2 = p ∧ i = nI q + (-1) ∧ q ≤ 8 ∧ lp w p q b = lp w p 8 (-6)) ok_X9_has (by
  rintro p w ⟨n, hn, rfl⟩
  refine ⟨⟨8, rfl, rfl, Nat.le_refl 8, rfl⟩, ?_⟩
  rintro q i b ⟨-, rfl, hq8, hq⟩
  refine ⟨fun h => ?_, fun h => ?_⟩
  · cases q with
    | zero => exact hq
    | succ k =>
      rw [pk_m1] at h
      exact absurd h (nI_pos (by omega))
  · obtain ⟨k, rfl⟩ : ∃ k, q = k + 1 := by
      cases q with
      | zero => exact absurd (by decide) h
      | succ k => exact ⟨k, rfl⟩
    rw [pk_m1] at h ⊢
    clear h
    have x1 := an_in n hn k (by omega)
    have x2 := an_in2 n hn k (by omega)
    have i1 : vp_in (nI n &&& (p1 k ^^^ (-1 : Int32))) 256 := by
      unfold vp_in
      rintro (z | z)
      · exact x1.2 z
      · omega
    have i2 : vp_in ((nI n &&& (p2 k ^^^ (-1 : Int32))) &&& (255 : Int32)) 256 := by
      unfold vp_in
      rintro (z | z)
      · exact x2.2 z
      · omega
    have key : ∀ b', lpS w (nI n) k b = b' → lp w (nI n) k b' = lp w (nI n) 8 (-6) := fun b' e => by
      rw [← hq, ← e]
      rfl
    have e7 : ((7 : Int32) ≤ nI k) ↔ 7 ≤ k := ctr_le rfl (by decide) (by omega)
    rintro y hy
    have hy : y = p2 k := hy
    subst hy
    rw [e7]
    refine ⟨fun h7 => ⟨trivial, ?_⟩, fun h7 => ⟨fun h2 => ⟨trivial, ?_⟩, fun h2 => ⟨i2, fun h4 => ⟨trivial, ?_⟩, fun h4 => ?_⟩⟩⟩
    · rintro r rfl
      refine ⟨fun h1 => ?_, fun h1 => ⟨i1, fun h3 => ?_, fun h3 => ?_⟩⟩
      · rw [bi_0] at h1
        rintro x rfl
        exact ⟨k, by omega, rfl, rfl, by omega, key _ (by unfold lpS; rw [if_neg (fun z => by rw [h1] at z; cases z.1), if_neg (fun z => by omega)])⟩
      · rw [bi_n0] at h1
        rintro x rfl
        exact ⟨k, by omega, rfl, rfl, by omega, key _ (by unfold lpS; rw [if_neg (fun z => h3 z.2), if_neg (fun z => by omega)])⟩
      · rw [bi_n0] at h1
        rintro x rfl z rfl
        exact ⟨k, by omega, rfl, rfl, by omega, key _ (by unfold lpS; rw [if_pos ⟨h1, h3⟩])⟩
    · rintro r rfl
      refine ⟨fun h1 => ?_, fun h1 => ⟨i1, fun h3 => ?_, fun h3 => ?_⟩⟩
      · rw [bi_0] at h1
        rintro x rfl
        exact ⟨k, by omega, rfl, rfl, by omega, key _ (by unfold lpS; rw [if_neg (fun z => by rw [h1] at z; cases z.1), if_neg (fun z => h2 z.2.1)])⟩
      · rw [bi_n0] at h1
        rintro x rfl
        exact ⟨k, by omega, rfl, rfl, by omega, key _ (by unfold lpS; rw [if_neg (fun z => h3 z.2), if_neg (fun z => h2 z.2.1)])⟩
      · rw [bi_n0] at h1
        rintro x rfl z rfl
        exact ⟨k, by omega, rfl, rfl, by omega, key _ (by unfold lpS; rw [if_pos ⟨h1, h3⟩])⟩
    · rintro r rfl
      refine ⟨fun h1 => ?_, fun h1 => ⟨i1, fun h3 => ?_, fun h3 => ?_⟩⟩
      · rw [bi_0] at h1
        rintro x rfl
        exact ⟨k, by omega, rfl, rfl, by omega, key _ (by unfold lpS; rw [if_neg (fun z => by rw [h1] at z; cases z.1), if_neg (fun z => h4 z.2.2)])⟩
      · rw [bi_n0] at h1
        rintro x rfl
        exact ⟨k, by omega, rfl, rfl, by omega, key _ (by unfold lpS; rw [if_neg (fun z => h3 z.2), if_neg (fun z => h4 z.2.2)])⟩
      · rw [bi_n0] at h1
        rintro x rfl z rfl
        exact ⟨k, by omega, rfl, rfl, by omega, key _ (by unfold lpS; rw [if_pos ⟨h1, h3⟩])⟩
    · rintro v rfl
      refine ⟨trivial, ?_⟩
      rintro r rfl
      refine ⟨fun h1 => ?_, fun h1 => ⟨i1, fun h3 => ?_, fun h3 => ?_⟩⟩
      · rw [bi_0] at h1
        rintro x rfl
        exact ⟨k, by omega, rfl, rfl, by omega, key _ (by unfold lpS; rw [if_neg (fun z => by rw [h1] at z; cases z.1), if_pos ⟨by omega, h2, h4⟩])⟩
      · rw [bi_n0] at h1
        rintro x rfl
        exact ⟨k, by omega, rfl, rfl, by omega, key _ (by unfold lpS; rw [if_neg (fun z => h3 z.2), if_pos ⟨by omega, h2, h4⟩])⟩
      · rw [bi_n0] at h1
        rintro x rfl z rfl
        exact ⟨k, by omega, rfl, rfl, by omega, key _ (by unfold lpS; rw [if_pos ⟨h1, h3⟩])⟩)
theorem ok_X9_unpick : KX9_unpick l D cI cZ (fun _ _ _ fs _ => pat fs) (fun k v th fs _ r _ => r = upR k v th fs) := walkX9_unpick (IX9_unpick_43 := fun k v _ fs _ q v2 a i f => v2 = v ∧ a = fs k.toNatClampNeg ∧ ∃ j, j + q = a.toNatClampNeg + 1 ∧ i = nI j ∧ ∀ t, t < j → f t = wm t) ok_X9_isHassock ok_X9_has ok_X9_in ok_X9_leastPick (by
  rintro k v th fs w0 hp
  refine ⟨trivial, ?_⟩
  rintro r rfl
  refine ⟨fun h => ?_, fun h => ⟨trivial, ?_⟩⟩
  · rw [bi_0] at h
    unfold upR thr
    rw [h]
    rfl
  · rw [bi_n0] at h
    rintro r rfl
    refine ⟨fun h1 => ⟨trivial, fun r hr => ?_⟩, fun h1 => ?_⟩
    · rw [bi_n0] at h1
      have ht : thr th k = true := by
        unfold thr
        rw [h, h1]
        rfl
      obtain rfl := hr v 0 1 rfl (by decide) (by decide)
      clear hr
      refine ⟨fun h2 => ⟨isH_in h, ?_⟩, fun h2 => ?_⟩
      · rw [bi_n0] at h2
        obtain ⟨j, hj, rfl⟩ := isH_nI h
        obtain ⟨s, hs1, hs2⟩ := hp j hj
        rw [cl10 hj, hs2]
        rintro x rfl
        have cs : (nI s).toNatClampNeg = s := cl s (by omega)
        refine ⟨⟨s + 1, rfl, rfl, 0, by rw [cs]; omega, rfl, fun t h => absurd h (Nat.not_lt_zero _)⟩, ?_⟩
        rintro q i f ⟨-, -, t, ht2, rfl, hf⟩
        rw [cs] at ht2
        rw [nI_ltI (by omega) (by omega)]
        refine ⟨fun h3 => ⟨fun h4 => ⟨vp_in_nI hs1 (by decide), fun h5 => ?_, fun h5 => ?_⟩, fun h4 => ⟨⟨s, hs1, rfl⟩, ?_⟩⟩, fun h3 => ⟨⟨t, by omega, rfl⟩, ?_⟩⟩
        · rw [cs, hf s (by omega)] at h5
          unfold upR
          rw [if_pos ht, if_pos h2, if_neg h4, cl10 hj, hs2, cs]
          unfold wm at h5
          by_cases z : mv s = -6
          · rw [if_pos z]
          · rw [if_neg z] at h5
            exact absurd h5 (by decide)
        · rw [cs, hf s (by omega)] at h5
          unfold upR
          rw [if_pos ht, if_pos h2, if_neg h4, cl10 hj, hs2, cs]
          unfold wm at h5
          by_cases z : mv s = -6
          · rw [if_pos z] at h5
            exact absurd rfl h5
          · rw [if_neg z]
        · rintro r rfl
          unfold upR
          rw [if_pos ht, if_pos h2, if_pos h4, cl10 hj, hs2, cs, lp_eq hs1 (fun y hy => hf y (by omega)) 8 (Nat.le_refl 8), lp_mv s hs1]
        · rintro r rfl
          rw [lp_eq (p := t) (by omega) (fun y hy => hf y (by omega)) 8 (Nat.le_refl 8), lp_mv t (by omega), cl t (by omega)]
          have hz : ∀ x, x = wm t → ∀ y, y < t + 1 → upd f t x y = wm y := by
            intro x hx y hy
            by_cases e : y = t
            · subst e
              rw [upd_s, hx]
            · rw [upd_n e]
              exact hf y (by omega)
          rw [mv_neg t (by omega)]
          refine ⟨fun h5 => ⟨vp_in_nI (by omega) (by decide), ?_⟩, fun h5 => ⟨vp_in_nI (by omega) (by decide), ?_⟩⟩
          · rintro x rfl
            refine ⟨q - 1, by omega, rfl, rfl, t + 1, by rw [cs]; omega, nI_1 t, hz _ ?_⟩
            unfold wm
            rw [if_pos h5]
            rfl
          · rintro x rfl
            refine ⟨q - 1, by omega, rfl, rfl, t + 1, by rw [cs]; omega, nI_1 t, hz _ ?_⟩
            unfold wm
            rw [if_neg h5]
            rfl
      · rw [bi_0] at h2
        unfold upR
        rw [if_pos ht, h2]
        rfl
    · rw [bi_0] at h1
      unfold upR thr
      rw [h, h1]
      rfl)
end OK16
