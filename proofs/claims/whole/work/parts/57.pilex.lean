/-! Piles: from above, from below; the class. -/
def swt (wk : Nat → Nat) (S : Nat) : Nat → Nat
  | 0 => 0
  | k + 1 => if S.testBit k = true then swt wk S k + wk k else swt wk S k
def tpF (wk bk : Nat → Nat) : Nat → Nat → Nat → Prop
  | 0, S, _ => S = 0
  | f + 1, S, a => S = 0 ∨ ∃ k, k < 10 ∧ S.testBit k = true ∧ a ≤ bk k ∧ tpF wk bk f (sd S (2 ^ k)) (a + wk k)
/-- a set can be piled, a lying on it -/
def tp (wk bk : Nat → Nat) (S a : Nat) : Prop := ∃ f, tpF wk bk f S a
theorem tp_0 (wk bk : Nat → Nat) (a : Nat) : tp wk bk 0 a := ⟨0, rfl⟩
theorem tp_s {wk bk : Nat → Nat} {S a k : Nat} (h1 : k < 10) (h2 : S.testBit k = true) (h3 : a ≤ bk k) (h4 : tp wk bk (sd S (2 ^ k)) (a + wk k)) : tp wk bk S a := by
  obtain ⟨f, h⟩ := h4
  exact ⟨f + 1, Or.inr ⟨k, h1, h2, h3, h⟩⟩
theorem tp_e {wk bk : Nat → Nat} {S a : Nat} (h0 : ¬ S = 0) (h : tp wk bk S a) : ∃ k, k < 10 ∧ S.testBit k = true ∧ a ≤ bk k ∧ tp wk bk (sd S (2 ^ k)) (a + wk k) := by
  obtain ⟨f, h⟩ := h
  cases f with
  | zero => exact absurd h h0
  | succ f =>
    rcases h with h | ⟨k, h1, h2, h3, h4⟩
    · exact absurd h h0
    · exact ⟨k, h1, h2, h3, f, h4⟩
theorem sd_keep {S j k : Nat} (h : S.testBit j = true) (hn : ¬ j = k) : (sd S (2 ^ k)).testBit j = true := by
  rw [sd_bit, h, p2_bit, decide_eq_false (fun z => hn z.symm)]
  rfl
theorem sd_out {S j k : Nat} (h : (sd S (2 ^ k)).testBit j = true) : S.testBit j = true ∧ ¬ j = k := by
  rw [sd_bit, p2_bit, Bool.and_eq_true] at h
  refine ⟨h.1, fun z => ?_⟩
  rw [decide_eq_true z.symm] at h
  cases h.2
theorem sd_lt2 {S k : Nat} (h : S.testBit k = true) : sd S (2 ^ k) < S := sd_lt h (p2_self k)
theorem bit_nz {S k : Nat} (h : S.testBit k = true) : ¬ S = 0 := fun z => by
  rw [z, Nat.zero_testBit] at h
  cases h
/-- who has the least, may lie on top -/
theorem tp_top {wk bk : Nat → Nat} : ∀ S a k : Nat, tp wk bk S a → k < 10 → S.testBit k = true → (∀ j, j < 10 → S.testBit j = true → wk k + bk k ≤ wk j + bk j) → a ≤ bk k ∧ tp wk bk (sd S (2 ^ k)) (a + wk k) := by
  intro S
  induction S using Nat.strongRecOn with
  | ind S ih =>
    intro a k h hk hb hmin
    obtain ⟨j, h1, h2, h3, h4⟩ := tp_e (bit_nz hb) h
    by_cases e : j = k
    · subst e
      exact ⟨h3, h4⟩
    · obtain ⟨i1, i2⟩ := ih (sd S (2 ^ j)) (sd_lt2 h2) (a + wk j) k h4 hk (sd_keep hb (fun z => e z.symm)) (fun i hi hib => hmin i hi (sd_out hib).1)
      have hm := hmin j h1 h2
      refine ⟨by omega, tp_s h1 (sd_keep h2 e) (by omega) ?_⟩
      rw [sd_comm, show a + wk k + wk j = a + wk j + wk k by omega]
      exact i2
theorem swt_out {wk : Nat → Nat} {S b : Nat} : ∀ n, n ≤ b → swt wk (sd S (2 ^ b)) n = swt wk S n := by
  intro n
  induction n with
  | zero => exact fun _ => rfl
  | succ n ih =>
    intro h
    have e : (sd S (2 ^ b)).testBit n = S.testBit n := by
      rw [sd_bit, p2_bit, decide_eq_false (by omega)]
      cases S.testBit n <;> rfl
    show (if (sd S (2 ^ b)).testBit n = true then swt wk (sd S (2 ^ b)) n + wk n else swt wk (sd S (2 ^ b)) n) = (if S.testBit n = true then swt wk S n + wk n else swt wk S n)
    rw [e, ih (by omega)]
theorem swt_sd {wk : Nat → Nat} {S b : Nat} (hb : S.testBit b = true) : ∀ n, b < n → swt wk (sd S (2 ^ b)) n + wk b = swt wk S n := by
  intro n
  induction n with
  | zero => exact fun h => absurd h (Nat.not_lt_zero _)
  | succ n ih =>
    intro h
    show (if (sd S (2 ^ b)).testBit n = true then swt wk (sd S (2 ^ b)) n + wk n else swt wk (sd S (2 ^ b)) n) + wk b = (if S.testBit n = true then swt wk S n + wk n else swt wk S n)
    by_cases e : n = b
    · subst e
      have e1 : (sd S (2 ^ n)).testBit n = false := by
        rw [sd_bit, p2_self, Bool.not_true, Bool.and_false]
      rw [e1, hb, if_neg (by decide), if_pos rfl, swt_out n (Nat.le_refl _)]
    · have e1 : (sd S (2 ^ b)).testBit n = S.testBit n := by
        rw [sd_bit, p2_bit, decide_eq_false (fun z => e z.symm)]
        cases S.testBit n <;> rfl
      have i1 := ih (by omega)
      rw [e1]
      split <;> omega
theorem swt_0 {wk : Nat → Nat} : ∀ n, swt wk 0 n = 0 := by
  intro n
  induction n with
  | zero => rfl
  | succ n ih =>
    show (if Nat.testBit 0 n = true then swt wk 0 n + wk n else swt wk 0 n) = 0
    rw [Nat.zero_testBit, if_neg (by decide)]
    exact ih
theorem swt_le {wk : Nat → Nat} {S : Nat} (h : ∀ k, k < 10 → wk k ≤ 9) : ∀ n, n ≤ 10 → swt wk S n ≤ 9 * n := by
  intro n
  induction n with
  | zero => exact fun _ => Nat.le_refl _
  | succ n ih =>
    intro hn
    have h1 := ih (by omega)
    have h2 := h n (by omega)
    show (if S.testBit n = true then swt wk S n + wk n else swt wk S n) ≤ 9 * (n + 1)
    split <;> omega
theorem tp_bot {wk bk : Nat → Nat} : ∀ S a : Nat, ¬ S = 0 → tp wk bk S a → ∃ b, b < 10 ∧ S.testBit b = true ∧ tp wk bk (sd S (2 ^ b)) a ∧ a + swt wk (sd S (2 ^ b)) 10 ≤ bk b := by
  intro S
  induction S using Nat.strongRecOn with
  | ind S ih =>
    intro a h0 h
    obtain ⟨k, h1, h2, h3, h4⟩ := tp_e h0 h
    by_cases z : sd S (2 ^ k) = 0
    · refine ⟨k, h1, h2, ?_, ?_⟩
      · rw [z]
        exact tp_0 wk bk a
      · rw [z, swt_0]
        exact h3
    · obtain ⟨b, b1, b2, b3, b4⟩ := ih _ (sd_lt2 h2) (a + wk k) z h4
      obtain ⟨c1, c2⟩ := sd_out b2
      have hkb : (sd S (2 ^ b)).testBit k = true := sd_keep h2 (fun q => c2 q.symm)
      have hs := swt_sd (wk := wk) hkb 10 h1
      rw [sd_comm] at b3 b4
      exact ⟨b, b1, c1, tp_s h1 hkb h3 b3, by omega⟩
theorem bot_tp {wk bk : Nat → Nat} : ∀ S a b : Nat, b < 10 → S.testBit b = true → tp wk bk (sd S (2 ^ b)) a → a + swt wk (sd S (2 ^ b)) 10 ≤ bk b → tp wk bk S a := by
  intro S
  induction S using Nat.strongRecOn with
  | ind S ih =>
    intro a b h1 h2 h3 h4
    by_cases z : sd S (2 ^ b) = 0
    · refine tp_s h1 h2 (by omega) ?_
      rw [z]
      exact tp_0 wk bk _
    · obtain ⟨k, k1, k2, k3, k4⟩ := tp_e z h3
      obtain ⟨c1, c2⟩ := sd_out k2
      have hs := swt_sd (wk := wk) k2 10 k1
      rw [sd_comm] at k4 hs
      exact tp_s k1 c1 k3 (ih _ (sd_lt2 c1) (a + wk k) b h1 (sd_keep h2 (fun q => c2 q.symm)) k4 (by omega))
/-- what one weighs, and bears -/
def wkS (s : Nat → Int32) (k : Nat) : Nat := 1 + (pc (s k)).toNatClampNeg
def bkS (w : Nat → Int32) (k : Nat) : Nat := (w k).toNatClampNeg / 5
theorem wkS_ok {s : Nat → Int32} (hp : pat s) {k : Nat} (hk : k < 10) : ∃ c, c ≤ 8 ∧ pc (s k) = nI c ∧ wkS s k = 1 + c := by
  obtain ⟨n, hn, e⟩ := hp k hk
  have h8 := pN_8 n hn
  refine ⟨pN n, h8, by rw [e, bits_pc n (by omega)], ?_⟩
  unfold wkS
  rw [e, bits_pc n (by omega), cl _ (by omega)]
theorem wkS_9 {s : Nat → Int32} (hp : pat s) : ∀ k, k < 10 → wkS s k ≤ 9 := fun k hk => by
  obtain ⟨c, h1, -, h2⟩ := wkS_ok hp hk
  omega
/-- wool of those of a set -/
def woL (w : Nat → Int32) (S : Nat) : Prop := ∀ k, k < 10 → S.testBit k = true → rng 100 (w k)
theorem bkS_ok {w : Nat → Int32} {k : Nat} (h : rng 100 (w k)) : w k / (5 : Int32) = nI (bkS w k) ∧ bkS w k < 100 := by
  obtain ⟨a, ha, e⟩ := h
  unfold bkS
  rw [e, cl a (by omega)]
  exact ⟨pk_div (a := a) (d := 5) (by omega) (by decide) (by decide), by omega⟩
theorem okW_L {th : Int32} {w : Nat → Int32} {S A : Nat} (hA : A < 1024) (ht : th = nI A) (h : okW th w) (hs : sb S A) : woL w S := fun k hk hb => by
  obtain ⟨-, h2, h3⟩ := h k hk
  have h4 := h3 (by rw [ht, bits_hs A hA k hk]; exact hs k hb)
  have h5 : ¬ w k < 0 := fun z => by
    rw [Int32.lt_iff_toInt_lt] at z
    rw [Int32.le_iff_toInt_le] at h4
    have a0 : (0 : Int32).toInt = 0 := by decide
    have a1 : (1 : Int32).toInt = 1 := by decide
    omega
  obtain ⟨j, hj, e⟩ := nI_of2 (M := 99) (n := 99) (by decide) h5 h2
  exact ⟨j, by omega, e⟩
def okT (s w f : Nat → Int32) (S : Nat) : Prop := (tp (wkS s) (bkS w) S 0 → f S = nI (swt (wkS s) S 10)) ∧ (¬ tp (wkS s) (bkS w) S 0 → f S = -6)
/-- the first of the highest piles, of the sets below m -/
def hB (s w : Nat → Int32) (A m b : Nat) : Prop := b < m ∧ sb b A ∧ tp (wkS s) (bkS w) b 0 ∧ ∀ x, x < m → sb x A → tp (wkS s) (bkS w) x 0 → pN x < pN b ∨ (pN x = pN b ∧ b ≤ x)
theorem hB_one {s w : Nat → Int32} {A m b c : Nat} (h : hB s w A m b) (h2 : hB s w A m c) : b = c := by
  obtain ⟨b1, b2, b3, b4⟩ := h
  obtain ⟨c1, c2, c3, c4⟩ := h2
  have x1 := b4 c c1 c2 c3
  have x2 := c4 b b1 b2 b3
  omega
theorem hB_1 (s w : Nat → Int32) (A : Nat) : hB s w A 1 0 := ⟨by decide, fun i hi => (by rw [Nat.zero_testBit] at hi; cases hi), tp_0 _ _ 0, fun x hx _ _ => by
  obtain rfl : x = 0 := by omega
  exact Or.inr ⟨rfl, Nat.le_refl _⟩⟩
theorem hB_keep {s w : Nat → Int32} {A m b : Nat} (h : hB s w A m b) (q : sb m A → tp (wkS s) (bkS w) m 0 → pN m ≤ pN b) : hB s w A (m + 1) b := by
  obtain ⟨b1, b2, b3, b4⟩ := h
  refine ⟨by omega, b2, b3, fun x hx x1 x2 => ?_⟩
  by_cases e : x = m
  · subst e
    have := q x1 x2
    omega
  · exact b4 x (by omega) x1 x2
theorem hB_new {s w : Nat → Int32} {A m b : Nat} (h : hB s w A m b) (q1 : sb m A) (q2 : tp (wkS s) (bkS w) m 0) (q3 : ¬ pN m ≤ pN b) : hB s w A (m + 1) m := by
  obtain ⟨b1, b2, b3, b4⟩ := h
  refine ⟨by omega, q1, q2, fun x hx x1 x2 => ?_⟩
  by_cases e : x = m
  · subst e
    exact Or.inr ⟨rfl, Nat.le_refl _⟩
  · have := b4 x (by omega) x1 x2
    omega
theorem hB_up {s w : Nat → Int32} {A m b : Nat} (h : hB s w A m b) (hA : A < m) (hm : m ≤ 1024) : hB s w A 1024 b := by
  obtain ⟨b1, b2, b3, b4⟩ := h
  exact ⟨by omega, b2, b3, fun x _ x1 x2 => b4 x (by have := sb_le x1; omega) x1 x2⟩
def pilA (s w : Nat → Int32) (th p r : Int32) : Prop := if wi p 0 1 = true then ∃ b, hB s w th.toNatClampNeg 1024 b ∧ r = (if p = 0 then nI (pN b) else nI b) else r = -2
theorem pilA_one {s w : Nat → Int32} {th p r r' : Int32} (h : pilA s w th p r) (h2 : pilA s w th p r') : r = r' := by
  unfold pilA at h h2
  by_cases q : wi p 0 1 = true
  · rw [if_pos q] at h h2
    obtain ⟨b, b1, b2⟩ := h
    obtain ⟨c, c1, c2⟩ := h2
    have e := hB_one b1 c1
    subst e
    rw [b2, c2]
  · rw [if_neg q] at h h2
    rw [h, h2]
set_option maxRecDepth 100000 in
theorem pN_10 : ∀ n, n < 1024 → pN n ≤ 10 := by decide +kernel
section OK24
variable {l : Launch} {D : va_G} {cI cZ : ClassId}
theorem ok_X0_weighPile : KX0_weighPile l D cI cZ (fun p1 f s w => rng 1024 p1 ∧ ¬ p1 = 0 ∧ pat s ∧ woL w p1.toNatClampNeg ∧ ∀ k, k < 10 → p1.toNatClampNeg.testBit k = true → okT s w f (sd p1.toNatClampNeg (2 ^ k))) (fun p1 _ s w r => (tp (wkS s) (bkS w) p1.toNatClampNeg 0 → r = nI (swt (wkS s) p1.toNatClampNeg 10)) ∧ (¬ tp (wkS s) (bkS w) p1.toNatClampNeg 0 → r = -6)) := walkX0_weighPile (IX0_weighPile_2 := fun p1 _ s w n q1 i => q1 = p1 ∧ ∃ m, m + n = 10 ∧ i = nI m ∧ ∀ k, k < m → p1.toNatClampNeg.testBit k = true → ¬ (tp (wkS s) (bkS w) (sd p1.toNatClampNeg (2 ^ k)) 0 ∧ swt (wkS s) (sd p1.toNatClampNeg (2 ^ k)) 10 ≤ bkS w k)) ok_X8_isIn ok_bitCount (by
  rintro p1 f s w ⟨⟨S, hS, rfl⟩, h0, hp, hw, hf⟩
  have cS1 : (nI S).toNatClampNeg = S := cl S (by omega)
  have hS0 : ¬ S = 0 := fun z => h0 (by rw [z]; rfl)
  rw [cS1] at hw hf
  rw [cS1]
  refine ⟨⟨10, rfl, 0, rfl, rfl, fun k h => absurd h (Nat.not_lt_zero _)⟩, ?_⟩
  rintro n i ⟨-, m, hm, rfl, hI⟩
  refine ⟨fun h => ?_, fun h => ⟨trivial, ?_⟩⟩
  · obtain ⟨rfl, -⟩ := c10e hm h
    refine ⟨fun z => ?_, fun _ => rfl⟩
    obtain ⟨b, b1, b2, b3, b4⟩ := tp_bot S 0 hS0 z
    exact absurd ⟨b3, by omega⟩ (hI b b1 b2)
  · obtain ⟨h10, hn⟩ := c10 hm h
    have nxt : (S.testBit m = true → ¬ (tp (wkS s) (bkS w) (sd S (2 ^ m)) 0 ∧ swt (wkS s) (sd S (2 ^ m)) 10 ≤ bkS w m)) → ∀ x : Int32, x = nI m + (1 : Int32) → ∃ n1, n1 < n ∧ nI S = nI S ∧ ∃ m1, m1 + n1 = 10 ∧ x = nI m1 ∧ ∀ k, k < m1 → S.testBit k = true → ¬ (tp (wkS s) (bkS w) (sd S (2 ^ k)) 0 ∧ swt (wkS s) (sd S (2 ^ k)) 10 ≤ bkS w k) := by
      rintro q x rfl
      refine ⟨n - 1, by omega, rfl, m + 1, by omega, nI_1 m, fun k hk hb => ?_⟩
      by_cases e : k = m
      · subst e
        exact q hb
      · exact hI k (by omega) hb
    rintro r rfl
    rw [bits_hs S hS m h10]
    refine ⟨fun h2 => nxt (fun z => by rw [bi_0.mp h2] at z; cases z), fun h2 => ?_⟩
    rw [bi_n0] at h2
    have hsl := sd_lt2 h2
    have hsw := swt_le (S := sd S (2 ^ m)) (wkS_9 hp) 10 (Nat.le_refl 10)
    obtain ⟨f1, f2⟩ := hf m h10 h2
    obtain ⟨b1, b2⟩ := bkS_ok (hw m h10 h2)
    obtain ⟨c, c1, c2, c3⟩ := wkS_ok hp h10
    rw [p2_I m h10, sd_nI hS, cl (sd S (2 ^ m)) (by omega), cl10 h10, b1]
    refine ⟨vp_in_nI (by omega) (by decide), ?_⟩
    rintro x hx
    by_cases t : tp (wkS s) (bkS w) (sd S (2 ^ m)) 0
    · rw [f1 t] at hx
      subst hx
      have el : nI (bkS w m) < nI (swt (wkS s) (sd S (2 ^ m)) 10) ↔ bkS w m < swt (wkS s) (sd S (2 ^ m)) 10 := nI_ltI (by omega) (by omega)
      refine ⟨fun z => absurd z (nI_n6 (by omega)), fun _ => ⟨in10 h10, fun h3 => nxt (fun _ z => ?_), fun h3 => ⟨in10 h10, trivial, ?_⟩⟩⟩
      · have := el.mp h3
        omega
      · rw [el] at h3
        have hT := bot_tp S 0 m h10 h2 t (by omega)
        rintro r rfl
        refine ⟨fun _ => ?_, fun z => absurd hT z⟩
        have e1 := swt_sd (wk := wkS s) h2 10 h10
        rw [c2, nI_1, nI_add]
        congr 1
        omega
    · rw [f2 t] at hx
      subst hx
      exact ⟨fun _ => nxt (fun _ z => t z.1), fun z => absurd rfl z⟩)
theorem ok_X0_highestPile : KX0_highestPile l D cI cZ (fun _ th s w => rng 1024 th ∧ pat s ∧ okW th w) (fun _ th s w r _ => ∃ b, b < 1024 ∧ r = nI b ∧ hB s w th.toNatClampNeg 1024 b) := walkX0_highestPile (IX0_highestPile_21 := fun _ th s w n x b i f => x = th ∧ ∃ m c, 1 ≤ m ∧ m + n = 1024 ∧ m ≤ th.toNatClampNeg + 1 ∧ i = nI m ∧ b = nI c ∧ hB s w th.toNatClampNeg m c ∧ ∀ y, y < m → sb y th.toNatClampNeg → okT s w f y) ok_X0_weighPile ok_bitCount (by
  rintro f0 th s w ⟨⟨A, hA, rfl⟩, hp, hw⟩
  have cA : (nI A).toNatClampNeg = A := cl A (by omega)
  rw [cA]
  have e1 : nI A &&& (1023 : Int32) = nI A := by
    have := pk_andN (n := A) (by omega) (m := (1023 : Int32)) 10 (by decide)
    rw [this]
    congr 1
    exact Nat.mod_eq_of_lt hA
  rintro x hx
  rw [e1] at hx
  subst hx
  refine ⟨⟨1023, rfl, 1, 0, Nat.le_refl 1, rfl, by omega, rfl, rfl, hB_1 s w A, fun y hy _ => ?_⟩, ?_⟩
  · obtain rfl : y = 0 := by omega
    refine ⟨fun _ => ?_, fun z => absurd (tp_0 _ _ 0) z⟩
    show upd f0 0 0 0 = _
    rw [upd_s, swt_0]
    rfl
  rintro n i f b ⟨-, m, c, hm1, hmn, hmA, rfl, rfl, hb, hI⟩
  have el : nI A < nI m ↔ A < m := nI_ltI (by omega) (by omega)
  rw [el]
  refine ⟨fun h => ?_, fun h => ?_⟩
  · exact ⟨c, by have := hb.1; omega, rfl, hB_up hb h (by omega)⟩
  · have hm : m < 1024 := by omega
    have cm : (nI m).toNatClampNeg = m := cl m (by omega)
    have v1 : vp_in (nI m) 1024 := vp_in_nI hm (by decide)
    have hc : c < 1024 := by
      have := hb.1
      omega
    rw [sb_I hm, cm]
    refine ⟨fun h2 => ?_, fun h2 => ⟨⟨⟨m, hm, rfl⟩, nI_ne0 (by omega) (by omega), hp, okW_L hA rfl hw h2, fun k hk hkb => ?_⟩, ?_⟩⟩
    · rintro x rfl
      refine ⟨n - 1, by omega, rfl, m + 1, c, by omega, by omega, by omega, nI_1 m, rfl, hB_keep hb (fun z => absurd z h2), fun y hy hs => ?_⟩
      by_cases e : y = m
      · subst e
        exact absurd hs h2
      · exact hI y (by omega) hs
    · exact hI _ (sd_lt2 hkb) (sb_trans (sd_sb _ _) h2)
    · rintro r ⟨r1, r2⟩
      have nxt : ∀ c' : Nat, hB s w A (m + 1) c' → ∀ x : Int32, x = nI m + (1 : Int32) → ∃ n1, n1 < n ∧ nI A = nI A ∧ ∃ m1 c1, 1 ≤ m1 ∧ m1 + n1 = 1024 ∧ m1 ≤ A + 1 ∧ x = nI m1 ∧ nI c' = nI c1 ∧ hB s w A m1 c1 ∧ ∀ y, y < m1 → sb y A → okT s w (upd f m r) y := by
        rintro c' hc' x rfl
        refine ⟨n - 1, by omega, rfl, m + 1, c', by omega, by omega, by omega, nI_1 m, rfl, hc', fun y hy hs => ?_⟩
        unfold okT
        by_cases e : y = m
        · subst e
          rw [upd_s]
          exact ⟨r1, r2⟩
        · rw [upd_n e]
          exact hI y (by omega) hs
      rw [upd_s]
      refine ⟨v1, v1, fun h3 => nxt c (hB_keep hb (fun _ z => ?_)), fun h3 => ⟨trivial, ?_⟩⟩
      · rw [r1 z] at h3
        have := swt_le (S := m) (wkS_9 hp) 10 (Nat.le_refl 10)
        exact absurd h3 (nI_n6 (by omega))
      · have hT : tp (wkS s) (bkS w) m 0 := by
          by_cases z : tp (wkS s) (bkS w) m 0
          · exact z
          · exact absurd (r2 z) h3
        rintro r' rfl
        refine ⟨trivial, ?_⟩
        rintro r'' rfl
        have p1 := pN_10 m hm
        have p2 := pN_10 c hc
        have el2 : nI (pN m) ≤ nI (pN c) ↔ pN m ≤ pN c := nI_leI (by omega) (by omega)
        rw [bits_pc m hm, bits_pc c hc, el2]
        exact ⟨fun h4 => nxt c (hB_keep hb (fun _ _ => h4)), fun h4 => nxt m (hB_new hb h2 hT h4)⟩)
theorem ok_X8_pile : KX8_pile l D cI cZ (fun _ _ th s w => rng 1024 th ∧ pat s ∧ okW th w) (fun p _ th s w r _ => pilA s w th p r) := walkX8_pile ok_X8_isWithin ok_X0_highestPile ok_bitCount (by
  rintro p f th s w hP
  refine ⟨trivial, ?_⟩
  rintro r rfl
  refine ⟨fun h => ⟨hP, ?_⟩, fun h => ?_⟩
  · rw [bi_n0] at h
    rintro r f2 ⟨b, b1, rfl, b2⟩
    unfold pilA
    refine ⟨fun h2 => ?_, fun h2 => ⟨trivial, ?_⟩⟩
    · rw [if_pos h]
      exact ⟨b, b2, by rw [if_neg h2]⟩
    · rintro r rfl
      rw [if_pos h]
      exact ⟨b, b2, by rw [if_pos h2, bits_pc b b1]⟩
  · rw [bi_0] at h
    unfold pilA
    rw [if_neg (by rw [h]; decide)])
end OK24
