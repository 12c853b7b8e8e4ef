/-! The row in which borders are least: sets, subsets, the recurrence. -/
def wo (n k : Nat) : Nat := n &&& (1023 ^^^ 2 ^ k)
theorem awy_wo {n k : Nat} (hn : n < 1024) (hk : k < 10) : awy (nI n) (nI k) = nI (wo n k) := bits_awy n hn k hk
theorem wo_1024 {n k : Nat} (hn : n < 1024) : wo n k < 1024 := Nat.lt_of_le_of_lt Nat.and_le_left hn
set_option maxRecDepth 100000 in
theorem wo_lt : ∀ n, n < 1024 → ∀ k, k < 10 → n.testBit k = true → wo n k < n := by decide +kernel
theorem wo_bit {n k j : Nat} (hn : n < 1024) (hk : k < 10) (hj : j < 10) : (wo n k).testBit j = (n.testBit j && decide (¬ j = k)) := by
  rw [← hs_awy n hn k hk j hj, awy_wo hn hk, bits_hs _ (wo_1024 hn) j hj]
set_option maxRecDepth 100000 in
theorem bit_has : ∀ n, n < 1024 → ¬ n = 0 → n.testBit 0 = true ∨ n.testBit 1 = true ∨ n.testBit 2 = true ∨ n.testBit 3 = true ∨ n.testBit 4 = true ∨ n.testBit 5 = true ∨ n.testBit 6 = true ∨ n.testBit 7 = true ∨ n.testBit 8 = true ∨ n.testBit 9 = true := by decide +kernel
theorem bit_ex {n : Nat} (hn : n < 1024) (h : ¬ n = 0) : ∃ j, j < 10 ∧ n.testBit j = true := by
  rcases bit_has n hn h with h | h | h | h | h | h | h | h | h | h
  · exact ⟨0, by omega, h⟩
  · exact ⟨1, by omega, h⟩
  · exact ⟨2, by omega, h⟩
  · exact ⟨3, by omega, h⟩
  · exact ⟨4, by omega, h⟩
  · exact ⟨5, by omega, h⟩
  · exact ⟨6, by omega, h⟩
  · exact ⟨7, by omega, h⟩
  · exact ⟨8, by omega, h⟩
  · exact ⟨9, by omega, h⟩
/-- n is in t -/
def sbs (n t : Nat) : Prop := ∀ j, j < 10 → n.testBit j = true → t.testBit j = true
theorem bit_hi {n i : Nat} (hn : n < 1024) (hi : 10 ≤ i) : n.testBit i = false := by
  apply Nat.testBit_lt_two_pow
  exact Nat.lt_of_lt_of_le hn (show 2 ^ 10 ≤ 2 ^ i from Nat.pow_le_pow_right (by decide) hi)
theorem sb_iff {n t : Nat} (hn : n < 1024) : (nI n &&& (nI t ^^^ (-1 : Int32))) = 0 ↔ sbs n t := by
  have e1 : (-1 : Int32) = nI 4294967295 := by decide
  rw [e1, xor_nI, and_nI]
  have hlt : n &&& (t ^^^ 4294967295) < 1024 := Nat.lt_of_le_of_lt Nat.and_le_left hn
  have e2 : nI (n &&& (t ^^^ 4294967295)) = (0 : Int32) ↔ n &&& (t ^^^ 4294967295) = 0 := nI_eq (b := 0) (by omega) (by decide)
  rw [e2]
  have e3 : ∀ i, i < 10 → (4294967295 : Nat).testBit i = true := by decide
  constructor
  · intro h j hj hb
    have := congrArg (fun z => z.testBit j) h
    simp only [Nat.testBit_and, Nat.testBit_xor, Nat.zero_testBit, hb, e3 j hj, Bool.true_and] at this
    cases z : t.testBit j with
    | true => rfl
    | false => rw [z] at this; cases this
  · intro h
    apply Nat.eq_of_testBit_eq
    intro i
    simp only [Nat.testBit_and, Nat.testBit_xor, Nat.zero_testBit]
    by_cases hi : i < 10
    · cases z : n.testBit i with
      | false => rfl
      | true => rw [h i hi z, e3 i hi]; rfl
    · rw [bit_hi hn (by omega), Bool.false_and]
theorem sbs_wo {n k t : Nat} (hn : n < 1024) (hk : k < 10) (h : sbs n t) : sbs (wo n k) t := by
  intro j hj hb
  rw [wo_bit hn hk hj] at hb
  have := (Bool.and_eq_true _ _).mp hb
  exact h j hj this.1
/-- the least of g and c, of those in r below m -/
def mnL (c : Nat → Nat → Nat) (g : Nat → Nat) (r k : Nat) : Nat → Nat
  | 0 => 9999
  | m + 1 => if r.testBit m = true then min (mnL c g r k m) (g m + c m k) else mnL c g r k m
def rvF (c : Nat → Nat → Nat) : Nat → Nat → Nat → Nat
  | 0, _, _ => 0
  | f + 1, n, k => if wo n k = 0 then 0 else mnL c (rvF c f (wo n k)) (wo n k) k 10
def rv (c : Nat → Nat → Nat) (n k : Nat) : Nat := rvF c (n + 1) n k
def lrS (c : Nat → Nat → Nat) (r k : Nat) : Nat := if r = 0 then 0 else mnL c (rv c r) r k 10
def c8 (c : Nat → Nat → Nat) : Prop := ∀ i j, i < 10 → j < 10 → c i j ≤ 8
theorem mnL_eq {c c' : Nat → Nat → Nat} {g g' : Nat → Nat} {r k : Nat} : ∀ m, (∀ j, j < m → r.testBit j = true → g j = g' j ∧ c j k = c' j k) → mnL c g r k m = mnL c' g' r k m := by
  intro m
  induction m with
  | zero => exact fun _ => rfl
  | succ m ih =>
    intro h
    show (if r.testBit m = true then min (mnL c g r k m) (g m + c m k) else mnL c g r k m) = (if r.testBit m = true then min (mnL c' g' r k m) (g' m + c' m k) else mnL c' g' r k m)
    rw [ih (fun j hj => h j (by omega))]
    by_cases q : r.testBit m = true
    · rw [if_pos q, if_pos q, (h m (by omega) q).1, (h m (by omega) q).2]
    · rw [if_neg q, if_neg q]
theorem rvF_fuel (c : Nat → Nat → Nat) : ∀ n, n < 1024 → ∀ f, n < f → ∀ k, k < 10 → n.testBit k = true → rvF c f n k = rv c n k := by
  intro n
  induction n using Nat.strongRecOn with
  | ind n ih =>
    intro hn f hf k hk hb
    obtain ⟨f', rfl⟩ : ∃ f', f = f' + 1 := ⟨f - 1, by omega⟩
    have hw := wo_lt n hn k hk hb
    show (if wo n k = 0 then 0 else mnL c (rvF c f' (wo n k)) (wo n k) k 10) = (if wo n k = 0 then 0 else mnL c (rvF c n (wo n k)) (wo n k) k 10)
    by_cases q : wo n k = 0
    · rw [if_pos q, if_pos q]
    · rw [if_neg q, if_neg q]
      refine mnL_eq 10 (fun j hj hjb => ⟨?_, rfl⟩)
      rw [ih _ hw (by omega) f' (by omega) j hj hjb, ih _ hw (by omega) n hw j hj hjb]
theorem rv_eq (c : Nat → Nat → Nat) {n k : Nat} (hn : n < 1024) (hk : k < 10) (hb : n.testBit k = true) : rv c n k = lrS c (wo n k) k := by
  have hw := wo_lt n hn k hk hb
  show (if wo n k = 0 then 0 else mnL c (rvF c n (wo n k)) (wo n k) k 10) = (if wo n k = 0 then 0 else mnL c (rv c (wo n k)) (wo n k) k 10)
  by_cases q : wo n k = 0
  · rw [if_pos q, if_pos q]
  · rw [if_neg q, if_neg q]
    exact mnL_eq 10 (fun j hj hjb => ⟨rvF_fuel c _ (by omega) n hw j hj hjb, rfl⟩)
theorem mnL_le {c : Nat → Nat → Nat} {g : Nat → Nat} {r k B : Nat} : ∀ m, (∃ j, j < m ∧ r.testBit j = true ∧ g j + c j k ≤ B) → mnL c g r k m ≤ B := by
  intro m
  induction m with
  | zero => exact fun ⟨j, hj, _⟩ => absurd hj (Nat.not_lt_zero _)
  | succ m ih =>
    rintro ⟨j, hj, hb, hB⟩
    show (if r.testBit m = true then min (mnL c g r k m) (g m + c m k) else mnL c g r k m) ≤ B
    by_cases e : j = m
    · subst e
      rw [if_pos hb]
      omega
    · have := ih ⟨j, by omega, hb, hB⟩
      split <;> omega
theorem mnL_9999 {c : Nat → Nat → Nat} {g : Nat → Nat} {r k : Nat} : ∀ m, (∀ j, j < m → g j + c j k < 9999) → mnL c g r k m ≤ 9999 ∧ (mnL c g r k m = 9999 ↔ ∀ j, j < m → r.testBit j = false) := by
  intro m
  induction m with
  | zero => exact fun _ => ⟨Nat.le_refl _, ⟨fun _ j h => absurd h (Nat.not_lt_zero _), fun _ => rfl⟩⟩
  | succ m ih =>
    intro h
    obtain ⟨i1, i2⟩ := ih (fun j hj => h j (by omega))
    have e : mnL c g r k (m + 1) = (if r.testBit m = true then min (mnL c g r k m) (g m + c m k) else mnL c g r k m) := rfl
    by_cases q : r.testBit m = true
    · rw [e, if_pos q]
      have := h m (by omega)
      refine ⟨by omega, fun z => by omega, fun z => ?_⟩
      rw [z m (by omega)] at q
      cases q
    · rw [e, if_neg q]
      refine ⟨i1, fun z j hj => ?_, fun z => i2.mpr (fun j hj => z j (by omega))⟩
      by_cases w : j = m
      · subst w
        exact Bool.eq_false_iff.mpr q
      · exact i2.mp z j (by omega)
theorem rvF_le {c : Nat → Nat → Nat} (hc : c8 c) : ∀ f n k, n < 1024 → k < 10 → rvF c f n k ≤ 8 * f := by
  intro f
  induction f with
  | zero => exact fun n k _ _ => Nat.le_refl 0
  | succ f ih =>
    intro n k hn hk
    show (if wo n k = 0 then 0 else mnL c (rvF c f (wo n k)) (wo n k) k 10) ≤ 8 * (f + 1)
    by_cases q : wo n k = 0
    · rw [if_pos q]
      omega
    · rw [if_neg q]
      obtain ⟨j, hj, hb⟩ := bit_ex (wo_1024 hn) q
      have h1 := ih (wo n k) j (wo_1024 hn) hj
      have h2 := hc j k hj hk
      exact mnL_le 10 ⟨j, hj, hb, by omega⟩
theorem rv_le {c : Nat → Nat → Nat} (hc : c8 c) {n k : Nat} (hn : n < 1024) (hk : k < 10) : rv c n k ≤ 8192 := by
  have := rvF_le hc (n + 1) n k hn hk
  unfold rv
  omega
theorem lr_le {c : Nat → Nat → Nat} (hc : c8 c) {n k : Nat} (hn : n < 1024) (hk : k < 10) : lrS c n k ≤ 8200 := by
  unfold lrS
  by_cases q : n = 0
  · rw [if_pos q]
    omega
  · rw [if_neg q]
    obtain ⟨j, hj, hb⟩ := bit_ex hn q
    have h1 := rv_le hc hn hj
    have h2 := hc j k hj hk
    exact mnL_le 10 ⟨j, hj, hb, by omega⟩
theorem rvF_c {c c' : Nat → Nat → Nat} (h : ∀ i j, i < 10 → j < 10 → c i j = c' i j) : ∀ f n k, k < 10 → rvF c f n k = rvF c' f n k := by
  intro f
  induction f with
  | zero => exact fun _ _ _ => rfl
  | succ f ih =>
    intro n k hk
    show (if wo n k = 0 then 0 else mnL c (rvF c f (wo n k)) (wo n k) k 10) = (if wo n k = 0 then 0 else mnL c' (rvF c' f (wo n k)) (wo n k) k 10)
    rw [mnL_eq 10 (fun j hj _ => ⟨ih (wo n k) j hj, h j k hj hk⟩)]
theorem rv_c {c c' : Nat → Nat → Nat} (h : ∀ i j, i < 10 → j < 10 → c i j = c' i j) {n k : Nat} (hk : k < 10) : rv c n k = rv c' n k := rvF_c h (n + 1) n k hk
/-- the first of the least: in the first h -/
def rB (c : Nat → Nat → Nat) (t : Nat) : Nat → Int32 × Int32
  | 0 => (0, -6)
  | h + 1 => if t.testBit h = true ∧ ((rB c t h).2 = -6 ∨ nI (rv c t h) < (rB c t h).1) then (nI (rv c t h), nI h) else rB c t h
def isB (c : Nat → Nat → Nat) (t lo hi x : Nat) : Prop := lo ≤ x ∧ x < hi ∧ t.testBit x = true ∧ ∀ j, lo ≤ j → j < hi → t.testBit j = true → rv c t x ≤ rv c t j ∧ (rv c t j = rv c t x → x ≤ j)
theorem isB_one {c : Nat → Nat → Nat} {t lo hi x y : Nat} (h : isB c t lo hi x) (h2 : isB c t lo hi y) : x = y := by
  obtain ⟨a1, a2, a3, a4⟩ := h
  obtain ⟨b1, b2, b3, b4⟩ := h2
  have p := a4 y b1 b2 b3
  have q := b4 x a1 a2 a3
  have e : rv c t y = rv c t x := by omega
  have := p.2 e
  have := q.2 e.symm
  omega
theorem rB_or {c : Nat → Nat → Nat} (hc : c8 c) {t : Nat} (ht : t < 1024) : ∀ h, h ≤ 10 → (rB c t h = (0, -6) ∧ ∀ j, j < h → t.testBit j = false) ∨ ∃ x, isB c t 0 h x ∧ rB c t h = (nI (rv c t x), nI x) := by
  intro h
  induction h with
  | zero => exact fun _ => Or.inl ⟨rfl, fun j hj => absurd hj (Nat.not_lt_zero _)⟩
  | succ h ih =>
    intro hh
    have e : rB c t (h + 1) = (if t.testBit h = true ∧ ((rB c t h).2 = -6 ∨ nI (rv c t h) < (rB c t h).1) then (nI (rv c t h), nI h) else rB c t h) := rfl
    have l1 := rv_le hc ht (k := h) (by omega)
    rcases ih (by omega) with ⟨i1, i2⟩ | ⟨x, ⟨x1, x2, x3, x4⟩, i2⟩
    · cases q : t.testBit h with
      | true =>
        refine Or.inr ⟨h, ⟨Nat.zero_le _, by omega, q, fun j _ hj hb => ?_⟩, ?_⟩
        · by_cases w : j = h
          · subst w
            exact ⟨Nat.le_refl _, fun _ => Nat.le_refl _⟩
          · rw [i2 j (by omega)] at hb
            cases hb
        · rw [e, if_pos ⟨q, Or.inl (by rw [i1])⟩]
      | false =>
        refine Or.inl ⟨?_, fun j hj => ?_⟩
        · rw [e, if_neg (fun z => Bool.false_ne_true (q.symm.trans z.1)), i1]
        · by_cases w : j = h
          · subst w
            exact q
          · exact i2 j (by omega)
    · have l2 := rv_le hc ht (k := x) (by omega)
      have elt : nI (rv c t h) < nI (rv c t x) ↔ rv c t h < rv c t x := nI_ltI (by omega) (by omega)
      cases q : t.testBit h with
      | true =>
        by_cases z : rv c t h < rv c t x
        · refine Or.inr ⟨h, ⟨Nat.zero_le _, by omega, q, fun j _ hj hb => ?_⟩, ?_⟩
          · by_cases w : j = h
            · subst w
              exact ⟨Nat.le_refl _, fun _ => Nat.le_refl _⟩
            · have := x4 j (Nat.zero_le _) (by omega) hb
              exact ⟨by omega, fun y => by omega⟩
          · rw [e, i2, if_pos ⟨q, Or.inr (elt.mpr z)⟩]
        · refine Or.inr ⟨x, ⟨x1, by omega, x3, fun j hj0 hj hb => ?_⟩, ?_⟩
          · by_cases w : j = h
            · subst w
              exact ⟨by omega, fun _ => by omega⟩
            · exact x4 j hj0 (by omega) hb
          · rw [e, i2, if_neg]
            rintro ⟨-, y | y⟩
            · exact nI_n6 (by omega) y
            · exact z (elt.mp y)
      | false =>
        refine Or.inr ⟨x, ⟨x1, by omega, x3, fun j hj0 hj hb => ?_⟩, ?_⟩
        · by_cases w : j = h
          · subst w
            rw [q] at hb
            cases hb
          · exact x4 j hj0 (by omega) hb
        · rw [e, if_neg (fun z => Bool.false_ne_true (q.symm.trans z.1)), i2]
/-- borders of two -/
def cS (s : Nat → Int32) (i j : Nat) : Nat := (pc (s i ^^^ s j)).toNatClampNeg
set_option maxRecDepth 100000 in
theorem pN_8 : ∀ n, n < 256 → pN n ≤ 8 := by decide +kernel
theorem cS_ok {s : Nat → Int32} (hp : pat s) {i j : Nat} (hi : i < 10) (hj : j < 10) : pc (s i ^^^ s j) = nI (cS s i j) ∧ cS s i j ≤ 8 := by
  obtain ⟨n, hn, e⟩ := rng_xor (k := 8) (hp i hi) (hp j hj)
  have hn : n < 256 := hn
  have h8 := pN_8 n hn
  unfold cS
  rw [e, bits_pc n (by omega), cl _ (by omega)]
  exact ⟨rfl, h8⟩
theorem cS_8 {s : Nat → Int32} (hp : pat s) : c8 (cS s) := fun _ _ hi hj => (cS_ok hp hi hj).2
def roR (s : Nat → Int32) (t : Nat) (v : Int32) : Int32 := if wi v 0 1 = true then (if v = 0 then (rB (cS s) t 10).1 else (rB (cS s) t 10).2) else -2
