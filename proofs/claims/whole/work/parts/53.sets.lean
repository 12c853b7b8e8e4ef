/-! Sets as bits: in, without; how many groups at the most; all that is in a set, one behind another. -/
def sb (x o : Nat) : Prop := ∀ i, x.testBit i = true → o.testBit i = true
def sd (e s : Nat) : Nat := e &&& (e ^^^ s)
theorem sd_bit (e s i : Nat) : (sd e s).testBit i = (e.testBit i && !s.testBit i) := by
  unfold sd
  rw [Nat.testBit_and, Nat.testBit_xor]
  cases e.testBit i <;> cases s.testBit i <;> rfl
theorem sd_sb (e s : Nat) : sb (sd e s) e := fun i h => by
  rw [sd_bit, Bool.and_eq_true] at h
  exact h.1
theorem sb_le {a b : Nat} (h : sb a b) : a ≤ b := Nat.le_of_testBit h
theorem sd_le (e s : Nat) : sd e s ≤ e := sb_le (sd_sb e s)
theorem sd_lt {e s i : Nat} (h : e.testBit i = true) (h2 : s.testBit i = true) : sd e s < e := by
  have h3 := sd_le e s
  have ne : ¬ sd e s = e := fun q => by
    have z := sd_bit e s i
    rw [q, h, h2] at z
    cases z
  omega
theorem sb_refl (e : Nat) : sb e e := fun _ h => h
theorem sb_trans {a b c : Nat} (h : sb a b) (h2 : sb b c) : sb a c := fun i q => h2 i (h i q)
theorem sd_mono {a b s : Nat} (h : sb a b) : sb (sd a s) (sd b s) := fun i q => by
  rw [sd_bit, Bool.and_eq_true] at q
  rw [sd_bit, Bool.and_eq_true]
  exact ⟨h i q.1, q.2⟩
theorem sd_comm (a b c : Nat) : sd (sd a b) c = sd (sd a c) b := Nat.eq_of_testBit_eq (fun i => by
  rw [sd_bit, sd_bit, sd_bit, sd_bit]
  cases a.testBit i <;> cases b.testBit i <;> cases c.testBit i <;> rfl)
theorem sb_bit {a b i : Nat} (h : sb a b) (h2 : b.testBit i = false) : a.testBit i = false := by
  cases z : a.testBit i with
  | false => rfl
  | true => rw [h i z] at h2; cases h2
theorem nz_bit {s : Nat} (h : ¬ s = 0) : ∃ i, s.testBit i = true := Nat.exists_testBit_of_ne_zero h
theorem sb_0 {s : Nat} (h : sb s 0) : s = 0 := Nat.le_zero.mp (sb_le h)
theorem p2_self (h : Nat) : (2 ^ h).testBit h = true := Nat.testBit_two_pow_self
theorem p2_bit {h i : Nat} : (2 ^ h).testBit i = decide (h = i) := Nat.testBit_two_pow
theorem or_p2 {x h : Nat} (hx : x < 2 ^ h) : x ||| 2 ^ h = x + 2 ^ h := Nat.or_two_pow_eq_add_of_lt hx
theorem lt_p2 {x h : Nat} (p : ∀ i, h ≤ i → x.testBit i = false) : x < 2 ^ h := Nat.lt_pow_two_of_testBit x p
theorem p2_hi {x h i : Nat} (hx : x < 2 ^ h) (hi : h ≤ i) : x.testBit i = false := Nat.testBit_lt_two_pow (Nat.lt_of_lt_of_le hx (Nat.pow_le_pow_right (by decide) hi))
/-- k groups, none of which has a part of another -/
def cn (C : Nat → Prop) : Nat → Nat → Prop
  | 0, _ => True
  | k + 1, e => ∃ s, sb s e ∧ C s ∧ cn C k (sd e s)
theorem cn_mono {C : Nat → Prop} : ∀ (k : Nat) {e e' : Nat}, sb e e' → cn C k e → cn C k e' := by
  intro k
  induction k with
  | zero => exact fun _ _ => trivial
  | succ k ih =>
    rintro e e' h ⟨s, h1, h2, h3⟩
    exact ⟨s, sb_trans h1 h, h2, ih (sd_mono h) h3⟩
theorem cn_down {C : Nat → Prop} : ∀ (k : Nat) {e : Nat}, cn C (k + 1) e → cn C k e := by
  intro k
  induction k with
  | zero => exact fun _ => trivial
  | succ k ih =>
    rintro e ⟨s, h1, h2, h3⟩
    exact ⟨s, h1, h2, ih h3⟩
theorem cn_le {C : Nat → Prop} {j e : Nat} : ∀ k, j ≤ k → cn C k e → cn C j e := by
  intro k
  induction k with
  | zero =>
    intro h q
    obtain rfl : j = 0 := by omega
    exact q
  | succ k ih =>
    intro h q
    by_cases z : j = k + 1
    · subst z
      exact q
    · exact ih (by omega) (cn_down k q)
theorem cn_bound {C : Nat → Prop} (hC : ∀ s, C s → ¬ s = 0) : ∀ (k : Nat) {e : Nat}, cn C k e → k ≤ e := by
  intro k
  induction k with
  | zero => exact fun _ => Nat.zero_le _
  | succ k ih =>
    rintro e ⟨s, h1, h2, h3⟩
    obtain ⟨i, hi⟩ := nz_bit (hC s h2)
    have h4 := sd_lt (h1 i hi) hi
    have h5 := ih h3
    omega
theorem exch {C : Nat → Prop} {h : Nat} : ∀ (k S : Nat), S.testBit h = true → cn C (k + 1) S → cn C (k + 1) (sd S (2 ^ h)) ∨ ∃ s, s.testBit h = true ∧ sb s S ∧ C s ∧ cn C k (sd S s) := by
  intro k
  induction k with
  | zero =>
    rintro S hb ⟨s, h1, h2, h3⟩
    cases q : s.testBit h with
    | true => exact Or.inr ⟨s, q, h1, h2, h3⟩
    | false =>
      refine Or.inl ⟨s, fun i hi => ?_, h2, trivial⟩
      rw [sd_bit, h1 i hi, p2_bit, Bool.true_and]
      by_cases e : h = i
      · subst e
        rw [q] at hi
        cases hi
      · rw [decide_eq_false e]
        rfl
  | succ k ih =>
    rintro S hb ⟨s, h1, h2, h3⟩
    cases q : s.testBit h with
    | true => exact Or.inr ⟨s, q, h1, h2, h3⟩
    | false =>
      have hb2 : (sd S s).testBit h = true := by
        rw [sd_bit, hb, q]
        rfl
      rcases ih (sd S s) hb2 h3 with z | ⟨s', z1, z2, z3, z4⟩
      · refine Or.inl ⟨s, fun i hi => ?_, h2, ?_⟩
        · rw [sd_bit, h1 i hi, p2_bit, Bool.true_and]
          by_cases e : h = i
          · subst e
            rw [q] at hi
            cases hi
          · rw [decide_eq_false e]
            rfl
        · rw [sd_comm]
          exact z
      · refine Or.inr ⟨s', z1, sb_trans z2 (sd_sb S s), z3, s, fun i hi => ?_, h2, ?_⟩
        · rw [sd_bit, h1 i hi, Bool.true_and]
          cases w : s'.testBit i with
          | false => rfl
          | true =>
            have := z2 i w
            rw [sd_bit, hi, Bool.and_eq_true] at this
            cases this.2
        · rw [sd_comm]
          exact z4
/-- the most groups in e -/
def isG (C : Nat → Prop) (v e : Nat) : Prop := cn C v e ∧ ¬ cn C (v + 1) e
theorem isG_one {C : Nat → Prop} {v u e : Nat} (h : isG C v e) (h2 : isG C u e) : v = u := by
  rcases Nat.lt_trichotomy v u with q | q | q
  · exact absurd (cn_le u q h2.1) h.2
  · exact q
  · exact absurd (cn_le v q h.1) h2.2
theorem isG_le {C : Nat → Prop} (hC : ∀ s, C s → ¬ s = 0) {v e : Nat} (h : isG C v e) : v ≤ e := cn_bound hC v h.1
theorem isG_all {C : Nat → Prop} {e M : Nat} {g : Nat → Nat} (hg : ∀ s, sb s e → C s → isG C (g (sd e s)) (sd e s)) (h1 : ∀ s, sb s e → C s → 1 + g (sd e s) ≤ M) (h2 : M = 0 ∨ ∃ s, sb s e ∧ C s ∧ M = 1 + g (sd e s)) : isG C M e := by
  constructor
  · rcases h2 with rfl | ⟨s, a, b, rfl⟩
    · trivial
    · rw [Nat.add_comm]
      exact ⟨s, a, b, (hg s a b).1⟩
  · rintro ⟨s, a, b, z⟩
    have := h1 s a b
    exact (hg s a b).2 (cn_le M (by omega) z)
theorem isG_step {C : Nat → Prop} {S h o M : Nat} (hb : S.testBit h = true) (ho : sd S (2 ^ h) = o) {g : Nat → Nat} (hg : ∀ y, sb y o → isG C (g y) y) (h0 : g o ≤ M) (h1 : ∀ s, s.testBit h = true → sb s S → C s → 1 + g (sd S s) ≤ M) (h2 : M = g o ∨ ∃ s, s.testBit h = true ∧ sb s S ∧ C s ∧ M = 1 + g (sd S s)) : isG C M S := by
  have hin : ∀ s, s.testBit h = true → sb (sd S s) o := fun s hs i hi => by
    rw [sd_bit, Bool.and_eq_true] at hi
    rw [← ho, sd_bit, hi.1, p2_bit, Bool.true_and]
    by_cases e : h = i
    · subst e
      rw [hs] at hi
      cases hi.2
    · rw [decide_eq_false e]
      rfl
  constructor
  · rcases h2 with rfl | ⟨s, a, b, c, rfl⟩
    · have := sd_sb S (2 ^ h)
      rw [ho] at this
      exact cn_mono _ this (hg o (sb_refl o)).1
    · rw [Nat.add_comm]
      exact ⟨s, b, c, (hg _ (hin s a)).1⟩
  · intro q
    rcases exch M S hb q with z | ⟨s, a, b, c, z⟩
    · rw [ho] at z
      exact (hg o (sb_refl o)).2 (cn_le (M + 1) (by omega) z)
    · have := h1 s a b c
      exact (hg _ (hin s a)).2 (cn_le M (by omega) z)
theorem isG_add {C : Nat → Prop} {S h v : Nat} (hb : S.testBit h = true) (hC : C (2 ^ h)) (hv : isG C v (sd S (2 ^ h))) : isG C (v + 1) S := by
  constructor
  · refine ⟨2 ^ h, fun i hi => ?_, hC, hv.1⟩
    rw [p2_bit] at hi
    have := of_decide_eq_true hi
    subst this
    exact hb
  · intro q
    rcases exch (v + 1) S hb q with z | ⟨s, a, b, c, z⟩
    · exact hv.2 (cn_le (v + 1 + 1) (by omega) z)
    · refine hv.2 (cn_mono (v + 1) (fun i hi => ?_) z)
      rw [sd_bit, Bool.and_eq_true] at hi
      rw [sd_bit, hi.1, p2_bit, Bool.true_and]
      by_cases e : h = i
      · subst e
        rw [a] at hi
        cases hi.2
      · rw [decide_eq_false e]
        rfl
theorem sb_half {x o : Nat} (h : sb x o) : sb (x / 2) (o / 2) := fun i hi => by
  rw [Nat.testBit_div_two] at hi
  rw [Nat.testBit_div_two]
  exact h _ hi
theorem sb_par {x o : Nat} (h : sb x o) : x % 2 ≤ o % 2 := by
  have h0 := h 0
  rw [Nat.testBit_zero, Nat.testBit_zero, decide_eq_true_iff, decide_eq_true_iff] at h0
  by_cases q : x % 2 = 1
  · have := h0 q
    omega
  · omega
theorem sb_and {s o : Nat} (h : sb s o) : s &&& o = s := Nat.eq_of_testBit_eq (fun i => by
  rw [Nat.testBit_and]
  cases z : s.testBit i with
  | false => rfl
  | true => rw [h i z]; rfl)
theorem sub_next : ∀ s o x : Nat, sb s o → sb x o → x < s → x ≤ (s - 1) &&& o := by
  intro s
  induction s using Nat.strongRecOn with
  | ind s ih =>
    intro o x hs hx hlt
    have hd : ((s - 1) &&& o) / 2 = (s - 1) / 2 &&& o / 2 := Nat.and_div_two
    have hy := Nat.div_add_mod ((s - 1) &&& o) 2
    have hx2 := Nat.div_add_mod x 2
    by_cases p : s % 2 = 1
    · have e1 : (s - 1) / 2 = s / 2 := by omega
      rw [e1, sb_and (sb_half hs)] at hd
      omega
    · have e1 : (s - 1) / 2 = s / 2 - 1 := by omega
      have i1 := ih (s / 2) (by omega) (o / 2) (x / 2) (sb_half hs) (sb_half hx) (by omega)
      rw [e1] at hd
      rw [← hd] at i1
      have e2 : ((s - 1) &&& o) % 2 = 1 ↔ (s - 1) % 2 = 1 ∧ o % 2 = 1 := Nat.and_mod_two_eq_one
      have e3 := sb_par hx
      have e4 : (s - 1) % 2 = 1 := by omega
      by_cases z : o % 2 = 1
      · have := e2.mpr ⟨e4, z⟩
        omega
      · omega
theorem sb_andR (a o : Nat) : sb (a &&& o) o := fun i h => by
  rw [Nat.testBit_and, Bool.and_eq_true] at h
  exact h.2
/-- all that is in o and not nothing, from j down -/
def sbL (F : Nat → Int32 → Int32) (o : Nat) : Nat → Nat → Int32 → Int32
  | 0, _, b => b
  | f + 1, j, b => if j = 0 then b else sbL F o f ((j - 1) &&& o) (F j b)
theorem sbL_0 (F : Nat → Int32 → Int32) (o f : Nat) (b : Int32) : sbL F o f 0 b = b := by
  cases f with
  | zero => rfl
  | succ f => exact if_pos rfl
theorem sbL_s (F : Nat → Int32 → Int32) (o f : Nat) {j : Nat} (b : Int32) (h : ¬ j = 0) : sbL F o (f + 1) j b = sbL F o f ((j - 1) &&& o) (F j b) := if_neg h
theorem sbL_spec {F : Nat → Int32 → Int32} {o : Nat} {val : Nat → Nat} (hF : ∀ j B, ¬ j = 0 → sb j o → B ≤ 1024 → F j (nI B) = nI (max B (val j))) (hv : ∀ j, ¬ j = 0 → sb j o → val j ≤ 1024) : ∀ f j B, j < f → sb j o → B ≤ 1024 → ∃ M, sbL F o f j (nI B) = nI M ∧ M ≤ 1024 ∧ B ≤ M ∧ (∀ x, ¬ x = 0 → sb x o → x ≤ j → val x ≤ M) ∧ (M = B ∨ ∃ x, ¬ x = 0 ∧ sb x o ∧ M = val x) := by
  intro f
  induction f with
  | zero => exact fun j B h => absurd h (Nat.not_lt_zero _)
  | succ f ih =>
    intro j B hj hs hB
    by_cases z : j = 0
    · exact ⟨B, if_pos z, hB, Nat.le_refl _, fun x h1 _ h2 => by omega, Or.inl rfl⟩
    · rw [sbL_s F o f _ z, hF j B z hs hB]
      have hv1 := hv j z hs
      have hlt : (j - 1) &&& o ≤ j - 1 := Nat.and_le_left
      obtain ⟨M, m1, m2, m3, m4, m5⟩ := ih ((j - 1) &&& o) (max B (val j)) (by omega) (sb_andR _ _) (by omega)
      refine ⟨M, m1, m2, by omega, fun x h1 h2 h3 => ?_, ?_⟩
      · by_cases q : x = j
        · subst q
          omega
        · exact m4 x h1 h2 (sub_next j o x hs h2 (by omega))
      · rcases m5 with q | q
        · by_cases w : val j ≤ B
          · exact Or.inl (by omega)
          · exact Or.inr ⟨j, z, hs, by omega⟩
        · exact Or.inr q
/-- those of the first n for which p is so -/
def coll (p : Nat → Bool) : Nat → Nat
  | 0 => 0
  | m + 1 => if p m = true then coll p m ||| 2 ^ m else coll p m
theorem coll_bit (p : Nat → Bool) : ∀ m i, (coll p m).testBit i = (decide (i < m) && p i) := by
  intro m
  induction m with
  | zero =>
    intro i
    show Nat.testBit 0 i = _
    rw [Nat.zero_testBit]
    rfl
  | succ m ih =>
    intro i
    show (if p m = true then coll p m ||| 2 ^ m else coll p m).testBit i = _
    by_cases e : i = m
    · subst e
      cases q : p i with
      | true => rw [if_pos rfl, Nat.testBit_or, p2_self, decide_eq_true (Nat.lt_succ_self i)]; cases (coll p i).testBit i <;> rfl
      | false => rw [if_neg (by decide), ih i, q]; cases decide (i < i) <;> cases decide (i < i + 1) <;> rfl
    · have h1 : decide (i < m + 1) = decide (i < m) := decide_eq_decide.mpr ⟨fun _ => by omega, fun _ => by omega⟩
      rw [h1]
      split
      · rw [Nat.testBit_or, ih i, p2_bit, decide_eq_false (p := m = i) (fun z => e z.symm), Bool.or_false]
      · exact ih i
theorem coll_lt (p : Nat → Bool) (m : Nat) : coll p m < 2 ^ m := lt_p2 (fun i hi => by
  rw [coll_bit, decide_eq_false (by omega)]
  rfl)
theorem coll_1024 (p : Nat → Bool) {m : Nat} (h : m ≤ 10) : coll p m < 1024 := Nat.lt_of_lt_of_le (coll_lt p m) (show 2 ^ m ≤ 2 ^ 10 from Nat.pow_le_pow_right (by decide) h)
def cnt (p : Nat → Bool) : Nat → Nat
  | 0 => 0
  | m + 1 => if p m = true then cnt p m + 1 else cnt p m
theorem cnt_le (p : Nat → Bool) : ∀ m, cnt p m ≤ m := by
  intro m
  induction m with
  | zero => exact Nat.le_refl _
  | succ m ih =>
    show (if p m = true then cnt p m + 1 else cnt p m) ≤ m + 1
    split <;> omega
theorem pN_coll (p : Nat → Bool) : pN (coll p 10) = cnt p 10 := by
  have e : ∀ i, i < 10 → (coll p 10).testBit i = p i := fun i hi => by
    rw [coll_bit, decide_eq_true hi]
    rfl
  have c : ∀ m, cnt p (m + 1) = cnt p m + (if p m = true then 1 else 0) := fun m => by
    show (if p m = true then cnt p m + 1 else cnt p m) = _
    split <;> rfl
  unfold pN
  rw [e 0 (by decide), e 1 (by decide), e 2 (by decide), e 3 (by decide), e 4 (by decide), e 5 (by decide), e 6 (by decide), e 7 (by decide), e 8 (by decide), e 9 (by decide), c 9, c 8, c 7, c 6, c 5, c 4, c 3, c 2, c 1, c 0]
  have c0 : cnt p 0 = 0 := rfl
  omega
/-- what those of a set have together -/
def uS (t : Nat → Nat) (e : Nat) : Nat → Nat
  | 0 => 0
  | k + 1 => if e.testBit k = true then uS t e k ||| t k else uS t e k
theorem uS_bit (t : Nat → Nat) (e b : Nat) : ∀ n, (uS t e n).testBit b = true ↔ ∃ k, k < n ∧ e.testBit k = true ∧ (t k).testBit b = true := by
  intro n
  induction n with
  | zero =>
    show Nat.testBit 0 b = true ↔ _
    rw [Nat.zero_testBit]
    exact ⟨fun h => absurd h (by decide), fun ⟨k, hk, _⟩ => absurd hk (Nat.not_lt_zero _)⟩
  | succ n ih =>
    show (if e.testBit n = true then uS t e n ||| t n else uS t e n).testBit b = true ↔ _
    by_cases q : e.testBit n = true
    · rw [if_pos q, Nat.testBit_or, Bool.or_eq_true, ih]
      constructor
      · rintro (⟨k, h1, h2⟩ | h)
        · exact ⟨k, by omega, h2⟩
        · exact ⟨n, by omega, q, h⟩
      · rintro ⟨k, h1, h2, h3⟩
        by_cases z : k = n
        · subst z
          exact Or.inr h3
        · exact Or.inl ⟨k, by omega, h2, h3⟩
    · rw [if_neg q, ih]
      constructor
      · rintro ⟨k, h1, h2⟩
        exact ⟨k, by omega, h2⟩
      · rintro ⟨k, h1, h2, h3⟩
        by_cases z : k = n
        · subst z
          exact absurd h2 q
        · exact ⟨k, by omega, h2, h3⟩
/-- those of a set have all that is wanted -/
def cv (t : Nat → Nat) (w e : Nat) : Prop := ∀ b, w.testBit b = true → ∃ k, k < 10 ∧ e.testBit k = true ∧ (t k).testBit b = true
theorem cv_mono {t : Nat → Nat} {w e e' : Nat} (h : sb e e') (q : cv t w e) : cv t w e' := fun b hb => by
  obtain ⟨k, h1, h2, h3⟩ := q b hb
  exact ⟨k, h1, h k h2, h3⟩
theorem cv_nz {t : Nat → Nat} {w e : Nat} (hw : ¬ w = 0) (q : cv t w e) : ¬ e = 0 := fun z => by
  obtain ⟨b, hb⟩ := nz_bit hw
  obtain ⟨k, -, h2, -⟩ := q b hb
  rw [z, Nat.zero_testBit] at h2
  cases h2
theorem cv_uS {t : Nat → Nat} {w e : Nat} : sb w (uS t e 10) ↔ cv t w e := ⟨fun h b hb => (uS_bit t e b 10).mp (h b hb), fun h b hb => (uS_bit t e b 10).mpr (h b hb)⟩
theorem cv_uSw {t : Nat → Nat} {w e : Nat} : uS (fun k => t k &&& w) e 10 = w ↔ cv t w e := by
  constructor
  · intro h b hb
    rw [← h, uS_bit] at hb
    obtain ⟨k, h1, h2, h3⟩ := hb
    rw [Nat.testBit_and, Bool.and_eq_true] at h3
    exact ⟨k, h1, h2, h3.1⟩
  · intro h
    apply Nat.eq_of_testBit_eq
    intro b
    cases q : w.testBit b with
    | true =>
      obtain ⟨k, h1, h2, h3⟩ := h b q
      exact (uS_bit _ e b 10).mpr ⟨k, h1, h2, by rw [Nat.testBit_and, h3, q]; rfl⟩
    | false =>
      cases z : (uS (fun k => t k &&& w) e 10).testBit b with
      | false => rfl
      | true =>
        obtain ⟨k, h1, h2, h3⟩ := (uS_bit _ e b 10).mp z
        rw [Nat.testBit_and, q, Bool.and_false] at h3
        cases h3
theorem uSw_le (t : Nat → Nat) (w e n : Nat) : uS (fun k => t k &&& w) e n ≤ w := sb_le (fun b hb => by
  obtain ⟨k, -, -, h3⟩ := (uS_bit _ e b n).mp hb
  rw [Nat.testBit_and, Bool.and_eq_true] at h3
  exact h3.2)
theorem uS_add {t : Nat → Nat} {x h : Nat} (hx : x < 2 ^ h) (hh : h < 10) : uS t (x ||| 2 ^ h) 10 = uS t x 10 ||| t h := by
  apply Nat.eq_of_testBit_eq
  intro b
  have key : (uS t (x ||| 2 ^ h) 10).testBit b = true ↔ (uS t x 10 ||| t h).testBit b = true := by
    rw [uS_bit, Nat.testBit_or, Bool.or_eq_true, uS_bit]
    constructor
    · rintro ⟨k, h1, h2, h3⟩
      rw [Nat.testBit_or, Bool.or_eq_true, p2_bit] at h2
      rcases h2 with q | q
      · exact Or.inl ⟨k, h1, q, h3⟩
      · have := of_decide_eq_true q
        subst this
        exact Or.inr h3
    · rintro (⟨k, h1, h2, h3⟩ | q)
      · exact ⟨k, h1, by rw [Nat.testBit_or, h2]; rfl, h3⟩
      · exact ⟨h, hh, by rw [Nat.testBit_or, p2_self]; cases x.testBit h <;> rfl, q⟩
  cases z : (uS t x 10 ||| t h).testBit b with
  | true => exact key.mpr z
  | false =>
    cases y : (uS t (x ||| 2 ^ h) 10).testBit b with
    | false => rfl
    | true => rw [key.mp y] at z; cases z
/-- without, and in, as the machine has them -/
theorem sd_nI {a b : Nat} (ha : a < 1024) : nI a &&& (nI b ^^^ (-1 : Int32)) = nI (sd a b) := by
  have e1 : (-1 : Int32) = nI 4294967295 := by decide
  rw [e1, xor_nI, and_nI]
  congr 1
  have e3 : ∀ i, i < 10 → (4294967295 : Nat).testBit i = true := by decide
  apply Nat.eq_of_testBit_eq
  intro i
  rw [Nat.testBit_and, Nat.testBit_xor, sd_bit]
  by_cases hi : i < 10
  · rw [e3 i hi]
    cases a.testBit i <;> cases b.testBit i <;> rfl
  · rw [bit_hi ha (by omega), Bool.false_and, Bool.false_and]
theorem sb_sbs {n t : Nat} (hn : n < 1024) : sbs n t ↔ sb n t := by
  constructor
  · intro h i hi
    by_cases q : i < 10
    · exact h i q hi
    · rw [bit_hi hn (by omega)] at hi
      cases hi
  · exact fun h j _ hb => h j hb
theorem sb_I {n t : Nat} (hn : n < 1024) : (nI n &&& (nI t ^^^ (-1 : Int32))) = 0 ↔ sb n t := (sb_iff hn).trans (sb_sbs hn)
