/-! Most by unions: what the class's loops come to. -/
def gi (f : Nat → Int32) (e : Nat) : Nat := (f e).toNatClampNeg
def okG (C : Nat → Prop) (f : Nat → Int32) (e : Nat) : Prop := ∃ v, f e = nI v ∧ isG C v e
theorem okG_gi {C : Nat → Prop} (hC : ∀ s, C s → ¬ s = 0) {f : Nat → Int32} {e : Nat} (he : e < 1024) (h : okG C f e) : f e = nI (gi f e) ∧ isG C (gi f e) e ∧ gi f e ≤ 1023 := by
  obtain ⟨v, h1, h2⟩ := h
  have h3 := isG_le hC h2
  have h4 : gi f e = v := by
    unfold gi
    rw [h1, cl v (by omega)]
  rw [h4]
  exact ⟨h1, h2, by omega⟩
theorem bool_ext {a b : Bool} (h : a = true ↔ b = true) : a = b := by
  cases a <;> cases b
  · rfl
  · exact absurd (h.mpr rfl) (by decide)
  · exact absurd (h.mp rfl) (by decide)
  · rfl
theorem or_sd {s h : Nat} (hb : s.testBit h = true) : sd s (2 ^ h) ||| 2 ^ h = s := Nat.eq_of_testBit_eq (fun i => by
  rw [Nat.testBit_or, sd_bit, p2_bit]
  by_cases e : h = i
  · subst e
    rw [hb, decide_eq_true rfl]
    rfl
  · rw [decide_eq_false e]
    cases s.testBit i <;> rfl)
theorem sd_or {m h : Nat} (hm : m < 2 ^ h) : sd (m ||| 2 ^ h) (2 ^ h) = m := Nat.eq_of_testBit_eq (fun i => by
  rw [sd_bit, Nat.testBit_or, p2_bit]
  by_cases e : h = i
  · subst e
    rw [p2_hi hm (Nat.le_refl _), decide_eq_true rfl]
    rfl
  · rw [decide_eq_false e]
    cases m.testBit i <;> rfl)
theorem sd_or2 {m h s : Nat} (hm : m < 2 ^ h) (hs : s.testBit h = true) : sd (m ||| 2 ^ h) s = sd m (sd s (2 ^ h)) := Nat.eq_of_testBit_eq (fun i => by
  rw [sd_bit, sd_bit, sd_bit, Nat.testBit_or, p2_bit]
  by_cases e : h = i
  · subst e
    rw [p2_hi hm (Nat.le_refl _), decide_eq_true rfl, hs]
    rfl
  · rw [decide_eq_false e]
    cases m.testBit i <;> cases s.testBit i <;> rfl)
theorem xor_sd {o j : Nat} (h : sb j o) : o ^^^ j = sd o j := Nat.eq_of_testBit_eq (fun i => by
  rw [Nat.testBit_xor, sd_bit]
  cases z : j.testBit i with
  | false => cases o.testBit i <;> rfl
  | true => rw [h i z]; rfl)
theorem sd_p2_0 {s h : Nat} (hb : s.testBit h = true) (h0 : sd s (2 ^ h) = 0) : s = 2 ^ h := by
  have := or_sd hb
  rw [h0, Nat.zero_or] at this
  exact this.symm
theorem sd_in {s h m : Nat} (hs : sb s (m ||| 2 ^ h)) : sb (sd s (2 ^ h)) m := fun i hi => by
  rw [sd_bit, p2_bit, Bool.and_eq_true] at hi
  have := hs i hi.1
  rw [Nat.testBit_or, p2_bit, Bool.or_eq_true] at this
  rcases this with q | q
  · exact q
  · rw [q] at hi
    cases hi.2
theorem or_in {x h m : Nat} (hx : sb x m) : sb (x ||| 2 ^ h) (m ||| 2 ^ h) := fun i hi => by
  rw [Nat.testBit_or, Bool.or_eq_true] at hi
  rw [Nat.testBit_or, Bool.or_eq_true]
  rcases hi with q | q
  · exact Or.inl (hx i q)
  · exact Or.inr q
theorem or_self_bit (x h : Nat) : (x ||| 2 ^ h).testBit h = true := by
  rw [Nat.testBit_or, p2_self, Bool.or_true]
theorem max_I {B V : Nat} (hB : B < 2 ^ 31) (hV : V < 2 ^ 31) : (if nI B < nI V then nI V else nI B) = nI (max B V) := by
  have e : nI B < nI V ↔ B < V := nI_ltI hB hV
  by_cases h : B < V
  · rw [if_pos (e.mpr h)]
    congr 1
    omega
  · rw [if_neg (fun z => h (e.mp z))]
    congr 1
    omega
def Uw (t : Nat → Nat) (w e : Nat) : Nat := uS (fun k => t k &&& w) e 10
theorem Uw_I {t : Nat → Nat} {w e : Nat} (hw : w < 1024) : nI (Uw t w e) = nI w ↔ cv t w e := by
  have h1 := uSw_le t w e 10
  have h2 : nI (Uw t w e) = nI w ↔ Uw t w e = w := nI_eq (by unfold Uw; omega) (by omega)
  exact h2.trans cv_uSw
theorem mw_ok {t : Nat → Nat} {w h m : Nat} {q vs : Nat → Int32} (hw0 : ¬ w = 0) (hw : w < 1024) (hh : h < 10) (hm : m < 2 ^ h) (hq1 : ∀ y, sb y m → okG (cv t w) q y) (hq2 : ∀ x, sb x m → vs (x ||| 2 ^ h) = nI (Uw t w (x ||| 2 ^ h))) (hC1 : ¬ cv t w (2 ^ h)) : ∃ v, sbL (mwF q vs (2 ^ h) m (nI w)) m 1024 m (q m) = nI v ∧ isG (cv t w) v (m ||| 2 ^ h) := by
  have h512 := p2_lt hh
  have hC : ∀ s, cv t w s → ¬ s = 0 := fun s => cv_nz hw0
  have hg : ∀ y, sb y m → q y = nI (gi q y) ∧ isG (cv t w) (gi q y) y ∧ gi q y ≤ 1023 := fun y hy => okG_gi hC (by have := sb_le hy; omega) (hq1 y hy)
  have hvs : ∀ x, sb x m → (vs (x ||| 2 ^ h) = nI w ↔ cv t w (x ||| 2 ^ h)) := fun x hx => by
    rw [hq2 x hx]
    exact Uw_I hw
  have hF : ∀ j B, ¬ j = 0 → sb j m → B ≤ 1024 → mwF q vs (2 ^ h) m (nI w) j (nI B) = nI (max B (if vs (j ||| 2 ^ h) = nI w then 1 + gi q (sd m j) else 0)) := fun j B _ hj hB => by
    unfold mwF
    by_cases c : vs (j ||| 2 ^ h) = nI w
    · obtain ⟨g1, -, g3⟩ := hg (sd m j) (sd_sb m j)
      rw [if_pos c, if_pos c, xor_sd hj, g1]
      have e1 : (1 : Int32) + nI (gi q (sd m j)) = nI (1 + gi q (sd m j)) := nI_add 1 _
      have e2 : gi q (sd m j) = (nI (gi q (sd m j))).toNatClampNeg := (cl _ (by omega)).symm
      rw [e1]
      exact max_I (by omega) (by omega)
    · rw [if_neg c, if_neg c]
      congr 1
      omega
  obtain ⟨M, m1, m2, m3, m4, m5⟩ := sbL_spec (F := mwF q vs (2 ^ h) m (nI w)) (o := m) (val := fun j => if vs (j ||| 2 ^ h) = nI w then 1 + gi q (sd m j) else 0) hF (fun j _ hj => by
    have := (hg (sd m j) (sd_sb m j)).2.2
    show (if vs (j ||| 2 ^ h) = nI w then 1 + gi q (sd m j) else 0) ≤ 1024
    split <;> omega) 1024 m (gi q m) (by omega) (sb_refl m) (by have := (hg m (sb_refl m)).2.2; omega)
  refine ⟨M, by rw [(hg m (sb_refl m)).1]; exact m1, ?_⟩
  refine isG_step (h := h) (o := m) (g := gi q) (or_self_bit m h) (sd_or hm) (fun y hy => (hg y hy).2.1) m3 (fun s a b c => ?_) ?_
  · have i1 := sd_in b
    have n0 : ¬ sd s (2 ^ h) = 0 := fun z => by
      rw [sd_p2_0 a z] at c
      exact hC1 c
    have := m4 _ n0 i1 (sb_le i1)
    have e : vs (sd s (2 ^ h) ||| 2 ^ h) = nI w := (hvs _ i1).mpr (by rw [or_sd a]; exact c)
    have this : (if vs (sd s (2 ^ h) ||| 2 ^ h) = nI w then 1 + gi q (sd m (sd s (2 ^ h))) else 0) ≤ M := this
    rw [if_pos e] at this
    rw [sd_or2 hm a]
    exact this
  · rcases m5 with z | ⟨x, x1, x2, z⟩
    · exact Or.inl z
    · have z : M = (if vs (x ||| 2 ^ h) = nI w then 1 + gi q (sd m x) else 0) := z
      by_cases c : vs (x ||| 2 ^ h) = nI w
      · rw [if_pos c] at z
        refine Or.inr ⟨x ||| 2 ^ h, or_self_bit x h, or_in x2, (hvs x x2).mp c, ?_⟩
        rw [sd_or2 hm (or_self_bit x h), sd_or (Nat.lt_of_le_of_lt (sb_le x2) hm)]
        exact z
      · rw [if_neg c] at z
        exact Or.inl (by omega)
theorem rk_ok {t : Nat → Nat} {w h A : Nat} {vp vs : Nat → Int32} (hw0 : ¬ w = 0) (hw : w < 1024) (hh : h < 10) (hC1 : ¬ cv t w (2 ^ h)) (hI : ∀ e, sb e A → e < 2 ^ h → vs e = nI (Uw t w e) ∧ okG (cv t w) vp e) : ∀ m, m ≤ 2 ^ h → (∀ e, e < 2 ^ h → (rkL (2 ^ h) (nI (t h &&& w)) (nI A) (nI w) vp vs m).1 e = vp e ∧ (rkL (2 ^ h) (nI (t h &&& w)) (nI A) (nI w) vp vs m).2 e = vs e) ∧ ∀ e, sb e A → e < m → (rkL (2 ^ h) (nI (t h &&& w)) (nI A) (nI w) vp vs m).2 (e ||| 2 ^ h) = nI (Uw t w (e ||| 2 ^ h)) ∧ okG (cv t w) (rkL (2 ^ h) (nI (t h &&& w)) (nI A) (nI w) vp vs m).1 (e ||| 2 ^ h) := by
  have h512 := p2_lt hh
  intro m
  induction m with
  | zero => exact fun _ => ⟨fun e _ => ⟨rfl, rfl⟩, fun e _ h => absurd h (Nat.not_lt_zero _)⟩
  | succ m ih =>
    intro hm
    obtain ⟨i1, i2⟩ := ih (by omega)
    have hsb : (nI m &&& (nI A ^^^ (-1 : Int32))) = 0 ↔ sb m A := sb_I (by omega)
    by_cases q : sb m A
    · have e1 : rkL (2 ^ h) (nI (t h &&& w)) (nI A) (nI w) vp vs (m + 1) = rkN (rkL (2 ^ h) (nI (t h &&& w)) (nI A) (nI w) vp vs m) (2 ^ h) (nI (t h &&& w)) (nI w) m := if_pos (hsb.mpr q)
      rw [e1]
      obtain ⟨z, hz⟩ : ∃ z, z = rkL (2 ^ h) (nI (t h &&& w)) (nI A) (nI w) vp vs m := ⟨_, rfl⟩
      rw [← hz] at i1 i2
      rw [← hz]
      have hx8 : z.2 m ||| nI (t h &&& w) = nI (Uw t w (m ||| 2 ^ h)) := by
        rw [(i1 m (by omega)).2, (hI m q (by omega)).1, or_nI]
        congr 1
        exact (uS_add (t := fun k => t k &&& w) (by omega) hh).symm
      have hmo : m ||| 2 ^ h = m + 2 ^ h := or_p2 (by omega)
      unfold rkN
      rw [hx8]
      refine ⟨fun e he => ⟨?_, ?_⟩, fun e hs he => ?_⟩
      · show upd z.1 (m ||| 2 ^ h) _ e = vp e
        rw [upd_n (by omega)]
        exact (i1 e he).1
      · show upd z.2 (m ||| 2 ^ h) _ e = vs e
        rw [upd_n (by omega)]
        exact (i1 e he).2
      · have heo : e ||| 2 ^ h = e + 2 ^ h := or_p2 (by omega)
        by_cases c : e = m
        · subst c
          refine ⟨upd_s, ?_⟩
          unfold okG
          show ∃ v, upd z.1 (e ||| 2 ^ h) _ (e ||| 2 ^ h) = nI v ∧ _
          rw [upd_s]
          by_cases y : nI (Uw t w (e ||| 2 ^ h)) = nI w
          · rw [if_pos y]
            refine mw_ok hw0 hw hh (by omega) (fun y hy => ?_) (fun x hx => ?_) hC1
            · have hle := sb_le hy
              obtain ⟨v, v1, v2⟩ := (hI y (sb_trans hy q) (by omega)).2
              exact ⟨v, by rw [(i1 y (by omega)).1]; exact v1, v2⟩
            · have hle := sb_le hx
              have hxo : x ||| 2 ^ h = x + 2 ^ h := or_p2 (by omega)
              by_cases d : x = e
              · subst d
                exact upd_s
              · rw [upd_n (by omega)]
                exact (i2 x (sb_trans hx q) (by omega)).1
          · rw [if_neg y]
            refine ⟨0, rfl, trivial, ?_⟩
            rintro ⟨s, s1, s2, -⟩
            exact y ((Uw_I hw).mpr (cv_mono s1 s2))
        · obtain ⟨j1, v, j2, j3⟩ := i2 e hs (by omega)
          refine ⟨?_, v, ?_, j3⟩
          · show upd z.2 (m ||| 2 ^ h) _ (e ||| 2 ^ h) = _
            rw [upd_n (by omega)]
            exact j1
          · show upd z.1 (m ||| 2 ^ h) _ (e ||| 2 ^ h) = _
            rw [upd_n (by omega)]
            exact j2
    · have e1 : rkL (2 ^ h) (nI (t h &&& w)) (nI A) (nI w) vp vs (m + 1) = rkL (2 ^ h) (nI (t h &&& w)) (nI A) (nI w) vp vs m := if_neg (fun z => q (hsb.mp z))
      rw [e1]
      refine ⟨i1, fun e hs he => ?_⟩
      by_cases c : e = m
      · subst c
        exact absurd hs q
      · exact i2 e hs (by omega)
theorem mu_ok {s : Nat → Int32} {w A : Nat} {vp vs : Nat → Int32} (hp : pat s) (hw0 : ¬ w = 0) (hw : w < 1024) (hA : A < 1024) (hC1 : ∀ h, h < 10 → A.testBit h = true → ¬ cv (gi s) w (2 ^ h)) : ∀ h, h ≤ 10 → ∀ e, sb e A → e < 2 ^ h → (muL s (nI A) (nI w) vp vs h).2 e = nI (Uw (gi s) w e) ∧ okG (cv (gi s) w) (muL s (nI A) (nI w) vp vs h).1 e := by
  intro h
  induction h with
  | zero =>
    intro _ e _ he
    obtain rfl : e = 0 := by
      have : e < 1 := he
      omega
    refine ⟨?_, 0, ?_, trivial, ?_⟩
    · show upd vs 0 0 0 = _
      rw [upd_s]
      have : Uw (gi s) w 0 = 0 := by
        unfold Uw
        apply Nat.eq_of_testBit_eq
        intro b
        rw [Nat.zero_testBit]
        cases z : (uS (fun k => gi s k &&& w) 0 10).testBit b with
        | false => rfl
        | true =>
          obtain ⟨k, -, h2, -⟩ := (uS_bit _ 0 b 10).mp z
          rw [Nat.zero_testBit] at h2
          cases h2
      rw [this]
      rfl
    · show upd vp 0 0 0 = _
      rw [upd_s]
      rfl
    · rintro ⟨x, x1, x2, -⟩
      exact cv_nz hw0 x2 (sb_0 x1)
  | succ h ih =>
    intro hh
    have i0 := ih (by omega)
    have hb : hs (nI A) (nI h) = A.testBit h := bits_hs A hA h (by omega)
    cases q : A.testBit h with
    | true =>
      have e1 : muL s (nI A) (nI w) vp vs (h + 1) = rkL (2 ^ h) (s h &&& nI w) (nI A) (nI w) (muL s (nI A) (nI w) vp vs h).1 (muL s (nI A) (nI w) vp vs h).2 (2 ^ h) := if_pos (by rw [hb, q])
      have es : s h &&& nI w = nI (gi s h &&& w) := by
        obtain ⟨n, hn, e⟩ := hp h (by omega)
        unfold gi
        rw [e, cl n (by omega), and_nI]
      rw [e1, es]
      obtain ⟨r1, r2⟩ := rk_ok (t := gi s) hw0 hw (show h < 10 by omega) (hC1 h (by omega) q) i0 (2 ^ h) (Nat.le_refl _)
      intro e hs he
      by_cases c : e < 2 ^ h
      · obtain ⟨j1, v, j2, j3⟩ := i0 e hs c
        exact ⟨by rw [(r1 e c).2]; exact j1, v, by rw [(r1 e c).1]; exact j2, j3⟩
      · have hbe : e.testBit h = true := by
          cases z : e.testBit h with
          | true => rfl
          | false =>
            refine absurd (lt_p2 (fun i hi => ?_)) c
            by_cases d : i = h
            · subst d
              exact z
            · exact p2_hi he (by omega)
        have hlt : sd e (2 ^ h) < 2 ^ h := lt_p2 (fun i hi => by
          rw [sd_bit, p2_bit]
          by_cases d : h = i
          · rw [decide_eq_true d, Bool.not_true, Bool.and_false]
          · rw [p2_hi he (by omega)]
            rfl)
        have := r2 (sd e (2 ^ h)) (sb_trans (sd_sb _ _) hs) hlt
        rw [or_sd hbe] at this
        exact this
    | false =>
      have e1 : muL s (nI A) (nI w) vp vs (h + 1) = muL s (nI A) (nI w) vp vs h := if_neg (by rw [hb, q]; decide)
      rw [e1]
      intro e hs he
      refine i0 e hs (lt_p2 (fun i hi => ?_))
      by_cases d : i = h
      · subst d
        exact sb_bit hs q
      · exact p2_hi he (by omega)
theorem cv_one {t : Nat → Nat} {w h : Nat} (hh : h < 10) : cv t w (2 ^ h) ↔ t h &&& w = w := by
  constructor
  · intro q
    apply Nat.eq_of_testBit_eq
    intro b
    rw [Nat.testBit_and]
    cases z : w.testBit b with
    | false => rw [Bool.and_false]
    | true =>
      obtain ⟨k, -, h2, h3⟩ := q b z
      rw [p2_bit] at h2
      have := of_decide_eq_true h2
      subst this
      rw [h3]
      rfl
  · intro q b hb
    rw [← q, Nat.testBit_and, Bool.and_eq_true] at hb
    exact ⟨h, hh, p2_self h, hb.1⟩
theorem and_I {s : Nat → Int32} (hp : pat s) {h w : Nat} (hh : h < 10) (hw : w < 1024) : (s h &&& nI w) = nI (gi s h &&& w) ∧ ((s h &&& nI w) = nI w ↔ gi s h &&& w = w) ∧ ((s h &&& nI w) = 0 ↔ gi s h &&& w = 0) := by
  obtain ⟨n, hn, e⟩ := hp h hh
  have e2 : (s h &&& nI w) = nI (gi s h &&& w) := by
    unfold gi
    rw [e, cl n (by omega), and_nI]
  have h3 : gi s h &&& w ≤ w := Nat.and_le_right
  rw [e2]
  exact ⟨rfl, nI_eq (by omega) (by omega), nI_eq (b := 0) (by omega) (by decide)⟩
theorem mp_ok {s : Nat → Int32} {w : Nat} {th : Int32} {vp vs : Nat → Int32} (hp : pat s) (hw0 : ¬ w = 0) (hw : w < 1024) : ∃ v, nI (cnt (whP th s (nI w)) 10) + (muL s (nI (coll (paP th s (nI w)) 10)) (nI w) vp vs 10).1 (coll (paP th s (nI w)) 10) = nI v ∧ isG (cv (gi s) w) v (coll (soP th s (nI w)) 10) := by
  obtain ⟨A, hA⟩ : ∃ A, A = coll (paP th s (nI w)) 10 := ⟨_, rfl⟩
  have hA1 : A < 1024 := by
    rw [hA]
    exact coll_1024 _ (Nat.le_refl 10)
  have hAb : ∀ i, i < 10 → A.testBit i = paP th s (nI w) i := fun i hi => by
    rw [hA, coll_bit, decide_eq_true hi, Bool.true_and]
  rw [← hA]
  obtain ⟨-, v, hv, hG⟩ := mu_ok (vp := vp) (vs := vs) hp hw0 hw hA1 (fun h hh hb hc => by
    rw [hAb h hh] at hb
    unfold paP at hb
    rw [Bool.and_eq_true, Bool.and_eq_true] at hb
    exact of_decide_eq_true hb.2.1 ((and_I hp hh hw).2.1.mpr ((cv_one hh).mp hc))) 10 (Nat.le_refl 10) A (sb_refl A) hA1
  have key : ∀ m, m ≤ 10 → isG (cv (gi s) w) (v + cnt (whP th s (nI w)) m) (A ||| coll (whP th s (nI w)) m) := by
    intro m
    induction m with
    | zero =>
      intro _
      show isG _ v (A ||| 0)
      rw [Nat.or_zero]
      exact hG
    | succ m ih =>
      intro hm
      have i0 := ih (by omega)
      cases q : whP th s (nI w) m with
      | false =>
        rw [coll_no q, cnt_no q]
        exact i0
      | true =>
        rw [coll_yes q, cnt_yes q, ← Nat.or_assoc, ← Nat.add_assoc]
        have q2 := q
        unfold whP at q2
        rw [Bool.and_eq_true] at q2
        have q3 := of_decide_eq_true q2.2
        refine isG_add (h := m) (or_self_bit _ m) ((cv_one (by omega)).mpr ((and_I hp (by omega) hw).2.1.mp q3)) ?_
        have e : sd ((A ||| coll (whP th s (nI w)) m) ||| 2 ^ m) (2 ^ m) = A ||| coll (whP th s (nI w)) m := Nat.eq_of_testBit_eq (fun i => by
          rw [sd_bit, Nat.testBit_or, p2_bit]
          by_cases d : m = i
          · subst d
            have a1 : (A ||| coll (whP th s (nI w)) m).testBit m = false := by
              rw [Nat.testBit_or, hAb m (by omega), coll_bit, decide_eq_false (by omega)]
              unfold paP
              rw [decide_eq_false (p := ¬ (s m &&& nI w) = nI w) (fun z => z q3), Bool.false_and, Bool.and_false]
              rfl
            rw [a1, decide_eq_true rfl]
            rfl
          · rw [decide_eq_false d]
            cases (A ||| coll (whP th s (nI w)) m).testBit i <;> rfl)
        rw [e]
        exact i0
  refine ⟨v + cnt (whP th s (nI w)) 10, ?_, ?_⟩
  · rw [hv, nI_add, Nat.add_comm]
  · have e : A ||| coll (whP th s (nI w)) 10 = coll (soP th s (nI w)) 10 := Nat.eq_of_testBit_eq (fun i => by
      rw [Nat.testBit_or, hA, coll_bit, coll_bit, coll_bit]
      by_cases hi : i < 10
      · rw [decide_eq_true hi, Bool.true_and, Bool.true_and, Bool.true_and]
        obtain ⟨-, a1, a2⟩ := and_I hp hi hw
        unfold paP whP soP
        by_cases c1 : (s i &&& nI w) = nI w
        · have c2 : ¬ (s i &&& nI w) = 0 := fun z => by
            rw [a1] at c1
            rw [a2] at z
            exact hw0 (by rw [← c1, z])
          rw [decide_eq_true c1, decide_eq_false (p := ¬ (s i &&& nI w) = nI w) (fun z => z c1), decide_eq_true c2]
          cases hs th (nI i) <;> rfl
        · rw [decide_eq_false c1, decide_eq_true (p := ¬ (s i &&& nI w) = nI w) c1]
          cases hs th (nI i) <;> cases decide (¬ (s i &&& nI w) = 0) <;> rfl
      · rw [decide_eq_false hi]
        rfl)
    rw [← e]
    exact key 10 (Nat.le_refl 10)
