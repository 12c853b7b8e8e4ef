/-! The pad: how acts are read from signs. -/
def sg (cn : Nat) (g : Nat → Int32) (a : Nat) : Int32 := if a < cn then g a else 0
def kd (cn : Nat) (g : Nat → Int32) (a : Nat) : Int32 := if sg cn g a = 46 then 6 else if sg cn g (a + 1) = 36 then 5 else if sg cn g (a + 1) = 38 then 3 else if sg cn g (a + 1) = 42 then 2 else if sg cn g (a + 1) = 43 then 1 else if sg cn g (a + 1) = 61 then 4 else 0
def ln (cn : Nat) (g : Nat → Int32) (a : Nat) : Nat := if kd cn g a = 6 then 1 else if kd cn g a = 2 ∨ kd cn g a = 3 ∨ kd cn g a = 4 then 3 else 2
def wh (cn : Nat) (g : Nat → Int32) (a : Nat) : Int32 := sg cn g a - (65 : Int32)
def nu (cn : Nat) (g : Nat → Int32) (a : Nat) : Int32 := if kd cn g a = 0 then sg cn g (a + 1) - (48 : Int32) else if kd cn g a = 2 then sg cn g (a + 2) - (48 : Int32) else if kd cn g a = 3 ∨ kd cn g a = 4 then sg cn g (a + 2) - (65 : Int32) else 0
def isL (x : Int32) : Bool := wi x 65 74
def fa (cn : Nat) (g : Nat → Int32) (a : Nat) : Int32 :=
  if sg cn g a = 46 then -6 else if isL (sg cn g a) = false then nI a
  else if wi (sg cn g (a + 1)) 49 57 = true ∨ sg cn g (a + 1) = 43 ∨ sg cn g (a + 1) = 36 then -6
  else if sg cn g (a + 1) = 42 then (if wi (sg cn g (a + 2)) 48 55 = true then -6 else nI (a + 2))
  else if sg cn g (a + 1) = 38 ∨ sg cn g (a + 1) = 61 then (if isL (sg cn g (a + 2)) = true then -6 else nI (a + 2))
  else nI (a + 1)
/-- the fault, by at most f acts from a on -/
def flt (cn : Nat) (g : Nat → Int32) : Nat → Nat → Int32
  | 0, _ => -6
  | f + 1, a => if cn ≤ a then -6 else if fa cn g a = -6 then flt cn g f (a + ln cn g a) else fa cn g a
theorem kd_isK (cn : Nat) (g : Nat → Int32) (a : Nat) : isK (kd cn g a) := by
  unfold kd isK
  repeat' split
  all_goals decide
theorem ln_pos (cn : Nat) (g : Nat → Int32) (a : Nat) : 1 ≤ ln cn g a ∧ ln cn g a ≤ 3 := by
  unfold ln
  repeat' split
  all_goals omega
def okC (c : Int32) : Prop := ∃ n, n ≤ 60 ∧ c = nI n
def okP (p : Int32) : Prop := ∃ a, a < 1000 ∧ p = nI a
theorem okC_cl {c : Int32} (h : okC c) : c = nI c.toNatClampNeg ∧ c.toNatClampNeg ≤ 60 := by
  obtain ⟨n, hn, rfl⟩ := h
  rw [cl n (by omega)]
  exact ⟨rfl, hn⟩
section OK6
variable {l : Launch} {D : va_G} {cI cZ : ClassId}
theorem ok_X3_signAt : KX3_signAt l D cI cZ (fun p c _ => okP p ∧ okC c) (fun p c g r => r = sg c.toNatClampNeg g p.toNatClampNeg) := walkX3_signAt (by
  rintro p c g ⟨⟨a, ha, rfl⟩, ⟨n, hn, rfl⟩⟩
  rw [cl n (by omega), cl a (by omega)]
  refine ⟨fun h => absurd h (nI_pos (by omega)), fun _ => ⟨fun h => ?_, fun h => ⟨fun h2 => ?_, fun h2 => ⟨?_, ?_⟩⟩⟩⟩
  · have := (nI_leI (by omega) (by omega)).mp h
    simp [sg, show ¬ a < n by omega]
  · have h3 := (ctr_le (N := 60) (c := (60 : Int32)) rfl (by decide) (by omega)).mp h2
    simp [sg, show ¬ a < n by omega]
  · have h3 := (not_congr (ctr_le (N := 60) (c := (60 : Int32)) rfl (by decide) (by omega))).mp h2
    exact vp_in_nI (by omega) (by decide)
  · have := (not_congr (nI_leI (a := n) (b := a) (by omega) (by omega))).mp h
    simp [sg, show a < n by omega])
theorem ok_X3_isLetter : KX3_isLetter l D cI cZ (fun _ => True) (fun x r => r = bi (isL x)) := walkX3_isLetter ok_X8_isWithin (by
  rintro x -
  refine ⟨trivial, ?_⟩
  rintro r rfl
  exact ⟨bi_isB _, rfl⟩)
theorem okP_n {a : Nat} (h : a < 1000) : okP (nI a) := ⟨a, h, rfl⟩
theorem ok_X3_kindAt : KX3_kindAt l D cI cZ (fun p c _ => (∃ a, a < 500 ∧ p = nI a) ∧ okC c) (fun p c g r => r = kd c.toNatClampNeg g p.toNatClampNeg) := walkX3_kindAt ok_X3_signAt (by
  rintro p c g ⟨⟨a, ha, rfl⟩, hc⟩
  refine ⟨⟨okP_n (by omega), hc⟩, ?_⟩
  rintro r rfl
  rw [nI_1 a, cl a (by omega)]
  refine ⟨fun h => ⟨⟨okP_n (by omega), hc⟩, ?_⟩, fun h => ?_⟩
  · rintro r rfl
    rw [cl (a + 1) (by omega)]
    refine ⟨fun h1 => ?_, fun h1 => ⟨fun h2 => ?_, fun h2 => ⟨fun h3 => ?_, fun h3 => ⟨fun h4 => ?_, fun h4 => ⟨fun h5 => ?_, fun h5 => ?_⟩⟩⟩⟩⟩
    · simp [kd, h, h1]
    · simp [kd, h, h2]
    · simp [kd, h, h3]
    · simp [kd, h, h4]
    · simp [kd, h, h5]
    · simp [kd, h, h1, h2, h3, h4, h5]
  · simp [kd, h])
theorem ok_X3_lengthAt : KX3_lengthAt l D cI cZ (fun p c _ => (∃ a, a < 500 ∧ p = nI a) ∧ okC c) (fun p c g r => r = nI (ln c.toNatClampNeg g p.toNatClampNeg)) := walkX3_lengthAt ok_X3_kindAt (by
  rintro p c g hp
  refine ⟨hp, ?_⟩
  rintro r rfl
  unfold ln
  refine ⟨fun h => ?_, fun h => ⟨fun h1 => ?_, fun h1 => ⟨fun h2 => ?_, fun h2 => ⟨fun h3 => ?_, fun h3 => ⟨fun h4 => ?_, fun h4 => ?_⟩⟩⟩⟩⟩
  · rw [h]
    rfl
  · rw [h1]
    rfl
  · rw [h2]
    rfl
  · rw [h3]
    rfl
  · rw [h4]
    rfl
  · rw [if_neg h4, if_neg (by simp [h, h1, h2])]
    rfl)
theorem ok_X3_whoAt : KX3_whoAt l D cI cZ (fun p c _ => okP p ∧ okC c) (fun p c g r => r = wh c.toNatClampNeg g p.toNatClampNeg) := walkX3_whoAt ok_X3_signAt (by
  rintro p c g hp
  refine ⟨hp, ?_⟩
  rintro r rfl
  rfl)
theorem ok_X3_numberAt : KX3_numberAt l D cI cZ (fun p c _ => (∃ a, a < 500 ∧ p = nI a) ∧ okC c) (fun p c g r => r = nu c.toNatClampNeg g p.toNatClampNeg) := walkX3_numberAt ok_X3_kindAt ok_X3_signAt (by
  rintro p c g ⟨⟨a, ha, rfl⟩, hc⟩
  refine ⟨⟨⟨a, ha, rfl⟩, hc⟩, ?_⟩
  rintro r rfl
  have e1 : nI a + (1 : Int32) = nI (a + 1) := nI_1 a
  have e2 : nI a + (2 : Int32) = nI (a + 2) := nI_add a 2
  rw [e1, e2, cl a (by omega)]
  have o1 : okP (nI (a + 1)) ∧ okC c := ⟨okP_n (by omega), hc⟩
  have o2 : okP (nI (a + 2)) ∧ okC c := ⟨okP_n (by omega), hc⟩
  refine ⟨fun h => ⟨o1, ?_⟩, fun h => ⟨fun h1 => ?_, fun h1 => ⟨fun h2 => ⟨o2, ?_⟩, fun h2 => ⟨fun h3 => ⟨o2, ?_⟩, fun h3 => ⟨fun h4 => ⟨o2, ?_⟩, fun h4 => ?_⟩⟩⟩⟩⟩
  · rintro r rfl
    rw [cl (a + 1) (by omega)]
    simp [nu, h]
  · simp [nu, h1]
  · rintro r rfl
    rw [cl (a + 2) (by omega)]
    simp [nu, h2]
  · rintro r rfl
    rw [cl (a + 2) (by omega)]
    simp [nu, h3]
  · rintro r rfl
    rw [cl (a + 2) (by omega)]
    simp [nu, h4]
  · simp [nu, h, h2, h3, h4])
theorem ok_X3_faultOfAct : KX3_faultOfAct l D cI cZ (fun p c _ => (∃ a, a < 500 ∧ p = nI a) ∧ okC c) (fun p c g r => r = fa c.toNatClampNeg g p.toNatClampNeg) := walkX3_faultOfAct ok_X3_signAt ok_X3_isLetter ok_X8_isWithin (by
  rintro p c g ⟨⟨a, ha, rfl⟩, hc⟩
  have e1 : nI a + (1 : Int32) = nI (a + 1) := nI_1 a
  have e2 : nI a + (2 : Int32) = nI (a + 2) := nI_add a 2
  rw [e1, e2, cl a (by omega)]
  have o0 : okP (nI a) ∧ okC c := ⟨okP_n (by omega), hc⟩
  have o1 : okP (nI (a + 1)) ∧ okC c := ⟨okP_n (by omega), hc⟩
  have o2 : okP (nI (a + 2)) ∧ okC c := ⟨okP_n (by omega), hc⟩
  have k0 : (nI a).toNatClampNeg = a := cl a (by omega)
  have k1 : (nI (a + 1)).toNatClampNeg = a + 1 := cl (a + 1) (by omega)
  have k2 : (nI (a + 2)).toNatClampNeg = a + 2 := cl (a + 2) (by omega)
  simp only [k0, k1, k2]
  repeat' first
    | exact trivial
    | exact o0
    | exact o1
    | exact o2
    | (refine And.intro ?_ ?_)
    | (rintro _ rfl)
    | (intro _)
  all_goals simp_all [bi_0, bi_n0, fa])
theorem ok_X3_firstFault : KX3_firstFault l D cI cZ (fun c _ => okC c) (fun c g r => r = flt c.toNatClampNeg g 60 0) := walkX3_firstFault (IX3_firstFault_4 := fun c g n at_ i => ∃ k a, k + n = 60 ∧ a ≤ 3 * k ∧ i = nI k ∧ at_ = nI a ∧ flt c.toNatClampNeg g n a = flt c.toNatClampNeg g 60 0) ok_X3_faultOfAct ok_X3_lengthAt (by
  rintro c g hc
  refine ⟨⟨60, 0, 0, rfl, by omega, rfl, rfl, rfl⟩, ?_⟩
  rintro n at_ i ⟨k, a, hk, ha, rfl, rfl, hf⟩
  refine ⟨fun h => ?_, fun h => ?_⟩
  · have h2 := (ctr_le (N := 60) (c := (60 : Int32)) rfl (by decide) (by omega)).mp h
    obtain rfl : n = 0 := by omega
    exact hf
  · have h2 := (not_congr (ctr_le (N := 60) (c := (60 : Int32)) rfl (by decide) (by omega))).mp h
    obtain ⟨m, rfl⟩ : ∃ m, n = m + 1 := ⟨n - 1, by omega⟩
    obtain ⟨ec, hc60⟩ := okC_cl hc
    have hcmp : c ≤ nI a ↔ c.toNatClampNeg ≤ a := by
      conv => lhs; rw [ec]
      exact nI_leI (by omega) (by omega)
    have hp : (∃ b, b < 500 ∧ nI a = nI b) ∧ okC c := ⟨⟨a, by omega, rfl⟩, hc⟩
    have k0 : (nI a).toNatClampNeg = a := cl a (by omega)
    have hf0 : flt c.toNatClampNeg g (m + 1) a = if c.toNatClampNeg ≤ a then -6 else if fa c.toNatClampNeg g a = -6 then flt c.toNatClampNeg g m (a + ln c.toNatClampNeg g a) else fa c.toNatClampNeg g a := rfl
    rw [hf0] at hf
    refine ⟨fun h3 => ?_, fun h3 => ⟨hp, ?_⟩⟩
    · rw [if_pos (hcmp.mp h3)] at hf
      exact hf
    · rw [if_neg (fun q => h3 (hcmp.mpr q))] at hf
      rintro r rfl
      rw [k0]
      refine ⟨fun h4 => ⟨hp, ?_⟩, fun h4 => ?_⟩
      · rw [if_pos h4] at hf
        rintro r rfl x rfl y rfl
        have := (ln_pos c.toNatClampNeg g a).2
        exact ⟨m, by omega, k + 1, a + ln c.toNatClampNeg g a, by omega, by omega, nI_1 k, nI_add _ _, hf⟩
      · rw [if_neg h4] at hf
        exact hf)
end OK6
