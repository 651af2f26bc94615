/-! mistakes -/
section PM
variable {d : Nat → Nat} {σ σ' : gSt} {a c i : Nat}
theorem due_red {A B b g : Nat} (hg : 0 < g) (hB : 0 < B) : (2 * A * b + B - 1) / (2 * B) = (g * A) * b / (g * B) + (if 2 * ((g * A) * b % (g * B)) ≤ g * B then 0 else 1) := by
  rw [Nat.mul_assoc g A b, Nat.mul_div_mul_left _ _ hg, Nat.mul_mod_mul_left]
  have h1 := Nat.div_add_mod (A * b) B
  have h2 := Nat.mod_lt (A * b) hB
  obtain ⟨q, hq⟩ : ∃ q, q = A * b / B := ⟨_, rfl⟩
  obtain ⟨r, hr⟩ : ∃ r, r = A * b % B := ⟨_, rfl⟩
  rw [← hq, ← hr] at h1
  rw [← hr] at h2
  rw [← hq, ← hr]
  have e2 : 2 * A * b + B - 1 = (2 * r + B - 1) + 2 * B * q := by
    rw [Nat.mul_assoc, ← h1, Nat.mul_add, Nat.mul_assoc]
    omega
  rw [e2, Nat.add_mul_div_left _ _ (by omega)]
  have e4 : (2 * (g * r) ≤ g * B) ↔ 2 * r ≤ B := by
    rw [show 2 * (g * r) = g * (2 * r) from Nat.mul_left_comm _ _ _]
    exact Nat.mul_le_mul_left_iff hg
  by_cases hc : 2 * r ≤ B
  · rw [if_pos (e4.mpr hc), Nat.div_eq_of_lt (by omega)]
    omega
  · rw [if_neg (fun z => hc (e4.mp z))]
    have e5 : (2 * r + B - 1) / (2 * B) = 1 := Nat.div_eq_of_lt_le (by omega) (by omega)
    omega
/-- what a best leg is due to take him; what he lost by a mistake -/
def due (d : Nat → Nat) (a b : Nat) : Nat := pO d a * b / pU d a + (if 2 * (pO d a * b % pU d a) ≤ pU d a then 0 else 1)
def lat (d : Nat → Nat) (a t b : Nat) : Nat := if t - due d a b < d 3 then 0 else t - due d a b
def mk (d : Nat → Nat) (a i : Nat) : Option Nat := match lgo d a i, bs d a i with
  | some t, some b => if b = 0 then none else some (lat d a t b)
  | _, _ => none
theorem mk_none (h : lgo d a i = none) : mk d a i = none := by rw [mk, h]
theorem mk_zero {t : Nat} (h : lgo d a i = some t) (hb : bs d a i = some 0) : mk d a i = none := by rw [mk, h, hb]; rfl
theorem mk_pos {t b : Nat} (h : lgo d a i = some t) (hb : bs d a i = some b) (h0 : ¬ b = 0) : mk d a i = some (lat d a t b) := by rw [mk, h, hb]; exact if_neg h0
theorem due_b (hw : WF d) (ha : a < d 1) (h : pN d a ≠ 0) {b : Nat} (hb : b < 10000) : due d a b < 200000000 := by
  have h1 := pOU_b hw ha h
  have h2 := mul_b h1.1.2 hb
  have h3 := Nat.div_le_self (pO d a * b) (pU d a)
  unfold due
  split <;> omega
theorem lat_b {t b : Nat} : lat d a t b ≤ t := by unfold lat; split <;> omega
theorem mk_b (hw : WF d) (ha : a < d 1) : (mk d a i).getD 0 < 10000 := by
  cases h : lgo d a i with
  | none => rw [mk_none h]; decide
  | some t =>
    obtain ⟨g1, g2, g3, b, g4, g5, g6⟩ := lgo_some hw ha h
    by_cases h0 : b = 0
    · subst h0; rw [mk_zero h g5]; decide
    · rw [mk_pos h g5 h0]
      have := lat_b (d := d) (a := a) (t := t) (b := b)
      show lat d a t b < 10000
      omega
theorem X_isPaced (hw : WF d) (ha : a < d 1) {τ : gSt} (hR : RK d a τ) (hi : i < 11) : f_X5_isPaced (nI i) τ = some (if mk d a i = none then 0 else 1, τ) := by
  unfold f_X5_isPaced
  rw [if_neg (nI_pos (by omega)), if_neg (by rw [i11]; exact nI_ge hi (by decide)), gld_n hi (by decide), bind_some', (hR.1 i hi).2]
  cases h : lgo d a i with
  | none =>
    have hb : bs d a i = none := by rw [bs, h]
    rw [hb, mk_none h, if_pos rfl]
    exact if_pos (by decide)
  | some t =>
    obtain ⟨g1, g2, g3, b, g4, g5, g6⟩ := lgo_some hw ha h
    rw [g5]
    by_cases h0 : b = 0
    · subst h0
      rw [mk_zero h g5, if_pos rfl]
      exact if_pos (by decide)
    · rw [mk_pos h g5 h0, if_neg (show ¬ some (lat d a t b) = none from fun z => nomatch z)]
      exact if_neg (nI_nle (by omega) (show b < 2147483648 by omega))
theorem X_mistakeOn (hw : WF d) (ha : a < d 1) {τ : gSt} (hX : XR d τ) (hR : RK d a τ) (hi : i < 11) : f_X5_mistakeOn (nI i) τ = some (nI ((mk d a i).getD 0), τ) := by
  unfold f_X5_mistakeOn
  rw [X_isPaced hw ha hR hi, bind_some']
  cases h : lgo d a i with
  | none => rw [mk_none h]; rfl
  | some t =>
    obtain ⟨g1, g2, g3, b, g4, g5, g6⟩ := lgo_some hw ha h
    by_cases h0 : b = 0
    · subst h0; rw [mk_zero h g5]; rfl
    · have hN := pN_pos hi h g5 h0
      have hb := pOU_b hw ha hN
      have hd := due_b hw ha hN (b := b) (by omega)
      have hR2 := hR.2 hN
      have hg : 0 < Nat.gcd (pO d a) (pU d a) := Nat.gcd_pos_of_pos_left _ hb.1.1
      obtain ⟨A, hA⟩ := Nat.gcd_dvd_left (pO d a) (pU d a)
      obtain ⟨B, hB⟩ := Nat.gcd_dvd_right (pO d a) (pU d a)
      have eA : pO d a / Nat.gcd (pO d a) (pU d a) = A := by
        have := Nat.mul_div_cancel_left A hg
        rw [← hA] at this
        exact this
      have eB : pU d a / Nat.gcd (pO d a) (pU d a) = B := by
        have := Nat.mul_div_cancel_left B hg
        rw [← hB] at this
        exact this
      have hBp : 0 < B := by
        rcases Nat.eq_zero_or_pos B with z | z
        · rw [z, Nat.mul_zero] at hB; omega
        · exact z
      have bA : A ≤ pO d a := by rw [← eA]; exact Nat.div_le_self _ _
      have bB : B ≤ pU d a := by rw [← eB]; exact Nat.div_le_self _ _
      have hdue : (2 * A * b + B - 1) / (2 * B) = due d a b := by
        have := due_red (A := A) (B := B) (b := b) hg hBp
        rw [← hA, ← hB] at this
        exact this
      have bAb : A * b < 100000000 := mul_b (by omega) (by omega)
      rw [eA, eB] at hR2
      rw [mk_pos h g5 h0, if_neg (show ¬ some (lat d a t b) = none from fun z => nomatch z), if_neg o1n0]
      refine (if_pos (show (0 : Int32) < τ 17 0 8 by rw [hR2.2, i0]; exact nI_lt hBp (by omega))).trans ?_
      dsimp only
      rw [gld_n hi (by decide), bind_some', (hR.1 i hi).2, g5, hR2.2, hR2.1]
      have e1 : 2 * nI A * xo (some b) + nI B - 1 = nI (2 * A * b + B - 1) := by
        show 2 * nI A * nI b + nI B - 1 = _
        rw [i2, nI_mul, nI_mul, nI_add, i1, nI_sub (by omega)]
      have e2 : 2 * nI B = nI (2 * B) := by rw [i2, nI_mul]
      have e3 : 2 * A * b = 2 * (A * b) := Nat.mul_assoc _ _ _
      rw [e1, e2, gdv_n (by omega) (by omega) (by omega), bind_some', hdue, gld_n hi (by decide), bind_some', (hR.1 i hi).1, h]
      show (if nI t - nI (due d a b) ≤ 0 then some ((0 : Int32), τ) else if nI t - nI (due d a b) < τ 3 1 6 then some (0, τ) else some (nI t - nI (due d a b), τ)) = some (nI (lat d a t b), τ)
      rw [hX.2.2.2.1 (by have := (hw.run ha).1; omega)]
      by_cases hle : t ≤ due d a b
      · rw [if_pos (sub_le0 hle (by omega))]
        have : lat d a t b = 0 := by unfold lat; split <;> omega
        rw [this]
        rfl
      · have b3 := hw.b 3
        rw [show nI t - nI (due d a b) = nI (t - due d a b) from nI_sub (by omega), if_neg (nI_nle (by omega) (by omega))]
        unfold lat
        by_cases hs : t - due d a b < d 3
        · rw [if_pos (nI_lt hs (by omega)), if_pos hs]
          rfl
        · rw [if_neg (nI_nlt (by omega) (by omega)), if_neg hs]
theorem M_dueBy (hw : WF d) (ha : a < d 1) {τ : gSt} (hN : pN d a ≠ 0) (h : τ 28 0 23 = nI (pO d a) ∧ τ 28 0 24 = nI (pU d a)) {b : Nat} (hb : b < 10000) : f_X12_dueBy (nI b) τ = some (nI (due d a b), τ) := by
  have h1 := pOU_b hw ha hN
  have h2 := mul_b h1.1.2 hb
  have h3 := Nat.mod_lt (pO d a * b) h1.2.1
  unfold f_X12_dueBy
  rw [h.1, h.2, nI_mul, gdv_n (by omega) h1.2.1 (by omega), bind_some', grm_n (by omega) h1.2.1 (by omega), bind_some', i2, nI_mul]
  unfold due
  by_cases hc : 2 * (pO d a * b % pU d a) ≤ pU d a
  · rw [if_pos (nI_le hc (by omega)), if_pos hc]
    rfl
  · rw [if_neg (nI_ge (by omega) (by omega)), if_neg hc, nI_1]
theorem M_mistakeOf (hM : MR d σ) (hw : WF d) (hs : Ms σ σ') (ha : a < d 1) (hi : i ≤ nown d a) : Wp (f_X12_mistakeOf (nI a) (nI i) σ') (fun r => r.1 = mo (mk d a i) ∧ Ms σ r.2) := by
  have hr := hw.2.1
  have ho := hw.own ha
  have e : lg d a i = lgo d a i := by unfold lgo; rw [if_pos hi]
  unfold f_X12_mistakeOf
  refine Wp.bind (M_legOf hM hw hs ha hi) (fun q hq => ?_)
  rw [hq.1, e]
  cases h : lgo d a i with
  | none =>
    refine Wp.t rfl ?_
    unfold f_X12_mistakeOf_31
    exact Wp.t (by decide) (Wp.ret ⟨by rw [mk_none h]; rfl, hq.2⟩)
  | some t =>
    obtain ⟨g1, g2, g3, b, g4, g5, g6⟩ := lgo_some hw ha h
    refine Wp.f (nI_nm2 (show t < 2147483648 by omega)) ?_
    refine Wp.eq (M_rd (j := 37 + a) (hM.of hq.2) (by rw [i37, nI_add]) (by omega)) ?_
    refine Wp.bind (M_bestLeg hM hw hq.2 (hw.run ha).1 hi) (fun p hp => ?_)
    rw [hp.1, g4]
    unfold f_X12_mistakeOf_31
    by_cases h0 : b = 0
    · subst h0
      exact Wp.t (by decide) (Wp.ret ⟨by rw [mk_zero h g5]; rfl, hp.2⟩)
    · have hN := pN_pos (show i < 11 by omega) h g5 h0
      have hd := due_b hw ha hN (b := b) (by omega)
      have b3 := hw.b 3
      refine Wp.f (nI_nle (by omega) (show b < 2147483648 by omega)) ?_
      refine Wp.bind (M_paces hM hw hp.2 ha) (fun u hu => ?_)
      rw [hu.1, if_neg hN]
      refine Wp.f o1n0 ?_
      refine Wp.eq (M_dueBy hw ha hN (hu.2.2 hN) (b := b) (by omega)) ?_
      rw [mk_pos h g5 h0]
      by_cases hle : t ≤ due d a b
      · refine Wp.t (sub_le0 hle (by omega)) ?_
        have : lat d a t b = 0 := by unfold lat; split <;> omega
        exact Wp.ret ⟨by rw [this]; rfl, hu.2.1⟩
      · have e4 : mo (some t) - nI (due d a b) = nI (t - due d a b) := nI_sub (by omega)
        dsimp only
        rw [e4]
        refine Wp.f (nI_nle (by omega) (by omega)) ?_
        refine Wp.eq (M_rd (j := 3) (hM.of hu.2.1) i3 (by decide)) ?_
        by_cases hs3 : t - due d a b < d 3
        · refine Wp.t (nI_lt hs3 (by omega)) ?_
          exact Wp.ret ⟨by unfold lat; rw [if_pos hs3]; rfl, hu.2.1⟩
        · refine Wp.f (nI_nlt (by omega) (by omega)) ?_
          exact Wp.ret ⟨by unfold lat; rw [if_neg hs3]; rfl, hu.2.1⟩
end PM
