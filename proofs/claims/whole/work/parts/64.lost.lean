/-! lost, worst, changes, fits -/
section Q6
variable {d : Nat → Nat} {σ σ' : gSt} {a c i : Nat}
def los (d : Nat → Nat) (a i : Nat) : Nat := (lo d a i).getD 0
theorem los_b (hw : WF d) (ha : a < d 1) (hi : i ≤ nown d a) : los d a i ≤ 10000 := by
  unfold los
  cases h : lo d a i with
  | none => exact Nat.zero_le _
  | some u => have := lo_b hw ha hi h; exact Nat.le_of_lt this
theorem X_lostInAll (h : XR d σ) (hw : WF d) (ha : a < d 1) : f_X2_lostInAll (10 + a) σ = some (nI (sm (los d a) (nown d a + 1)), σ) := by
  have ho := hw.own ha
  have := loop0 (F := fun f (x : Int32) i σ => f_X2_lostInAll_4 (10 + a) f x (nI i) σ) (N := nown d a + 1) (I := fun i x τ => x = nI (sm (los d a) i) ∧ τ = σ) (Q := fun r => r = (nI (sm (los d a) (nown d a + 1)), σ)) (by omega)
    (fun f i x τ hi hI kk => by
      obtain ⟨rfl, rfl⟩ := hI
      simp only [f_X2_lostInAll_4]
      rw [(h.2.2.2.2.2 a ha).2.2.2.2.1]
      refine Wp.f (nI_nlt (by omega) (by omega)) ?_
      refine Wp.eq (X_lostOn h hw ha (by omega)) ?_
      dsimp only
      rw [nI_1 i]
      have : gmx (xo (lo d a i)) 0 = nI (los d a i) := by
        unfold los
        cases hv : lo d a i with
        | none => decide
        | some u =>
          have := lo_b hw ha (by omega) hv
          show gmx (nI u) 0 = nI u
          rw [i0, gmx_n (by omega) (by omega), Nat.max_eq_left (Nat.zero_le _)]
      rw [this, nI_add]
      exact kk _ _ ⟨rfl, rfl⟩)
    (fun f x τ hI => by
      obtain ⟨rfl, rfl⟩ := hI
      simp only [f_X2_lostInAll_4]
      rw [(h.2.2.2.2.2 a ha).2.2.2.2.1]
      exact Wp.t (nI_lt (by omega) (by omega)) (Wp.ret rfl)) (x := 0) (σ := σ) ⟨rfl, rfl⟩
  obtain ⟨r, hr1, rfl⟩ := this
  exact hr1
theorem M_lost21 (hM : MR d σ) (hw : WF d) (hs : Ms σ σ') (ha : a < d 1) : Wp (f_X12_lost_21 (nI a) gFuel 0 0 σ') (fun r => r.1 = nI (sm (los d a) (nown d a + 1)) ∧ Ms σ r.2) := by
  have ho := hw.own ha
  have hr := hw.2.1
  have h3 := hw.1
  have hru := hw.run ha
  have hon : nown d a = d (4 + d (37 + a)) := rfl
  refine loop0 (F := fun f (x : Int32) i σ => f_X12_lost_21 (nI a) f x (nI i) σ) (N := nown d a + 1) (I := fun i x τ => x = nI (sm (los d a) i) ∧ Ms σ τ) (by omega)
    (fun f i x τ hi hI kk => ?_) (fun f x τ hI => ?_) (x := 0) (σ := σ') ⟨rfl, hs⟩
  · obtain ⟨rfl, hs⟩ := hI
    simp only [f_X12_lost_21]
    refine Wp.eq (M_rd (j := 37 + a) (hM.of hs) (by rw [i37, nI_add]) (by omega)) ?_
    refine Wp.eq (M_rd (j := 4 + d (37 + a)) (hM.of hs) (by rw [i4, nI_add]) (by omega)) ?_
    refine Wp.f (nI_nlt (by omega) (by omega)) ?_
    refine Wp.bind (M_lostOn hM hw hs ha (by omega)) (fun q hq => ?_)
    rw [hq.1, nI_1 i]
    cases hv : lo d a i with
    | none =>
      refine Wp.t rfl ?_
      exact kk _ _ ⟨by rw [add0, sm, los, hv]; rfl, hq.2⟩
    | some u =>
      have := lo_b hw ha (by omega) hv
      refine Wp.f (nI_nm2 (show u < 2147483648 by omega)) ?_
      exact kk _ _ ⟨by rw [sm, los, hv]; exact nI_add _ _, hq.2⟩
  · obtain ⟨rfl, hs⟩ := hI
    simp only [f_X12_lost_21]
    refine Wp.eq (M_rd (j := 37 + a) (hM.of hs) (by rw [i37, nI_add]) (by omega)) ?_
    refine Wp.eq (M_rd (j := 4 + d (37 + a)) (hM.of hs) (by rw [i4, nI_add]) (by omega)) ?_
    exact Wp.t (nI_lt (by omega) (by omega)) (Wp.ret ⟨rfl, hs⟩)
theorem S_lost : SS1 Inv f_X11_lost f_X12_lost := by
  intro x
  refine QA.ss (fun σ d hI hw hM hX => ?_)
  have hr := hw.2.1
  by_cases hx : gin x (d 1) = true
  · obtain ⟨hxe, ha⟩ := gin_nI hx
    generalize x.toNatClampNeg = a at hxe ha
    subst hxe
    refine QA.yes (nI (sm (los d a) (nown d a + 1))) ?_ (fun σ2 hM2 hM3 => ?_)
    · unfold f_X11_lost
      refine Wp.eq (X_hasRunner hX hw _) ?_
      rw [bG_t hx]
      refine Wp.f o1n0 ?_
      refine Wp.eq (X_runnerAt (by omega)) ?_
      refine Wp.eq (X_lostInAll hX hw ha) ?_
      rw [X_answered]
      exact Wp.ret ⟨rfl, _, Xs.rf, rfl⟩
    · unfold f_X12_lost
      refine Wp.eq (M_isRunner hM3 hw _) ?_
      rw [bG_t hx]
      refine Wp.eq un_1 ?_
      refine Wp.eq ref_0 ?_
      refine Wp.t rfl ?_
      exact M_lost21 hM2 hw Ms.rf ha
  · refine QA.no 1 (by decide) ?_ (fun σ2 hM2 => ?_)
    · unfold f_X11_lost
      rw [X_hasRunner hX hw, bG_f hx, bind_some', if_pos rfl, X_refused]
      rfl
    · unfold f_X12_lost
      rw [M_isRunner hM2 hw, bG_f hx, bind_some', un_0, bind_some', ref_1, bind_some', if_neg o1n0]
/-- the first leg on which he lost most -/
def ws (d : Nat → Nat) (a : Nat) : Nat → Option (Nat × Nat)
  | 0 => none
  | i + 1 => match lo d a i with
    | none => ws d a i
    | some u => match ws d a i with
      | none => some (i, u)
      | some q => if u ≤ q.2 then some q else some (i, u)
theorem ws_b (hw : WF d) (ha : a < d 1) : ∀ {n : Nat} {q : Nat × Nat}, n ≤ nown d a + 1 → ws d a n = some q → q.1 < 11 ∧ q.2 < 10000 := by
  have ho := hw.own ha
  intro n
  induction n with
  | zero => intro q _ h; rw [ws] at h; cases h
  | succ n ih =>
    intro q hn h
    rw [ws] at h
    cases hu : lo d a n with
    | none => rw [hu] at h; exact ih (by omega) h
    | some u =>
      have hb := lo_b hw ha (by omega) hu
      rw [hu] at h
      cases hq : ws d a n with
      | none =>
        rw [hq] at h
        cases h
        exact ⟨by show n < 11; omega, hb⟩
      | some p =>
        rw [hq] at h
        dsimp only at h
        by_cases e : u ≤ p.2
        · rw [if_pos e] at h
          cases h
          exact ih (by omega) hq
        · rw [if_neg e] at h
          cases h
          exact ⟨by show n < 11; omega, hb⟩
theorem X_worstLeg (h : XR d σ) (hw : WF d) (ha : a < d 1) : f_X2_worstLeg (10 + a) σ = some (mo ((ws d a (nown d a + 1)).map (·.1)), σ) := by
  have ho := hw.own ha
  have := loop0 (F := fun f (x : Int32 × Int32) i σ => f_X2_worstLeg_8 (10 + a) f x.1 x.2 (nI i) σ) (N := nown d a + 1) (I := fun i x τ => x = (mo ((ws d a i).map (·.1)), xo ((ws d a i).map (·.2))) ∧ τ = σ) (Q := fun r => r = (mo ((ws d a (nown d a + 1)).map (·.1)), σ)) (by omega)
    (fun f i x τ hi hI kk => by
      obtain ⟨rfl, rfl⟩ := hI
      simp only [f_X2_worstLeg_8]
      rw [(h.2.2.2.2.2 a ha).2.2.2.2.1]
      refine Wp.f (nI_nlt (by omega) (by omega)) ?_
      refine Wp.eq (X_lostOn h hw ha (by omega)) ?_
      dsimp only
      rw [nI_1 i]
      cases hv : lo d a i with
      | none =>
        refine Wp.t ?_ ?_
        · cases hq : ws d a i with
          | none => decide
          | some q =>
            have := ws_b hw ha (by omega) hq
            show (-1 : Int32) ≤ nI q.2
            rw [Int32.le_iff_toInt_le, nI_toInt (by omega)]
            show (-1 : Int) ≤ _
            omega
        · exact kk (_, _) _ ⟨by rw [ws, hv]; rfl, rfl⟩
      | some u =>
        have := lo_b hw ha (by omega) hv
        cases hq : ws d a i with
        | none =>
          refine Wp.f ?_ ?_
          · show ¬ nI u ≤ (-1 : Int32)
            rw [Int32.le_iff_toInt_le, nI_toInt (by omega)]
            show ¬ _ ≤ (-1 : Int)
            omega
          · exact kk (_, _) _ ⟨by rw [ws, hv, hq]; rfl, rfl⟩
        | some q =>
          have := ws_b hw ha (by omega) hq
          by_cases e : u ≤ q.2
          · refine Wp.t (nI_le e (show q.2 < 2147483648 by omega)) ?_
            exact kk (_, _) _ ⟨by rw [ws, hv, hq]; simp only [if_pos e]; rfl, rfl⟩
          · refine Wp.f (nI_ge (show q.2 < u by omega) (by omega)) ?_
            exact kk (_, _) _ ⟨by rw [ws, hv, hq]; simp only [if_neg e]; rfl, rfl⟩)
    (fun f x τ hI => by
      obtain ⟨rfl, rfl⟩ := hI
      simp only [f_X2_worstLeg_8]
      rw [(h.2.2.2.2.2 a ha).2.2.2.2.1]
      exact Wp.t (nI_lt (by omega) (by omega)) (Wp.ret rfl)) (x := (-2, -1)) (σ := σ) ⟨rfl, rfl⟩
  obtain ⟨r, hr1, rfl⟩ := this
  exact hr1
theorem M_worst25 (hM : MR d σ) (hw : WF d) (hs : Ms σ σ') (ha : a < d 1) : Wp (f_X12_worst_25 (nI a) gFuel (-2) 0 0 σ') (fun r => r.1 = mo ((ws d a (nown d a + 1)).map (·.1)) ∧ Ms σ r.2) := by
  have ho := hw.own ha
  have hr := hw.2.1
  have h3 := hw.1
  have hru := hw.run ha
  have hon : nown d a = d (4 + d (37 + a)) := rfl
  refine loop0 (F := fun f (x : Int32 × Int32) i σ => f_X12_worst_25 (nI a) f x.1 x.2 (nI i) σ) (N := nown d a + 1) (I := fun i x τ => x = (mo ((ws d a i).map (·.1)), nI (((ws d a i).map (·.2)).getD 0)) ∧ Ms σ τ) (by omega)
    (fun f i x τ hi hI kk => ?_) (fun f x τ hI => ?_) (x := (-2, 0)) (σ := σ') ⟨rfl, hs⟩
  · obtain ⟨rfl, hs⟩ := hI
    simp only [f_X12_worst_25]
    refine Wp.eq (M_rd (j := 37 + a) (hM.of hs) (by rw [i37, nI_add]) (by omega)) ?_
    refine Wp.eq (M_rd (j := 4 + d (37 + a)) (hM.of hs) (by rw [i4, nI_add]) (by omega)) ?_
    refine Wp.f (nI_nlt (by omega) (by omega)) ?_
    refine Wp.bind (M_lostOn hM hw hs ha (by omega)) (fun q hq => ?_)
    rw [hq.1, nI_1 i]
    cases hv : lo d a i with
    | none =>
      refine Wp.t rfl ?_
      exact kk (_, _) _ ⟨by rw [ws, hv]; rfl, hq.2⟩
    | some u =>
      have := lo_b hw ha (by omega) hv
      refine Wp.f (nI_nm2 (show u < 2147483648 by omega)) ?_
      cases hp : ws d a i with
      | none =>
        refine Wp.t rfl ?_
        exact kk (_, _) _ ⟨by rw [ws, hv, hp]; rfl, hq.2⟩
      | some p =>
        have := ws_b hw ha (by omega) hp
        refine Wp.f (nI_nm2 (show p.1 < 2147483648 by omega)) ?_
        by_cases e : u ≤ p.2
        · refine Wp.t (nI_le e (show p.2 < 2147483648 by omega)) ?_
          exact kk (_, _) _ ⟨by rw [ws, hv, hp]; simp only [if_pos e]; rfl, hq.2⟩
        · refine Wp.f (nI_ge (show p.2 < u by omega) (by omega)) ?_
          exact kk (_, _) _ ⟨by rw [ws, hv, hp]; simp only [if_neg e]; rfl, hq.2⟩
  · obtain ⟨rfl, hs⟩ := hI
    simp only [f_X12_worst_25]
    refine Wp.eq (M_rd (j := 37 + a) (hM.of hs) (by rw [i37, nI_add]) (by omega)) ?_
    refine Wp.eq (M_rd (j := 4 + d (37 + a)) (hM.of hs) (by rw [i4, nI_add]) (by omega)) ?_
    exact Wp.t (nI_lt (by omega) (by omega)) (Wp.ret ⟨rfl, hs⟩)
theorem S_worst : SS1 Inv f_X11_worst f_X12_worst := by
  intro x
  refine QA.ss (fun σ d hI hw hM hX => ?_)
  have hr := hw.2.1
  by_cases hx : gin x (d 1) = true
  · obtain ⟨hxe, ha⟩ := gin_nI hx
    generalize x.toNatClampNeg = a at hxe ha
    subst hxe
    refine QA.yes (mo ((ws d a (nown d a + 1)).map (·.1))) ?_ (fun σ2 hM2 hM3 => ?_)
    · unfold f_X11_worst
      refine Wp.eq (X_hasRunner hX hw _) ?_
      rw [bG_t hx]
      refine Wp.f o1n0 ?_
      refine Wp.eq (X_runnerAt (by omega)) ?_
      refine Wp.eq (X_worstLeg hX hw ha) ?_
      rw [X_answered]
      exact Wp.ret ⟨rfl, _, Xs.rf, rfl⟩
    · unfold f_X12_worst
      refine Wp.eq (M_isRunner hM3 hw _) ?_
      rw [bG_t hx]
      refine Wp.eq un_1 ?_
      refine Wp.eq ref_0 ?_
      refine Wp.t rfl ?_
      exact M_worst25 hM2 hw Ms.rf ha
  · refine QA.no 1 (by decide) ?_ (fun σ2 hM2 => ?_)
    · unfold f_X11_worst
      rw [X_hasRunner hX hw, bG_f hx, bind_some', if_pos rfl, X_refused]
      rfl
    · unfold f_X12_worst
      rw [M_isRunner hM2 hw, bG_f hx, bind_some', un_0, bind_some', ref_1, bind_some', if_neg o1n0]
end Q6
