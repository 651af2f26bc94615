/-! changes, fits -/
section Q7
variable {d : Nat → Nat} {σ σ' : gSt} {a c i : Nat}
def chg (d : Nat → Nat) (c i : Nat) : Bool := match am (sf d c i) (d 1), am (sf d c (i + 1)) (d 1) with
  | some x, some y => decide (x ≠ y)
  | _, _ => false
theorem am_b {f : Nat → Option Nat} {n j : Nat} (h : am f n = some j) : j < n := by
  have := am_spec f n
  rw [h] at this
  exact this.1
theorem X_leadChanges (h : XR d σ) (hw : WF d) (hc : c < d 0) : f_X2_leadChanges (nI c) σ = some (nI (cnt (chg d c) (d (4 + c))), σ) := by
  have hl := hw.len hc
  have h3 := hw.1
  have hr := hw.2.1
  have := loop0 (F := fun f (x : Int32) i σ => f_X2_leadChanges_4 (nI c) f x (nI i) σ) (N := d (4 + c)) (I := fun i x τ => x = nI (cnt (chg d c) i) ∧ τ = σ) (Q := fun r => r = (nI (cnt (chg d c) (d (4 + c))), σ)) (by omega)
    (fun f i x τ hi hI kk => by
      obtain ⟨rfl, rfl⟩ := hI
      simp only [f_X2_leadChanges_4]
      refine Wp.eq (X_courseAt (by omega)) ?_
      refine Wp.f (by
        show ¬ τ 8 (3 + c) 2 ≤ nI i
        rw [(h.2.2.2.2.1 c hc).1]
        exact nI_ge hi (by omega)) ?_
      refine Wp.eq (X_leader h hw hc (by omega)) ?_
      rw [nI_1 i]
      refine Wp.eq (X_leader h hw hc (by omega)) ?_
      dsimp only
      cases hu : am (sf d c i) (d 1) with
      | none =>
        refine Wp.t rfl ?_
        exact kk _ _ ⟨by rw [add0, cnt_f (by simp [chg, hu])], rfl⟩
      | some u =>
        have h1 := am_b hu
        refine Wp.f (nI_nm1 (show u < 2147483648 by omega)) ?_
        cases hv : am (sf d c (i + 1)) (d 1) with
        | none =>
          refine Wp.t rfl ?_
          exact kk _ _ ⟨by rw [add0, cnt_f (by simp [chg, hu, hv])], rfl⟩
        | some v =>
          have h2 := am_b hv
          refine Wp.f (nI_nm1 (show v < 2147483648 by omega)) ?_
          by_cases e : u = v
          · refine Wp.t (by rw [e]) ?_
            exact kk _ _ ⟨by rw [add0, cnt_f (by simp [chg, hu, hv, e])], rfl⟩
          · refine Wp.f (nI_ne (by omega) (by omega) e) ?_
            exact kk _ _ ⟨by rw [nI_1, cnt_t (by simp [chg, hu, hv, e])], rfl⟩)
    (fun f x τ hI => by
      obtain ⟨rfl, rfl⟩ := hI
      simp only [f_X2_leadChanges_4]
      refine Wp.eq (X_courseAt (by omega)) ?_
      refine Wp.t (by
        show τ 8 (3 + c) 2 ≤ nI (d (4 + c))
        rw [(h.2.2.2.2.1 c hc).1]
        exact nI_le (Nat.le_refl _) (by omega)) (Wp.ret rfl)) (x := 0) (σ := σ) ⟨rfl, rfl⟩
  obtain ⟨r, hr1, rfl⟩ := this
  exact hr1
theorem M_changes21 (hM : MR d σ) (hw : WF d) (hs : Ms σ σ') (hc : c < d 0) : Wp (f_X12_changes_21 (nI c) gFuel 0 1 σ') (fun r => r.1 = nI (cnt (chg d c) (d (4 + c))) ∧ Ms σ r.2) := by
  have hl := hw.len hc
  have h3 := hw.1
  have hr := hw.2.1
  rw [show (1 : Int32) = nI (0 + 1) from i1]
  refine loop0 (F := fun f (x : Int32) i σ => f_X12_changes_21 (nI c) f x (nI (i + 1)) σ) (N := d (4 + c)) (I := fun i x τ => x = nI (cnt (chg d c) i) ∧ Ms σ τ) (by omega)
    (fun f i x τ hi hI kk => ?_) (fun f x τ hI => ?_) (x := 0) (σ := σ') ⟨rfl, hs⟩
  · obtain ⟨rfl, hs⟩ := hI
    simp only [f_X12_changes_21]
    refine Wp.eq (M_rd (j := 4 + c) (hM.of hs) (by rw [i4, nI_add]) (by omega)) ?_
    refine Wp.f (nI_nlt (by omega) (by omega)) ?_
    rw [show nI (i + 1) - 1 = nI i by rw [i1, nI_sub (by omega), Nat.add_sub_cancel]]
    refine Wp.bind (M_bestRunnerS hM hw hs hc (by omega)) (fun q hq => ?_)
    refine Wp.bind (M_bestRunnerS hM hw hq.2 hc (by omega)) (fun p hp => ?_)
    rw [hq.1, hp.1, nI_1 (i + 1)]
    cases hu : am (sf d c i) (d 1) with
    | none =>
      refine Wp.t rfl ?_
      exact kk _ _ ⟨by rw [add0, cnt_f (by simp [chg, hu])], hp.2⟩
    | some u =>
      have h1 := am_b hu
      refine Wp.f (nI_nm2 (show u < 2147483648 by omega)) ?_
      cases hv : am (sf d c (i + 1)) (d 1) with
      | none =>
        refine Wp.t rfl ?_
        exact kk _ _ ⟨by rw [add0, cnt_f (by simp [chg, hu, hv])], hp.2⟩
      | some v =>
        have h2 := am_b hv
        refine Wp.f (nI_nm2 (show v < 2147483648 by omega)) ?_
        by_cases e : u = v
        · refine Wp.t (by rw [e]) ?_
          exact kk _ _ ⟨by rw [add0, cnt_f (by simp [chg, hu, hv, e])], hp.2⟩
        · refine Wp.f (nI_ne (by omega) (by omega) e) ?_
          exact kk _ _ ⟨by rw [nI_1, cnt_t (by simp [chg, hu, hv, e])], hp.2⟩
  · obtain ⟨rfl, hs⟩ := hI
    simp only [f_X12_changes_21]
    refine Wp.eq (M_rd (j := 4 + c) (hM.of hs) (by rw [i4, nI_add]) (by omega)) ?_
    exact Wp.t (nI_lt (by omega) (by omega)) (Wp.ret ⟨rfl, hs⟩)
theorem S_changes : SS1 Inv f_X11_changes f_X12_changes := by
  intro x
  refine QA.ss (fun σ d hI hw hM hX => ?_)
  have h3 := hw.1
  by_cases hx : gin x (d 0) = true
  · obtain ⟨hxe, hc⟩ := gin_nI hx
    generalize x.toNatClampNeg = c at hxe hc
    subst hxe
    refine QA.yes (nI (cnt (chg d c) (d (4 + c)))) ?_ (fun σ2 hM2 hM3 => ?_)
    · unfold f_X11_changes
      refine Wp.eq (X_hasCourse hX hw _) ?_
      rw [bG_t hx]
      refine Wp.f o1n0 ?_
      refine Wp.eq (X_leadChanges hX hw hc) ?_
      rw [X_answered]
      exact Wp.ret ⟨rfl, _, Xs.rf, rfl⟩
    · unfold f_X12_changes
      refine Wp.eq (M_isCourse hM3 hw _) ?_
      rw [bG_t hx]
      refine Wp.eq un_1 ?_
      refine Wp.eq ref_0 ?_
      refine Wp.t rfl ?_
      exact M_changes21 hM2 hw Ms.rf hc
  · refine QA.no 1 (by decide) ?_ (fun σ2 hM2 => ?_)
    · unfold f_X11_changes
      rw [X_hasCourse hX hw, bG_f hx, bind_some', if_pos rfl, X_refused]
      rfl
    · unfold f_X12_changes
      rw [M_isCourse hM2 hw, bG_f hx, bind_some', un_0, bind_some', ref_1, bind_some', if_neg o1n0]
/-- the course that fits him best, of those before n -/
def ft (d : Nat → Nat) (a : Nat) : Nat → Nat
  | 0 => 0
  | 1 => 0
  | c + 2 => if ms2 d a (c + 1) < ms2 d a (ft d a (c + 1)) ∨ (ms2 d a (c + 1) = ms2 d a (ft d a (c + 1)) ∧ d (4 + ft d a (c + 1)) < d (4 + (c + 1))) then c + 1 else ft d a (c + 1)
theorem ft_b : ∀ {n : Nat}, 1 ≤ n → ft d a n < n := by
  intro n
  induction n with
  | zero => intro h; omega
  | succ n ih =>
    intro _
    cases n with
    | zero => rw [ft]; omega
    | succ n =>
      have := ih (by omega)
      rw [ft]
      split <;> omega
theorem X_fittest (h : XR d σ) (hw : WF d) (ha : a < d 1) : Wp (f_X4_fittest 1 (10 + a) σ) (fun r => r.1 = nI (ft d a (d 0)) ∧ Xs σ r.2) := by
  have h3 := hw.1
  have hru := hw.run ha
  have hms : ∀ c, c < d 0 → ms2 d a c ≤ 10 := fun c hc => Nat.le_trans (mc_le _) (hw.len hc).2
  unfold f_X4_fittest
  rw [i0]
  refine Wp.bind (X_missesOn h hw ha (by omega)) (fun q hq => ?_)
  rw [hq.1, i1]
  refine loopW (F := fun f (x : Int32 × Int32) c σ => f_X4_fittest_12 1 (10 + a) f x.1 x.2 (nI c) σ) (N := d 0) (I := fun c x τ => x = (nI (ft d a c), nI (ms2 d a (ft d a c))) ∧ 1 ≤ c ∧ Xs σ τ)
    (fun f c x τ hc hI kk => ?_) (fun f x τ hI => ?_) (d 0 - 1) 1 gFuel (nI 0, nI (ms2 d a 0)) q.2 (by omega) (Nat.lt_trans (show d 0 - 1 < 4000 by omega) gFuel_ge) ⟨rfl, Nat.le_refl _, hq.2⟩
  · obtain ⟨rfl, h1, hs⟩ := hI
    have hX := h.of hs
    have hf := ft_b (d := d) (a := a) h1
    simp only [f_X4_fittest_12]
    rw [hX.1]
    refine Wp.f (nI_ge hc (by omega)) ?_
    refine Wp.bind (X_missesOn hX hw ha hc) (fun p hp => ?_)
    have hs2 := hs.tr hp.2
    have hX2 := h.of hs2
    refine Wp.eq (X_courseAt (by omega)) ?_
    refine Wp.eq (X_courseAt (by omega)) ?_
    have hms1 := hms c hc
    have hms2 := hms (ft d a c) (by omega)
    have hl1 := hw.len hc
    have hl2 := hw.len (show ft d a c < d 0 by omega)
    obtain ⟨c, rfl⟩ : ∃ k, c = k + 1 := ⟨c - 1, by omega⟩
    rw [hp.1]
    by_cases e : d (4 + (c + 1)) ≤ d (4 + ft d a (c + 1))
    · refine Wp.t (by
        show p.2 8 (3 + (c + 1)) 2 ≤ p.2 8 (3 + ft d a (c + 1)) 2
        rw [(hX2.2.2.2.2.1 (c + 1) hc).1, (hX2.2.2.2.2.1 (ft d a (c + 1)) (by omega)).1]
        exact nI_le e (by omega)) ?_
      unfold f_X4_fittest_55
      rw [nI_1 (c + 1)]
      by_cases g : ms2 d a (c + 1) < ms2 d a (ft d a (c + 1))
      · refine Wp.t (nI_lt g (by omega)) ?_
        exact kk (_, _) _ ⟨by rw [ft, if_pos (Or.inl g)]; rfl, by omega, hs2⟩
      · refine Wp.f (nI_nlt (by omega) (by omega)) ?_
        have hn : ft d a (c + 2) = ft d a (c + 1) := by rw [ft, if_neg (by omega)]
        by_cases g2 : ms2 d a (c + 1) = ms2 d a (ft d a (c + 1))
        · refine Wp.t (by rw [g2]) ?_
          refine Wp.t rfl ?_
          exact kk (_, _) _ ⟨by rw [hn]; rfl, by omega, hs2⟩
        · refine Wp.f (nI_ne (by omega) (by omega) g2) ?_
          exact kk (_, _) _ ⟨by rw [hn]; rfl, by omega, hs2⟩
    · refine Wp.f (by
        show ¬ p.2 8 (3 + (c + 1)) 2 ≤ p.2 8 (3 + ft d a (c + 1)) 2
        rw [(hX2.2.2.2.2.1 (c + 1) hc).1, (hX2.2.2.2.2.1 (ft d a (c + 1)) (by omega)).1]
        exact nI_ge (by omega) (by omega)) ?_
      unfold f_X4_fittest_55
      rw [nI_1 (c + 1)]
      by_cases g : ms2 d a (c + 1) < ms2 d a (ft d a (c + 1))
      · refine Wp.t (nI_lt g (by omega)) ?_
        exact kk (_, _) _ ⟨by rw [ft, if_pos (Or.inl g)]; rfl, by omega, hs2⟩
      · refine Wp.f (nI_nlt (by omega) (by omega)) ?_
        by_cases g2 : ms2 d a (c + 1) = ms2 d a (ft d a (c + 1))
        · refine Wp.t (by rw [g2]) ?_
          refine Wp.f o1n0 ?_
          exact kk (_, _) _ ⟨by rw [ft, if_pos (Or.inr ⟨g2, by omega⟩)]; rfl, by omega, hs2⟩
        · refine Wp.f (nI_ne (by omega) (by omega) g2) ?_
          exact kk (_, _) _ ⟨by rw [ft, if_neg (by omega)]; rfl, by omega, hs2⟩
  · obtain ⟨rfl, h1, hs⟩ := hI
    simp only [f_X4_fittest_12]
    rw [(h.of hs).1]
    exact Wp.t (nI_le (Nat.le_refl _) (by omega)) (Wp.ret ⟨rfl, hs⟩)
theorem M_fits21 (hM : MR d σ) (hw : WF d) (hs : Ms σ σ') (ha : a < d 1) : Wp (f_X12_fits_21 (nI a) gFuel 0 1 σ') (fun r => r.1 = nI (ft d a (d 0)) ∧ Ms σ r.2) := by
  have h3 := hw.1
  have hru := hw.run ha
  have hms : ∀ c, c < d 0 → ms2 d a c ≤ 10 := fun c hc => Nat.le_trans (mc_le _) (hw.len hc).2
  rw [i0, i1]
  refine loopW (F := fun f (x : Int32) c σ => f_X12_fits_21 (nI a) f x (nI c) σ) (N := d 0) (I := fun c x τ => x = nI (ft d a c) ∧ 1 ≤ c ∧ Ms σ τ)
    (fun f c x τ hc hI kk => ?_) (fun f x τ hI => ?_) (d 0 - 1) 1 gFuel (nI 0) σ' (by omega) (Nat.lt_trans (show d 0 - 1 < 4000 by omega) gFuel_ge) ⟨rfl, Nat.le_refl _, hs⟩
  · obtain ⟨rfl, h1, hs⟩ := hI
    have hf := ft_b (d := d) (a := a) h1
    simp only [f_X12_fits_21]
    refine Wp.eq (M_rd (j := 0) (hM.of hs) i0 (by decide)) ?_
    refine Wp.f (nI_ge hc (by omega)) ?_
    refine Wp.bind (M_ms2 hM hw hs ha hc) (fun p hp => ?_)
    refine Wp.bind (M_ms2 hM hw hp.2 ha (show ft d a c < d 0 by omega)) (fun q hq => ?_)
    have hms1 := hms c hc
    have hms2 := hms (ft d a c) (by omega)
    have hl1 := hw.len hc
    have hl2 := hw.len (show ft d a c < d 0 by omega)
    obtain ⟨c, rfl⟩ : ∃ k, c = k + 1 := ⟨c - 1, by omega⟩
    rw [hp.1, hq.1, nI_1 (c + 1)]
    by_cases g : ms2 d a (c + 1) < ms2 d a (ft d a (c + 1))
    · refine Wp.t (nI_lt g (by omega)) ?_
      exact kk _ _ ⟨by rw [ft, if_pos (Or.inl g)], by omega, hq.2⟩
    · refine Wp.f (nI_nlt (by omega) (by omega)) ?_
      by_cases g2 : ms2 d a (c + 1) = ms2 d a (ft d a (c + 1))
      · refine Wp.t (by rw [g2]) ?_
        refine Wp.eq (M_rd (j := 4 + (c + 1)) (hM.of hq.2) (by rw [i4, nI_add]) (by omega)) ?_
        refine Wp.eq (M_rd (j := 4 + ft d a (c + 1)) (hM.of hq.2) (by rw [i4, nI_add]) (by omega)) ?_
        by_cases e : d (4 + (c + 1)) ≤ d (4 + ft d a (c + 1))
        · refine Wp.t (nI_le e (by omega)) ?_
          exact kk _ _ ⟨by rw [ft, if_neg (by omega)], by omega, hq.2⟩
        · refine Wp.f (nI_ge (by omega) (by omega)) ?_
          exact kk _ _ ⟨by rw [ft, if_pos (Or.inr ⟨g2, by omega⟩)], by omega, hq.2⟩
      · refine Wp.f (nI_ne (by omega) (by omega) g2) ?_
        exact kk _ _ ⟨by rw [ft, if_neg (by omega)], by omega, hq.2⟩
  · obtain ⟨rfl, h1, hs⟩ := hI
    simp only [f_X12_fits_21]
    refine Wp.eq (M_rd (j := 0) (hM.of hs) i0 (by decide)) ?_
    exact Wp.t (nI_le (Nat.le_refl _) (by omega)) (Wp.ret ⟨rfl, hs⟩)
theorem S_fits : SS1 Inv f_X11_fits f_X12_fits := by
  intro x
  refine QA.ss (fun σ d hI hw hM hX => ?_)
  have hr := hw.2.1
  by_cases hx : gin x (d 1) = true
  · obtain ⟨hxe, ha⟩ := gin_nI hx
    generalize x.toNatClampNeg = a at hxe ha
    subst hxe
    refine QA.yes (nI (ft d a (d 0))) ?_ (fun σ2 hM2 hM3 => ?_)
    · unfold f_X11_fits
      refine Wp.eq (X_hasRunner hX hw _) ?_
      rw [bG_t hx]
      refine Wp.f o1n0 ?_
      refine Wp.eq (X_runnerAt (by omega)) ?_
      refine Wp.bind (X_fittest hX hw ha) (fun q hq => ?_)
      rw [X_answered]
      exact Wp.ret ⟨hq.1, _, hq.2, rfl⟩
    · unfold f_X12_fits
      refine Wp.eq (M_isRunner hM3 hw _) ?_
      rw [bG_t hx]
      refine Wp.eq un_1 ?_
      refine Wp.eq ref_0 ?_
      refine Wp.t rfl ?_
      exact M_fits21 hM2 hw Ms.rf ha
  · refine QA.no 1 (by decide) ?_ (fun σ2 hM2 => ?_)
    · unfold f_X11_fits
      rw [X_hasRunner hX hw, bG_f hx, bind_some', if_pos rfl, X_refused]
      rfl
    · unfold f_X12_fits
      rw [M_isRunner hM2 hw, bG_f hx, bind_some', un_0, bind_some', ref_1, bind_some', if_neg o1n0]
end Q7
