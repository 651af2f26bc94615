/-! course, about -/
section Q9
variable {d : Nat → Nat} {σ σ' : gSt} {a c i : Nat}
def idl (d : Nat → Nat) (c : Nat) : Nat → Option Nat
  | 0 => some 0
  | i + 1 => match idl d c i, lst (lf d c i) (d 1) with
    | some s, some b => some (s + b)
    | _, _ => none
theorem idl_none {n : Nat} (h : idl d c n = none) : ∀ m, idl d c (n + m) = none := by
  intro m
  induction m with
  | zero => exact h
  | succ m ih => rw [← Nat.add_assoc, idl, ih]
theorem lst_lb (hw : WF d) (hi : i ≤ d (4 + c)) {v : Nat} (h : lst (lf d c i) (d 1) = some v) : v < 10000 := lst_b (fun j u hj hu => lf_b hw hi hj hu) h
theorem X_ideal (h : XR d σ) (hw : WF d) (hc : c < d 0) : f_X2_ideal (nI c) σ = some (mo (idl d c (d (4 + c) + 1)), σ) := by
  have hl := hw.len hc
  have h3 := hw.1
  have := loop0 (F := fun f (x : Int32) i σ => f_X2_ideal_4 (nI c) f x (nI i) σ) (N := d (4 + c) + 1) (I := fun i x τ => (∃ s, idl d c i = some s ∧ x = nI s) ∧ τ = σ) (Q := fun r => r = (mo (idl d c (d (4 + c) + 1)), σ)) (by omega)
    (fun f i x τ hi hI kk => by
      obtain ⟨⟨s, hs, rfl⟩, rfl⟩ := hI
      simp only [f_X2_ideal_4]
      refine Wp.eq (X_courseAt (by omega)) ?_
      refine Wp.f (by
        show ¬ τ 8 (3 + c) 2 < nI i
        rw [(h.2.2.2.2.1 c hc).1]
        exact nI_nlt (by omega) (by omega)) ?_
      refine Wp.eq (X_bestTime h hw hc (by omega)) ?_
      cases hu : lst (lf d c i) (d 1) with
      | none =>
        refine Wp.t rfl ?_
        refine Wp.ret ?_
        have : idl d c (i + 1) = none := by rw [idl, hs, hu]
        have := idl_none this (d (4 + c) - i)
        rw [show i + 1 + (d (4 + c) - i) = d (4 + c) + 1 by omega] at this
        rw [this]
        rfl
      | some u =>
        have hub := lst_lb hw (by omega) hu
        refine Wp.f (nI_nm1 (show u < 2147483648 by omega)) ?_
        rw [nI_1 i]
        exact kk _ _ ⟨⟨s + u, by rw [idl, hs, hu], nI_add _ _⟩, rfl⟩)
    (fun f x τ hI => by
      obtain ⟨⟨s, hs, rfl⟩, rfl⟩ := hI
      simp only [f_X2_ideal_4]
      refine Wp.eq (X_courseAt (by omega)) ?_
      refine Wp.t (by
        show τ 8 (3 + c) 2 < nI (d (4 + c) + 1)
        rw [(h.2.2.2.2.1 c hc).1]
        exact nI_lt (by omega) (by omega)) (Wp.ret (by rw [hs]; rfl))) (x := 0) (σ := σ) ⟨⟨0, rfl, rfl⟩, rfl⟩
  obtain ⟨r, hr1, rfl⟩ := this
  exact hr1
theorem M_idealOf (hM : MR d σ) (hw : WF d) (hs : Ms σ σ') (hc : c < d 0) : Wp (f_X12_idealOf (nI c) σ') (fun r => r.1 = mo (idl d c (d (4 + c) + 1)) ∧ Ms σ r.2) := by
  have hl := hw.len hc
  have h3 := hw.1
  refine loop0 (F := fun f (x : Int32) i σ => f_X12_idealOf_4 (nI c) f x (nI i) σ) (N := d (4 + c) + 1) (I := fun i x τ => (∃ s, idl d c i = some s ∧ x = nI s) ∧ Ms σ τ) (by omega)
    (fun f i x τ hi hI kk => ?_) (fun f x τ hI => ?_) (x := 0) (σ := σ') ⟨⟨0, rfl, rfl⟩, hs⟩
  · obtain ⟨⟨s, hs', rfl⟩, hs⟩ := hI
    simp only [f_X12_idealOf_4]
    refine Wp.eq (M_rd (j := 4 + c) (hM.of hs) (by rw [i4, nI_add]) (by omega)) ?_
    refine Wp.f (nI_nlt (by omega) (by omega)) ?_
    refine Wp.bind (M_bestLeg hM hw hs hc (by omega)) (fun q hq => ?_)
    rw [hq.1]
    cases hu : lst (lf d c i) (d 1) with
    | none =>
      refine Wp.t rfl ?_
      refine Wp.ret ⟨?_, hq.2⟩
      have : idl d c (i + 1) = none := by rw [idl, hs', hu]
      have := idl_none this (d (4 + c) - i)
      rw [show i + 1 + (d (4 + c) - i) = d (4 + c) + 1 by omega] at this
      rw [this]
      rfl
    | some u =>
      have hub := lst_lb hw (by omega) hu
      refine Wp.f (nI_nm2 (show u < 2147483648 by omega)) ?_
      rw [nI_1 i]
      exact kk _ _ ⟨⟨s + u, by rw [idl, hs', hu], nI_add _ _⟩, hq.2⟩
  · obtain ⟨⟨s, hs', rfl⟩, hs⟩ := hI
    simp only [f_X12_idealOf_4]
    refine Wp.eq (M_rd (j := 4 + c) (hM.of hs) (by rw [i4, nI_add]) (by omega)) ?_
    exact Wp.t (nI_lt (by omega) (by omega)) (Wp.ret ⟨by rw [hs']; rfl, hs⟩)
def coQ (d : Nat → Nat) (c : Nat) : Nat → Int32
  | 0 => nI (d (4 + c))
  | 1 => nI (cnt (ofc d c) (d 1))
  | 2 => nI (cnt (vfc d c) (d 1))
  | 3 => mo (idl d c (d (4 + c) + 1))
  | _ => mo (lst (vt d c) (d 1))
theorem S_course : SS2 Inv f_X11_course f_X12_course := by
  intro x y
  refine QA.ss (fun σ d hI hw hM hX => ?_)
  have h3 := hw.1
  by_cases hx : gin x (d 0) = true
  · obtain ⟨hxe, hc⟩ := gin_nI hx
    generalize x.toNatClampNeg = c at hxe hc
    subst hxe
    by_cases hy : gin y (4 + 1) = true
    · obtain ⟨hye, hj⟩ := gin_nI hy
      generalize y.toNatClampNeg = j at hye hj
      subst hye
      refine QA.yes (coQ d c j) ?_ (fun σ2 hM2 hM3 => ?_)
      · unfold f_X11_course
        refine Wp.eq (X_hasCourse hX hw _) ?_
        rw [bG_t hx]
        refine Wp.f o1n0 ?_
        refine Wp.f (nI_pos (by omega)) ?_
        refine Wp.t (by rw [i4]; exact nI_le (by omega) (by omega)) ?_
        obtain rfl | rfl | rfl | rfl | rfl : j = 0 ∨ j = 1 ∨ j = 2 ∨ j = 3 ∨ j = 4 := by omega
        · refine Wp.t (by decide) ?_
          refine Wp.eq (X_courseAt (by omega)) ?_
          exact Wp.ret ⟨(hX.2.2.2.2.1 c hc).1, _, Xs.rf, rfl⟩
        · refine Wp.f (by decide) (Wp.t (by decide) ?_)
          refine Wp.eq (X_runnersOf hX hw (by omega)) ?_
          exact Wp.ret ⟨rfl, _, Xs.rf, rfl⟩
        · refine Wp.f (by decide) (Wp.f (by decide) (Wp.t (by decide) ?_))
          refine Wp.eq (X_validOf hX hw (by omega)) ?_
          exact Wp.ret ⟨rfl, _, Xs.rf, rfl⟩
        · refine Wp.f (by decide) (Wp.f (by decide) (Wp.f (by decide) (Wp.t (by decide) ?_)))
          refine Wp.eq (X_ideal hX hw hc) ?_
          exact Wp.ret ⟨rfl, _, Xs.rf, rfl⟩
        · refine Wp.f (by decide) (Wp.f (by decide) (Wp.f (by decide) (Wp.f (by decide) ?_)))
          refine Wp.eq (X_leastTotal hX hw (by omega)) ?_
          exact Wp.ret ⟨rfl, _, Xs.rf, rfl⟩
      · unfold f_X12_course
        refine Wp.eq (M_isCourse hM3 hw _) ?_
        rw [bG_t hx]
        refine Wp.f o1n0 ?_
        rw [i4]
        refine Wp.eq (M_in0 (by decide) _) ?_
        rw [bG_t hy]
        refine Wp.f o1n0 ?_
        unfold f_X12_course_23
        refine Wp.eq un_1 ?_
        refine Wp.eq ref_0 ?_
        refine Wp.t rfl ?_
        obtain rfl | rfl | rfl | rfl | rfl : j = 0 ∨ j = 1 ∨ j = 2 ∨ j = 3 ∨ j = 4 := by omega
        · refine Wp.t (by decide) ?_
          refine Wp.eq (M_rd (j := 4 + c) hM2 (by rw [i4, nI_add]) (by omega)) ?_
          exact Wp.ret ⟨rfl, Ms.rf⟩
        · refine Wp.f (by decide) (Wp.t (by decide) ?_)
          exact Wp.bind (M_runnersOf hM2 hw Ms.rf (by omega)) (fun q hq => Wp.ret ⟨hq.1, hq.2⟩)
        · refine Wp.f (by decide) (Wp.f (by decide) (Wp.t (by decide) ?_))
          exact Wp.bind (M_validOf hM2 hw Ms.rf (by omega)) (fun q hq => Wp.ret ⟨hq.1, hq.2⟩)
        · refine Wp.f (by decide) (Wp.f (by decide) (Wp.f (by decide) (Wp.t (by decide) ?_)))
          exact Wp.bind (M_idealOf hM2 hw Ms.rf hc) (fun q hq => Wp.ret ⟨hq.1, hq.2⟩)
        · refine Wp.f (by decide) (Wp.f (by decide) (Wp.f (by decide) (Wp.f (by decide) ?_)))
          exact Wp.bind (M_leastTotal hM2 hw Ms.rf (by omega)) (fun q hq => Wp.ret ⟨hq.1, hq.2⟩)
    · refine QA.no 1 (by decide) ?_ (fun σ2 hM2 => ?_)
      · unfold f_X11_course
        rw [X_hasCourse hX hw, bG_t hx, bind_some', if_neg o1n0]
        rcases sel_f (by decide) hy with q | ⟨q1, q2⟩
        · rw [if_pos q, X_refused]; rfl
        · rw [if_neg q1, if_neg (by rw [i4]; exact q2), X_refused]; rfl
      · unfold f_X12_course f_X12_course_22 f_X12_course_23
        rw [M_isCourse hM2 hw, bG_t hx, bind_some', if_neg o1n0, i4, M_in0 (by decide), bG_f hy, bind_some', if_pos rfl, un_0, bind_some', ref_1, bind_some', if_neg o1n0]
  · refine QA.no 1 (by decide) ?_ (fun σ2 hM2 => ?_)
    · unfold f_X11_course
      rw [X_hasCourse hX hw, bG_f hx, bind_some', if_pos rfl, X_refused]
      rfl
    · unfold f_X12_course f_X12_course_22 f_X12_course_23
      rw [M_isCourse hM2 hw, bG_f hx, bind_some', if_pos rfl, un_0, bind_some', ref_1, bind_some', if_neg o1n0]
def abQ (d : Nat → Nat) (m : Int32) : Nat → Int32
  | 0 => nI (d 0)
  | 1 => nI (d 1)
  | 2 => nI (d 2)
  | 3 => nI (d 3)
  | 4 => nI (sm (fun a => d (67 + a)) (d 1))
  | 5 => nI (cnt (vld d) (d 1))
  | _ => m
theorem S_about : SS1 Inv f_X11_about f_X12_about := by
  intro y
  refine ss0_of (fun σ d hI hw hM hX hT => ?_)
  have hac : σ 26 0 2 = σ 28 0 30 := by
    obtain ⟨d', -, -, -, ⟨m, D, -, h1, h2, -⟩, -⟩ := hI
    rw [h1, h2]
  by_cases h0 : d 0 = 0
  · refine ⟨-1, 1, xA σ 1, by decide, ?_, xA_q Xs.rf, fun σ2 hM2 hT2 _ => ⟨(-1, mR σ2 1), ?_, rfl, mR_q⟩⟩
    · unfold f_X11_about
      rw [X_isTold hX hw, if_pos h0, bind_some', if_pos rfl, X_refused]
      rfl
    · unfold f_X12_about f_X12_about_22 f_X12_about_23
      rw [if_pos (by rw [hT2, if_pos h0]), un_0, bind_some', ref_1, bind_some', if_neg o1n0]
  · by_cases hy : gin y (6 + 1) = true
    · obtain ⟨hye, hj⟩ := gin_nI hy
      generalize y.toNatClampNeg = j at hye hj
      subst hye
      refine ⟨abQ d (σ 28 0 30) j, 0, xA σ 0, by decide, ?_, xA_q Xs.rf, fun σ2 hM2 hT2 hk => ?_⟩
      · unfold f_X11_about
        rw [X_isTold hX hw, if_neg h0, bind_some', if_neg o1n0, if_neg (nI_pos (by omega)), if_pos (by rw [i6]; exact nI_le (by omega) (by omega))]
        obtain rfl | rfl | rfl | rfl | rfl | rfl | rfl : j = 0 ∨ j = 1 ∨ j = 2 ∨ j = 3 ∨ j = 4 ∨ j = 5 ∨ j = 6 := by omega
        · rw [if_pos (by decide), X_answered, bind_some']
          show some (σ 3 1 3, xA σ 0) = _
          rw [hX.1]; rfl
        · rw [if_neg (by decide), if_pos (by decide), X_answered, bind_some']
          show some (σ 3 1 4, xA σ 0) = _
          rw [hX.2.1]; rfl
        · rw [if_neg (by decide), if_neg (by decide), if_pos (by decide), X_answered, bind_some']
          show some (σ 3 1 5, xA σ 0) = _
          rw [hX.2.2.1 (Nat.pos_of_ne_zero h0)]; rfl
        · rw [if_neg (by decide), if_neg (by decide), if_neg (by decide), if_pos (by decide), X_answered, bind_some']
          show some (σ 3 1 6, xA σ 0) = _
          rw [hX.2.2.2.1 (Nat.pos_of_ne_zero h0)]; rfl
        · rw [if_neg (by decide), if_neg (by decide), if_neg (by decide), if_neg (by decide), if_pos (by decide), X_allPunches hX hw, bind_some', X_answered, bind_some']
          rfl
        · rw [if_neg (by decide), if_neg (by decide), if_neg (by decide), if_neg (by decide), if_neg (by decide), if_pos (by decide), X_allValid hX hw, bind_some', X_answered, bind_some', valid_sum hw _ (Nat.le_refl _)]
          rfl
        · rw [if_neg (by decide), if_neg (by decide), if_neg (by decide), if_neg (by decide), if_neg (by decide), if_neg (by decide), X_answered, bind_some']
          show some (σ 26 0 2, xA σ 0) = _
          rw [hac]; rfl
      · have hM3 := hM2.mR (e := 0)
        refine Wp.mono (P := fun r => r.1 = abQ d (σ 28 0 30) j ∧ Ms (mR σ2 0) r.2) ?_ (fun q hq => ⟨hq.1, mR_q.ms hq.2⟩)
        unfold f_X12_about
        refine Wp.f (by rw [hT2, if_neg h0]; exact o1n0) ?_
        rw [i6]
        refine Wp.eq (M_in0 (by decide) _) ?_
        rw [bG_t hy]
        refine Wp.f o1n0 ?_
        unfold f_X12_about_23
        refine Wp.eq un_1 ?_
        refine Wp.eq ref_0 ?_
        refine Wp.t rfl ?_
        obtain rfl | rfl | rfl | rfl | rfl | rfl | rfl : j = 0 ∨ j = 1 ∨ j = 2 ∨ j = 3 ∨ j = 4 ∨ j = 5 ∨ j = 6 := by omega
        · refine Wp.t (by decide) ?_
          exact Wp.eq (M_rd (j := 0) hM3 i0 (by decide)) (Wp.ret ⟨rfl, Ms.rf⟩)
        · refine Wp.f (by decide) (Wp.t (by decide) ?_)
          exact Wp.eq (M_rd (j := 1) hM3 i1 (by decide)) (Wp.ret ⟨rfl, Ms.rf⟩)
        · refine Wp.f (by decide) (Wp.f (by decide) (Wp.t (by decide) ?_))
          exact Wp.eq (M_rd (j := 2) hM3 i2 (by decide)) (Wp.ret ⟨rfl, Ms.rf⟩)
        · refine Wp.f (by decide) (Wp.f (by decide) (Wp.f (by decide) (Wp.t (by decide) ?_)))
          exact Wp.eq (M_rd (j := 3) hM3 i3 (by decide)) (Wp.ret ⟨rfl, Ms.rf⟩)
        · refine Wp.f (by decide) (Wp.f (by decide) (Wp.f (by decide) (Wp.f (by decide) (Wp.t (by decide) ?_))))
          exact Wp.bind (M_punchesOfAll hM3 hw Ms.rf) (fun q hq => Wp.ret ⟨hq.1, hq.2⟩)
        · refine Wp.f (by decide) (Wp.f (by decide) (Wp.f (by decide) (Wp.f (by decide) (Wp.f (by decide) (Wp.t (by decide) ?_)))))
          exact Wp.bind (M_allValid hM3 hw Ms.rf) (fun q hq => Wp.ret ⟨hq.1, hq.2⟩)
        · refine Wp.f (by decide) (Wp.f (by decide) (Wp.f (by decide) (Wp.f (by decide) (Wp.f (by decide) (Wp.f (by decide) ?_)))))
          refine Wp.ret ⟨?_, Ms.rf⟩
          exact ((mR_q (σ := σ2) (e := 0)).1 28 0 30 (by omega) (by omega)).trans (hk 28 0 30 (by omega))
    · refine ⟨-1, 1, xA σ 1, by decide, ?_, xA_q Xs.rf, fun σ2 hM2 hT2 _ => ⟨(-1, mR σ2 1), ?_, rfl, mR_q⟩⟩
      · unfold f_X11_about
        rw [X_isTold hX hw, if_neg h0, bind_some', if_neg o1n0]
        rcases sel_f (by decide) hy with q | ⟨q1, q2⟩
        · rw [if_pos q, X_refused]; rfl
        · rw [if_neg q1, if_neg (by rw [i6]; exact q2), X_refused]; rfl
      · unfold f_X12_about f_X12_about_22 f_X12_about_23
        rw [if_neg (by rw [hT2, if_neg h0]; exact o1n0), i6, M_in0 (by decide), bG_f hy, bind_some', if_pos rfl, un_0, bind_some', ref_1, bind_some', if_neg o1n0]
end Q9
