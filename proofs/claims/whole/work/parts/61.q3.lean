/-! points and selectors; leads, best -/
section Q3
variable {d : Nat → Nat} {σ σ' : gSt} {a c i : Nat}
theorem sel_t {v : Int32} {k : Nat} (hk : k < 2147483647) (h : gin v (k + 1) = true) : ¬ v < 0 ∧ v ≤ nI k := by
  obtain ⟨e, h1⟩ := gin_nI h
  generalize v.toNatClampNeg = j at e h1
  subst e
  exact ⟨nI_pos (by omega), nI_le (by omega) (by omega)⟩
theorem sel_f {v : Int32} {k : Nat} (hk : k < 2147483647) (h : ¬ gin v (k + 1) = true) : v < 0 ∨ (¬ v < 0 ∧ ¬ v ≤ nI k) := by
  rcases x_cases v with q | ⟨j, q1, rfl⟩
  · exact Or.inl q
  · refine Or.inr ⟨nI_pos q1, ?_⟩
    have : ¬ j < k + 1 := fun z => h ((gin_nI_iff q1).mpr z)
    exact nI_ge (by omega) (by omega)
theorem pt_sel (y : Int32) {n : Nat} (hn : n < 2147483647) {A : Option (Int32 × gSt)} (h1 : ¬ gin y (n + 1) = true → A = some (0, σ)) (h2 : gin y (n + 1) = true → A = some (1, σ)) : A = some (bG y (n + 1), σ) := by
  by_cases hy : gin y (n + 1) = true
  · rw [bG_t hy]; exact h2 hy
  · rw [bG_f hy]; exact h1 hy
theorem nlt_of_le {x y : Int32} (h : x ≤ y) : ¬ y < x := fun q => by
  rw [Int32.lt_iff_toInt_lt] at q
  rw [Int32.le_iff_toInt_le] at h
  omega
theorem lt_of_nle {x y : Int32} (h : ¬ x ≤ y) : y < x := by
  rw [Int32.le_iff_toInt_le] at h
  rw [Int32.lt_iff_toInt_lt]
  omega
theorem X_hasRunnerPoint_f (h : XR d σ) (hw : WF d) {x y : Int32} (hx : ¬ gin x (d 1) = true) : f_X4_hasRunnerPoint 1 x y σ = some (0, σ) := by
  unfold f_X4_hasRunnerPoint
  rw [X_hasRunner h hw, bG_f hx, bind_some', if_pos rfl]
theorem X_hasRunnerPoint_t (h : XR d σ) (hw : WF d) (ha : a < d 1) (y : Int32) : f_X4_hasRunnerPoint 1 (nI a) y σ = some (bG y (nown d a + 1), σ) := by
  have h3 := hw.1
  have hr := hw.2.1
  have hb := hw.b (4 + a)
  have hb2 := hw.b (4 + d (37 + a))
  have hn : nown d a < 2147483647 := by show d (4 + d (37 + a)) < _; omega
  unfold f_X4_hasRunnerPoint
  rw [X_hasRunner h hw, bG_t ((gin_nI_iff (by omega)).mpr ha), bind_some', if_neg o1n0]
  refine pt_sel y hn (fun q => ?_) (fun q => ?_)
  · rcases sel_f hn q with z | ⟨z1, z2⟩
    · rw [if_pos z]
    · rw [if_neg z1, X_runnerAt (by omega), bind_some']
      refine if_pos ?_
      show σ 10 (10 + a) 9 < y
      rw [(h.2.2.2.2.2 a ha).2.2.2.2.1]
      exact lt_of_nle z2
  · obtain ⟨z1, z2⟩ := sel_t hn q
    rw [if_neg z1, X_runnerAt (by omega), bind_some']
    refine if_neg ?_
    show ¬ σ 10 (10 + a) 9 < y
    rw [(h.2.2.2.2.2 a ha).2.2.2.2.1]
    exact nlt_of_le z2
theorem X_hasPoint_f (h : XR d σ) (hw : WF d) {x y : Int32} (hx : ¬ gin x (d 0) = true) : f_X4_hasPoint 1 x y σ = some (0, σ) := by
  unfold f_X4_hasPoint
  rw [X_hasCourse h hw, bG_f hx, bind_some', if_pos rfl]
theorem X_hasPoint_t (h : XR d σ) (hw : WF d) (ha : a < d 0) (y : Int32) : f_X4_hasPoint 1 (nI a) y σ = some (bG y (d (4 + a) + 1), σ) := by
  have h3 := hw.1
  have hr := hw.2.1
  have hb := hw.b (4 + a)
  have hb2 := hw.b (4 + d (37 + a))
  have hn : d (4 + a) < 2147483647 := by omega
  unfold f_X4_hasPoint
  rw [X_hasCourse h hw, bG_t ((gin_nI_iff (by omega)).mpr ha), bind_some', if_neg o1n0]
  refine pt_sel y hn (fun q => ?_) (fun q => ?_)
  · rcases sel_f hn q with z | ⟨z1, z2⟩
    · rw [if_pos z]
    · rw [if_neg z1, X_courseAt (by omega), bind_some']
      refine if_pos ?_
      show σ 8 (3 + a) 2 < y
      rw [(h.2.2.2.2.1 a ha).1]
      exact lt_of_nle z2
  · obtain ⟨z1, z2⟩ := sel_t hn q
    rw [if_neg z1, X_courseAt (by omega), bind_some']
    refine if_neg ?_
    show ¬ σ 8 (3 + a) 2 < y
    rw [(h.2.2.2.2.1 a ha).1]
    exact nlt_of_le z2
theorem M_isPoint_f (hM : MR d σ) (hw : WF d) {x y : Int32} (hx : ¬ gin x (d 0) = true) : f_X12_isPoint x y σ = some (0, σ) := by
  unfold f_X12_isPoint
  rw [M_isCourse hM hw, bG_f hx, bind_some', if_pos rfl]
theorem M_isPoint_t (hM : MR d σ) (hw : WF d) (hc : c < d 0) (y : Int32) : f_X12_isPoint (nI c) y σ = some (bG y (d (4 + c) + 1), σ) := by
  have h3 := hw.1
  have b := hw.b (4 + c)
  unfold f_X12_isPoint
  rw [M_isCourse hM hw, bG_t ((gin_nI_iff (by omega)).mpr hc), bind_some', if_neg o1n0, M_rd (j := 4 + c) hM (by rw [i4, nI_add]) (by omega), bind_some', M_in0 (by omega), bind_some']
  by_cases hy : gin y (d (4 + c) + 1) = true
  · rw [bG_t hy, if_neg o1n0]
  · rw [bG_f hy, if_pos rfl]
theorem M_isOwnPoint_f (hM : MR d σ) (hw : WF d) {x y : Int32} (hx : ¬ gin x (d 1) = true) : f_X12_isOwnPoint x y σ = some (0, σ) := by
  unfold f_X12_isOwnPoint
  rw [M_isRunner hM hw, bG_f hx, bind_some', if_pos rfl]
theorem M_isOwnPoint_t (hM : MR d σ) (hw : WF d) (ha : a < d 1) (y : Int32) : f_X12_isOwnPoint (nI a) y σ = some (bG y (nown d a + 1), σ) := by
  have hr := hw.2.1
  unfold f_X12_isOwnPoint
  rw [M_isRunner hM hw, bG_t ((gin_nI_iff (by omega)).mpr ha), bind_some', if_neg o1n0, M_rd (j := 37 + a) hM (by rw [i37, nI_add]) (by omega), bind_some', M_isPoint_t hM hw (hw.run ha).1, bind_some']
  by_cases hy : gin y (d (4 + d (37 + a)) + 1) = true
  · rw [bG_t hy, if_neg o1n0, nown, bG_t hy]
  · rw [bG_f hy, if_pos rfl, nown, bG_f hy]
theorem S_leads : SS2 Inv f_X11_leads f_X12_leads := by
  intro x y
  refine QA.ss (fun σ d hI hw hM hX => ?_)
  have h3 := hw.1
  have hr := hw.2.1
  have no : f_X4_hasPoint 1 x y σ = some (0, σ) → (∀ σ2, MR d σ2 → f_X12_isPoint x y σ2 = some (0, σ2)) → QA d σ (f_X11_leads x y) (f_X12_leads x y) := fun g1 g2 => by
    refine QA.no 1 (by decide) ?_ (fun σ2 hM2 => ?_)
    · unfold f_X11_leads
      rw [g1, bind_some', if_pos rfl, X_refused]
      rfl
    · unfold f_X12_leads
      rw [g2 σ2 hM2, bind_some', un_0, bind_some', ref_1, bind_some', if_neg o1n0]
  by_cases hx : gin x (d 0) = true
  · obtain ⟨hxe, hc⟩ := gin_nI hx
    generalize x.toNatClampNeg = c at hxe hc
    subst hxe
    by_cases hy : gin y (d (4 + c) + 1) = true
    · have hl := hw.len hc
      obtain ⟨hye, hi⟩ := gin_nI hy
      generalize y.toNatClampNeg = i at hye hi
      subst hye
      refine QA.yes (mo (am (sf d c i) (d 1))) ?_ (fun σ2 hM2 hM3 => ?_)
      · unfold f_X11_leads
        refine Wp.eq (X_hasPoint_t hX hw hc _) ?_
        rw [bG_t hy]
        refine Wp.f o1n0 ?_
        refine Wp.eq (X_leader hX hw hc (by omega)) ?_
        have hm := am_spec (sf d c i) (d 1)
        cases hv : am (sf d c i) (d 1) with
        | none => exact Wp.t rfl (Wp.ret ⟨rfl, _, Xs.rf, rfl⟩)
        | some j =>
          rw [hv] at hm
          have := hm.1
          refine Wp.f (nI_nm1 (show j < 2147483648 by omega)) (Wp.ret ⟨rfl, _, Xs.rf, rfl⟩)
      · unfold f_X12_leads
        refine Wp.eq (M_isPoint_t hM3 hw hc _) ?_
        rw [bG_t hy]
        refine Wp.eq un_1 ?_
        refine Wp.eq ref_0 ?_
        refine Wp.t rfl ?_
        exact Wp.bind (M_bestRunnerS hM2 hw Ms.rf hc (by omega)) (fun q hq => Wp.ret ⟨hq.1, hq.2⟩)
    · exact no (by rw [X_hasPoint_t hX hw hc, bG_f hy]) (fun σ2 hM2 => by rw [M_isPoint_t hM2 hw hc, bG_f hy])
  · exact no (X_hasPoint_f hX hw hx) (fun σ2 hM2 => M_isPoint_f hM2 hw hx)
theorem S_best : SS3 Inv f_X11_best f_X12_best := by
  intro x y z
  refine QA.ss (fun σ d hI hw hM hX => ?_)
  have h3 := hw.1
  have hr := hw.2.1
  have no : f_X4_hasPoint 1 x y σ = some (0, σ) → (∀ σ2, MR d σ2 → f_X12_isPoint x y σ2 = some (0, σ2)) → QA d σ (f_X11_best x y z) (f_X12_best x y z) := fun g1 g2 => by
    refine QA.no 1 (by decide) ?_ (fun σ2 hM2 => ?_)
    · unfold f_X11_best
      rw [g1, bind_some', if_pos rfl, X_refused]
      rfl
    · unfold f_X12_best f_X12_best_23 f_X12_best_24
      rw [g2 σ2 hM2, bind_some', if_pos rfl, un_0, bind_some', ref_1, bind_some', if_neg o1n0]
  by_cases hx : gin x (d 0) = true
  · obtain ⟨hxe, hc⟩ := gin_nI hx
    generalize x.toNatClampNeg = c at hxe hc
    subst hxe
    by_cases hy : gin y (d (4 + c) + 1) = true
    · have hl := hw.len hc
      obtain ⟨hye, hi⟩ := gin_nI hy
      generalize y.toNatClampNeg = i at hye hi
      subst hye
      by_cases hz : gin z (1 + 1) = true
      · have hz' := sel_t (by decide) hz
        have hm := am_spec (lf d c i) (d 1)
        refine QA.yes (if z = 0 then mo (lst (lf d c i) (d 1)) else mo (am (lf d c i) (d 1))) ?_ (fun σ2 hM2 hM3 => ?_)
        · unfold f_X11_best
          refine Wp.eq (X_hasPoint_t hX hw hc _) ?_
          rw [bG_t hy]
          refine Wp.f o1n0 ?_
          refine Wp.f hz'.1 ?_
          rw [i1]
          refine Wp.t hz'.2 ?_
          refine Wp.eq (X_bestRunner hX hw hc (by omega)) ?_
          cases hv : am (lf d c i) (d 1) with
          | none =>
            rw [hv] at hm
            rw [hm.1]
            exact Wp.t rfl (Wp.ret ⟨by split <;> rfl, _, Xs.rf, rfl⟩)
          | some j =>
            rw [hv] at hm
            obtain ⟨h1, v, h2, h4, -⟩ := hm
            refine Wp.f (nI_nm1 (show j < 2147483648 by omega)) ?_
            by_cases e : z = 0
            · refine Wp.t e ?_
              rw [if_pos e, h4]
              refine Wp.eq (X_bestTime hX hw hc (by omega)) ?_
              rw [h4]
              exact Wp.ret ⟨rfl, _, Xs.rf, rfl⟩
            · refine Wp.f e ?_
              rw [if_neg e]
              exact Wp.ret ⟨rfl, _, Xs.rf, rfl⟩
        · unfold f_X12_best f_X12_best_24
          refine Wp.eq (M_isPoint_t hM3 hw hc _) ?_
          rw [bG_t hy]
          refine Wp.f o1n0 ?_
          rw [i1]
          refine Wp.eq (M_in0 (by decide) _) ?_
          rw [bG_t hz]
          refine Wp.f o1n0 ?_
          rw [← i1]
          refine Wp.eq un_1 ?_
          refine Wp.eq ref_0 ?_
          refine Wp.t rfl ?_
          by_cases e : z = 0
          · refine Wp.t e ?_
            rw [if_pos e]
            exact Wp.bind (M_bestLeg hM2 hw Ms.rf hc (by omega)) (fun q hq => Wp.ret ⟨hq.1, hq.2⟩)
          · refine Wp.f e ?_
            rw [if_neg e]
            exact Wp.bind (M_bestRunnerL hM2 hw Ms.rf hc (by omega)) (fun q hq => Wp.ret ⟨hq.1, hq.2⟩)
      · refine QA.no 1 (by decide) ?_ (fun σ2 hM2 => ?_)
        · unfold f_X11_best
          rw [X_hasPoint_t hX hw hc, bG_t hy, bind_some', if_neg o1n0]
          rcases sel_f (by decide) hz with q | ⟨q1, q2⟩
          · rw [if_pos q, X_refused]; rfl
          · rw [if_neg q1, i1, if_neg q2, ← i1, X_refused]; rfl
        · unfold f_X12_best f_X12_best_23 f_X12_best_24
          rw [M_isPoint_t hM2 hw hc, bG_t hy, bind_some', if_neg o1n0, i1, M_in0 (by decide), bG_f hz, bind_some', if_pos rfl, ← i1, un_0, bind_some', ref_1, bind_some', if_neg o1n0]
    · exact no (by rw [X_hasPoint_t hX hw hc, bG_f hy]) (fun σ2 hM2 => by rw [M_isPoint_t hM2 hw hc, bG_f hy])
  · exact no (X_hasPoint_f hX hw hx) (fun σ2 hM2 => M_isPoint_f hM2 hw hx)
end Q3
