/-! split; lost -/
section Q5
variable {d : Nat → Nat} {σ σ' : gSt} {a c i : Nat}
def spQ (d : Nat → Nat) (a i : Nat) (z : Int32) : Int32 := match sp d a i with
  | none => -2
  | some v => if z = 0 then nI v else if z = 1 then nI (1 + cnt (plc (sf d (d (37 + a)) i) v) (d 1)) else nI v - mo (lst (sf d (d (37 + a)) i) (d 1))
theorem sp_tA {v : Nat} (h : sp d a i = some v) : ∃ t, tA d a i = some t := by
  unfold sp at h
  cases ht : tA d a i with
  | none => rw [ht] at h; cases h
  | some t => exact ⟨t, rfl⟩
theorem S_split : SS3 Inv f_X11_split f_X12_split := by
  intro x y z
  refine QA.ss (fun σ d hI hw hM hX => ?_)
  have h3 := hw.1
  have hr := hw.2.1
  have no : f_X4_hasRunnerPoint 1 x y σ = some (0, σ) → (∀ σ2, MR d σ2 → f_X12_isOwnPoint x y σ2 = some (0, σ2)) → QA d σ (f_X11_split x y z) (f_X12_split x y z) := fun g1 g2 => by
    refine QA.no 1 (by decide) ?_ (fun σ2 hM2 => ?_)
    · unfold f_X11_split
      rw [g1, bind_some', if_pos rfl, X_refused]
      rfl
    · unfold f_X12_split f_X12_split_23 f_X12_split_24
      rw [g2 σ2 hM2, bind_some', if_pos rfl, un_0, bind_some', ref_1, bind_some', if_neg o1n0]
  by_cases hx : gin x (d 1) = true
  · obtain ⟨hxe, ha⟩ := gin_nI hx
    generalize x.toNatClampNeg = a at hxe ha
    subst hxe
    by_cases hy : gin y (nown d a + 1) = true
    · have hl := hw.own ha
      have hru := hw.run ha
      obtain ⟨hye, hi⟩ := gin_nI hy
      generalize y.toNatClampNeg = i at hye hi
      subst hye
      have hi : i ≤ nown d a := by omega
      by_cases hz : gin z (2 + 1) = true
      · have hz' := sel_t (by decide) hz
        refine QA.yes (spQ d a i z) ?_ (fun σ2 hM2 hM3 => ?_)
        · unfold f_X11_split
          refine Wp.eq (X_hasRunnerPoint_t hX hw ha _) ?_
          rw [bG_t hy]
          refine Wp.f o1n0 ?_
          refine Wp.f hz'.1 ?_
          rw [i2]
          refine Wp.t hz'.2 ?_
          rw [← i2]
          refine Wp.eq (X_runnerAt (by omega)) ?_
          refine Wp.eq (X_timeAt hX hw ha hi) ?_
          cases hv : sp d a i with
          | none =>
            have : tA d a i = none := by
              unfold sp at hv
              cases ht : tA d a i with
              | none => rfl
              | some t => rw [ht] at hv; cases hv
            rw [this]
            refine Wp.t rfl ?_
            exact Wp.ret ⟨by rw [spQ, hv], _, Xs.rf, rfl⟩
          | some v =>
            obtain ⟨t, ht⟩ := sp_tA hv
            have htb := tA_b hw ha ht
            have hb := hw.b (57 + a)
            rw [ht]
            refine Wp.f (nI_nm1 (show t < 2147483648 by omega)) ?_
            rw [spQ, hv]
            by_cases e0 : z = 0
            · refine Wp.t e0 ?_
              refine Wp.eq (X_splitAt hX hw ha hi) ?_
              rw [hv]
              exact Wp.ret ⟨by simp only [if_pos e0]; rfl, _, Xs.rf, rfl⟩
            · refine Wp.f e0 ?_
              by_cases e1 : z = 1
              · refine Wp.t e1 ?_
                refine Wp.eq (X_placeAtPoint hX hw ha hi hv) ?_
                exact Wp.ret ⟨by simp only [if_neg e0, if_pos e1], _, Xs.rf, rfl⟩
              · refine Wp.f e1 ?_
                refine Wp.eq (X_splitAt hX hw ha hi) ?_
                dsimp only
                rw [(hX.2.2.2.2.2 a ha).1]
                refine Wp.eq (X_leastSplit hX hw hru.1 hi) ?_
                obtain ⟨j, l, g1, g2, g3, g4, g5, g6, g7⟩ := sf_has hw ha hi hv
                rw [hv, g5]
                exact Wp.ret ⟨by simp only [if_neg e0, if_neg e1]; rfl, _, Xs.rf, rfl⟩
        · unfold f_X12_split f_X12_split_24
          refine Wp.eq (M_isOwnPoint_t hM3 hw ha _) ?_
          rw [bG_t hy]
          refine Wp.f o1n0 ?_
          rw [i2]
          refine Wp.eq (M_in0 (by decide) _) ?_
          rw [bG_t hz]
          refine Wp.f o1n0 ?_
          refine Wp.eq un_1 ?_
          refine Wp.eq ref_0 ?_
          refine Wp.t rfl ?_
          refine Wp.bind (M_splitOf hM2 hw Ms.rf ha hi) (fun q hq => ?_)
          rw [hq.1]
          cases hv : sp d a i with
          | none => exact Wp.t rfl (Wp.ret ⟨by rw [spQ, hv]; rfl, hq.2⟩)
          | some v =>
            have hvb := sp_b hw ha hi hv
            refine Wp.f (nI_nm2 (show v < 2147483648 by omega)) ?_
            rw [spQ, hv]
            by_cases e0 : z = 0
            · refine Wp.t e0 ?_
              exact Wp.ret ⟨by simp only [if_pos e0]; rfl, hq.2⟩
            · refine Wp.f e0 ?_
              by_cases e1 : z = 1
              · refine Wp.t e1 ?_
                refine Wp.bind (M_placeAtPoint hM2 hw hq.2 ha hi hv) (fun p hp => ?_)
                exact Wp.ret ⟨by simp only [if_neg e0, if_pos e1]; exact hp.1, hp.2⟩
              · refine Wp.f e1 ?_
                refine Wp.eq (M_rd (j := 37 + a) (hM2.of hq.2) (by rw [i37, nI_add]) (by omega)) ?_
                refine Wp.bind (M_bestRunnerS hM2 hw hq.2 hru.1 hi) (fun p hp => ?_)
                obtain ⟨j, l, g1, g2, g3, g4, g5, g6, g7⟩ := sf_has hw ha hi hv
                rw [hp.1, g1]
                refine Wp.bind (M_splitOf hM2 hw hp.2 g2 g7) (fun r hr => ?_)
                rw [hr.1, g4, g5]
                exact Wp.ret ⟨by simp only [if_neg e0, if_neg e1]; rfl, hr.2⟩
      · refine QA.no 1 (by decide) ?_ (fun σ2 hM2 => ?_)
        · unfold f_X11_split
          rw [X_hasRunnerPoint_t hX hw ha, bG_t hy, bind_some', if_neg o1n0]
          rcases sel_f (by decide) hz with q | ⟨q1, q2⟩
          · rw [if_pos q, X_refused]; rfl
          · rw [if_neg q1, i2, if_neg q2, X_refused]; rfl
        · unfold f_X12_split f_X12_split_23 f_X12_split_24
          rw [M_isOwnPoint_t hM2 hw ha, bG_t hy, bind_some', if_neg o1n0, i2, M_in0 (by decide), bG_f hz, bind_some', if_pos rfl, un_0, bind_some', ref_1, bind_some', if_neg o1n0]
    · exact no (by rw [X_hasRunnerPoint_t hX hw ha, bG_f hy]) (fun σ2 hM2 => by rw [M_isOwnPoint_t hM2 hw ha, bG_f hy])
  · exact no (X_hasRunnerPoint_f hX hw hx) (fun σ2 hM2 => M_isOwnPoint_f hM2 hw hx)
/-- what he lost on a leg -/
def lo (d : Nat → Nat) (a i : Nat) : Option Nat := match lg d a i, lst (lf d (d (37 + a)) i) (d 1) with
  | some v, some l => some (v - l)
  | _, _ => none
theorem lo_b (hw : WF d) (ha : a < d 1) (hi : i ≤ nown d a) {u : Nat} (h : lo d a i = some u) : u < 10000 := by
  unfold lo at h
  cases hv : lg d a i with
  | none => rw [hv] at h; cases h
  | some v =>
    rw [hv] at h
    have := lg_b hw ha hi hv
    cases hl : lst (lf d (d (37 + a)) i) (d 1) with
    | none => rw [hl] at h; cases h
    | some l => rw [hl] at h; cases h; omega
theorem X_lostOn (h : XR d σ) (hw : WF d) (ha : a < d 1) (hi : i ≤ nown d a) : f_X2_lostOn (10 + a) (nI i) σ = some (xo (lo d a i), σ) := by
  unfold f_X2_lostOn
  rw [X_legTime h hw ha hi, bind_some']
  cases hv : lg d a i with
  | none => rw [lo, hv]; exact if_pos rfl
  | some v =>
    have hvb := lg_b hw ha hi hv
    refine (if_neg (nI_nm1 (show v < 2147483648 by omega))).trans ?_
    dsimp only
    obtain ⟨j, l, g1, g2, g3, g4, g5, g6, g7⟩ := lf_has hw ha hi hv
    rw [(h.2.2.2.2.2 a ha).1, X_bestTime h hw (hw.run ha).1 hi, bind_some', g5, lo, hv, g5]
    show some (nI v - nI l, σ) = some (nI (v - l), σ)
    rw [nI_sub g6]
theorem M_lostOn (hM : MR d σ) (hw : WF d) (hs : Ms σ σ') (ha : a < d 1) (hi : i ≤ nown d a) : Wp (f_X12_lostOn (nI a) (nI i) σ') (fun r => r.1 = mo (lo d a i) ∧ Ms σ r.2) := by
  have hr := hw.2.1
  unfold f_X12_lostOn
  refine Wp.bind (M_legOf hM hw hs ha hi) (fun q hq => ?_)
  rw [hq.1]
  cases hv : lg d a i with
  | none => exact Wp.t rfl (Wp.ret ⟨by rw [lo, hv]; rfl, hq.2⟩)
  | some v =>
    have hvb := lg_b hw ha hi hv
    refine Wp.f (nI_nm2 (show v < 2147483648 by omega)) ?_
    refine Wp.eq (M_rd (j := 37 + a) (hM.of hq.2) (by rw [i37, nI_add]) (by omega)) ?_
    refine Wp.bind (M_bestLeg hM hw hq.2 (hw.run ha).1 hi) (fun p hp => ?_)
    obtain ⟨j, l, g1, g2, g3, g4, g5, g6, g7⟩ := lf_has hw ha hi hv
    rw [hp.1, g5]
    refine Wp.ret ⟨?_, hp.2⟩
    rw [lo, hv, g5]
    exact nI_sub g6
end Q5
