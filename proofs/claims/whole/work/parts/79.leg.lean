/-! leg, pace, mistakes, clean, cleanPlace -/
section PL
variable {d : Nat → Nat} {σ σ' : gSt} {a c i : Nat}
def lgQ (d : Nat → Nat) (a i : Nat) (z : Int32) : Int32 := match lg d a i with
  | none => -2
  | some v => if z = 0 then nI v else if z = 1 then nI (1 + cnt (plc (lf d (d (37 + a)) i) v) (d 1)) else if z = 2 then nI v - mo (lst (lf d (d (37 + a)) i) (d 1)) else mo (mk d a i)
theorem S_leg : SS3 Inv f_X11_leg f_X12_leg := by
  intro x y z
  refine QA.ss (fun σ d hI hw hM hX => ?_)
  have h3 := hw.1
  have hr := hw.2.1
  have no : f_X4_hasRunnerPoint 1 x y σ = some (0, σ) → (∀ σ2, MR d σ2 → f_X12_isOwnPoint x y σ2 = some (0, σ2)) → QA d σ (f_X11_leg x y z) (f_X12_leg x y z) := fun g1 g2 => by
    refine QA.no 1 (by decide) ?_ (fun σ2 hM2 => ?_)
    · unfold f_X11_leg
      rw [g1, bind_some', if_pos rfl, X_refused]
      rfl
    · unfold f_X12_leg f_X12_leg_23 f_X12_leg_24
      rw [g2 σ2 hM2, bind_some', if_pos rfl, un_0, bind_some', ref_1, bind_some', if_neg o1n0]
  by_cases hx : gin x (d 1) = true
  · obtain ⟨hxe, ha⟩ := gin_nI hx
    generalize x.toNatClampNeg = a at hxe ha
    subst hxe
    by_cases hy : gin y (nown d a + 1) = true
    · have hl := hw.own ha
      have hru := hw.run ha
      obtain ⟨hye, hi⟩ := gin_nI hy
      generalize y.toNatClampNeg = i at hye hi
      subst hye
      have hi : i ≤ nown d a := by omega
      by_cases hz : gin z (3 + 1) = true
      · have hz' := sel_t (by decide) hz
        refine QA.yes (lgQ d a i z) ?_ (fun σ2 hM2 hM3 => ?_)
        · unfold f_X11_leg
          refine Wp.eq (X_hasRunnerPoint_t hX hw ha _) ?_
          rw [bG_t hy]
          refine Wp.f o1n0 ?_
          refine Wp.f hz'.1 ?_
          refine Wp.t (by rw [i3]; exact hz'.2) ?_
          refine Wp.eq (X_runnerAt (by omega)) ?_
          refine Wp.eq (X_legTime hX hw ha hi) ?_
          cases hv : lg d a i with
          | none =>
            refine Wp.t rfl ?_
            exact Wp.ret ⟨by rw [lgQ, hv], _, Xs.rf, rfl⟩
          | some v =>
            have hvb := lg_b hw ha hi hv
            refine Wp.f (nI_nm1 (show v < 2147483648 by omega)) ?_
            rw [lgQ, hv]
            by_cases e0 : z = 0
            · refine Wp.t e0 ?_
              refine Wp.eq (X_legTime hX hw ha hi) ?_
              rw [hv]
              exact Wp.ret ⟨by simp only [if_pos e0]; rfl, _, Xs.rf, rfl⟩
            · refine Wp.f e0 ?_
              by_cases e1 : z = 1
              · refine Wp.t e1 ?_
                refine Wp.eq (X_placeOnLeg hX hw ha hi hv) ?_
                exact Wp.ret ⟨by simp only [if_neg e0, if_pos e1], _, Xs.rf, rfl⟩
              · refine Wp.f e1 ?_
                by_cases e2 : z = 2
                · refine Wp.t e2 ?_
                  refine Wp.eq (X_lostOn hX hw ha hi) ?_
                  obtain ⟨j, l, g1, g2, g3, g4, g5, g6, g7⟩ := lf_has hw ha hi hv
                  rw [lo, hv, g5]
                  exact Wp.ret ⟨by simp only [if_neg e0, if_neg e1, if_pos e2]; exact (nI_sub g6).symm, _, Xs.rf, rfl⟩
                · refine Wp.f e2 ?_
                  refine Wp.bind (X_reckon hX hw ha) (fun q hq => ?_)
                  refine Wp.eq (X_isPaced hw ha hq.2.2 (by omega)) ?_
                  by_cases hm : mk d a i = none
                  · rw [if_pos hm]
                    refine Wp.t rfl ?_
                    exact Wp.ret ⟨by simp only [if_neg e0, if_neg e1, if_neg e2]; rw [hm]; rfl, _, hq.2.1, rfl⟩
                  · rw [if_neg hm]
                    refine Wp.f o1n0 ?_
                    refine Wp.eq (X_mistakeOn hw ha (hX.of hq.2.1) hq.2.2 (by omega)) ?_
                    refine Wp.ret ⟨?_, _, hq.2.1, rfl⟩
                    simp only [if_neg e0, if_neg e1, if_neg e2]
                    cases hmm : mk d a i with
                    | none => exact absurd hmm hm
                    | some u => rfl
        · unfold f_X12_leg f_X12_leg_24
          refine Wp.eq (M_isOwnPoint_t hM3 hw ha _) ?_
          rw [bG_t hy]
          refine Wp.f o1n0 ?_
          rw [i3]
          refine Wp.eq (M_in0 (by decide) _) ?_
          rw [bG_t hz]
          refine Wp.f o1n0 ?_
          refine Wp.eq un_1 ?_
          refine Wp.eq ref_0 ?_
          refine Wp.t rfl ?_
          refine Wp.bind (M_legOf hM2 hw Ms.rf ha hi) (fun q hq => ?_)
          rw [hq.1]
          cases hv : lg d a i with
          | none => exact Wp.t rfl (Wp.ret ⟨by rw [lgQ, hv]; rfl, hq.2⟩)
          | some v =>
            have hvb := lg_b hw ha hi hv
            refine Wp.f (nI_nm2 (show v < 2147483648 by omega)) ?_
            rw [lgQ, hv]
            by_cases e0 : z = 0
            · refine Wp.t e0 ?_
              exact Wp.ret ⟨by simp only [if_pos e0]; rfl, hq.2⟩
            · refine Wp.f e0 ?_
              by_cases e1 : z = 1
              · refine Wp.t e1 ?_
                refine Wp.bind (M_placeOnLeg hM2 hw hq.2 ha hi hv) (fun p hp => ?_)
                exact Wp.ret ⟨by simp only [if_neg e0, if_pos e1]; exact hp.1, hp.2⟩
              · refine Wp.f e1 ?_
                by_cases e2 : z = 2
                · refine Wp.t e2 ?_
                  refine Wp.eq (M_rd (j := 37 + a) (hM2.of hq.2) (by rw [i37, nI_add]) (by omega)) ?_
                  refine Wp.bind (M_bestLeg hM2 hw hq.2 hru.1 hi) (fun p hp => ?_)
                  rw [hp.1]
                  exact Wp.ret ⟨by simp only [if_neg e0, if_neg e1, if_pos e2]; rfl, hp.2⟩
                · refine Wp.f e2 ?_
                  refine Wp.bind (M_mistakeOf hM2 hw hq.2 ha hi) (fun p hp => ?_)
                  exact Wp.ret ⟨by simp only [if_neg e0, if_neg e1, if_neg e2]; exact hp.1, hp.2⟩
      · refine QA.no 1 (by decide) ?_ (fun σ2 hM2 => ?_)
        · unfold f_X11_leg
          rw [X_hasRunnerPoint_t hX hw ha, bG_t hy, bind_some', if_neg o1n0]
          rcases sel_f (by decide) hz with q | ⟨q1, q2⟩
          · rw [if_pos q, X_refused]; rfl
          · rw [if_neg q1, i3, if_neg q2, X_refused]; rfl
        · unfold f_X12_leg f_X12_leg_23 f_X12_leg_24
          rw [M_isOwnPoint_t hM2 hw ha, bG_t hy, bind_some', if_neg o1n0, i3, M_in0 (by decide), bG_f hz, bind_some', if_pos rfl, un_0, bind_some', ref_1, bind_some', if_neg o1n0]
    · exact no (by rw [X_hasRunnerPoint_t hX hw ha, bG_f hy]) (fun σ2 hM2 => by rw [M_isOwnPoint_t hM2 hw ha, bG_f hy])
  · exact no (X_hasRunnerPoint_f hX hw hx) (fun σ2 hM2 => M_isOwnPoint_f hM2 hw hx)
/-- the legs of mistakes; the time without them -/
def mkb (d : Nat → Nat) (a : Nat) : Nat → Int32
  | 0 => 0
  | i + 1 => if (mk d a i).getD 0 = 0 then mkb d a i else mkb d a i ||| (1 <<< (nI i &&& 31))
def clI (d : Nat → Nat) (a : Nat) : Nat → Int32
  | 0 => nI (tot d a)
  | i + 1 => clI d a i - nI ((mk d a i).getD 0)
theorem sub0 (x : Int32) : x - 0 = x := Int32.sub_zero x
theorem mk_out (h : ¬ i ≤ nown d a) : mk d a i = none := mk_none (by unfold lgo; rw [if_neg h])
theorem mkb_own (hw : WF d) (ha : a < d 1) : mkb d a 11 = mkb d a (nown d a + 1) := by
  have ho := hw.own ha
  have : ∀ m, mkb d a (nown d a + 1 + m) = mkb d a (nown d a + 1) := by
    intro m
    induction m with
    | zero => rfl
    | succ m ih =>
      show mkb d a (nown d a + 1 + m + 1) = _
      rw [mkb, mk_out (by omega), ih]
      rfl
  have h := this (11 - (nown d a + 1))
  rw [show nown d a + 1 + (11 - (nown d a + 1)) = 11 by omega] at h
  exact h
theorem clI_own (hw : WF d) (ha : a < d 1) : clI d a 11 = clI d a (nown d a + 1) := by
  have ho := hw.own ha
  have : ∀ m, clI d a (nown d a + 1 + m) = clI d a (nown d a + 1) := by
    intro m
    induction m with
    | zero => rfl
    | succ m ih =>
      show clI d a (nown d a + 1 + m + 1) = _
      rw [clI, mk_out (by omega), ih]
      exact sub0 _
  have h := this (11 - (nown d a + 1))
  rw [show nown d a + 1 + (11 - (nown d a + 1)) = 11 by omega] at h
  exact h
theorem X_mistakeBits (h : XR d σ) (hw : WF d) (ha : a < d 1) : Wp (f_X5_mistakeBits (10 + a) σ) (fun r => r.1 = mkb d a (nown d a + 1) ∧ Xs σ r.2) := by
  unfold f_X5_mistakeBits
  refine Wp.bind (X_reckon h hw ha) (fun q hq => ?_)
  rw [← mkb_own hw ha]
  refine loop0 (F := fun f (x : Int32) i τ => f_X5_mistakeBits_10 f x (nI i) τ) (N := 11) (I := fun i x τ => x = mkb d a i ∧ τ = q.2) (by omega)
    (fun f i x τ hi hI kk => ?_) (fun f x τ hI => ?_) (x := 0) (σ := q.2) ⟨rfl, rfl⟩
  · obtain ⟨rfl, rfl⟩ := hI
    have hb := mk_b (i := i) hw ha
    show Wp (f_X5_mistakeBits_10 (f + 1) (mkb d a i) (nI i) q.2) _
    rw [f_X5_mistakeBits_10]
    refine Wp.f (by rw [i11]; exact nI_ge hi (by decide)) ?_
    refine Wp.eq (X_mistakeOn hw ha (h.of hq.2.1) hq.2.2 hi) ?_
    dsimp only
    rw [nI_1]
    by_cases e : (mk d a i).getD 0 = 0
    · refine Wp.t (by rw [e]; decide) ?_
      exact kk _ _ ⟨by rw [or0, mkb, if_pos e], rfl⟩
    · refine Wp.f (nI_nle (by omega) (by omega)) ?_
      exact kk _ _ ⟨by rw [mkb, if_neg e], rfl⟩
  · obtain ⟨rfl, rfl⟩ := hI
    show Wp (f_X5_mistakeBits_10 (f + 1) (mkb d a 11) (nI 11) q.2) _
    rw [f_X5_mistakeBits_10]
    exact Wp.t (by decide) (Wp.ret ⟨rfl, hq.2.1⟩)
theorem X_cleanTime (h : XR d σ) (hw : WF d) (ha : a < d 1) : Wp (f_X5_cleanTime (10 + a) σ) (fun r => r.1 = clI d a 11 ∧ Xs σ r.2) := by
  unfold f_X5_cleanTime
  refine Wp.bind (X_reckon h hw ha) (fun q hq => ?_)
  refine Wp.eq (X_total (h.of hq.2.1) hw ha) ?_
  refine loop0 (F := fun f (x : Int32) i τ => f_X5_cleanTime_13 f x (nI i) τ) (N := 11) (I := fun i x τ => x = clI d a i ∧ τ = q.2) (by omega)
    (fun f i x τ hi hI kk => ?_) (fun f x τ hI => ?_) (x := nI (tot d a)) (σ := q.2) ⟨rfl, rfl⟩
  · obtain ⟨rfl, rfl⟩ := hI
    show Wp (f_X5_cleanTime_13 (f + 1) (clI d a i) (nI i) q.2) _
    rw [f_X5_cleanTime_13]
    refine Wp.f (by rw [i11]; exact nI_ge hi (by decide)) ?_
    refine Wp.eq (X_mistakeOn hw ha (h.of hq.2.1) hq.2.2 hi) ?_
    dsimp only
    rw [nI_1]
    exact kk _ _ ⟨by rw [clI], rfl⟩
  · obtain ⟨rfl, rfl⟩ := hI
    show Wp (f_X5_cleanTime_13 (f + 1) (clI d a 11) (nI 11) q.2) _
    rw [f_X5_cleanTime_13]
    exact Wp.t (by decide) (Wp.ret ⟨rfl, hq.2.1⟩)
theorem mo_le0 (o : Option Nat) (h : o.getD 0 = 0) : mo o ≤ 0 := by
  cases o with
  | none => decide
  | some v =>
    have : v = 0 := h
    subst this
    decide
theorem mo_gt0 (o : Option Nat) (hb : o.getD 0 < 10000) (h : ¬ o.getD 0 = 0) : ¬ mo o ≤ 0 ∧ mo o = nI (o.getD 0) := by
  cases o with
  | none => exact absurd rfl h
  | some v => exact ⟨nI_nle (Nat.pos_of_ne_zero h) (Nat.lt_trans hb (by decide)), rfl⟩
theorem M_mistakes21 (hM : MR d σ) (hw : WF d) (hs : Ms σ σ') (ha : a < d 1) : Wp (f_X12_mistakes_21 (nI a) gFuel 0 0 σ') (fun r => r.1 = mkb d a (nown d a + 1) ∧ Ms σ r.2) := by
  have ho := hw.own ha
  have hr := hw.2.1
  have h3 := hw.1
  have hru := hw.run ha
  have hon : nown d a = d (4 + d (37 + a)) := rfl
  refine loop0 (F := fun f (x : Int32) i σ => f_X12_mistakes_21 (nI a) f x (nI i) σ) (N := nown d a + 1) (I := fun i x τ => x = mkb d a i ∧ Ms σ τ) (by omega)
    (fun f i x τ hi hI kk => ?_) (fun f x τ hI => ?_) (x := 0) (σ := σ') ⟨rfl, hs⟩
  · obtain ⟨rfl, hs⟩ := hI
    show Wp (f_X12_mistakes_21 (nI a) (f + 1) (mkb d a i) (nI i) τ) _
    rw [f_X12_mistakes_21]
    refine Wp.eq (M_rd (j := 37 + a) (hM.of hs) (by rw [i37, nI_add]) (by omega)) ?_
    refine Wp.eq (M_rd (j := 4 + d (37 + a)) (hM.of hs) (by rw [i4, nI_add]) (by omega)) ?_
    refine Wp.f (nI_nlt (by omega) (by omega)) ?_
    refine Wp.bind (M_mistakeOf hM hw hs ha (by omega)) (fun q hq => ?_)
    rw [hq.1, nI_1 i]
    by_cases e : (mk d a i).getD 0 = 0
    · refine Wp.t (mo_le0 _ e) ?_
      exact kk _ _ ⟨by rw [or0, mkb, if_pos e], hq.2⟩
    · refine Wp.f (mo_gt0 _ (mk_b hw ha) e).1 ?_
      exact kk _ _ ⟨by rw [mkb, if_neg e], hq.2⟩
  · obtain ⟨rfl, hs⟩ := hI
    show Wp (f_X12_mistakes_21 (nI a) (f + 1) (mkb d a (nown d a + 1)) (nI (nown d a + 1)) τ) _
    rw [f_X12_mistakes_21]
    refine Wp.eq (M_rd (j := 37 + a) (hM.of hs) (by rw [i37, nI_add]) (by omega)) ?_
    refine Wp.eq (M_rd (j := 4 + d (37 + a)) (hM.of hs) (by rw [i4, nI_add]) (by omega)) ?_
    exact Wp.t (nI_lt (by omega) (by omega)) (Wp.ret ⟨rfl, hs⟩)
theorem M_cleanOf (hM : MR d σ) (hw : WF d) (hs : Ms σ σ') (ha : a < d 1) : Wp (f_X12_cleanOf (nI a) σ') (fun r => r.1 = clI d a 11 ∧ Ms σ r.2) := by
  have ho := hw.own ha
  have hr := hw.2.1
  have h3 := hw.1
  have hru := hw.run ha
  have hon : nown d a = d (4 + d (37 + a)) := rfl
  unfold f_X12_cleanOf
  rw [clI_own hw ha]
  refine Wp.eq (M_totalOf (hM.of hs) hw ha) ?_
  refine loop0 (F := fun f (x : Int32) i σ => f_X12_cleanOf_8 (nI a) f x (nI i) σ) (N := nown d a + 1) (I := fun i x τ => x = clI d a i ∧ Ms σ τ) (by omega)
    (fun f i x τ hi hI kk => ?_) (fun f x τ hI => ?_) (x := nI (tot d a)) (σ := σ') ⟨rfl, hs⟩
  · obtain ⟨rfl, hs⟩ := hI
    show Wp (f_X12_cleanOf_8 (nI a) (f + 1) (clI d a i) (nI i) τ) _
    rw [f_X12_cleanOf_8]
    refine Wp.eq (M_rd (j := 37 + a) (hM.of hs) (by rw [i37, nI_add]) (by omega)) ?_
    refine Wp.eq (M_rd (j := 4 + d (37 + a)) (hM.of hs) (by rw [i4, nI_add]) (by omega)) ?_
    refine Wp.f (nI_nlt (by omega) (by omega)) ?_
    refine Wp.bind (M_mistakeOf hM hw hs ha (by omega)) (fun q hq => ?_)
    rw [hq.1, nI_1 i]
    by_cases e : (mk d a i).getD 0 = 0
    · refine Wp.t (mo_le0 _ e) ?_
      exact kk _ _ ⟨by rw [clI, e]; rfl, hq.2⟩
    · have g := mo_gt0 _ (mk_b hw ha) e
      refine Wp.f g.1 ?_
      exact kk _ _ ⟨by rw [clI, g.2], hq.2⟩
  · obtain ⟨rfl, hs⟩ := hI
    show Wp (f_X12_cleanOf_8 (nI a) (f + 1) (clI d a (nown d a + 1)) (nI (nown d a + 1)) τ) _
    rw [f_X12_cleanOf_8]
    refine Wp.eq (M_rd (j := 37 + a) (hM.of hs) (by rw [i37, nI_add]) (by omega)) ?_
    refine Wp.eq (M_rd (j := 4 + d (37 + a)) (hM.of hs) (by rw [i4, nI_add]) (by omega)) ?_
    exact Wp.t (nI_lt (by omega) (by omega)) (Wp.ret ⟨rfl, hs⟩)
theorem S_mistakes : SS1 Inv f_X11_mistakes f_X12_mistakes := by
  intro x
  refine QA.ss (fun σ d hI hw hM hX => ?_)
  have hr := hw.2.1
  by_cases hx : gin x (d 1) = true
  · obtain ⟨hxe, ha⟩ := gin_nI hx
    generalize x.toNatClampNeg = a at hxe ha
    subst hxe
    refine QA.yes (mkb d a (nown d a + 1)) ?_ (fun σ2 hM2 hM3 => ?_)
    · unfold f_X11_mistakes
      refine Wp.eq (X_hasRunner hX hw _) ?_
      rw [bG_t hx]
      refine Wp.f o1n0 ?_
      refine Wp.eq (X_runnerAt (by omega)) ?_
      refine Wp.bind (X_mistakeBits hX hw ha) (fun q hq => ?_)
      rw [X_answered]
      exact Wp.ret ⟨hq.1, _, hq.2, rfl⟩
    · unfold f_X12_mistakes
      refine Wp.eq (M_isRunner hM3 hw _) ?_
      rw [bG_t hx]
      refine Wp.eq un_1 ?_
      refine Wp.eq ref_0 ?_
      refine Wp.t rfl ?_
      exact M_mistakes21 hM2 hw Ms.rf ha
  · refine QA.no 1 (by decide) ?_ (fun σ2 hM2 => ?_)
    · unfold f_X11_mistakes
      rw [X_hasRunner hX hw, bG_f hx, bind_some', if_pos rfl, X_refused]
      rfl
    · unfold f_X12_mistakes
      rw [M_isRunner hM2 hw, bG_f hx, bind_some', un_0, bind_some', ref_1, bind_some', if_neg o1n0]
theorem S_clean : SS1 Inv f_X11_clean f_X12_clean := by
  intro x
  refine QA.ss (fun σ d hI hw hM hX => ?_)
  have hr := hw.2.1
  by_cases hx : gin x (d 1) = true
  · obtain ⟨hxe, ha⟩ := gin_nI hx
    generalize x.toNatClampNeg = a at hxe ha
    subst hxe
    refine QA.yes (clI d a 11) ?_ (fun σ2 hM2 hM3 => ?_)
    · unfold f_X11_clean
      refine Wp.eq (X_hasRunner hX hw _) ?_
      rw [bG_t hx]
      refine Wp.f o1n0 ?_
      refine Wp.eq (X_runnerAt (by omega)) ?_
      refine Wp.bind (X_cleanTime hX hw ha) (fun q hq => ?_)
      rw [X_answered]
      exact Wp.ret ⟨hq.1, _, hq.2, rfl⟩
    · unfold f_X12_clean
      refine Wp.eq (M_isRunner hM3 hw _) ?_
      rw [bG_t hx]
      refine Wp.eq un_1 ?_
      refine Wp.eq ref_0 ?_
      refine Wp.t rfl ?_
      exact Wp.bind (M_cleanOf hM2 hw Ms.rf ha) (fun q hq => Wp.ret ⟨hq.1, hq.2⟩)
  · refine QA.no 1 (by decide) ?_ (fun σ2 hM2 => ?_)
    · unfold f_X11_clean
      rw [X_hasRunner hX hw, bG_f hx, bind_some', if_pos rfl, X_refused]
      rfl
    · unfold f_X12_clean
      rw [M_isRunner hM2 hw, bG_f hx, bind_some', un_0, bind_some', ref_1, bind_some', if_neg o1n0]
end PL
