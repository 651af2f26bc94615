/-! places at a point, on a leg -/
section Q4
variable {d : Nat → Nat} {σ σ' : gSt} {a c i : Nat}
def plc (f : Nat → Option Nat) (v : Nat) (b : Nat) : Bool := match f b with
  | none => false
  | some u => decide (u < v)
theorem cnt_t {q : Nat → Bool} {k : Nat} (h : q k = true) : cnt q (k + 1) = cnt q k + 1 := by rw [cnt, if_pos h]
theorem cnt_f {q : Nat → Bool} {k : Nat} (h : q k = false) : cnt q (k + 1) = cnt q k := by rw [cnt, h]; rfl
theorem X_placeAtPoint (h : XR d σ) (hw : WF d) (ha : a < d 1) (hi : i ≤ nown d a) {v : Nat} (hv : sp d a i = some v) : f_X2_placeAtPoint (10 + a) (nI i) σ = some (nI (1 + cnt (plc (sf d (d (37 + a)) i) v) (d 1)), σ) := by
  have hr := hw.2.1
  have hvb := sp_b hw ha hi hv
  have := loop0 (F := fun f (x : Int32) b σ => f_X2_placeAtPoint_5 (10 + a) (nI i) f x (nI b) σ) (N := d 1) (I := fun b x τ => x = nI (1 + cnt (plc (sf d (d (37 + a)) i) v) b) ∧ τ = σ) (Q := fun r => r = (nI (1 + cnt (plc (sf d (d (37 + a)) i) v) (d 1)), σ)) (by omega)
    (fun f b x τ hb hI kk => by
      obtain ⟨rfl, rfl⟩ := hI
      have b0 := hw.b (37 + a)
      simp only [f_X2_placeAtPoint_5]
      rw [h.2.1, (h.2.2.2.2.2 a ha).1]
      refine Wp.f (nI_ge hb (by omega)) ?_
      refine Wp.eq (X_isOf h hw hb (by omega)) ?_
      by_cases e : d (37 + b) = d (37 + a)
      · rw [if_pos e]
        refine Wp.f o1n0 ?_
        refine Wp.eq (X_runnerAt (by omega)) ?_
        have hi' : i ≤ nown d b := by unfold nown at hi ⊢; rw [e]; exact hi
        refine Wp.eq (X_splitAt h hw hb hi') ?_
        unfold f_X2_placeAtPoint_50
        dsimp only
        rw [nI_1 b]
        cases hu : sp d b i with
        | none =>
          refine Wp.t rfl ?_
          exact kk _ _ ⟨by rw [add0, cnt_f (by simp [plc, sf, e, hu])], rfl⟩
        | some u =>
          have hub := sp_b hw hb hi' hu
          refine Wp.f (nI_nm1 (show u < 2147483648 by omega)) ?_
          refine Wp.eq (X_splitAt h hw ha hi) ?_
          rw [hv]
          by_cases g : u < v
          · refine Wp.f (nI_ge g (by omega)) ?_
            exact kk _ _ ⟨by rw [nI_1, cnt_t (by simp [plc, sf, e, hu, g]), Nat.add_assoc], rfl⟩
          · refine Wp.t (nI_le (by omega) (by omega)) ?_
            exact kk _ _ ⟨by rw [add0, cnt_f (by simp [plc, sf, e, hu]; omega)], rfl⟩
      · rw [if_neg e]
        refine Wp.t rfl ?_
        unfold f_X2_placeAtPoint_50
        rw [nI_1 b]
        refine Wp.t rfl ?_
        exact kk _ _ ⟨by rw [add0, cnt_f (by simp [plc, sf, e])], rfl⟩)
    (fun f x τ hI => by
      obtain ⟨rfl, rfl⟩ := hI
      simp only [f_X2_placeAtPoint_5]
      rw [h.2.1]
      exact Wp.t (nI_le (Nat.le_refl _) (by omega)) (Wp.ret rfl)) (x := 1) (σ := σ) ⟨i1, rfl⟩
  obtain ⟨r, hr1, rfl⟩ := this
  exact hr1
theorem M_placeAtPoint (hM : MR d σ) (hw : WF d) (hs : Ms σ σ') (ha : a < d 1) (hi : i ≤ nown d a) {v : Nat} (hv : sp d a i = some v) : Wp (f_X12_placeAt (nI a) (nI i) 0 σ') (fun r => r.1 = nI (1 + cnt (plc (sf d (d (37 + a)) i) v) (d 1)) ∧ Ms σ r.2) := by
  have hr := hw.2.1
  have hvb := sp_b hw ha hi hv
  unfold f_X12_placeAt
  refine Wp.t rfl ?_
  refine Wp.bind (M_splitOf hM hw hs ha hi) (fun q hq => ?_)
  rw [hq.1, hv]
  refine loop0 (F := fun f (x : Int32) b σ => f_X12_placeAt_27 (nI a) (nI i) 0 (nI v) f x (nI b) σ) (N := d 1) (I := fun b x τ => x = nI (1 + cnt (plc (sf d (d (37 + a)) i) v) b) ∧ Ms σ τ) (by omega) (fun f b x τ hb hI kk => ?_) (fun f x τ hI => ?_) (x := 1) (σ := q.2) ⟨i1, hq.2⟩
  · obtain ⟨rfl, hs⟩ := hI
    have b0 := hw.b (37 + a)
    have b1 := hw.b (37 + b)
    show Wp (f_X12_placeAt_27 (nI a) (nI i) 0 (nI v) (f + 1) _ (nI b) τ) _
    rw [f_X12_placeAt_27]
    refine Wp.eq (M_rd (j := 1) (hM.of hs) i1 (by decide)) ?_
    refine Wp.f (nI_ge hb (by omega)) ?_
    refine Wp.eq (M_rd (j := 37 + b) (hM.of hs) (by rw [i37, nI_add]) (by omega)) ?_
    refine Wp.eq (M_rd (j := 37 + a) (hM.of hs) (by rw [i37, nI_add]) (by omega)) ?_
    by_cases e : d (37 + b) = d (37 + a)
    · have hi' : i ≤ nown d b := by unfold nown at hi ⊢; rw [e]; exact hi
      refine Wp.t (by rw [e]) ?_
      refine Wp.t rfl ?_
      refine Wp.bind (M_splitOf hM hw hs hb hi') (fun p hp => ?_)
      unfold f_X12_placeAt_86
      rw [hp.1, nI_1 b]
      cases hu : sp d b i with
      | none =>
        refine Wp.t rfl ?_
        exact kk _ _ ⟨by rw [add0, cnt_f (by simp [plc, sf, e, hu])], hp.2⟩
      | some u =>
        have hub := sp_b hw hb hi' hu
        refine Wp.f (nI_nm2 (show u < 2147483648 by omega)) ?_
        by_cases g : u < v
        · refine Wp.f (nI_ge g (by omega)) ?_
          exact kk _ _ ⟨by rw [nI_1, cnt_t (by simp [plc, sf, e, hu, g]), Nat.add_assoc], hp.2⟩
        · refine Wp.t (nI_le (by omega) (by omega)) ?_
          exact kk _ _ ⟨by rw [add0, cnt_f (by simp [plc, sf, e, hu]; omega)], hp.2⟩
    · refine Wp.f (nI_ne (by omega) (by omega) e) ?_
      unfold f_X12_placeAt_86
      rw [nI_1 b]
      refine Wp.t rfl ?_
      exact kk _ _ ⟨by rw [add0, cnt_f (by simp [plc, sf, e])], hs⟩
  · obtain ⟨rfl, hs⟩ := hI
    simp only [f_X12_placeAt_27]
    refine Wp.eq (M_rd (j := 1) (hM.of hs) i1 (by decide)) ?_
    exact Wp.t (nI_le (Nat.le_refl _) (by omega)) (Wp.ret ⟨rfl, hs⟩)
/-- where he has one, the course has a least -/
theorem sf_has (hw : WF d) (ha : a < d 1) (hi : i ≤ nown d a) {v : Nat} (hv : sp d a i = some v) : ∃ j l, am (sf d (d (37 + a)) i) (d 1) = some j ∧ j < d 1 ∧ d (37 + j) = d (37 + a) ∧ sp d j i = some l ∧ lst (sf d (d (37 + a)) i) (d 1) = some l ∧ l ≤ v ∧ i ≤ nown d j := by
  have hf : sf d (d (37 + a)) i a = some v := by rw [sf, if_pos rfl, hv]
  have hm := am_spec (sf d (d (37 + a)) i) (d 1)
  cases hj : am (sf d (d (37 + a)) i) (d 1) with
  | none =>
    rw [hj] at hm
    rw [hm.2 a ha] at hf
    cases hf
  | some j =>
    rw [hj] at hm
    obtain ⟨h1, l, h2, h3, h4, -⟩ := hm
    by_cases e : d (37 + j) = d (37 + a)
    · refine ⟨j, l, rfl, h1, e, ?_, h3, h4 a v ha hf, ?_⟩
      · rw [sf, if_pos e] at h2
        exact h2
      · unfold nown at hi ⊢
        rw [e]
        exact hi
    · rw [sf, if_neg e] at h2
      cases h2
theorem X_placeOnLeg (h : XR d σ) (hw : WF d) (ha : a < d 1) (hi : i ≤ nown d a) {v : Nat} (hv : lg d a i = some v) : f_X2_placeOnLeg (10 + a) (nI i) σ = some (nI (1 + cnt (plc (lf d (d (37 + a)) i) v) (d 1)), σ) := by
  have hr := hw.2.1
  have hvb := lg_b hw ha hi hv
  have := loop0 (F := fun f (x : Int32) b σ => f_X2_placeOnLeg_5 (10 + a) (nI i) f x (nI b) σ) (N := d 1) (I := fun b x τ => x = nI (1 + cnt (plc (lf d (d (37 + a)) i) v) b) ∧ τ = σ) (Q := fun r => r = (nI (1 + cnt (plc (lf d (d (37 + a)) i) v) (d 1)), σ)) (by omega)
    (fun f b x τ hb hI kk => by
      obtain ⟨rfl, rfl⟩ := hI
      have b0 := hw.b (37 + a)
      simp only [f_X2_placeOnLeg_5]
      rw [h.2.1, (h.2.2.2.2.2 a ha).1]
      refine Wp.f (nI_ge hb (by omega)) ?_
      refine Wp.eq (X_isOf h hw hb (by omega)) ?_
      by_cases e : d (37 + b) = d (37 + a)
      · rw [if_pos e]
        refine Wp.f o1n0 ?_
        refine Wp.eq (X_runnerAt (by omega)) ?_
        have hi' : i ≤ nown d b := by unfold nown at hi ⊢; rw [e]; exact hi
        refine Wp.eq (X_legTime h hw hb hi') ?_
        unfold f_X2_placeOnLeg_50
        dsimp only
        rw [nI_1 b]
        cases hu : lg d b i with
        | none =>
          refine Wp.t rfl ?_
          exact kk _ _ ⟨by rw [add0, cnt_f (by simp [plc, lf, e, hu])], rfl⟩
        | some u =>
          have hub := lg_b hw hb hi' hu
          refine Wp.f (nI_nm1 (show u < 2147483648 by omega)) ?_
          refine Wp.eq (X_legTime h hw ha hi) ?_
          rw [hv]
          by_cases g : u < v
          · refine Wp.f (nI_ge g (by omega)) ?_
            exact kk _ _ ⟨by rw [nI_1, cnt_t (by simp [plc, lf, e, hu, g]), Nat.add_assoc], rfl⟩
          · refine Wp.t (nI_le (by omega) (by omega)) ?_
            exact kk _ _ ⟨by rw [add0, cnt_f (by simp [plc, lf, e, hu]; omega)], rfl⟩
      · rw [if_neg e]
        refine Wp.t rfl ?_
        unfold f_X2_placeOnLeg_50
        rw [nI_1 b]
        refine Wp.t rfl ?_
        exact kk _ _ ⟨by rw [add0, cnt_f (by simp [plc, lf, e])], rfl⟩)
    (fun f x τ hI => by
      obtain ⟨rfl, rfl⟩ := hI
      simp only [f_X2_placeOnLeg_5]
      rw [h.2.1]
      exact Wp.t (nI_le (Nat.le_refl _) (by omega)) (Wp.ret rfl)) (x := 1) (σ := σ) ⟨i1, rfl⟩
  obtain ⟨r, hr1, rfl⟩ := this
  exact hr1
theorem M_placeOnLeg (hM : MR d σ) (hw : WF d) (hs : Ms σ σ') (ha : a < d 1) (hi : i ≤ nown d a) {v : Nat} (hv : lg d a i = some v) : Wp (f_X12_placeAt (nI a) (nI i) 1 σ') (fun r => r.1 = nI (1 + cnt (plc (lf d (d (37 + a)) i) v) (d 1)) ∧ Ms σ r.2) := by
  have hr := hw.2.1
  have hvb := lg_b hw ha hi hv
  unfold f_X12_placeAt
  refine Wp.f o1n0 ?_
  refine Wp.bind (M_legOf hM hw hs ha hi) (fun q hq => ?_)
  rw [hq.1, hv]
  refine loop0 (F := fun f (x : Int32) b σ => f_X12_placeAt_27 (nI a) (nI i) 1 (nI v) f x (nI b) σ) (N := d 1) (I := fun b x τ => x = nI (1 + cnt (plc (lf d (d (37 + a)) i) v) b) ∧ Ms σ τ) (by omega) (fun f b x τ hb hI kk => ?_) (fun f x τ hI => ?_) (x := 1) (σ := q.2) ⟨i1, hq.2⟩
  · obtain ⟨rfl, hs⟩ := hI
    have b0 := hw.b (37 + a)
    have b1 := hw.b (37 + b)
    show Wp (f_X12_placeAt_27 (nI a) (nI i) 1 (nI v) (f + 1) _ (nI b) τ) _
    rw [f_X12_placeAt_27]
    refine Wp.eq (M_rd (j := 1) (hM.of hs) i1 (by decide)) ?_
    refine Wp.f (nI_ge hb (by omega)) ?_
    refine Wp.eq (M_rd (j := 37 + b) (hM.of hs) (by rw [i37, nI_add]) (by omega)) ?_
    refine Wp.eq (M_rd (j := 37 + a) (hM.of hs) (by rw [i37, nI_add]) (by omega)) ?_
    by_cases e : d (37 + b) = d (37 + a)
    · have hi' : i ≤ nown d b := by unfold nown at hi ⊢; rw [e]; exact hi
      refine Wp.t (by rw [e]) ?_
      refine Wp.f o1n0 ?_
      refine Wp.bind (M_legOf hM hw hs hb hi') (fun p hp => ?_)
      unfold f_X12_placeAt_86
      rw [hp.1, nI_1 b]
      cases hu : lg d b i with
      | none =>
        refine Wp.t rfl ?_
        exact kk _ _ ⟨by rw [add0, cnt_f (by simp [plc, lf, e, hu])], hp.2⟩
      | some u =>
        have hub := lg_b hw hb hi' hu
        refine Wp.f (nI_nm2 (show u < 2147483648 by omega)) ?_
        by_cases g : u < v
        · refine Wp.f (nI_ge g (by omega)) ?_
          exact kk _ _ ⟨by rw [nI_1, cnt_t (by simp [plc, lf, e, hu, g]), Nat.add_assoc], hp.2⟩
        · refine Wp.t (nI_le (by omega) (by omega)) ?_
          exact kk _ _ ⟨by rw [add0, cnt_f (by simp [plc, lf, e, hu]; omega)], hp.2⟩
    · refine Wp.f (nI_ne (by omega) (by omega) e) ?_
      unfold f_X12_placeAt_86
      rw [nI_1 b]
      refine Wp.t rfl ?_
      exact kk _ _ ⟨by rw [add0, cnt_f (by simp [plc, lf, e])], hs⟩
  · obtain ⟨rfl, hs⟩ := hI
    simp only [f_X12_placeAt_27]
    refine Wp.eq (M_rd (j := 1) (hM.of hs) i1 (by decide)) ?_
    exact Wp.t (nI_le (Nat.le_refl _) (by omega)) (Wp.ret ⟨rfl, hs⟩)
/-- where he has one, the course has a least -/
theorem lf_has (hw : WF d) (ha : a < d 1) (hi : i ≤ nown d a) {v : Nat} (hv : lg d a i = some v) : ∃ j l, am (lf d (d (37 + a)) i) (d 1) = some j ∧ j < d 1 ∧ d (37 + j) = d (37 + a) ∧ lg d j i = some l ∧ lst (lf d (d (37 + a)) i) (d 1) = some l ∧ l ≤ v ∧ i ≤ nown d j := by
  have hf : lf d (d (37 + a)) i a = some v := by rw [lf, if_pos rfl, hv]
  have hm := am_spec (lf d (d (37 + a)) i) (d 1)
  cases hj : am (lf d (d (37 + a)) i) (d 1) with
  | none =>
    rw [hj] at hm
    rw [hm.2 a ha] at hf
    cases hf
  | some j =>
    rw [hj] at hm
    obtain ⟨h1, l, h2, h3, h4, -⟩ := hm
    by_cases e : d (37 + j) = d (37 + a)
    · refine ⟨j, l, rfl, h1, e, ?_, h3, h4 a v ha hf, ?_⟩
      · rw [lf, if_pos e] at h2
        exact h2
      · unfold nown at hi ⊢
        rw [e]
        exact hi
    · rw [lf, if_neg e] at h2
      cases h2
end Q4
