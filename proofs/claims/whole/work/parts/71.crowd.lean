/-! crowd -/
section QA4
variable {d : Nat → Nat} {σ σ' : gSt} {a c i t : Nat}
/-- b is in the forest at t -/
def crw (d : Nat → Nat) (t b : Nat) : Bool := decide (d (47 + b) ≤ t) && decide (t < d (57 + b))
theorem X_inForest (h : XR d σ) (hw : WF d) (ht : t < 10000) : f_X4_inForest 1 (nI t) σ = some (nI (cnt (crw d t) (d 1)), σ) := by
  have hr := hw.2.1
  have := loop0 (F := fun f (x : Int32) b σ => f_X4_inForest_4 1 (nI t) f x (nI b) σ) (N := d 1) (I := fun b x τ => x = nI (cnt (crw d t) b) ∧ τ = σ) (Q := fun r => r = (nI (cnt (crw d t) (d 1)), σ)) (by omega)
    (fun f b x τ hb hI kk => by
      obtain ⟨rfl, rfl⟩ := hI
      have b1 := hw.b (47 + b)
      have b2 := hw.b (57 + b)
      simp only [f_X4_inForest_4]
      rw [h.2.1]
      refine Wp.f (nI_ge hb (by omega)) ?_
      refine Wp.eq (X_runnerAt (by omega)) ?_
      rw [nI_1 b]
      by_cases g : d (47 + b) ≤ t
      · refine Wp.f (by
          show ¬ nI t < τ 10 (10 + b) 6
          rw [(h.2.2.2.2.2 b hb).2.1]
          exact nI_nlt g (by omega)) ?_
        refine Wp.eq (X_runnerAt (by omega)) ?_
        by_cases g2 : t < d (57 + b)
        · refine Wp.f (by
            show ¬ τ 10 (10 + b) 7 ≤ nI t
            rw [(h.2.2.2.2.2 b hb).2.2.1]
            exact nI_ge g2 (by omega)) ?_
          exact kk _ _ ⟨by rw [nI_1, cnt_t (by simp [crw, g, g2])], rfl⟩
        · refine Wp.t (by
            show τ 10 (10 + b) 7 ≤ nI t
            rw [(h.2.2.2.2.2 b hb).2.2.1]
            exact nI_le (by omega) (by omega)) ?_
          exact kk _ _ ⟨by rw [add0, cnt_f (by simp [crw, g2])], rfl⟩
      · refine Wp.t (by
          show nI t < τ 10 (10 + b) 6
          rw [(h.2.2.2.2.2 b hb).2.1]
          exact nI_lt (by omega) (by omega)) ?_
        exact kk _ _ ⟨by rw [add0, cnt_f (by simp [crw, g])], rfl⟩)
    (fun f x τ hI => by
      obtain ⟨rfl, rfl⟩ := hI
      simp only [f_X4_inForest_4]
      rw [h.2.1]
      exact Wp.t (nI_le (Nat.le_refl _) (by omega)) (Wp.ret rfl)) (x := 0) (σ := σ) ⟨rfl, rfl⟩
  obtain ⟨r, hr1, rfl⟩ := this
  exact hr1
theorem M_crowdAt (hM : MR d σ) (hw : WF d) (ht : t < 10000) : f_X12_crowdAt (nI t) σ = some (nI (cnt (crw d t) (d 1)), σ) := by
  have hr := hw.2.1
  have := loop0 (F := fun f (x : Int32) b σ => f_X12_crowdAt_4 (nI t) f x (nI b) σ) (N := d 1) (I := fun b x τ => x = nI (cnt (crw d t) b) ∧ τ = σ) (Q := fun r => r = (nI (cnt (crw d t) (d 1)), σ)) (by omega)
    (fun f b x τ hb hI kk => by
      obtain ⟨rfl, rfl⟩ := hI
      have b1 := hw.b (47 + b)
      have b2 := hw.b (57 + b)
      simp only [f_X12_crowdAt_4]
      refine Wp.eq (M_rd (j := 1) hM i1 (by decide)) ?_
      refine Wp.f (nI_ge hb (by omega)) ?_
      refine Wp.eq (M_rd (j := 47 + b) hM (by rw [i47, nI_add]) (by omega)) ?_
      rw [nI_1 b]
      by_cases g : d (47 + b) ≤ t
      · refine Wp.f (nI_nlt g (by omega)) ?_
        refine Wp.eq (M_rd (j := 57 + b) hM (by rw [i57, nI_add]) (by omega)) ?_
        by_cases g2 : t < d (57 + b)
        · refine Wp.f (nI_ge g2 (by omega)) ?_
          exact kk _ _ ⟨by rw [nI_1, cnt_t (by simp [crw, g, g2])], rfl⟩
        · refine Wp.t (nI_le (by omega) (by omega)) ?_
          exact kk _ _ ⟨by rw [add0, cnt_f (by simp [crw, g2])], rfl⟩
      · refine Wp.t (nI_lt (by omega) (by omega)) ?_
        exact kk _ _ ⟨by rw [add0, cnt_f (by simp [crw, g])], rfl⟩)
    (fun f x τ hI => by
      obtain ⟨rfl, rfl⟩ := hI
      simp only [f_X12_crowdAt_4]
      refine Wp.eq (M_rd (j := 1) hM i1 (by decide)) ?_
      exact Wp.t (nI_le (Nat.le_refl _) (by omega)) (Wp.ret rfl)) (x := 0) (σ := σ) ⟨rfl, rfl⟩
  obtain ⟨r, hr1, rfl⟩ := this
  exact hr1
end QA4
