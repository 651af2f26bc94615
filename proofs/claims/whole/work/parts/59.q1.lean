/-! the first questions -/
section Q1
variable {d : Nat → Nat} {σ σ' : gSt} {a c i : Nat}
theorem inv_same (hI : Inv σ) (k1 : ∀ k i s, k ≠ 7 → (k < 17 ∨ 25 < k) → (k < 34 ∨ 39 < k) → (k = 28 → s ≠ 0 ∧ s ≠ 23 ∧ s ≠ 24 ∧ s ≠ 27 ∧ s ≠ 28 ∧ s ≠ 29) → σ' k i s = σ k i s) : Inv σ' := by
  obtain ⟨d, h1, h2, h3, h4, h5, h6, h7, h8⟩ := hI
  refine ⟨d, h1, fun j hj => (k1 30 0 j (by omega) (by omega) (by omega) (by omega)).trans (h2 j hj), h3.same (fun k i s hk => k1 k i s (by omega) (by omega) (by omega) (by omega)), h4.same (fun k i s hk => k1 k i s (by omega) (by omega) (by omega) (by omega)) (k1 28 0 30 (by omega) (by omega) (by omega) (by omega)), h5.same (fun k i s hk => k1 k i s (by omega) (by omega) (by omega) (by omega)), h6.same (fun k i s hk => k1 k i s (by omega) (by omega) (by omega) (by omega)) (k1 28 0 5 (by omega) (by omega) (by omega) (by omega)), ⟨?_, ?_, ?_⟩, (k1 28 0 6 (by omega) (by omega) (by omega) (by omega)).trans h8⟩
  · rw [k1 0 0 9 (by omega) (by omega) (by omega) (by omega), k1 28 0 1 (by omega) (by omega) (by omega) (by omega)]; exact h7.1
  · rw [k1 0 0 11 (by omega) (by omega) (by omega) (by omega), k1 28 0 2 (by omega) (by omega) (by omega) (by omega)]; exact h7.2.1
  · rw [k1 0 0 10 (by omega) (by omega) (by omega) (by omega), k1 28 0 1 (by omega) (by omega) (by omega) (by omega), k1 28 0 3 (by omega) (by omega) (by omega) (by omega)]; exact h7.2.2
theorem inv_thrown {v : Int32} (hI : Inv σ) : Inv (gup σ 28 0 0 v) := inv_same hI (fun k i s h1 h2 h3 h4 => by
  by_cases hk : k = 28
  · subst hk
    have := (h4 rfl).1
    simp [gup, this]
  · rw [gup_kind hk])
theorem thr_get {v : Int32} {s : Nat} (h : s ≠ 0) : gup σ 28 0 0 v 28 0 s = σ 28 0 s := by simp [gup, h]
theorem S_fault : SS0 Inv f_X11_fault f_X12_fault := by
  intro σ hI
  refine ⟨(σ 0 0 11, σ), (σ 28 0 2, gup σ 28 0 0 0), rfl, ?_, ?_, inv_thrown hI⟩
  · unfold f_X12_fault
    rw [thr_get (by decide)]
  · obtain ⟨d, -, -, -, -, -, -, h7, -⟩ := hI
    exact h7.2.1
theorem S_where : SS0 Inv f_X11_where f_X12_where := by
  intro σ hI
  refine ⟨(σ 0 0 10, σ), ((if σ 28 0 1 = 4 then σ 28 0 3 else -1), gup σ 28 0 0 0), rfl, ?_, ?_, inv_thrown hI⟩
  · unfold f_X12_where
    rw [thr_get (by decide), thr_get (by decide)]
    dsimp only
    by_cases h : σ 28 0 1 = 4
    · rw [if_pos h, if_pos h]
    · rw [if_neg h, if_neg h]
  · obtain ⟨d, -, -, -, -, -, -, h7, -⟩ := hI
    exact h7.2.2
theorem S_size : SS0 Inv f_X11_size f_X12_size := by
  intro σ hI
  refine ⟨(σ 1 0 1, σ), (σ 28 0 5, gup σ 28 0 0 0), rfl, ?_, ?_, inv_thrown hI⟩
  · unfold f_X12_size
    rw [thr_get (by decide)]
  · obtain ⟨d, -, -, -, -, -, ⟨t, B, -, -, h3, h4, -⟩, -, -⟩ := hI
    exact h3.trans h4.symm
theorem S_trouble : SS0 Inv f_X11_trouble f_X12_trouble := by
  intro σ hI
  refine ⟨(σ 0 0 9, σ), (σ 28 0 1, gup σ 28 0 0 0), rfl, ?_, ?_, inv_thrown hI⟩
  · unfold f_X12_trouble
    rw [thr_get (by decide)]
  · obtain ⟨d, -, -, -, -, -, -, h7, -⟩ := hI
    exact h7.1
theorem X_has (h : XR d σ) (hw : WF d) (hc : c < d 0) (x : Int32) : f_X1_has (3 + c) x σ = some (bG x (d (4 + c)), σ) := by
  have hl := hw.len hc
  unfold f_X1_has
  rw [(h.2.2.2.2.1 c hc).1]
  rcases x_cases x with q | ⟨j, q1, rfl⟩
  · rw [if_pos q, bG_f (gin_f q)]
  · rw [if_neg (nI_pos q1)]
    by_cases hj : j < d (4 + c)
    · rw [if_neg (nI_ge hj (by omega)), i10, if_neg (nI_ge (by omega) (by omega)), bG_t ((gin_nI_iff q1).mpr hj)]
    · rw [if_pos (nI_le (by omega) (by omega)), bG_f (fun z => hj ((gin_nI_iff q1).mp z))]
theorem X_hasControl_f (h : XR d σ) (hw : WF d) {x y : Int32} (hx : ¬ gin x (d 0) = true) : f_X4_hasControl 1 x y σ = some (0, σ) := by
  unfold f_X4_hasControl
  rw [X_hasCourse h hw, bG_f hx, bind_some', if_pos rfl]
theorem X_hasControl_t (h : XR d σ) (hw : WF d) (hc : c < d 0) (y : Int32) : f_X4_hasControl 1 (nI c) y σ = some (bG y (d (4 + c)), σ) := by
  have h3 := hw.1
  unfold f_X4_hasControl
  rw [X_hasCourse h hw, bG_t ((gin_nI_iff (by omega)).mpr hc), bind_some', if_neg o1n0, X_courseAt (by omega), bind_some', X_has h hw hc, bind_some']
  by_cases hy : gin y (d (4 + c)) = true
  · rw [bG_t hy, if_neg o1n0]
  · rw [bG_f hy, if_pos rfl]
theorem M_isControl_f (hM : MR d σ) (hw : WF d) {x y : Int32} (hx : ¬ gin x (d 0) = true) : f_X12_isControl x y σ = some (0, σ) := by
  unfold f_X12_isControl
  rw [M_isCourse hM hw, bG_f hx, bind_some', if_pos rfl]
theorem M_isControl_t (hM : MR d σ) (hw : WF d) (hc : c < d 0) (y : Int32) : f_X12_isControl (nI c) y σ = some (bG y (d (4 + c)), σ) := by
  have h3 := hw.1
  have b := hw.b (4 + c)
  unfold f_X12_isControl
  rw [M_isCourse hM hw, bG_t ((gin_nI_iff (by omega)).mpr hc), bind_some', if_neg o1n0, M_rd (j := 4 + c) hM (by rw [i4, nI_add]) (by omega), bind_some', M_in1 (by omega), bind_some']
  by_cases hy : gin y (d (4 + c)) = true
  · rw [bG_t hy, if_neg o1n0]
  · rw [bG_f hy, if_pos rfl]
theorem un_1 : f_X12_unless 1 σ = some (0, σ) := by unfold f_X12_unless; rw [if_neg o1n0]
theorem un_0 : f_X12_unless 0 σ = some (1, σ) := by unfold f_X12_unless; rw [if_pos rfl]
theorem ref_0 : f_X12_isRefused 0 σ = some (0, mR σ 0) := by rw [M_isRefused, if_pos rfl]
theorem ref_1 : f_X12_isRefused 1 σ = some (1, mR σ 1) := by rw [M_isRefused, if_neg o1n0]
theorem S_code : SS2 Inv f_X11_code f_X12_code := by
  intro x y
  refine ss0_of (fun σ d hI hw hM hX hT => ?_)
  have h3 := hw.1
  have no : f_X4_hasControl 1 x y σ = some (0, σ) → (∀ σ2, MR d σ2 → f_X12_isControl x y σ2 = some (0, σ2)) → ∃ (v e : Int32) (σ1 : gSt), ¬ e = 4 ∧ f_X11_code x y σ = some (v, σ1) ∧ Xq σ σ1 e ∧ (∀ σ2, MR d σ2 → σ2 28 0 6 = (if d 0 = 0 then 0 else 1) → (∀ k i s, 26 ≤ k → σ2 k i s = σ k i s) → Wp (f_X12_code x y σ2) (fun r => r.1 = v ∧ Mq σ2 r.2 e)) := by
    intro g1 g2
    refine ⟨-1, 1, xA σ 1, by decide, ?_, xA_q Xs.rf, fun σ2 hM2 _ _ => ?_⟩
    · unfold f_X11_code
      rw [g1, bind_some', if_pos rfl, X_refused]
      rfl
    · unfold f_X12_code
      refine Wp.eq (g2 σ2 hM2) ?_
      refine Wp.eq un_0 ?_
      refine Wp.eq ref_1 ?_
      refine Wp.f o1n0 ?_
      exact Wp.ret ⟨rfl, mR_q⟩
  by_cases hx : gin x (d 0) = true
  · obtain ⟨hxe, hc⟩ := gin_nI hx
    generalize x.toNatClampNeg = c at hxe hc
    subst hxe
    by_cases hy : gin y (d (4 + c)) = true
    · have hl := hw.len hc
      obtain ⟨hye, hi⟩ := gin_nI hy
      generalize y.toNatClampNeg = i at hye hi
      subst hye
      refine ⟨nI (d (7 + 10 * c + i)), 0, xA σ 0, by decide, ?_, xA_q Xs.rf, fun σ2 hM2 _ _ => ?_⟩
      · unfold f_X11_code
        rw [X_hasControl_t hX hw hc, bG_t hy, bind_some', if_neg o1n0, X_courseAt (by omega), bind_some', X_codeAt (hX.2.2.2.2.1 c hc) hl.2 hi, bind_some', X_answered]
        rfl
      · unfold f_X12_code
        refine Wp.eq (M_isControl_t hM2 hw hc _) ?_
        rw [bG_t hy]
        refine Wp.eq un_1 ?_
        refine Wp.eq ref_0 ?_
        refine Wp.t rfl ?_
        refine Wp.eq (M_codeOf hM2.mR (by omega)) ?_
        exact Wp.ret ⟨rfl, mR_q⟩
    · exact no (by rw [X_hasControl_t hX hw hc, bG_f hy]) (fun σ2 hM2 => by rw [M_isControl_t hM2 hw hc, bG_f hy])
  · exact no (X_hasControl_f hX hw hx) (fun σ2 hM2 => M_isControl_f hM2 hw hx)
end Q1
