/-! what the reference reads -/
section MRD
variable {d : Nat → Nat} {σ σ' : gSt} {a c i : Nat}
theorem M_in0 {n : Nat} (hn : n < 2147483648) (x : Int32) : f_X12_in x 0 (nI n) σ = some (bG x (n + 1), σ) := by
  unfold f_X12_in
  rcases x_cases x with q | ⟨j, q1, rfl⟩
  · rw [if_pos q, bG_f (gin_f q)]
  · rw [if_neg (nI_pos q1)]
    by_cases hj : j < n + 1
    · rw [if_neg (nI_nlt (by omega) (by omega)), bG_t ((gin_nI_iff q1).mpr hj)]
    · rw [if_pos (nI_lt (by omega) (by omega)), bG_f (fun z => hj ((gin_nI_iff q1).mp z))]
theorem M_in1 {n : Nat} (hn : n < 2147483648) (x : Int32) : f_X12_in x 0 (nI n - 1) σ = some (bG x n, σ) := by
  cases n with
  | zero =>
    unfold f_X12_in
    have e : nI 0 - 1 = -1 := by decide
    rw [e]
    rcases x_cases x with q | ⟨j, q1, rfl⟩
    · rw [if_pos q, bG_f (gin_f q)]
    · rw [if_neg (nI_pos q1), if_pos, bG_f (fun z => absurd ((gin_nI_iff q1).mp z) (by omega))]
      rw [Int32.lt_iff_toInt_lt, nI_toInt (by omega), show ((-1 : Int32)).toInt = -1 by decide]
      omega
  | succ n => rw [nI_pred]; exact M_in0 (by omega) x
theorem bG_01 (x : Int32) (n : Nat) : bG x n = 0 ∨ bG x n = 1 := by unfold bG; split <;> simp
theorem gzr_b {x : Int32} (h : x = 0 ∨ x = 1) : gzr x σ = some (x, σ) := by unfold gzr; rw [if_pos h]
theorem M_isCourse (hM : MR d σ) (hw : WF d) (x : Int32) : f_X12_isCourse x σ = some (bG x (d 0), σ) := by
  have b := hw.b 0
  unfold f_X12_isCourse
  rw [i0, gld_n (by decide) (by decide), hM 0 (by decide), bind_some', ← i0, M_in1 (by omega), bind_some', gzr_b (bG_01 _ _)]
theorem M_isRunner (hM : MR d σ) (hw : WF d) (x : Int32) : f_X12_isRunner x σ = some (bG x (d 1), σ) := by
  have b := hw.b 1
  unfold f_X12_isRunner
  have e : gld σ 30 0 397 1 = some (nI (d 1)) := by rw [i1, gld_n (by decide) (by decide), hM 1 (by decide)]
  rw [e, bind_some', M_in1 (by omega), bind_some', gzr_b (bG_01 _ _)]
theorem M_rd {j : Nat} (hM : MR d σ) {x : Int32} (hx : x = nI j) (hj : j < 397) : gld σ 30 0 397 x = some (nI (d j)) := by
  subst hx; rw [gld_n hj (by decide), hM j hj]
theorem M_totalOf (hM : MR d σ) (hw : WF d) (ha : a < d 1) : f_X12_totalOf (nI a) σ = some (nI (tot d a), σ) := by
  have hr := hw.2.1
  unfold f_X12_totalOf
  rw [M_rd (j := 57 + a) hM (by rw [i57, nI_add]) (by omega), bind_some', M_rd (j := 47 + a) hM (by rw [i47, nI_add]) (by omega), bind_some', nI_sub (Nat.le_of_lt (hw.run ha).2.1)]
  rfl
theorem M_missedBy (hM : MR d σ) (hw : WF d) (hs : Ms σ σ') (ha : a < d 1) : Wp (f_X12_missedBy (nI a) σ') (fun r => r.1 = nI (mso d a) ∧ Ms σ r.2 ∧ ∀ i, i < nown d a → r.2 35 0 i = enc (Mo d a i)) := by
  have hr := hw.2.1
  have h3 := hw.1
  have hru := hw.run ha
  have ho := hw.own ha
  unfold f_X12_missedBy
  refine Wp.eq (M_rd (j := 37 + a) (hM.of hs) (by rw [i37, nI_add]) (by omega)) ?_
  refine Wp.bind (M_matches hM hs (hw.b) (show a < 10 by omega) (show d (37 + a) < 3 by omega) ho.2 hru.2.2) (fun q h => ?_)
  exact Wp.ret ⟨h.1, h.2.1, h.2.2⟩
theorem M_isValid (hM : MR d σ) (hw : WF d) (hs : Ms σ σ') (ha : a < d 1) : Wp (f_X12_isValid (nI a) σ') (fun r => r.1 = (if mso d a = 0 then 1 else 0) ∧ Ms σ r.2) := by
  have ho := hw.own ha
  have hm : mso d a ≤ nown d a := mc_le _
  unfold f_X12_isValid
  refine Wp.bind (M_missedBy hM hw hs ha) (fun q h => ?_)
  rw [h.1]
  by_cases e : mso d a = 0
  · refine Wp.t (by rw [e]; decide) (Wp.ret ⟨by rw [if_pos e], h.2.1⟩)
  · refine Wp.f (by rw [i0]; exact nI_ne (by omega) (by omega) e) (Wp.ret ⟨by rw [if_neg e], h.2.1⟩)
theorem M_timeAt (hM : MR d σ) (hw : WF d) (hs : Ms σ σ') (ha : a < d 1) (hi : i ≤ nown d a) : Wp (f_X12_timeAt (nI a) (nI i) σ') (fun r => r.1 = xo (tA d a i) ∧ Ms σ r.2) := by
  have hr := hw.2.1
  have h3 := hw.1
  have hru := hw.run ha
  have ho := hw.own ha
  have hM' := hM.of hs
  unfold f_X12_timeAt tA
  refine Wp.eq (M_rd (j := 37 + a) hM' (by rw [i37, nI_add]) (by omega)) ?_
  refine Wp.f (nI_pos (by omega)) ?_
  refine Wp.eq (M_rd (j := 4 + d (37 + a)) hM' (by rw [i4, nI_add]) (by omega)) ?_
  by_cases e : i = nown d a
  · refine Wp.t (by rw [e]; rfl) ?_
    unfold f_X12_timeAt_26
    refine Wp.t (nI_pos' (by omega)) ?_
    refine Wp.eq (M_rd (j := 57 + a) hM' (by rw [i57, nI_add]) (by omega)) ?_
    exact Wp.ret ⟨by rw [if_pos e]; rfl, hs⟩
  · refine Wp.f (nI_ne (by omega) (show d (4 + d (37 + a)) < _ from by have := hw.b (4 + d (37 + a)); omega) e) ?_
    refine Wp.bind (M_missedBy hM hw hs ha) (fun q h => ?_)
    have hq := h.2.2 i (by omega)
    refine Wp.ld i rfl (by omega) (by decide) hq ?_
    rw [if_neg e]
    cases hmo : Mo d a i with
    | none => exact Wp.t rfl (Wp.ret ⟨rfl, h.2.1⟩)
    | some k =>
      have hk := Mo_lt hmo
      rw [hmo] at hq
      refine Wp.f (nI_nm1 (by omega)) ?_
      refine Wp.ld i rfl (by omega) (by decide) hq ?_
      refine Wp.eq (M_punchTime (hM.of h.2.1) (by omega)) ?_
      exact Wp.ret ⟨rfl, h.2.1⟩
/-- the point ahead: the start, below the first -/
theorem M_timeB (hM : MR d σ) (hw : WF d) (hs : Ms σ σ') (ha : a < d 1) (hi : i ≤ nown d a) : Wp (f_X12_timeAt (nI a) (nI i - 1) σ') (fun r => r.1 = xo (tB d a i) ∧ Ms σ r.2) := by
  have hr := hw.2.1
  have ho := hw.own ha
  have hM' := hM.of hs
  unfold tB
  by_cases e : i = 0
  · subst e
    rw [show nI 0 - 1 = -1 by decide, if_pos rfl]
    unfold f_X12_timeAt
    refine Wp.eq (M_rd (j := 37 + a) hM' (by rw [i37, nI_add]) (by omega)) ?_
    refine Wp.t m1_lt0 ?_
    unfold f_X12_timeAt_26
    refine Wp.f (by decide) ?_
    refine Wp.eq (M_rd (j := 47 + a) hM' (by rw [i47, nI_add]) (by omega)) ?_
    exact Wp.ret ⟨rfl, hs⟩
  · rw [if_neg e, i1, nI_sub (by omega)]
    exact M_timeAt hM hw hs ha (by omega)
theorem M_splitOf (hM : MR d σ) (hw : WF d) (hs : Ms σ σ') (ha : a < d 1) (hi : i ≤ nown d a) : Wp (f_X12_splitOf (nI a) (nI i) σ') (fun r => r.1 = mo (sp d a i) ∧ Ms σ r.2) := by
  have hr := hw.2.1
  have b := hw.b (57 + a)
  unfold f_X12_splitOf sp
  refine Wp.bind (M_timeAt hM hw hs ha hi) (fun q h => ?_)
  rw [h.1]
  cases e : tA d a i with
  | none => exact Wp.t rfl (Wp.ret ⟨rfl, h.2⟩)
  | some t =>
    have hb := tA_b hw ha e
    refine Wp.f (nI_nm1 (by omega)) ?_
    refine Wp.eq (M_rd (j := 47 + a) (hM.of h.2) (by rw [i47, nI_add]) (by omega)) ?_
    exact Wp.ret ⟨nI_sub hb.1, h.2⟩
theorem M_legOf (hM : MR d σ) (hw : WF d) (hs : Ms σ σ') (ha : a < d 1) (hi : i ≤ nown d a) : Wp (f_X12_legOf (nI a) (nI i) σ') (fun r => r.1 = mo (lg d a i) ∧ Ms σ r.2) := by
  have b := hw.b (57 + a)
  unfold f_X12_legOf lg
  refine Wp.bind (M_timeB hM hw hs ha hi) (fun q h => ?_)
  refine Wp.bind (M_timeAt hM hw h.2 ha hi) (fun q2 h2 => ?_)
  rw [h.1, h2.1]
  cases e1 : tB d a i with
  | none => exact Wp.t rfl (Wp.ret ⟨rfl, h2.2⟩)
  | some x =>
    have hb := tB_b hw ha e1
    refine Wp.f (nI_nm1 (by omega)) ?_
    cases e2 : tA d a i with
    | none => exact Wp.t rfl (Wp.ret ⟨rfl, h2.2⟩)
    | some t =>
      have hb2 := tA_b hw ha e2
      refine Wp.f (nI_nm1 (by omega)) ?_
      exact Wp.ret ⟨nI_sub (tBA hw ha hi e1 e2), h2.2⟩
/-- a question that is refused with e (or not: 0): the reference's store behind it -/
def mR (σ : gSt) (e : Int32) : gSt := gup (gup (gup σ 28 0 0 0) 28 0 3 (-1)) 28 0 1 e
theorem M_isRefused (e : Int32) : f_X12_isRefused e σ = some (if e = 0 then 0 else 1, mR σ e) := by
  unfold f_X12_isRefused
  by_cases h : e = 0
  · rw [if_pos h, if_pos h]; rfl
  · rw [if_neg h, if_neg h]; rfl
theorem mR_q {e : Int32} : Mq σ (mR σ e) e := ⟨fun k i s h1 h2 => by
  unfold mR
  by_cases hk : k = 28
  · subst hk
    have h3 := h2 rfl
    simp [gup, h3.1, h3.2.1, h3.2.2.1]
  · rw [gup_kind hk, gup_kind hk, gup_kind hk], by simp [mR, gup], by simp [mR, gup]⟩
theorem Mq.ms {e : Int32} {σ'' : gSt} (h : Mq σ σ' e) (hs : Ms σ' σ'') : Mq σ σ'' e := ⟨fun k i s h1 h2 => (hs k i s h1 (fun q => by have := h2 q; omega)).trans (h.1 k i s h1 h2), (hs 28 0 1 (by omega) (by omega)).trans h.2.1, (hs 28 0 3 (by omega) (by omega)).trans h.2.2⟩
theorem MR.mR {e : Int32} (h : MR d σ) : MR d (mR σ e) := fun j hj => ((mR_q (σ := σ) (e := e)).1 30 0 j (by omega) (by omega)).trans (h j hj)
theorem MR.xq {e : Int32} (h : MR d σ) (hx : Xq σ σ' e) : MR d σ' := fun j hj => (hx.1 30 0 j (by omega) (by omega) (by omega)).trans (h j hj)
/-- the class's answers -/
def xA (σ : gSt) (e : Int32) : gSt := gup (gup σ 0 0 9 e) 0 0 10 (-1)
theorem X_answered (v : Int32) : f_X11_answered v σ = some (v, xA σ 0) := rfl
theorem X_refused (e : Int32) : f_X11_refused e σ = some (-1, xA σ e) := rfl
theorem xA_q {e : Int32} (hs : Xs σ σ') : Xq σ (xA σ' e) e := ⟨fun k i s h1 h2 h3 => by
  unfold xA
  rw [← hs k i s h1 h2]
  simp only [gup]
  rw [if_neg (fun q => h3 ⟨q.1, q.2.1, Or.inr q.2.2⟩), if_neg (fun q => h3 ⟨q.1, q.2.1, Or.inl q.2.2⟩)], by simp [xA, gup], by simp [xA, gup]⟩
/-- both sides of a question: the class answers v with e, then the reference does -/
theorem ss0_of {fx fm : gSt → Option (Int32 × gSt)} (h : ∀ σ d, Inv σ → WF d → MR d σ → XR d σ → σ 28 0 6 = (if d 0 = 0 then 0 else 1) → ∃ (v e : Int32) (σ1 : gSt), ¬ e = 4 ∧ fx σ = some (v, σ1) ∧ Xq σ σ1 e ∧ (∀ σ2, MR d σ2 → σ2 28 0 6 = (if d 0 = 0 then 0 else 1) → (∀ k i s, 26 ≤ k → σ2 k i s = σ k i s) → Wp (fm σ2) (fun r => r.1 = v ∧ Mq σ2 r.2 e))) : SS0 Inv fx fm := by
  intro σ hI
  have hI0 := hI
  obtain ⟨d, h1, h2, h3, h4, h5, h6, h7, h8⟩ := hI
  obtain ⟨v, e, σ1, he, hx, hq, hm⟩ := h σ d hI0 h1 h2 h3 h8
  obtain ⟨r, hr, hv, hmq⟩ := hm σ1 (h2.xq hq) ((hq.1 28 0 6 (by omega) (by omega) (by omega)).trans h8) (fun k i s hk => hq.1 k i s (by omega) (by omega) (by omega))
  exact ⟨(v, σ1), r, hx, hr, hv.symm, inv_query he hI0 hq hmq⟩
end MRD
