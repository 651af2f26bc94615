/-! punch -/
section QA1
variable {d : Nat → Nat} {σ σ' : gSt} {a c i : Nat}
theorem X_hasP (h : XR d σ) (hw : WF d) (ha : a < d 1) (y : Int32) : f_X9_has (10 + a) y σ = some (bG y (d (67 + a)), σ) := by
  have hru := hw.run ha
  unfold f_X9_has
  rw [(h.2.2.2.2.2 a ha).2.2.2.1.1]
  rcases x_cases y with q | ⟨j, q1, rfl⟩
  · rw [if_pos q, bG_f (gin_f q)]
  · rw [if_neg (nI_pos q1)]
    by_cases hj : j < d (67 + a)
    · rw [if_neg (nI_ge hj (by omega)), i16, if_neg (nI_ge (by omega) (by omega)), bG_t ((gin_nI_iff q1).mpr hj)]
    · rw [if_pos (nI_le (by omega) (by omega)), bG_f (fun z => hj ((gin_nI_iff q1).mp z))]
theorem X_hasPunch_f (h : XR d σ) (hw : WF d) {x y : Int32} (hx : ¬ gin x (d 1) = true) : f_X4_hasPunch 1 x y σ = some (0, σ) := by
  unfold f_X4_hasPunch
  rw [X_hasRunner h hw, bG_f hx, bind_some', if_pos rfl]
theorem X_hasPunch_t (h : XR d σ) (hw : WF d) (ha : a < d 1) (y : Int32) : f_X4_hasPunch 1 (nI a) y σ = some (bG y (d (67 + a)), σ) := by
  have hr := hw.2.1
  unfold f_X4_hasPunch
  rw [X_hasRunner h hw, bG_t ((gin_nI_iff (by omega)).mpr ha), bind_some', if_neg o1n0, X_runnerAt (by omega), bind_some', X_hasP h hw ha, bind_some']
  by_cases hy : gin y (d (67 + a)) = true
  · rw [bG_t hy, if_neg o1n0]
  · rw [bG_f hy, if_pos rfl]
theorem M_isPunch_f (hM : MR d σ) (hw : WF d) {x y : Int32} (hx : ¬ gin x (d 1) = true) : f_X12_isPunch x y σ = some (0, σ) := by
  unfold f_X12_isPunch
  rw [M_isRunner hM hw, bG_f hx, bind_some', if_pos rfl]
theorem M_isPunch_t (hM : MR d σ) (hw : WF d) (ha : a < d 1) (y : Int32) : f_X12_isPunch (nI a) y σ = some (bG y (d (67 + a)), σ) := by
  have hr := hw.2.1
  have b := hw.b (67 + a)
  unfold f_X12_isPunch
  rw [M_isRunner hM hw, bG_t ((gin_nI_iff (by omega)).mpr ha), bind_some', if_neg o1n0, M_rd (j := 67 + a) hM (by rw [i67, nI_add]) (by omega), bind_some', M_in1 (by omega), bind_some']
  by_cases hy : gin y (d (67 + a)) = true
  · rw [bG_t hy, if_neg o1n0]
  · rw [bG_f hy, if_pos rfl]
/-- the control that punch k took -/
def pcl (d : Nat → Nat) (a k : Nat) : Option Nat := nx (fun i => decide (Mo d a i = some k)) (nown d a) 0
theorem X_controlOf (h : XR d σ) (hw : WF d) (ha : a < d 1) {k : Nat} (hk : k < d (67 + a)) : f_X9_controlOf (10 + a) (nI k) σ = some (xo (pcl d a k), σ) := by
  have hru := hw.run ha
  obtain ⟨-, -, -, hP, hK⟩ := h.2.2.2.2.2 a ha
  unfold f_X9_controlOf
  rw [hP.1, if_neg (nI_pos (by omega)), if_neg (nI_ge hk (by omega)), i16, if_neg (nI_ge (by omega) (by omega)), gld_n (by omega) (by decide), bind_some']
  have h4 := hK.2.2.2 k (by omega)
  cases hp : pcl d a k with
  | none =>
    have := nx_none hp
    rw [h4.2 (fun i' hi' e => by
      have := this i' (Nat.zero_le _) (by omega)
      rw [show Mo d a i' = some k from e] at this
      simp at this)]
    rfl
  | some i =>
    obtain ⟨g1, g2, g3, -⟩ := nx_some hp
    rw [h4.1 i (by omega) (of_decide_eq_true g3)]
    rfl
theorem M_punch69 (hM : MR d σ) (hw : WF d) (hs : Ms σ σ') (ha : a < d 1) {k : Nat} (hk : k < d (67 + a)) (ht : ∀ i, i < nown d a → σ' 35 0 i = enc (Mo d a i)) : Wp (f_X12_punch_69 (nI a) (nI k) gFuel 0 σ') (fun r => r.1 = mo (pcl d a k) ∧ Ms σ r.2) := by
  have ho := hw.own ha
  have hr := hw.2.1
  have h3 := hw.1
  have hru := hw.run ha
  have hon : nown d a = d (4 + d (37 + a)) := rfl
  rw [i0]
  refine loop0 (F := fun f (_ : Unit) i σ => f_X12_punch_69 (nI a) (nI k) f (nI i) σ) (N := nown d a) (I := fun i _ τ => pcl d a k = nx (fun i => decide (Mo d a i = some k)) (nown d a - i) i ∧ τ = σ') (by omega)
    (fun f i x τ hi hI kk => ?_) (fun f x τ hI => ?_) (x := ()) (σ := σ') ⟨rfl, rfl⟩
  · obtain ⟨he, rfl⟩ := hI
    simp only [f_X12_punch_69]
    refine Wp.eq (M_rd (j := 37 + a) (hM.of hs) (by rw [i37, nI_add]) (by omega)) ?_
    refine Wp.eq (M_rd (j := 4 + d (37 + a)) (hM.of hs) (by rw [i4, nI_add]) (by omega)) ?_
    refine Wp.f (nI_ge (by omega) (by omega)) ?_
    refine Wp.ld i rfl (by omega) (by decide) (ht i hi) ?_
    obtain ⟨m, hm⟩ : ∃ m, nown d a - i = m + 1 := ⟨nown d a - i - 1, by omega⟩
    rw [hm, nx] at he
    by_cases e : Mo d a i = some k
    · refine Wp.t (by rw [e]; rfl) ?_
      rw [if_pos (by simpa using e)] at he
      exact Wp.ret ⟨by rw [he]; rfl, hs⟩
    · refine Wp.f ?_ ?_
      · cases hq : Mo d a i with
        | none => exact fun z => nI_nm1 (show k < 2147483648 by omega) z.symm
        | some q =>
          have := Mo_lt hq
          exact nI_ne (by omega) (by omega) (fun z => e (by rw [hq, z]))
      · rw [if_neg (by simpa using e)] at he
        rw [nI_1 i]
        exact kk () _ ⟨by rw [he, show nown d a - (i + 1) = m by omega], rfl⟩
  · obtain ⟨he, rfl⟩ := hI
    simp only [f_X12_punch_69]
    refine Wp.eq (M_rd (j := 37 + a) (hM.of hs) (by rw [i37, nI_add]) (by omega)) ?_
    refine Wp.eq (M_rd (j := 4 + d (37 + a)) (hM.of hs) (by rw [i4, nI_add]) (by omega)) ?_
    refine Wp.t (nI_le (by omega) (by omega)) ?_
    rw [Nat.sub_self, nx] at he
    exact Wp.ret ⟨by rw [he]; rfl, hs⟩
def puQ (d : Nat → Nat) (a k : Nat) : Nat → Int32
  | 0 => nI (d (77 + 16 * a + k))
  | 1 => nI (d (237 + 16 * a + k))
  | _ => mo (pcl d a k)
theorem S_punch : SS3 Inv f_X11_punch f_X12_punch := by
  intro x y z
  refine QA.ss (fun σ d hI hw hM hX => ?_)
  have hr := hw.2.1
  have no : f_X4_hasPunch 1 x y σ = some (0, σ) → (∀ σ2, MR d σ2 → f_X12_isPunch x y σ2 = some (0, σ2)) → QA d σ (f_X11_punch x y z) (f_X12_punch x y z) := fun g1 g2 => by
    refine QA.no 1 (by decide) ?_ (fun σ2 hM2 => ?_)
    · unfold f_X11_punch
      rw [g1, bind_some', if_pos rfl, X_refused]
      rfl
    · unfold f_X12_punch f_X12_punch_23 f_X12_punch_24
      rw [g2 σ2 hM2, bind_some', if_pos rfl, un_0, bind_some', ref_1, bind_some', if_neg o1n0]
  by_cases hx : gin x (d 1) = true
  · obtain ⟨hxe, ha⟩ := gin_nI hx
    generalize x.toNatClampNeg = a at hxe ha
    subst hxe
    by_cases hy : gin y (d (67 + a)) = true
    · have hru := hw.run ha
      have ho := hw.own ha
      obtain ⟨hye, hk⟩ := gin_nI hy
      generalize y.toNatClampNeg = k at hye hk
      subst hye
      have hP := (hX.2.2.2.2.2 a ha).2.2.2.1
      by_cases hz : gin z (2 + 1) = true
      · obtain ⟨hze, hj⟩ := gin_nI hz
        generalize z.toNatClampNeg = j at hze hj
        subst hze
        refine QA.yes (puQ d a k j) ?_ (fun σ2 hM2 hM3 => ?_)
        · unfold f_X11_punch
          refine Wp.eq (X_hasPunch_t hX hw ha _) ?_
          rw [bG_t hy]
          refine Wp.f o1n0 ?_
          refine Wp.f (nI_pos (by omega)) ?_
          refine Wp.t (by rw [i2]; exact nI_le (by omega) (by omega)) ?_
          refine Wp.eq (X_runnerAt (by omega)) ?_
          obtain rfl | rfl | rfl : j = 0 ∨ j = 1 ∨ j = 2 := by omega
          · refine Wp.t (by decide) ?_
            refine Wp.eq (X_codeOf hP hru.2.2 hk) ?_
            exact Wp.ret ⟨rfl, _, Xs.rf, rfl⟩
          · refine Wp.f (by decide) (Wp.t (by decide) ?_)
            refine Wp.eq (X_timeOf hP hru.2.2 hk) ?_
            exact Wp.ret ⟨rfl, _, Xs.rf, rfl⟩
          · refine Wp.f (by decide) (Wp.f (by decide) ?_)
            refine Wp.eq (X_controlOf hX hw ha hk) ?_
            cases hp : pcl d a k with
            | none =>
              refine Wp.t rfl ?_
              exact Wp.ret ⟨by rw [puQ, hp] <;> simp [mo], _, Xs.rf, rfl⟩
            | some i =>
              have := (nx_some hp).2.1
              refine Wp.f (nI_nm1 (show i < 2147483648 by omega)) ?_
              refine Wp.eq (X_controlOf hX hw ha hk) ?_
              rw [hp]
              exact Wp.ret ⟨by rw [puQ, hp] <;> simp [mo, xo], _, Xs.rf, rfl⟩
        · unfold f_X12_punch f_X12_punch_24
          refine Wp.eq (M_isPunch_t hM3 hw ha _) ?_
          rw [bG_t hy]
          refine Wp.f o1n0 ?_
          rw [i2]
          refine Wp.eq (M_in0 (by decide) _) ?_
          rw [bG_t hz]
          refine Wp.f o1n0 ?_
          refine Wp.eq un_1 ?_
          refine Wp.eq ref_0 ?_
          refine Wp.t rfl ?_
          obtain rfl | rfl | rfl : j = 0 ∨ j = 1 ∨ j = 2 := by omega
          · refine Wp.f (by decide) (Wp.t (by decide) ?_)
            exact Wp.eq (M_punchCode hM2 (by omega)) (Wp.ret ⟨rfl, Ms.rf⟩)
          · refine Wp.f (by decide) (Wp.f (by decide) ?_)
            exact Wp.eq (M_punchTime hM2 (by omega)) (Wp.ret ⟨rfl, Ms.rf⟩)
          · refine Wp.t (by decide) ?_
            exact Wp.bind (M_missedBy hM2 hw Ms.rf ha) (fun q hq => Wp.mono (M_punch69 hM2 hw hq.2.1 ha hk hq.2.2) (fun r hr => ⟨hr.1, hr.2⟩))
      · refine QA.no 1 (by decide) ?_ (fun σ2 hM2 => ?_)
        · unfold f_X11_punch
          rw [X_hasPunch_t hX hw ha, bG_t hy, bind_some', if_neg o1n0]
          rcases sel_f (by decide) hz with q | ⟨q1, q2⟩
          · rw [if_pos q, X_refused]; rfl
          · rw [if_neg q1, if_neg (by rw [i2]; exact q2), X_refused]; rfl
        · unfold f_X12_punch f_X12_punch_23 f_X12_punch_24
          rw [M_isPunch_t hM2 hw ha, bG_t hy, bind_some', if_neg o1n0, i2, M_in0 (by decide), bG_f hz, bind_some', if_pos rfl, un_0, bind_some', ref_1, bind_some', if_neg o1n0]
    · exact no (by rw [X_hasPunch_t hX hw ha, bG_f hy]) (fun σ2 hM2 => by rw [M_isPunch_t hM2 hw ha, bG_f hy])
  · exact no (X_hasPunch_f hX hw hx) (fun σ2 hM2 => M_isPunch_f hM2 hw hx)
end QA1
