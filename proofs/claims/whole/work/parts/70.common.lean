/-! common -/
section QA3
variable {d : Nat → Nat} {σ σ' : gSt} {a c e i u v : Nat}
def prq (d : Nat → Nat) (c u v i : Nat) : Bool := decide (d (7 + 10 * c + i) = u) && decide (d (7 + 10 * c + (i + 1)) = v)
def hpr (d : Nat → Nat) (c u v m : Nat) : Int32 := match nx (prq d c u v) m 0 with
  | none => 0
  | some _ => 1
theorem X_isCode (h : XR d σ) (hw : WF d) (hc : c < d 0) (hi : i < d (4 + c)) (hu : u < 10000) : f_X1_isCode (3 + c) (nI i) (nI u) σ = some (if d (7 + 10 * c + i) = u then 1 else 0, σ) := by
  have hl := hw.len hc
  have b := hw.b (7 + 10 * c + i)
  unfold f_X1_isCode
  rw [X_has h hw hc, bG_t ((gin_nI_iff (by omega)).mpr hi), bind_some', if_neg o1n0, X_codeAt (h.2.2.2.2.1 c hc) hl.2 hi, bind_some']
  by_cases e : d (7 + 10 * c + i) = u
  · rw [if_pos e]
    refine if_pos ?_
    show nI (d (7 + 10 * c + i)) = nI u
    rw [e]
  · rw [if_neg e]
    exact if_neg (nI_ne (by omega) (by omega) e)
theorem X_hasPair (h : XR d σ) (hw : WF d) (hc : c < d 0) (hu : u < 10000) (hv : v < 10000) {m : Nat} (hm : m + 1 ≤ d (4 + c)) : f_X1_hasPair (3 + c) (nI u) (nI v) (nI (m + 1)) σ = some (hpr d c u v m, σ) := by
  have hl := hw.len hc
  unfold f_X1_hasPair
  rw [i0]
  have := loop0 (F := fun f (_ : Unit) i σ => f_X1_hasPair_3 (3 + c) (nI u) (nI v) (nI (m + 1)) f (nI i) σ) (N := m) (I := fun i _ τ => nx (prq d c u v) m 0 = nx (prq d c u v) (m - i) i ∧ τ = σ) (Q := fun r => r = (hpr d c u v m, σ)) (by omega)
    (fun f i x τ hi hI kk => by
      obtain ⟨he, rfl⟩ := hI
      obtain ⟨k, hk⟩ : ∃ k, m - i = k + 1 := ⟨m - i - 1, by omega⟩
      rw [hk, nx] at he
      simp only [f_X1_hasPair_3]
      rw [nI_1 i]
      refine Wp.f (nI_ge (by omega) (by omega)) ?_
      refine Wp.eq (X_isCode h hw hc (by omega) hu) ?_
      by_cases e1 : d (7 + 10 * c + i) = u
      · rw [if_pos e1]
        refine Wp.f o1n0 ?_
        refine Wp.eq (X_isCode h hw hc (by omega) hv) ?_
        by_cases e2 : d (7 + 10 * c + (i + 1)) = v
        · rw [if_pos e2]
          refine Wp.f o1n0 ?_
          rw [if_pos (by simp [prq, e1, e2])] at he
          exact Wp.ret (by rw [hpr, he])
        · rw [if_neg e2]
          refine Wp.t rfl ?_
          rw [if_neg (by simp [prq, e2])] at he
          exact kk () _ ⟨by rw [he, show m - (i + 1) = k by omega], rfl⟩
      · rw [if_neg e1]
        refine Wp.t rfl ?_
        rw [if_neg (by simp [prq, e1])] at he
        exact kk () _ ⟨by rw [he, show m - (i + 1) = k by omega], rfl⟩)
    (fun f x τ hI => by
      obtain ⟨he, rfl⟩ := hI
      rw [Nat.sub_self, nx] at he
      simp only [f_X1_hasPair_3]
      rw [nI_1 m]
      exact Wp.t (nI_le (Nat.le_refl _) (by omega)) (Wp.ret (by rw [hpr, he]))) (x := ()) (σ := σ) ⟨rfl, rfl⟩
  obtain ⟨r, hr1, rfl⟩ := this
  exact hr1
theorem M_hasPair (hM : MR d σ) (hw : WF d) (hc : c < d 0) (hu : u < 10000) (hv : v < 10000) {m : Nat} (hm : m + 1 ≤ d (4 + c)) : f_X12_hasPair (nI c) (nI u) (nI v) (nI (m + 1)) σ = some (hpr d c u v m, σ) := by
  have hl := hw.len hc
  have h3 := hw.1
  unfold f_X12_hasPair
  rw [show (1 : Int32) = nI (0 + 1) from i1]
  have := loop0 (F := fun f (_ : Unit) i σ => f_X12_hasPair_3 (nI c) (nI u) (nI v) (nI (m + 1)) f (nI (i + 1)) σ) (N := m) (I := fun i _ τ => nx (prq d c u v) m 0 = nx (prq d c u v) (m - i) i ∧ τ = σ) (Q := fun r => r = (hpr d c u v m, σ)) (by omega)
    (fun f i x τ hi hI kk => by
      obtain ⟨he, rfl⟩ := hI
      obtain ⟨k, hk⟩ : ∃ k, m - i = k + 1 := ⟨m - i - 1, by omega⟩
      rw [hk, nx] at he
      have b1 := hw.b (7 + 10 * c + i)
      have b2 := hw.b (7 + 10 * c + (i + 1))
      simp only [f_X12_hasPair_3]
      refine Wp.f (nI_ge (by omega) (by omega)) ?_
      rw [show nI (i + 1) - 1 = nI i by rw [i1, nI_sub (by omega), Nat.add_sub_cancel], nI_1 (i + 1)]
      refine Wp.eq (M_codeOf hM (by omega)) ?_
      by_cases e1 : d (7 + 10 * c + i) = u
      · refine Wp.t (by rw [e1]) ?_
        refine Wp.eq (M_codeOf hM (by omega)) ?_
        by_cases e2 : d (7 + 10 * c + (i + 1)) = v
        · refine Wp.t (by rw [e2]) ?_
          rw [if_pos (by simp [prq, e1, e2])] at he
          exact Wp.ret (by rw [hpr, he])
        · refine Wp.f (nI_ne (by omega) (by omega) e2) ?_
          rw [if_neg (by simp [prq, e2])] at he
          exact kk () _ ⟨by rw [he, show m - (i + 1) = k by omega], rfl⟩
      · refine Wp.f (nI_ne (by omega) (by omega) e1) ?_
        rw [if_neg (by simp [prq, e1])] at he
        exact kk () _ ⟨by rw [he, show m - (i + 1) = k by omega], rfl⟩)
    (fun f x τ hI => by
      obtain ⟨he, rfl⟩ := hI
      rw [Nat.sub_self, nx] at he
      simp only [f_X12_hasPair_3]
      exact Wp.t (nI_le (Nat.le_refl _) (by omega)) (Wp.ret (by rw [hpr, he]))) (x := ()) (σ := σ) ⟨rfl, rfl⟩
  obtain ⟨r, hr1, rfl⟩ := this
  exact hr1
def cmq (d : Nat → Nat) (c e i : Nat) : Bool := decide (hpr d c (d (7 + 10 * c + i)) (d (7 + 10 * c + (i + 1))) i = 0) && decide (¬ hpr d e (d (7 + 10 * c + i)) (d (7 + 10 * c + (i + 1))) (d (4 + e) - 1) = 0)
theorem X_pairsAlsoIn (h : XR d σ) (hw : WF d) (hc : c < d 0) (he : e < d 0) : f_X1_pairsAlsoIn (3 + c) (3 + e) σ = some (nI (cnt (cmq d c e) (d (4 + c) - 1)), σ) := by
  have hl := hw.len hc
  have hle := hw.len he
  have := loop0 (F := fun f (x : Int32) i σ => f_X1_pairsAlsoIn_4 (3 + c) (3 + e) f x (nI i) σ) (N := d (4 + c) - 1) (I := fun i x τ => x = nI (cnt (cmq d c e) i) ∧ τ = σ) (Q := fun r => r = (nI (cnt (cmq d c e) (d (4 + c) - 1)), σ)) (by omega)
    (fun f i x τ hi hI kk => by
      obtain ⟨rfl, rfl⟩ := hI
      simp only [f_X1_pairsAlsoIn_4]
      rw [nI_1 i, (h.2.2.2.2.1 c hc).1]
      refine Wp.f (nI_ge (by omega) (by omega)) ?_
      refine Wp.eq (X_codeAt (h.2.2.2.2.1 c hc) hl.2 (by omega)) ?_
      refine Wp.eq (X_codeAt (h.2.2.2.2.1 c hc) hl.2 (by omega)) ?_
      refine Wp.eq (X_hasPair h hw hc (hw.b _) (hw.b _) (by omega)) ?_
      by_cases g : hpr d c (d (7 + 10 * c + i)) (d (7 + 10 * c + (i + 1))) i = 0
      · refine Wp.t g ?_
        dsimp only
        rw [(h.2.2.2.2.1 e he).1, show d (4 + e) = (d (4 + e) - 1) + 1 by omega]
        refine Wp.eq (X_hasPair h hw he (hw.b _) (hw.b _) (by omega)) ?_
        by_cases g2 : hpr d e (d (7 + 10 * c + i)) (d (7 + 10 * c + (i + 1))) (d (4 + e) - 1) = 0
        · refine Wp.t g2 ?_
          exact kk _ _ ⟨by rw [cnt_f (by simp [cmq, g2])], rfl⟩
        · refine Wp.f g2 ?_
          exact kk _ _ ⟨by rw [nI_1, cnt_t (by simp [cmq, g, g2])], rfl⟩
      · refine Wp.f g ?_
        exact kk _ _ ⟨by rw [cnt_f (by simp [cmq, g])], rfl⟩)
    (fun f x τ hI => by
      obtain ⟨rfl, rfl⟩ := hI
      simp only [f_X1_pairsAlsoIn_4]
      rw [nI_1, (h.2.2.2.2.1 c hc).1]
      exact Wp.t (nI_le (by omega) (by omega)) (Wp.ret rfl)) (x := 0) (σ := σ) ⟨rfl, rfl⟩
  obtain ⟨r, hr1, rfl⟩ := this
  exact hr1
theorem M_common38 (hM : MR d σ) (hw : WF d) (hc : c < d 0) (he : e < d 0) : f_X12_common_38 (nI c) (nI e) gFuel 0 1 σ = some (nI (cnt (cmq d c e) (d (4 + c) - 1)), σ) := by
  have hl := hw.len hc
  have hle := hw.len he
  have h3 := hw.1
  rw [show (1 : Int32) = nI (0 + 1) from i1]
  have := loop0 (F := fun f (x : Int32) i σ => f_X12_common_38 (nI c) (nI e) f x (nI (i + 1)) σ) (N := d (4 + c) - 1) (I := fun i x τ => x = nI (cnt (cmq d c e) i) ∧ τ = σ) (Q := fun r => r = (nI (cnt (cmq d c e) (d (4 + c) - 1)), σ)) (by omega)
    (fun f i x τ hi hI kk => by
      obtain ⟨rfl, rfl⟩ := hI
      simp only [f_X12_common_38]
      refine Wp.eq (M_rd (j := 4 + c) hM (by rw [i4, nI_add]) (by omega)) ?_
      refine Wp.f (nI_ge (by omega) (by omega)) ?_
      rw [show nI (i + 1) - 1 = nI i by rw [i1, nI_sub (by omega), Nat.add_sub_cancel], nI_1 (i + 1)]
      refine Wp.eq (M_codeOf hM (by omega)) ?_
      refine Wp.eq (M_codeOf hM (by omega)) ?_
      refine Wp.eq (M_hasPair hM hw hc (hw.b _) (hw.b _) (by omega)) ?_
      by_cases g : hpr d c (d (7 + 10 * c + i)) (d (7 + 10 * c + (i + 1))) i = 0
      · refine Wp.t g ?_
        refine Wp.eq (M_rd (j := 4 + e) hM (by rw [i4, nI_add]) (by omega)) ?_
        dsimp only
        rw [show d (4 + e) = (d (4 + e) - 1) + 1 by omega]
        refine Wp.eq (M_hasPair hM hw he (hw.b _) (hw.b _) (by omega)) ?_
        by_cases g2 : hpr d e (d (7 + 10 * c + i)) (d (7 + 10 * c + (i + 1))) (d (4 + e) - 1) = 0
        · refine Wp.t g2 ?_
          exact kk _ _ ⟨by rw [add0, cnt_f (by simp [cmq, g2])], rfl⟩
        · refine Wp.f g2 ?_
          exact kk _ _ ⟨by rw [nI_1, cnt_t (by simp [cmq, g, g2])], rfl⟩
      · refine Wp.f g ?_
        exact kk _ _ ⟨by rw [add0, cnt_f (by simp [cmq, g])], rfl⟩)
    (fun f x τ hI => by
      obtain ⟨rfl, rfl⟩ := hI
      simp only [f_X12_common_38]
      refine Wp.eq (M_rd (j := 4 + c) hM (by rw [i4, nI_add]) (by omega)) ?_
      exact Wp.t (nI_le (by omega) (by omega)) (Wp.ret rfl)) (x := 0) (σ := σ) ⟨rfl, rfl⟩
  obtain ⟨r, hr1, rfl⟩ := this
  exact hr1
theorem S_common : SS2 Inv f_X11_common f_X12_common := by
  intro x y
  refine QA.ss (fun σ d hI hw hM hX => ?_)
  have h3 := hw.1
  by_cases hx : gin x (d 0) = true
  · obtain ⟨hxe, hc⟩ := gin_nI hx
    generalize x.toNatClampNeg = c at hxe hc
    subst hxe
    by_cases hy : gin y (d 0) = true
    · obtain ⟨hye, he⟩ := gin_nI hy
      generalize y.toNatClampNeg = e at hye he
      subst hye
      refine QA.yes (nI (cnt (cmq d c e) (d (4 + c) - 1))) ?_ (fun σ2 hM2 hM3 => ?_)
      · unfold f_X11_common
        refine Wp.eq (X_hasCourse hX hw _) ?_
        rw [bG_t hx]
        refine Wp.f o1n0 ?_
        refine Wp.eq (X_hasCourse hX hw _) ?_
        rw [bG_t hy]
        refine Wp.f o1n0 ?_
        refine Wp.eq (X_courseAt (by omega)) ?_
        refine Wp.eq (X_courseAt (by omega)) ?_
        refine Wp.eq (X_pairsAlsoIn hX hw hc he) ?_
        exact Wp.ret ⟨rfl, _, Xs.rf, rfl⟩
      · unfold f_X12_common f_X12_common_22
        refine Wp.eq (M_isCourse hM3 hw _) ?_
        rw [bG_t hx]
        refine Wp.f o1n0 ?_
        refine Wp.eq (M_isCourse hM3 hw _) ?_
        rw [bG_t hy]
        refine Wp.f o1n0 ?_
        refine Wp.eq un_1 ?_
        refine Wp.eq ref_0 ?_
        refine Wp.t rfl ?_
        exact ⟨_, M_common38 hM2 hw hc he, rfl, Ms.rf⟩
    · refine QA.no 1 (by decide) ?_ (fun σ2 hM2 => ?_)
      · unfold f_X11_common
        rw [X_hasCourse hX hw, bG_t hx, bind_some', if_neg o1n0, X_hasCourse hX hw, bG_f hy, bind_some', if_pos rfl, X_refused]
        rfl
      · unfold f_X12_common f_X12_common_21 f_X12_common_22
        rw [M_isCourse hM2 hw, bG_t hx, bind_some', if_neg o1n0, M_isCourse hM2 hw, bG_f hy, bind_some', if_pos rfl, un_0, bind_some', ref_1, bind_some', if_neg o1n0]
  · refine QA.no 1 (by decide) ?_ (fun σ2 hM2 => ?_)
    · unfold f_X11_common
      rw [X_hasCourse hX hw, bG_f hx, bind_some', if_pos rfl, X_refused]
      rfl
    · unfold f_X12_common f_X12_common_21 f_X12_common_22
      rw [M_isCourse hM2 hw, bG_f hx, bind_some', if_pos rfl, un_0, bind_some', ref_1, bind_some', if_neg o1n0]
end QA3
