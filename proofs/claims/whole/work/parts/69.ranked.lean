/-! ranked -/
section QA2
variable {d : Nat → Nat} {σ σ' : gSt} {a c i : Nat}
/-- b is ahead of a on course c -/
def ahd (d : Nat → Nat) (c a b : Nat) : Bool := vfc d c b && (decide (tot d b < tot d a) || (decide (tot d b = tot d a) && decide (b < a)))
def rkq (d : Nat → Nat) (c : Nat) (y : Int32) (a : Nat) : Bool := vfc d c a && decide (nI (cnt (ahd d c a) (d 1)) = y)
def rkd (d : Nat → Nat) (c : Nat) (y : Int32) : Option Nat := nx (rkq d c y) (d 1) 0
theorem X_aheadOf (h : XR d σ) (hw : WF d) (ha : a < d 1) (hc : c < 10000) : f_X2_aheadOf (nI a) (nI c) σ = some (nI (cnt (ahd d c a) (d 1)), σ) := by
  have hr := hw.2.1
  have ht := tot_b (a := a) hw
  unfold f_X2_aheadOf
  rw [X_runnerAt (by omega), bind_some', X_total h hw ha, bind_some']
  have := loop0 (F := fun f (x : Int32) b σ => f_X2_aheadOf_18 (nI a) (nI c) (nI (tot d a)) f x (nI b) σ) (N := d 1) (I := fun b x τ => x = nI (cnt (ahd d c a) b) ∧ τ = σ) (Q := fun r => r = (nI (cnt (ahd d c a) (d 1)), σ)) (by omega)
    (fun f b x τ hb hI kk => by
      obtain ⟨rfl, rfl⟩ := hI
      have b1 := tot_b (a := b) hw
      simp only [f_X2_aheadOf_18]
      rw [h.2.1]
      refine Wp.f (nI_ge hb (by omega)) ?_
      refine Wp.eq (X_runnerAt (by omega)) ?_
      refine Wp.eq (X_total h hw hb) ?_
      refine Wp.eq (X_isValidOf h hw hb hc) ?_
      rw [nI_1 b]
      by_cases e : d (37 + b) = c ∧ mso d b = 0
      · rw [if_pos e]
        refine Wp.f o1n0 ?_
        by_cases g : tot d b < tot d a
        · refine Wp.t (nI_lt g (by omega)) ?_
          exact kk _ _ ⟨by rw [nI_1, cnt_t (by simp [ahd, vfc, e, g])], rfl⟩
        · refine Wp.f (nI_nlt (by omega) (by omega)) ?_
          by_cases g2 : tot d b = tot d a
          · refine Wp.t (by rw [g2]) ?_
            by_cases g3 : b < a
            · refine Wp.f (nI_ge g3 (by omega)) ?_
              exact kk _ _ ⟨by rw [nI_1, cnt_t (by simp [ahd, vfc, e, g2, g3])], rfl⟩
            · refine Wp.t (nI_le (by omega) (by omega)) ?_
              exact kk _ _ ⟨by rw [add0, cnt_f (by simp [ahd, vfc, e, g2, g3])], rfl⟩
          · refine Wp.f (nI_ne (by omega) (by omega) g2) ?_
            exact kk _ _ ⟨by rw [add0, cnt_f (by simp [ahd, vfc, e, g2, g])], rfl⟩
      · rw [if_neg e]
        refine Wp.t rfl ?_
        exact kk _ _ ⟨by rw [add0, cnt_f (by unfold ahd vfc; rw [decide_eq_false e]; rfl)], rfl⟩)
    (fun f x τ hI => by
      obtain ⟨rfl, rfl⟩ := hI
      simp only [f_X2_aheadOf_18]
      rw [h.2.1]
      exact Wp.t (nI_le (Nat.le_refl _) (by omega)) (Wp.ret rfl)) (x := 0) (σ := σ) ⟨rfl, rfl⟩
  obtain ⟨r, hr1, rfl⟩ := this
  exact hr1
theorem X_rankedAs (h : XR d σ) (hw : WF d) (hc : c < 10000) (y : Int32) : f_X2_rankedAs (nI c) y σ = some (mo (rkd d c y), σ) := by
  have hr := hw.2.1
  unfold f_X2_rankedAs
  rw [i0]
  have := loop0 (F := fun f (_ : Unit) a σ => f_X2_rankedAs_2 (nI c) y f (nI a) σ) (N := d 1) (I := fun a _ τ => rkd d c y = nx (rkq d c y) (d 1 - a) a ∧ τ = σ) (Q := fun r => r = (mo (rkd d c y), σ)) (by omega)
    (fun f a x τ ha hI kk => by
      obtain ⟨he, rfl⟩ := hI
      obtain ⟨m, hm⟩ : ∃ m, d 1 - a = m + 1 := ⟨d 1 - a - 1, by omega⟩
      rw [hm, nx] at he
      simp only [f_X2_rankedAs_2]
      rw [h.2.1]
      refine Wp.f (nI_ge ha (by omega)) ?_
      refine Wp.eq (X_isValidOf h hw ha hc) ?_
      rw [nI_1 a]
      by_cases e : d (37 + a) = c ∧ mso d a = 0
      · rw [if_pos e]
        refine Wp.f o1n0 ?_
        refine Wp.eq (X_aheadOf h hw ha hc) ?_
        by_cases g : nI (cnt (ahd d c a) (d 1)) = y
        · refine Wp.t g ?_
          rw [if_pos (by simp [rkq, vfc, e, g])] at he
          exact Wp.ret (by rw [he]; rfl)
        · refine Wp.f g ?_
          rw [if_neg (by simp [rkq, g])] at he
          exact kk () _ ⟨by rw [he, show d 1 - (a + 1) = m by omega], rfl⟩
      · rw [if_neg e]
        refine Wp.t rfl ?_
        rw [if_neg (by unfold rkq vfc; rw [decide_eq_false e]; simp)] at he
        exact kk () _ ⟨by rw [he, show d 1 - (a + 1) = m by omega], rfl⟩)
    (fun f x τ hI => by
      obtain ⟨he, rfl⟩ := hI
      rw [Nat.sub_self, nx] at he
      simp only [f_X2_rankedAs_2]
      rw [h.2.1]
      exact Wp.t (nI_le (Nat.le_refl _) (by omega)) (Wp.ret (by rw [he]; rfl))) (x := ()) (σ := σ) ⟨rfl, rfl⟩
  obtain ⟨r, hr1, rfl⟩ := this
  exact hr1
theorem M_ranked68 (hM : MR d σ) (hw : WF d) (hs : Ms σ σ') (ha : a < d 1) (hc : c < 10000) (y : Int32) {k31 : Int32 → gSt → Option (Int32 × gSt)} {Q : Int32 × gSt → Prop}
    (k1 : ∀ τ, Ms σ τ → nI (cnt (ahd d c a) (d 1)) = y → Q (nI a, τ)) (k2 : ∀ τ, Ms σ τ → ¬ nI (cnt (ahd d c a) (d 1)) = y → Wp (k31 (nI (a + 1)) τ) Q) : Wp (f_X12_ranked_68 (nI c) y (nI a) k31 gFuel 0 0 σ') Q := by
  have hr := hw.2.1
  have ht := tot_b (a := a) hw
  refine loop0 (F := fun f (x : Int32) b σ => f_X12_ranked_68 (nI c) y (nI a) k31 f x (nI b) σ) (N := d 1) (I := fun b x τ => x = nI (cnt (ahd d c a) b) ∧ Ms σ τ) (by omega) (fun f b x τ hb hI kk => ?_) (fun f x τ hI => ?_) (x := 0) (σ := σ') ⟨rfl, hs⟩
  · obtain ⟨rfl, hs⟩ := hI
    have b1 := hw.b (37 + b)
    have b2 := tot_b (a := b) hw
    simp only [f_X12_ranked_68]
    refine Wp.eq (M_rd (j := 1) (hM.of hs) i1 (by decide)) ?_
    refine Wp.f (nI_ge hb (by omega)) ?_
    refine Wp.eq (M_rd (j := 37 + b) (hM.of hs) (by rw [i37, nI_add]) (by omega)) ?_
    by_cases e : d (37 + b) = c
    · refine Wp.t (by rw [e]) ?_
      refine Wp.bind (M_isValid hM hw hs hb) (fun p hp => ?_)
      rw [hp.1]
      by_cases e2 : mso d b = 0
      · rw [if_pos e2]
        refine Wp.f o1n0 ?_
        unfold f_X12_ranked_107
        rw [nI_1 b]
        refine Wp.f o1n0 ?_
        refine Wp.eq (M_totalOf (hM.of hp.2) hw hb) ?_
        refine Wp.eq (M_totalOf (hM.of hp.2) hw ha) ?_
        by_cases g : tot d b < tot d a
        · refine Wp.t (nI_lt g (by omega)) ?_
          exact kk _ _ ⟨by rw [nI_1, cnt_t (by simp [ahd, vfc, e, e2, g])], hp.2⟩
        · refine Wp.f (nI_nlt (by omega) (by omega)) ?_
          refine Wp.eq (M_totalOf (hM.of hp.2) hw hb) ?_
          refine Wp.eq (M_totalOf (hM.of hp.2) hw ha) ?_
          by_cases g2 : tot d b = tot d a
          · refine Wp.t (by rw [g2]) ?_
            by_cases g3 : b < a
            · refine Wp.f (nI_ge g3 (by omega)) ?_
              exact kk _ _ ⟨by rw [nI_1, cnt_t (by simp [ahd, vfc, e, e2, g2, g3])], hp.2⟩
            · refine Wp.t (nI_le (by omega) (by omega)) ?_
              exact kk _ _ ⟨by rw [add0, cnt_f (by simp [ahd, vfc, e, e2, g2, g3])], hp.2⟩
          · refine Wp.f (nI_ne (by omega) (by omega) g2) ?_
            exact kk _ _ ⟨by rw [add0, cnt_f (by simp [ahd, vfc, e, e2, g2, g])], hp.2⟩
      · rw [if_neg e2]
        refine Wp.t rfl ?_
        unfold f_X12_ranked_106 f_X12_ranked_107
        rw [nI_1 b]
        refine Wp.t rfl ?_
        exact kk _ _ ⟨by rw [add0, cnt_f (by simp [ahd, vfc, e2])], hp.2⟩
    · refine Wp.f (nI_ne (by omega) (by omega) e) ?_
      unfold f_X12_ranked_106 f_X12_ranked_107
      rw [nI_1 b]
      refine Wp.t rfl ?_
      exact kk _ _ ⟨by rw [add0, cnt_f (by simp [ahd, vfc, e])], hs⟩
  · obtain ⟨rfl, hs⟩ := hI
    simp only [f_X12_ranked_68]
    refine Wp.eq (M_rd (j := 1) (hM.of hs) i1 (by decide)) ?_
    refine Wp.t (nI_le (Nat.le_refl _) (by omega)) ?_
    by_cases g : nI (cnt (ahd d c a) (d 1)) = y
    · exact Wp.t g (Wp.ret (k1 _ hs g))
    · refine Wp.f g ?_
      rw [nI_1 a]
      exact k2 _ hs g
theorem M_ranked31 (hM : MR d σ) (hw : WF d) (hs : Ms σ σ') (hc : c < 10000) (y : Int32) : Wp (f_X12_ranked_31 (nI c) y gFuel 0 σ') (fun r => r.1 = mo (rkd d c y) ∧ Ms σ r.2) := by
  have hr := hw.2.1
  rw [i0]
  refine loop0 (F := fun f (_ : Unit) a σ => f_X12_ranked_31 (nI c) y f (nI a) σ) (N := d 1) (I := fun a _ τ => rkd d c y = nx (rkq d c y) (d 1 - a) a ∧ Ms σ τ) (by omega) (fun f a x τ ha hI kk => ?_) (fun f x τ hI => ?_) (x := ()) (σ := σ') ⟨rfl, hs⟩
  · obtain ⟨he, hs⟩ := hI
    have b1 := hw.b (37 + a)
    obtain ⟨m, hm⟩ : ∃ m, d 1 - a = m + 1 := ⟨d 1 - a - 1, by omega⟩
    rw [hm, nx] at he
    simp only [f_X12_ranked_31]
    refine Wp.eq (M_rd (j := 1) (hM.of hs) i1 (by decide)) ?_
    refine Wp.f (nI_ge ha (by omega)) ?_
    refine Wp.eq (M_rd (j := 37 + a) (hM.of hs) (by rw [i37, nI_add]) (by omega)) ?_
    rw [nI_1 a]
    by_cases e : d (37 + a) = c
    · refine Wp.t (by rw [e]) ?_
      refine Wp.bind (M_isValid hM hw hs ha) (fun p hp => ?_)
      rw [hp.1]
      by_cases e2 : mso d a = 0
      · rw [if_pos e2]
        refine Wp.f o1n0 ?_
        refine M_ranked68 hM hw hp.2 ha hc y (fun τ h1 g => ?_) (fun τ h1 g => ?_)
        · rw [if_pos (by simp [rkq, vfc, e, e2, g])] at he
          exact ⟨by rw [he]; rfl, h1⟩
        · rw [if_neg (by simp [rkq, g])] at he
          exact kk () _ ⟨by rw [he, show d 1 - (a + 1) = m by omega], h1⟩
      · rw [if_neg e2]
        refine Wp.t rfl ?_
        rw [if_neg (by simp [rkq, vfc, e2])] at he
        exact kk () _ ⟨by rw [he, show d 1 - (a + 1) = m by omega], hp.2⟩
    · refine Wp.f (nI_ne (by omega) (by omega) e) ?_
      rw [if_neg (by simp [rkq, vfc, e])] at he
      exact kk () _ ⟨by rw [he, show d 1 - (a + 1) = m by omega], hs⟩
  · obtain ⟨he, hs⟩ := hI
    rw [Nat.sub_self, nx] at he
    simp only [f_X12_ranked_31]
    refine Wp.eq (M_rd (j := 1) (hM.of hs) i1 (by decide)) ?_
    exact Wp.t (nI_le (Nat.le_refl _) (by omega)) (Wp.ret ⟨by rw [he]; rfl, hs⟩)
theorem le0_of {y : Int32} (h : ¬ y < 0) : (0 : Int32) ≤ y := by
  rw [Int32.lt_iff_toInt_lt] at h
  rw [Int32.le_iff_toInt_le]
  omega
theorem S_ranked : SS2 Inv f_X11_ranked f_X12_ranked := by
  intro x y
  refine QA.ss (fun σ d hI hw hM hX => ?_)
  have h3 := hw.1
  by_cases hx : gin x (d 0) = true
  · obtain ⟨hxe, hc⟩ := gin_nI hx
    generalize x.toNatClampNeg = c at hxe hc
    subst hxe
    by_cases hy : y < 0
    · refine QA.no 1 (by decide) ?_ (fun σ2 hM2 => ?_)
      · unfold f_X11_ranked
        rw [X_hasCourse hX hw, bG_t hx, bind_some', if_neg o1n0, if_neg (fun z => nlt_of_le z hy), X_refused]
        rfl
      · unfold f_X12_ranked f_X12_ranked_17 f_X12_ranked_18
        rw [M_isCourse hM2 hw, bG_t hx, bind_some', if_neg o1n0, if_pos hy, un_0, bind_some', ref_1, bind_some', if_neg o1n0]
    · refine QA.yes (mo (rkd d c y)) ?_ (fun σ2 hM2 hM3 => ?_)
      · unfold f_X11_ranked
        refine Wp.eq (X_hasCourse hX hw _) ?_
        rw [bG_t hx]
        refine Wp.f o1n0 ?_
        refine Wp.t (le0_of hy) ?_
        refine Wp.eq (X_rankedAs hX hw (by omega) y) ?_
        exact Wp.ret ⟨rfl, _, Xs.rf, rfl⟩
      · unfold f_X12_ranked
        refine Wp.eq (M_isCourse hM3 hw _) ?_
        rw [bG_t hx]
        refine Wp.f o1n0 ?_
        refine Wp.f hy ?_
        unfold f_X12_ranked_18
        refine Wp.eq un_1 ?_
        refine Wp.eq ref_0 ?_
        refine Wp.t rfl ?_
        exact M_ranked31 hM2 hw Ms.rf (by omega) y
  · refine QA.no 1 (by decide) ?_ (fun σ2 hM2 => ?_)
    · unfold f_X11_ranked
      rw [X_hasCourse hX hw, bG_f hx, bind_some', if_pos rfl, X_refused]
      rfl
    · unfold f_X12_ranked f_X12_ranked_17 f_X12_ranked_18
      rw [M_isCourse hM2 hw, bG_f hx, bind_some', if_pos rfl, un_0, bind_some', ref_1, bind_some', if_neg o1n0]
end QA2
