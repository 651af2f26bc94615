/-! pace, cleanPlace -/
section PP
variable {d : Nat → Nat} {σ σ' : gSt} {a c i : Nat}
theorem Mq_pre {e : Int32} (hs : Ms σ σ') : Mq σ (mR σ' e) e := ⟨fun k i s h1 h2 => (mR_q.1 k i s h1 h2).trans (hs k i s h1 (fun q => by have := h2 q; omega)), mR_q.2⟩
theorem ref_6 : f_X12_isRefused 6 σ = some (1, mR σ 6) := by rw [M_isRefused, if_neg (by decide)]
theorem S_pace : SS2 Inv f_X11_pace f_X12_pace := by
  intro x y
  refine QA.ss (fun σ d hI hw hM hX => ?_)
  have hr := hw.2.1
  by_cases hx : gin x (d 1) = true
  · obtain ⟨hxe, ha⟩ := gin_nI hx
    generalize x.toNatClampNeg = a at hxe ha
    subst hxe
    by_cases hy : gin y (1 + 1) = true
    · have hy' := sel_t (by decide) hy
      obtain ⟨r, hr1, hr2, hr3, hr4⟩ := X_reckon hX hw ha
      have hx1 : f_X11_pace (nI a) y σ = if r.1 = 0 then some (-1, xA r.2 6) else if y = 0 then some (r.2 17 0 7, xA r.2 0) else some (r.2 17 0 8, xA r.2 0) := by
        unfold f_X11_pace
        rw [X_hasRunner hX hw, bG_t hx, bind_some', if_neg o1n0, if_neg hy'.1, if_pos (show y ≤ 1 from hy'.2), X_runnerAt (by omega), bind_some', hr1, bind_some']
        rfl
      by_cases h0 : pN d a = 0
      · refine ⟨-1, 6, xA r.2 6, by decide, ?_, xA_q hr3, fun σ2 hM2 _ _ => ?_⟩
        · rw [hx1, hr2, if_pos h0, if_pos rfl]
        · unfold f_X12_pace
          refine Wp.eq (M_isRunner hM2 hw _) ?_
          rw [bG_t hx]
          refine Wp.f o1n0 ?_
          refine Wp.eq (by rw [i1]; exact M_in0 (by decide) _) ?_
          rw [bG_t hy]
          refine Wp.f o1n0 ?_
          unfold f_X12_pace_22
          refine Wp.eq un_1 ?_
          refine Wp.t rfl ?_
          refine Wp.bind (M_paces hM2 hw Ms.rf ha) (fun q hq => ?_)
          rw [hq.1, if_pos h0]
          refine Wp.t rfl ?_
          unfold f_X12_pace_49
          refine Wp.eq ref_6 ?_
          refine Wp.f o1n0 ?_
          exact Wp.ret ⟨rfl, Mq_pre hq.2.1⟩
      · have hb := pOU_b hw ha h0
        have hg : 0 < Nat.gcd (pO d a) (pU d a) := Nat.gcd_pos_of_pos_left _ hb.1.1
        have hgl := Nat.gcd_le_left (pU d a) hb.1.1
        have h7 := hr4.2 h0
        refine ⟨if y = 0 then r.2 17 0 7 else r.2 17 0 8, 0, xA r.2 0, by decide, ?_, xA_q hr3, fun σ2 hM2 _ _ => ?_⟩
        · rw [hx1, hr2, if_neg h0, if_neg o1n0]
          by_cases e : y = 0
          · rw [if_pos e, if_pos e]
          · rw [if_neg e, if_neg e]
        · unfold f_X12_pace
          refine Wp.eq (M_isRunner hM2 hw _) ?_
          rw [bG_t hx]
          refine Wp.f o1n0 ?_
          refine Wp.eq (by rw [i1]; exact M_in0 (by decide) _) ?_
          rw [bG_t hy]
          refine Wp.f o1n0 ?_
          unfold f_X12_pace_22
          refine Wp.eq un_1 ?_
          refine Wp.t rfl ?_
          refine Wp.bind (M_paces hM2 hw Ms.rf ha) (fun q hq => ?_)
          rw [hq.1, if_neg h0]
          refine Wp.f o1n0 ?_
          unfold f_X12_pace_49
          refine Wp.eq ref_0 ?_
          refine Wp.t rfl ?_
          have k1 := hq.2.2 h0
          have e23 : mR q.2 0 28 0 23 = nI (pO d a) := by rw [← k1.1]; simp [mR, gup]
          have e24 : mR q.2 0 28 0 24 = nI (pU d a) := by rw [← k1.2]; simp [mR, gup]
          dsimp only
          rw [e23, e24, h7.1, h7.2]
          have eg : Nat.gcd (pU d a) (pO d a) = Nat.gcd (pO d a) (pU d a) := Nat.gcd_comm _ _
          by_cases e : y = 0
          · refine Wp.t e ?_
            refine Wp.eq (M_divisor hb.2.2 hb.1.2) ?_
            refine Wp.eq (gdv_n (by omega) (by omega) (by omega)) ?_
            exact Wp.ret ⟨by rw [if_pos e, eg], Mq_pre hq.2.1⟩
          · refine Wp.f e ?_
            refine Wp.eq (M_divisor hb.2.2 hb.1.2) ?_
            refine Wp.eq (gdv_n (by omega) (by omega) (by omega)) ?_
            exact Wp.ret ⟨by rw [if_neg e, eg], Mq_pre hq.2.1⟩
    · refine QA.no 1 (by decide) ?_ (fun σ2 hM2 => ?_)
      · unfold f_X11_pace
        rw [X_hasRunner hX hw, bG_t hx, bind_some', if_neg o1n0]
        rcases sel_f (by decide) hy with q | ⟨q1, q2⟩
        · rw [if_pos q, X_refused]; rfl
        · rw [if_neg q1, if_neg (show ¬ y ≤ 1 from q2), X_refused]; rfl
      · unfold f_X12_pace f_X12_pace_21 f_X12_pace_22 f_X12_pace_49
        rw [M_isRunner hM2 hw, bG_t hx, bind_some', if_neg o1n0, show f_X12_in y 0 1 σ2 = some (bG y (1 + 1), σ2) from by rw [i1]; exact M_in0 (by decide) _, bG_f hy, bind_some', if_pos rfl, un_0, bind_some', if_neg o1n0, ref_1, bind_some', if_neg o1n0]
  · refine QA.no 1 (by decide) ?_ (fun σ2 hM2 => ?_)
    · unfold f_X11_pace
      rw [X_hasRunner hX hw, bG_f hx, bind_some', if_pos rfl, X_refused]
      rfl
    · unfold f_X12_pace f_X12_pace_21 f_X12_pace_22 f_X12_pace_49
      rw [M_isRunner hM2 hw, bG_f hx, bind_some', if_pos rfl, un_0, bind_some', if_neg o1n0, ref_1, bind_some', if_neg o1n0]
/-- how many of his course are valid and have less than v -/
def pcq (d : Nat → Nat) (a : Nat) (g : Nat → Int32) (v : Int32) (b : Nat) : Bool := decide ((d (37 + b) = d (37 + a) ∧ mso d b = 0) ∧ g b < v)
def gT (d : Nat → Nat) (b : Nat) : Int32 := nI (tot d b)
def gC (d : Nat → Nat) (b : Nat) : Int32 := clI d b 11
theorem pcq_no {g : Nat → Int32} {v : Int32} {b : Nat} (h : ¬ ((d (37 + b) = d (37 + a) ∧ mso d b = 0) ∧ g b < v)) : pcq d a g v b = false := decide_eq_false h
theorem pcq_yes {g : Nat → Int32} {v : Int32} {b : Nat} (h : (d (37 + b) = d (37 + a) ∧ mso d b = 0) ∧ g b < v) : pcq d a g v b = true := decide_eq_true h
theorem X_placeByT (h : XR d σ) (hw : WF d) (ha : a < d 1) (v : Int32) : f_X2_placeByTotal (10 + a) v σ = some (nI (1 + cnt (pcq d a (gT d) v) (d 1)), σ) := by
  have hr := hw.2.1
  have hc := hw.b (37 + a)
  have := loop0 (F := fun f (x : Int32) b σ => f_X2_placeByTotal_5 (10 + a) v f x (nI b) σ) (N := d 1) (I := fun b x τ => x = nI (1 + cnt (pcq d a (gT d) v) b) ∧ τ = σ) (Q := fun r => r = (nI (1 + cnt (pcq d a (gT d) v) (d 1)), σ)) (by omega)
    (fun f b x τ hb hI kk => by
      obtain ⟨rfl, rfl⟩ := hI
      show Wp (f_X2_placeByTotal_5 (10 + a) v (f + 1) _ (nI b) τ) _
      rw [f_X2_placeByTotal_5, h.2.1, (h.2.2.2.2.2 a ha).1]
      refine Wp.f (nI_ge hb (by omega)) ?_
      refine Wp.eq (X_isValidOf h hw hb (by omega)) ?_
      rw [nI_1 b]
      by_cases e : d (37 + b) = d (37 + a) ∧ mso d b = 0
      · rw [if_pos e]
        refine Wp.f o1n0 ?_
        refine Wp.eq (X_runnerAt (by omega)) ?_
        refine Wp.eq (X_total h hw hb) ?_
        by_cases e2 : v ≤ nI (tot d b)
        · refine Wp.t e2 ?_
          exact kk _ _ ⟨by rw [add0, cnt_f (pcq_no (g := gT d) (v := v) (b := b) (fun q => nlt_of_le e2 q.2))], rfl⟩
        · refine Wp.f e2 ?_
          exact kk _ _ ⟨by rw [nI_1, cnt_t (pcq_yes (g := gT d) (v := v) (b := b) ⟨e, lt_of_nle e2⟩)]; rfl, rfl⟩
      · rw [if_neg e]
        refine Wp.t rfl ?_
        exact kk _ _ ⟨by rw [add0, cnt_f (pcq_no (g := gT d) (v := v) (b := b) (fun q => e q.1))], rfl⟩)
    (fun f x τ hI => by
      obtain ⟨rfl, rfl⟩ := hI
      show Wp (f_X2_placeByTotal_5 (10 + a) v (f + 1) _ (nI (d 1)) τ) _
      rw [f_X2_placeByTotal_5, h.2.1]
      exact Wp.t (nI_le (Nat.le_refl _) (by omega)) (Wp.ret rfl)) (x := 1) (σ := σ) ⟨rfl, rfl⟩
  obtain ⟨r, hr1, rfl⟩ := this
  exact hr1
theorem X_placeByClean (h : XR d σ) (hw : WF d) (hs : Xs σ σ') (ha : a < d 1) (v : Int32) : Wp (f_X5_placeByClean (10 + a) v σ') (fun r => r.1 = nI (1 + cnt (pcq d a (gC d) v) (d 1)) ∧ Xs σ r.2) := by
  have hr := hw.2.1
  have hc := hw.b (37 + a)
  refine loop0 (F := fun f (x : Int32) b σ => f_X5_placeByClean_5 (10 + a) v f x (nI b) σ) (N := d 1) (I := fun b x τ => x = nI (1 + cnt (pcq d a (gC d) v) b) ∧ Xs σ τ) (by omega)
    (fun f b x τ hb hI kk => ?_) (fun f x τ hI => ?_) (x := 1) (σ := σ') ⟨rfl, hs⟩
  · obtain ⟨rfl, hs⟩ := hI
    have hX := h.of hs
    show Wp (f_X5_placeByClean_5 (10 + a) v (f + 1) _ (nI b) τ) _
    rw [f_X5_placeByClean_5, hX.2.1, (hX.2.2.2.2.2 a ha).1]
    refine Wp.f (nI_ge hb (by omega)) ?_
    refine Wp.eq (X_isValidOf hX hw hb (by omega)) ?_
    rw [nI_1 b]
    by_cases e : d (37 + b) = d (37 + a) ∧ mso d b = 0
    · rw [if_pos e]
      refine Wp.f o1n0 ?_
      refine Wp.eq (X_runnerAt (by omega)) ?_
      refine Wp.bind (X_cleanTime hX hw hb) (fun q hq => ?_)
      rw [hq.1]
      by_cases e2 : v ≤ clI d b 11
      · refine Wp.t e2 ?_
        exact kk _ _ ⟨by rw [add0, cnt_f (pcq_no (g := gC d) (v := v) (b := b) (fun q => nlt_of_le e2 q.2))], hs.tr hq.2⟩
      · refine Wp.f e2 ?_
        exact kk _ _ ⟨by rw [nI_1, cnt_t (pcq_yes (g := gC d) (v := v) (b := b) ⟨e, lt_of_nle e2⟩)]; rfl, hs.tr hq.2⟩
    · rw [if_neg e]
      refine Wp.t rfl ?_
      exact kk _ _ ⟨by rw [add0, cnt_f (pcq_no (g := gC d) (v := v) (b := b) (fun q => e q.1))], hs⟩
  · obtain ⟨rfl, hs⟩ := hI
    have hX := h.of hs
    show Wp (f_X5_placeByClean_5 (10 + a) v (f + 1) _ (nI (d 1)) τ) _
    rw [f_X5_placeByClean_5, hX.2.1]
    exact Wp.t (nI_le (Nat.le_refl _) (by omega)) (Wp.ret ⟨rfl, hs⟩)
theorem clI_sum : ∀ i, clI d a i + nI (sm (fun i => (mk d a i).getD 0) i) = nI (tot d a) := by
  intro i
  induction i with
  | zero => exact add0 _
  | succ i ih => rw [clI, sm, Nat.add_comm (sm (fun i => (mk d a i).getD 0) i), ← nI_add, ← Int32.add_assoc, Int32.sub_add_cancel, ih]
theorem clI_tot (hw : WF d) (ha : a < d 1) : ¬ nI (tot d a) < clI d a 11 := by
  have h1 := clI_sum (d := d) (a := a) 11
  have h2 : sm (fun i => (mk d a i).getD 0) 11 ≤ 11 * 10000 := sm_le (fun j _ => Nat.le_of_lt (mk_b hw ha))
  have h3 := tot_b hw (a := a)
  have h4 : clI d a 11 = nI (tot d a) - nI (sm (fun i => (mk d a i).getD 0) 11) := by rw [← h1, Int32.add_sub_cancel]
  rw [h4]
  by_cases e : sm (fun i => (mk d a i).getD 0) 11 ≤ tot d a
  · rw [nI_sub e]
    exact nI_nlt (by omega) (by omega)
  · exact nlt_of_le (Int32.le_trans (sub_le0 (by omega) (by omega)) (nI_pos' (by omega)))
theorem M_cleanPlace57 (hM : MR d σ) (hw : WF d) (hs : Ms σ σ') (ha : a < d 1) {z v : Int32} {g : Nat → Int32} (hg : ¬ g a < v) (hz : ∀ b τ, b < d 1 → Ms σ τ → (z = 0 → nI (tot d b) = g b) ∧ (¬ z = 0 → clI d b 11 = g b)) : Wp (f_X12_cleanPlace_57 (nI a) z v gFuel 1 0 σ') (fun r => r.1 = nI (1 + cnt (pcq d a g v) (d 1)) ∧ Ms σ r.2) := by
  have hr := hw.2.1
  have hca := hw.b (37 + a)
  refine loop0 (F := fun f (x : Int32) b σ => f_X12_cleanPlace_57 (nI a) z v f x (nI b) σ) (N := d 1) (I := fun b x τ => x = nI (1 + cnt (pcq d a g v) b) ∧ Ms σ τ) (by omega)
    (fun f b x τ hb hI kk => ?_) (fun f x τ hI => ?_) (x := 1) (σ := σ') ⟨rfl, hs⟩
  · obtain ⟨rfl, hs⟩ := hI
    have hcb := hw.b (37 + b)
    have no : ∀ τ, Ms σ τ → ¬ ((d (37 + b) = d (37 + a) ∧ mso d b = 0) ∧ g b < v) → Wp (f_X12_cleanPlace_109 (nI a) z v (nI (1 + cnt (pcq d a g v) b)) (nI b) (fun v4 v5 σ => f_X12_cleanPlace_57 (nI a) z v f v4 v5 σ) τ) (fun r => r.1 = nI (1 + cnt (pcq d a g v) (d 1)) ∧ Ms σ r.2) := by
      intro τ hs hn
      unfold f_X12_cleanPlace_109 f_X12_cleanPlace_110
      refine Wp.t rfl ?_
      rw [nI_1, add0]
      exact kk _ _ ⟨by rw [cnt_f (pcq_no hn)], hs⟩
    show Wp (f_X12_cleanPlace_57 (nI a) z v (f + 1) _ (nI b) τ) _
    rw [f_X12_cleanPlace_57]
    refine Wp.eq (M_rd (j := 1) (hM.of hs) i1 (by decide)) ?_
    refine Wp.f (nI_ge hb (by omega)) ?_
    by_cases eb : b = a
    · subst eb
      refine Wp.t rfl ?_
      exact no τ hs (fun q => hg q.2)
    · refine Wp.f (nI_ne (by omega) (by omega) eb) ?_
      refine Wp.eq (M_rd (j := 37 + b) (hM.of hs) (by rw [i37, nI_add]) (by omega)) ?_
      refine Wp.eq (M_rd (j := 37 + a) (hM.of hs) (by rw [i37, nI_add]) (by omega)) ?_
      by_cases e : d (37 + b) = d (37 + a)
      · refine Wp.t (by rw [e]) ?_
        refine Wp.bind (M_isValid hM hw hs hb) (fun q hq => ?_)
        rw [hq.1]
        by_cases e2 : mso d b = 0
        · rw [if_pos e2]
          refine Wp.f o1n0 ?_
          unfold f_X12_cleanPlace_110
          refine Wp.f o1n0 ?_
          have fin : ∀ τ, Ms σ τ → Wp (f_X12_cleanPlace_138 (nI a) z v (nI b) (fun v4 v5 σ => f_X12_cleanPlace_57 (nI a) z v f v4 v5 σ) (nI (1 + cnt (pcq d a g v) b)) (g b) τ) (fun r => r.1 = nI (1 + cnt (pcq d a g v) (d 1)) ∧ Ms σ r.2) := by
            intro τ hs
            unfold f_X12_cleanPlace_138
            rw [nI_1 b]
            by_cases e3 : v ≤ g b
            · refine Wp.t e3 ?_
              exact kk _ _ ⟨by rw [add0, cnt_f (pcq_no (g := g) (v := v) (b := b) (fun q => nlt_of_le e3 q.2))], hs⟩
            · refine Wp.f e3 ?_
              exact kk _ _ ⟨by rw [nI_1, cnt_t (pcq_yes (g := g) (v := v) (b := b) ⟨⟨e, e2⟩, lt_of_nle e3⟩)]; rfl, hs⟩
          by_cases ez : z = 0
          · refine Wp.t ez ?_
            refine Wp.eq (M_totalOf (hM.of hq.2) hw hb) ?_
            dsimp only
            rw [(hz b _ hb hs).1 ez]
            exact fin _ hq.2
          · refine Wp.f ez ?_
            refine Wp.bind (M_cleanOf hM hw hq.2 hb) (fun p hp => ?_)
            rw [hp.1, (hz b _ hb hs).2 ez]
            exact fin _ hp.2
        · rw [if_neg e2]
          refine Wp.t rfl ?_
          exact no _ hq.2 (fun q => e2 q.1.2)
      · refine Wp.f (nI_ne (by omega) (by omega) e) ?_
        exact no _ hs (fun q => e q.1.1)
  · obtain ⟨rfl, hs⟩ := hI
    show Wp (f_X12_cleanPlace_57 (nI a) z v (f + 1) _ (nI (d 1)) τ) _
    rw [f_X12_cleanPlace_57]
    refine Wp.eq (M_rd (j := 1) (hM.of hs) i1 (by decide)) ?_
    exact Wp.t (nI_le (Nat.le_refl _) (by omega)) (Wp.ret ⟨rfl, hs⟩)
def cpG (d : Nat → Nat) (z : Int32) (b : Nat) : Int32 := if z = 0 then nI (tot d b) else clI d b 11
theorem S_cleanPlace : SS2 Inv f_X11_cleanPlace f_X12_cleanPlace := by
  intro x y
  refine QA.ss (fun σ d hI hw hM hX => ?_)
  have hr := hw.2.1
  by_cases hx : gin x (d 1) = true
  · obtain ⟨hxe, ha⟩ := gin_nI hx
    generalize x.toNatClampNeg = a at hxe ha
    subst hxe
    by_cases hy : gin y (1 + 1) = true
    · have hy' := sel_t (by decide) hy
      refine QA.yes (if mso d a = 0 then nI (1 + cnt (pcq d a (cpG d y) (clI d a 11)) (d 1)) else -2) ?_ (fun σ2 hM2 hM3 => ?_)
      · unfold f_X11_cleanPlace
        refine Wp.eq (X_hasRunner hX hw _) ?_
        rw [bG_t hx]
        refine Wp.f o1n0 ?_
        refine Wp.f hy'.1 ?_
        refine Wp.t (show y ≤ 1 from hy'.2) ?_
        refine Wp.eq (X_runnerAt (by omega)) ?_
        refine Wp.eq (X_isValid hX hw ha) ?_
        by_cases e : mso d a = 0
        · rw [if_pos e, if_pos e]
          refine Wp.f o1n0 ?_
          refine Wp.bind (X_cleanTime hX hw ha) (fun q hq => ?_)
          rw [hq.1]
          by_cases ey : y = 0
          · refine Wp.t ey ?_
            refine Wp.eq (X_placeByT (hX.of hq.2) hw ha _) ?_
            have : cpG d y = gT d := by funext b; unfold cpG; rw [if_pos ey]; rfl
            rw [this]
            exact Wp.ret ⟨rfl, _, hq.2, rfl⟩
          · refine Wp.f ey ?_
            refine Wp.bind (X_placeByClean hX hw hq.2 ha _) (fun p hp => ?_)
            have : cpG d y = gC d := by funext b; unfold cpG; rw [if_neg ey]; rfl
            rw [this]
            exact Wp.ret ⟨hp.1, _, hp.2, rfl⟩
        · rw [if_neg e, if_neg e]
          refine Wp.t rfl ?_
          exact Wp.ret ⟨rfl, _, Xs.rf, rfl⟩
      · unfold f_X12_cleanPlace
        refine Wp.eq (M_isRunner hM3 hw _) ?_
        rw [bG_t hx]
        refine Wp.f o1n0 ?_
        refine Wp.eq (by rw [i1]; exact M_in0 (by decide) _) ?_
        rw [bG_t hy]
        refine Wp.f o1n0 ?_
        unfold f_X12_cleanPlace_23
        refine Wp.eq un_1 ?_
        refine Wp.eq ref_0 ?_
        refine Wp.t rfl ?_
        refine Wp.bind (M_isValid hM2 hw Ms.rf ha) (fun q hq => ?_)
        rw [hq.1]
        by_cases e : mso d a = 0
        · rw [if_pos e, if_pos e]
          refine Wp.f o1n0 ?_
          refine Wp.bind (M_cleanOf hM2 hw hq.2 ha) (fun p hp => ?_)
          rw [hp.1]
          refine M_cleanPlace57 hM2 hw hp.2 ha ?_ (fun b τ _ _ => ⟨fun ey => ?_, fun ey => ?_⟩)
          · unfold cpG
            by_cases ey : y = 0
            · rw [if_pos ey]; exact clI_tot hw ha
            · rw [if_neg ey]; exact Int32.lt_irrefl
          · unfold cpG; rw [if_pos ey]
          · unfold cpG; rw [if_neg ey]
        · rw [if_neg e, if_neg e]
          refine Wp.t rfl ?_
          exact Wp.ret ⟨rfl, hq.2⟩
    · refine QA.no 1 (by decide) ?_ (fun σ2 hM2 => ?_)
      · unfold f_X11_cleanPlace
        rw [X_hasRunner hX hw, bG_t hx, bind_some', if_neg o1n0]
        rcases sel_f (by decide) hy with q | ⟨q1, q2⟩
        · rw [if_pos q, X_refused]; rfl
        · rw [if_neg q1, if_neg (show ¬ y ≤ 1 from q2), X_refused]; rfl
      · unfold f_X12_cleanPlace f_X12_cleanPlace_22 f_X12_cleanPlace_23
        rw [M_isRunner hM2 hw, bG_t hx, bind_some', if_neg o1n0, show f_X12_in y 0 1 σ2 = some (bG y (1 + 1), σ2) from by rw [i1]; exact M_in0 (by decide) _, bG_f hy, bind_some', if_pos rfl, un_0, bind_some', ref_1, bind_some', if_neg o1n0]
  · refine QA.no 1 (by decide) ?_ (fun σ2 hM2 => ?_)
    · unfold f_X11_cleanPlace
      rw [X_hasRunner hX hw, bG_f hx, bind_some', if_pos rfl, X_refused]
      rfl
    · unfold f_X12_cleanPlace f_X12_cleanPlace_22 f_X12_cleanPlace_23
      rw [M_isRunner hM2 hw, bG_f hx, bind_some', if_pos rfl, un_0, bind_some', ref_1, bind_some', if_neg o1n0]
end PP
