/-! runner, about -/
section Q8
variable {d : Nat → Nat} {σ σ' : gSt} {a c i : Nat}
theorem X_placeByTotal (h : XR d σ) (hw : WF d) (ha : a < d 1) : f_X2_placeByTotal (10 + a) (nI (tot d a)) σ = some (nI (1 + cnt (plc (vt d (d (37 + a))) (tot d a)) (d 1)), σ) := by
  have hr := hw.2.1
  have ht := tot_b (a := a) hw
  have := loop0 (F := fun f (x : Int32) b σ => f_X2_placeByTotal_5 (10 + a) (nI (tot d a)) f x (nI b) σ) (N := d 1) (I := fun b x τ => x = nI (1 + cnt (plc (vt d (d (37 + a))) (tot d a)) b) ∧ τ = σ) (Q := fun r => r = (nI (1 + cnt (plc (vt d (d (37 + a))) (tot d a)) (d 1)), σ)) (by omega)
    (fun f b x τ hb hI kk => by
      obtain ⟨rfl, rfl⟩ := hI
      have b0 := hw.b (37 + a)
      have b1 := tot_b (a := b) hw
      simp only [f_X2_placeByTotal_5]
      rw [h.2.1, (h.2.2.2.2.2 a ha).1]
      refine Wp.f (nI_ge hb (by omega)) ?_
      refine Wp.eq (X_isValidOf h hw hb (by omega)) ?_
      rw [nI_1 b]
      by_cases e : d (37 + b) = d (37 + a) ∧ mso d b = 0
      · rw [if_pos e]
        refine Wp.f o1n0 ?_
        refine Wp.eq (X_runnerAt (by omega)) ?_
        refine Wp.eq (X_total h hw hb) ?_
        by_cases g : tot d b < tot d a
        · refine Wp.f (nI_ge g (by omega)) ?_
          exact kk _ _ ⟨by rw [nI_1, cnt_t (by simp [plc, vt, e, g]), Nat.add_assoc], rfl⟩
        · refine Wp.t (nI_le (by omega) (by omega)) ?_
          exact kk _ _ ⟨by rw [add0, cnt_f (by simp [plc, vt, e]; omega)], rfl⟩
      · rw [if_neg e]
        refine Wp.t rfl ?_
        exact kk _ _ ⟨by rw [add0, cnt_f (by simp only [plc, vt, if_neg e])], rfl⟩)
    (fun f x τ hI => by
      obtain ⟨rfl, rfl⟩ := hI
      simp only [f_X2_placeByTotal_5]
      rw [h.2.1]
      exact Wp.t (nI_le (Nat.le_refl _) (by omega)) (Wp.ret rfl)) (x := 1) (σ := σ) ⟨i1, rfl⟩
  obtain ⟨r, hr1, rfl⟩ := this
  exact hr1
theorem M_placeOf (hM : MR d σ) (hw : WF d) (hs : Ms σ σ') (ha : a < d 1) : Wp (f_X12_placeOf (nI a) σ') (fun r => r.1 = nI (1 + cnt (plc (vt d (d (37 + a))) (tot d a)) (d 1)) ∧ Ms σ r.2) := by
  have hr := hw.2.1
  have ht := tot_b (a := a) hw
  refine loop0 (F := fun f (x : Int32) b σ => f_X12_placeOf_4 (nI a) f x (nI b) σ) (N := d 1) (I := fun b x τ => x = nI (1 + cnt (plc (vt d (d (37 + a))) (tot d a)) b) ∧ Ms σ τ) (by omega) (fun f b x τ hb hI kk => ?_) (fun f x τ hI => ?_) (x := 1) (σ := σ') ⟨i1, hs⟩
  · obtain ⟨rfl, hs⟩ := hI
    have b0 := hw.b (37 + a)
    have b1 := hw.b (37 + b)
    have b2 := tot_b (a := b) hw
    simp only [f_X12_placeOf_4]
    refine Wp.eq (M_rd (j := 1) (hM.of hs) i1 (by decide)) ?_
    refine Wp.f (nI_ge hb (by omega)) ?_
    refine Wp.eq (M_rd (j := 37 + b) (hM.of hs) (by rw [i37, nI_add]) (by omega)) ?_
    refine Wp.eq (M_rd (j := 37 + a) (hM.of hs) (by rw [i37, nI_add]) (by omega)) ?_
    rw [nI_1 b]
    by_cases e : d (37 + b) = d (37 + a)
    · refine Wp.t (by rw [e]) ?_
      refine Wp.bind (M_isValid hM hw hs hb) (fun p hp => ?_)
      rw [hp.1]
      by_cases e2 : mso d b = 0
      · rw [if_pos e2]
        refine Wp.f o1n0 ?_
        refine Wp.eq (M_totalOf (hM.of hp.2) hw hb) ?_
        refine Wp.eq (M_totalOf (hM.of hp.2) hw ha) ?_
        by_cases g : tot d b < tot d a
        · refine Wp.f (nI_ge g (by omega)) ?_
          exact kk _ _ ⟨by rw [nI_1, cnt_t (by simp [plc, vt, e, e2, g]), Nat.add_assoc], hp.2⟩
        · refine Wp.t (nI_le (by omega) (by omega)) ?_
          exact kk _ _ ⟨by rw [add0, cnt_f (by simp [plc, vt, e, e2]; omega)], hp.2⟩
      · rw [if_neg e2]
        refine Wp.t rfl ?_
        exact kk _ _ ⟨by rw [add0, cnt_f (by simp [plc, vt, e2])], hp.2⟩
    · refine Wp.f (nI_ne (by omega) (by omega) e) ?_
      exact kk _ _ ⟨by rw [add0, cnt_f (by simp [plc, vt, e])], hs⟩
  · obtain ⟨rfl, hs⟩ := hI
    simp only [f_X12_placeOf_4]
    refine Wp.eq (M_rd (j := 1) (hM.of hs) i1 (by decide)) ?_
    exact Wp.t (nI_le (Nat.le_refl _) (by omega)) (Wp.ret ⟨rfl, hs⟩)
def ruQ (d : Nat → Nat) (a : Nat) : Nat → Int32
  | 0 => nI (d (37 + a))
  | 1 => nI (d (47 + a))
  | 2 => nI (d (57 + a))
  | 3 => nI (tot d a)
  | 4 => nI (d (67 + a))
  | 5 => nI (mso d a)
  | 6 => nI (d (67 + a)) - nI (nown d a - mso d a)
  | 7 => if mso d a = 0 then 1 else 0
  | 8 => if mso d a = 0 then nI (1 + cnt (plc (vt d (d (37 + a))) (tot d a)) (d 1)) else -2
  | _ => if mso d a = 0 then nI (tot d a) - mo (lst (vt d (d (37 + a))) (d 1)) else -2
theorem X_ru (h : XR d σ) (hw : WF d) (ha : a < d 1) {j : Nat} (hj : j < 10) : Wp (f_X11_runner (nI a) (nI j) σ) (fun r => r.1 = ruQ d a j ∧ ∃ σ', Xs σ σ' ∧ r.2 = xA σ' 0) := by
  have hr := hw.2.1
  have hru := hw.run ha
  have hx := h.2.2.2.2.2 a ha
  have b0 := hw.b (37 + a)
  have hm : mso d a ≤ nown d a := mc_le _
  have h9 : σ 10 (10 + a) 9 = nI (nown d a) := hx.2.2.2.2.1
  have h10 : σ 10 (10 + a) 10 = nI (nown d a - mso d a) := hx.2.2.2.2.2.1
  unfold f_X11_runner
  refine Wp.eq (X_hasRunner h hw _) ?_
  rw [bG_t ((gin_nI_iff (by omega)).mpr ha)]
  refine Wp.f o1n0 ?_
  refine Wp.f (nI_pos (by omega)) ?_
  refine Wp.t (by rw [i9]; exact nI_le (by omega) (by omega)) ?_
  refine Wp.eq (X_runnerAt (by omega)) ?_
  obtain rfl | rfl | rfl | rfl | rfl | rfl | rfl | rfl | rfl | rfl : j = 0 ∨ j = 1 ∨ j = 2 ∨ j = 3 ∨ j = 4 ∨ j = 5 ∨ j = 6 ∨ j = 7 ∨ j = 8 ∨ j = 9 := by omega
  · refine Wp.t (by decide) ?_
    exact Wp.ret ⟨hx.1, _, Xs.rf, rfl⟩
  · refine Wp.f (by decide) (Wp.t (by decide) ?_)
    exact Wp.ret ⟨hx.2.1, _, Xs.rf, rfl⟩
  · refine Wp.f (by decide) (Wp.f (by decide) (Wp.t (by decide) ?_))
    exact Wp.ret ⟨hx.2.2.1, _, Xs.rf, rfl⟩
  · refine Wp.f (by decide) (Wp.f (by decide) (Wp.f (by decide) (Wp.t (by decide) ?_)))
    refine Wp.eq (X_total h hw ha) ?_
    exact Wp.ret ⟨rfl, _, Xs.rf, rfl⟩
  · refine Wp.f (by decide) (Wp.f (by decide) (Wp.f (by decide) (Wp.f (by decide) (Wp.t (by decide) ?_))))
    exact Wp.ret ⟨hx.2.2.2.1.1, _, Xs.rf, rfl⟩
  · refine Wp.f (by decide) (Wp.f (by decide) (Wp.f (by decide) (Wp.f (by decide) (Wp.f (by decide) (Wp.t (by decide) ?_)))))
    refine Wp.ret ⟨?_, _, Xs.rf, rfl⟩
    show σ 10 (10 + a) 9 - σ 10 (10 + a) 10 = nI (mso d a)
    rw [h9, h10, nI_sub (by omega)]
    congr 1
    omega
  · refine Wp.f (by decide) (Wp.f (by decide) (Wp.f (by decide) (Wp.f (by decide) (Wp.f (by decide) (Wp.f (by decide) (Wp.t (by decide) ?_))))))
    refine Wp.ret ⟨?_, _, Xs.rf, rfl⟩
    show σ 10 (10 + a) 8 - σ 10 (10 + a) 10 = nI (d (67 + a)) - nI (nown d a - mso d a)
    rw [hx.2.2.2.1.1, h10]
  · refine Wp.f (by decide) (Wp.f (by decide) (Wp.f (by decide) (Wp.f (by decide) (Wp.f (by decide) (Wp.f (by decide) (Wp.f (by decide) (Wp.t (by decide) ?_)))))))
    refine Wp.eq (X_isValid h hw ha) ?_
    by_cases e : mso d a = 0
    · rw [if_pos e]
      refine Wp.f o1n0 ?_
      exact Wp.ret ⟨by rw [ruQ, if_pos e], _, Xs.rf, rfl⟩
    · rw [if_neg e]
      refine Wp.t rfl ?_
      exact Wp.ret ⟨by rw [ruQ, if_neg e], _, Xs.rf, rfl⟩
  · refine Wp.f (by decide) (Wp.f (by decide) (Wp.f (by decide) (Wp.f (by decide) (Wp.f (by decide) (Wp.f (by decide) (Wp.f (by decide) (Wp.f (by decide) (Wp.t (by decide) ?_))))))))
    refine Wp.eq (X_isValid h hw ha) ?_
    by_cases e : mso d a = 0
    · rw [if_pos e]
      refine Wp.f o1n0 ?_
      refine Wp.eq (X_total h hw ha) ?_
      refine Wp.eq (X_placeByTotal h hw ha) ?_
      exact Wp.ret ⟨by rw [ruQ, if_pos e], _, Xs.rf, rfl⟩
    · rw [if_neg e]
      refine Wp.t rfl ?_
      exact Wp.ret ⟨by rw [ruQ, if_neg e], _, Xs.rf, rfl⟩
  · refine Wp.f (by decide) (Wp.f (by decide) (Wp.f (by decide) (Wp.f (by decide) (Wp.f (by decide) (Wp.f (by decide) (Wp.f (by decide) (Wp.f (by decide) (Wp.f (by decide) ?_))))))))
    refine Wp.eq (X_isValid h hw ha) ?_
    by_cases e : mso d a = 0
    · rw [if_pos e]
      refine Wp.f o1n0 ?_
      refine Wp.eq (X_total h hw ha) ?_
      dsimp only
      rw [hx.1]
      refine Wp.eq (X_leastTotal h hw (by omega)) ?_
      exact Wp.ret ⟨by rw [ruQ, if_pos e] <;> simp, _, Xs.rf, rfl⟩
    · rw [if_neg e]
      refine Wp.t rfl ?_
      exact Wp.ret ⟨by rw [ruQ, if_neg e] <;> simp, _, Xs.rf, rfl⟩
theorem M_ru (hM : MR d σ) (hw : WF d) (ha : a < d 1) {j : Nat} (hj : j < 10) : Wp (f_X12_runner_24 (nI a) (nI j) 1 σ) (fun r => r.1 = ruQ d a j ∧ Ms (mR σ 0) r.2) := by
  have hr := hw.2.1
  have h3 := hw.1
  have hru := hw.run ha
  have ho := hw.own ha
  have b0 := hw.b (37 + a)
  have hm : mso d a ≤ nown d a := mc_le _
  have z0 : (nI (mso d a) = 0) ↔ mso d a = 0 := by rw [i0]; exact nI_inj (by omega) (by omega)
  unfold f_X12_runner_24
  refine Wp.eq un_1 ?_
  refine Wp.eq ref_0 ?_
  refine Wp.t rfl ?_
  refine Wp.bind (M_missedBy hM.mR hw Ms.rf ha) (fun q hq => ?_)
  have hM2 := (hM.mR (e := 0)).of hq.2.1
  rw [hq.1]
  obtain rfl | rfl | rfl | rfl | rfl | rfl | rfl | rfl | rfl | rfl : j = 0 ∨ j = 1 ∨ j = 2 ∨ j = 3 ∨ j = 4 ∨ j = 5 ∨ j = 6 ∨ j = 7 ∨ j = 8 ∨ j = 9 := by omega
  · refine Wp.t (by decide) ?_
    refine Wp.eq (M_rd (j := 37 + a) hM2 (by rw [i37, nI_add]) (by omega)) ?_
    exact Wp.ret ⟨rfl, hq.2.1⟩
  · refine Wp.f (by decide) (Wp.t (by decide) ?_)
    refine Wp.eq (M_rd (j := 47 + a) hM2 (by rw [i47, nI_add]) (by omega)) ?_
    exact Wp.ret ⟨rfl, hq.2.1⟩
  · refine Wp.f (by decide) (Wp.f (by decide) (Wp.t (by decide) ?_))
    refine Wp.eq (M_rd (j := 57 + a) hM2 (by rw [i57, nI_add]) (by omega)) ?_
    exact Wp.ret ⟨rfl, hq.2.1⟩
  · refine Wp.f (by decide) (Wp.f (by decide) (Wp.f (by decide) (Wp.t (by decide) ?_)))
    refine Wp.eq (M_totalOf hM2 hw ha) ?_
    exact Wp.ret ⟨rfl, hq.2.1⟩
  · refine Wp.f (by decide) (Wp.f (by decide) (Wp.f (by decide) (Wp.f (by decide) (Wp.t (by decide) ?_))))
    refine Wp.eq (M_rd (j := 67 + a) hM2 (by rw [i67, nI_add]) (by omega)) ?_
    exact Wp.ret ⟨rfl, hq.2.1⟩
  · refine Wp.f (by decide) (Wp.f (by decide) (Wp.f (by decide) (Wp.f (by decide) (Wp.f (by decide) (Wp.t (by decide) ?_)))))
    exact Wp.ret ⟨rfl, hq.2.1⟩
  · refine Wp.f (by decide) (Wp.f (by decide) (Wp.f (by decide) (Wp.f (by decide) (Wp.f (by decide) (Wp.f (by decide) (Wp.t (by decide) ?_))))))
    refine Wp.eq (M_rd (j := 67 + a) hM2 (by rw [i67, nI_add]) (by omega)) ?_
    refine Wp.eq (M_rd (j := 37 + a) hM2 (by rw [i37, nI_add]) (by omega)) ?_
    refine Wp.eq (M_rd (j := 4 + d (37 + a)) hM2 (by rw [i4, nI_add]) (by omega)) ?_
    refine Wp.ret ⟨?_, hq.2.1⟩
    show nI (d (67 + a)) - (nI (nown d a) - nI (mso d a)) = nI (d (67 + a)) - nI (nown d a - mso d a)
    rw [nI_sub hm]
  · refine Wp.f (by decide) (Wp.f (by decide) (Wp.f (by decide) (Wp.f (by decide) (Wp.f (by decide) (Wp.f (by decide) (Wp.f (by decide) (Wp.t (by decide) ?_)))))))
    by_cases e : mso d a = 0
    · refine Wp.t (z0.mpr e) ?_
      exact Wp.ret ⟨by rw [ruQ, if_pos e], hq.2.1⟩
    · refine Wp.f (fun z => e (z0.mp z)) ?_
      exact Wp.ret ⟨by rw [ruQ, if_neg e], hq.2.1⟩
  · refine Wp.f (by decide) (Wp.f (by decide) (Wp.f (by decide) (Wp.f (by decide) (Wp.f (by decide) (Wp.f (by decide) (Wp.f (by decide) (Wp.f (by decide) (Wp.t (by decide) ?_))))))))
    by_cases e : mso d a = 0
    · refine Wp.t (z0.mpr e) ?_
      refine Wp.bind (M_placeOf hM.mR hw hq.2.1 ha) (fun p hp => ?_)
      exact Wp.ret ⟨by rw [ruQ, if_pos e]; exact hp.1, hp.2⟩
    · refine Wp.f (fun z => e (z0.mp z)) ?_
      exact Wp.ret ⟨by rw [ruQ, if_neg e], hq.2.1⟩
  · refine Wp.f (by decide) (Wp.f (by decide) (Wp.f (by decide) (Wp.f (by decide) (Wp.f (by decide) (Wp.f (by decide) (Wp.f (by decide) (Wp.f (by decide) (Wp.f (by decide) ?_))))))))
    by_cases e : mso d a = 0
    · refine Wp.t (z0.mpr e) ?_
      refine Wp.eq (M_totalOf hM2 hw ha) ?_
      refine Wp.eq (M_rd (j := 37 + a) hM2 (by rw [i37, nI_add]) (by omega)) ?_
      refine Wp.bind (M_leastTotal hM.mR hw hq.2.1 (by omega)) (fun p hp => ?_)
      rw [hp.1]
      exact Wp.ret ⟨by rw [ruQ, if_pos e] <;> simp, hp.2⟩
    · refine Wp.f (fun z => e (z0.mp z)) ?_
      exact Wp.ret ⟨by rw [ruQ, if_neg e] <;> simp, hq.2.1⟩
theorem S_runner : SS2 Inv f_X11_runner f_X12_runner := by
  intro x y
  refine QA.ss (fun σ d hI hw hM hX => ?_)
  have hr := hw.2.1
  by_cases hx : gin x (d 1) = true
  · obtain ⟨hxe, ha⟩ := gin_nI hx
    generalize x.toNatClampNeg = a at hxe ha
    subst hxe
    by_cases hy : gin y (9 + 1) = true
    · obtain ⟨hye, hj⟩ := gin_nI hy
      generalize y.toNatClampNeg = j at hye hj
      subst hye
      refine QA.yes (ruQ d a j) (X_ru hX hw ha hj) (fun σ2 hM2 hM3 => ?_)
      unfold f_X12_runner
      refine Wp.eq (M_isRunner hM3 hw _) ?_
      rw [bG_t hx]
      refine Wp.f o1n0 ?_
      rw [i9]
      refine Wp.eq (M_in0 (by decide) _) ?_
      rw [bG_t hy]
      refine Wp.f o1n0 ?_
      exact M_ru hM3 hw ha hj
    · refine QA.no 1 (by decide) ?_ (fun σ2 hM2 => ?_)
      · unfold f_X11_runner
        rw [X_hasRunner hX hw, bG_t hx, bind_some', if_neg o1n0]
        rcases sel_f (by decide) hy with q | ⟨q1, q2⟩
        · rw [if_pos q, X_refused]; rfl
        · rw [if_neg q1, if_neg (by rw [i9]; exact q2), X_refused]; rfl
      · unfold f_X12_runner f_X12_runner_23 f_X12_runner_24
        rw [M_isRunner hM2 hw, bG_t hx, bind_some', if_neg o1n0, i9, M_in0 (by decide), bG_f hy, bind_some', if_pos rfl, un_0, bind_some', ref_1, bind_some', if_neg o1n0]
  · refine QA.no 1 (by decide) ?_ (fun σ2 hM2 => ?_)
    · unfold f_X11_runner
      rw [X_hasRunner hX hw, bG_f hx, bind_some', if_pos rfl, X_refused]
      rfl
    · unfold f_X12_runner f_X12_runner_23 f_X12_runner_24
      rw [M_isRunner hM2 hw, bG_f hx, bind_some', if_pos rfl, un_0, bind_some', ref_1, bind_some', if_neg o1n0]
end Q8
