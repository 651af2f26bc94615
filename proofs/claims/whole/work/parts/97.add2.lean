/-! add, drop: the acts -/
section A5
variable {d e : Nat → Nat} {σ τ τ' : gSt} {m a b c i k t v z : Nat}
theorem add_ag (hw : WF d) (ha : a < d 1) (hp : d (67 + a) < 16) (hk : k ≤ d (67 + a)) : (∀ c', c' < d 0 → AgC d (adM d a k c t) c') ∧ (∀ b, b < d 1 → b ≠ a → AgP d (adM d a k c t) b) ∧ (∀ j, j < 4 → adM d a k c t j = d j) ∧ adM d a k c t (37 + a) = d (37 + a) ∧ adM d a k c t (47 + a) = d (47 + a) ∧ adM d a k c t (57 + a) = d (57 + a) := by
  have h10 := hw.2.1
  have h3 := hw.1
  refine ⟨fun c' hc' => ?_, fun b hb hne => ?_, fun j hj => adM_o (by omega) (by omega) (by omega) hk, adM_o (by omega) (by omega) (by omega) hk, adM_o (by omega) (by omega) (by omega) hk, adM_o (by omega) (by omega) (by omega) hk⟩
  · have hl := hw.len hc'
    exact ⟨adM_o (by omega) (by omega) (by omega) hk, fun i hi => adM_o (by omega) (by omega) (by omega) hk⟩
  · have hrb := hw.run hb
    exact ⟨adM_o (by omega) (by omega) (by omega) hk, adM_o (by omega) (by omega) (by omega) hk, adM_o (by omega) (by omega) (by omega) hk, adM_o (by omega) (by omega) (by omega) hk, fun z hz => ⟨adM_o (by omega) (by omega) (by omega) hk, adM_o (by omega) (by omega) (by omega) hk⟩⟩
theorem add_bb (hw : WF d) (hp : d (67 + a) < 16) (hc : c < 10000) (ht : t < 10000) : ∀ q, adM d a k c t q < 10000 := fun q => by
  rcases adM_b (a := a) (k := k) hw hc ht q with z | z
  · exact z
  · rw [z.2]; omega
theorem add_e (hw : WF d) (ha : a < d 1) (hp : d (67 + a) < 16) (hk : k ≤ d (67 + a)) (hc : c < 10000) (ht1 : d (47 + a) ≤ t) (ht2 : t ≤ d (57 + a)) (h1 : ∀ j, j < k → dT d a j ≤ t) (h2 : ∀ j, k ≤ j → j < d (67 + a) → t < dT d a j) : WF (adM d a k c t) := by
  have h10 := hw.2.1
  have bf := hw.b (57 + a)
  obtain ⟨g1, g2, g3, g4, g5, g6⟩ := add_ag (c := c) (t := t) hw ha hp hk
  refine hw.mk2 (g3 0 (by omega)) (g3 1 (by omega)) (by rw [g3 2 (by omega)]; exact hw.2.2.1) (by rw [g3 3 (by omega)]; exact hw.2.2.2.1) (add_bb hw hp hc (by omega)) (fun c' hc' => by rw [(g1 c' hc').1]; exact hw.len hc') (fun b hb => ?_)
  by_cases eb : b = a
  · subst eb
    obtain ⟨w1, w2, w3, w4, w5⟩ := hw.2.2.2.2.2.2.2 b hb
    refine ⟨by rw [g4, g3 0 (by omega)]; exact w1, by rw [g5, g6]; exact w2, by rw [adM_n]; omega, fun z hz => ?_, fun z hz => ?_⟩
    · rw [adM_n] at hz
      rw [g5, g6, adM_T (by omega) hp hk hz]
      exact isr_all (Q := fun v => d (47 + b) ≤ v ∧ v ≤ d (57 + b)) hk (fun j hj => w4 j hj) ⟨ht1, ht2⟩ hz
    · rw [adM_n] at hz
      rw [adM_T (by omega) hp hk (by omega), adM_T (by omega) hp hk hz]
      unfold isr
      by_cases z1 : z + 1 < k
      · rw [if_pos (by omega), if_pos z1]; exact w5 z (by omega)
      · rw [if_neg z1]
        by_cases z2 : z + 1 = k
        · rw [if_pos (by omega), if_pos z2]; exact h1 z (by omega)
        · rw [if_neg z2, Nat.add_sub_cancel]
          by_cases z3 : z = k
          · rw [if_neg (by omega), if_pos z3]; exact Nat.le_of_lt (h2 z (by omega) (by omega))
          · rw [if_neg (by omega), if_neg z3]
            have := w5 (z - 1) (by omega)
            rw [Nat.sub_add_cancel (by omega)] at this
            exact this
  · exact RWf.ag hw hb (g3 0 (by omega)) (g2 b hb eb)
theorem add_back (hw : WF d) (ha : a < d 1) (hp : d (67 + a) < 16) (hk : k ≤ d (67 + a)) : Eqv (rmP (adM d a k c t) a k) d := by
  have h10 := hw.2.1
  have h3 := hw.1
  have o : ∀ q, q ≠ 67 + a → ¬ (77 + 16 * a ≤ q ∧ q < 77 + 16 * a + 16) → ¬ (237 + 16 * a ≤ q ∧ q < 237 + 16 * a + 16) → rmP (adM d a k c t) a k q = d q := fun q q1 q2 q3 => by
    unfold rmP
    rw [if_neg q1, if_neg (by omega), if_neg (by omega)]
    exact adM_o q1 (by omega) (by omega) hk
  refine ⟨o 0 (by omega) (by omega) (by omega), o 1 (by omega) (by omega) (by omega), o 2 (by omega) (by omega) (by omega), o 3 (by omega) (by omega) (by omega), fun c' hc' => ?_, fun b hb => ?_⟩
  · rw [o 0 (by omega) (by omega) (by omega)] at hc'
    have hl := hw.len hc'
    refine ⟨o _ (by omega) (by omega) (by omega), fun i hi => ?_⟩
    rw [o _ (by omega) (by omega) (by omega)] at hi
    exact o _ (by omega) (by omega) (by omega)
  · rw [o 1 (by omega) (by omega) (by omega)] at hb
    by_cases eb : b = a
    · subst eb
      have e67 : rmP (adM d b k c t) b k (67 + b) = d (67 + b) := by
        unfold rmP
        rw [if_pos rfl, adM_n, Nat.add_sub_cancel]
      refine ⟨o _ (by omega) (by omega) (by omega), o _ (by omega) (by omega) (by omega), o _ (by omega) (by omega) (by omega), e67, fun z hz => ?_⟩
      rw [e67] at hz
      constructor
      · unfold rmP
        rw [if_neg (by omega)]
        by_cases z1 : z < k
        · rw [if_neg (by omega), if_neg (by omega), adM_P (by omega) hp hk (by omega), isr, if_pos z1]
        · rw [if_pos (by omega), show 77 + 16 * b + z + 1 = 77 + 16 * b + (z + 1) by omega, adM_P (by omega) hp hk (by omega), isr, if_neg (by omega), if_neg (by omega), Nat.add_sub_cancel]
      · unfold rmP
        rw [if_neg (by omega), if_neg (by omega)]
        by_cases z1 : z < k
        · rw [if_neg (by omega), adM_T (by omega) hp hk (by omega), isr, if_pos z1]
        · rw [if_pos (by omega), show 237 + 16 * b + z + 1 = 237 + 16 * b + (z + 1) by omega, adM_T (by omega) hp hk (by omega), isr, if_neg (by omega), if_neg (by omega), Nat.add_sub_cancel]
    · have hrb := hw.run hb
      have e67 : rmP (adM d a k c t) a k (67 + b) = d (67 + b) := o _ (by omega) (by omega) (by omega)
      refine ⟨o _ (by omega) (by omega) (by omega), o _ (by omega) (by omega) (by omega), o _ (by omega) (by omega) (by omega), e67, fun z hz => ?_⟩
      rw [e67] at hz
      exact ⟨o _ (by omega) (by omega) (by omega), o _ (by omega) (by omega) (by omega)⟩
theorem S_add : SS3 Inv f_X11_add f_X12_add := by
  intro x y w
  refine AC.ss (fun σ d hI hw hM hX => ?_)
  have h10 := hw.2.1
  by_cases hx : gin x (d 1) = true
  · obtain ⟨hxe, ha⟩ := gin_nI hx
    generalize x.toNatClampNeg = a at hxe ha
    subst hxe
    have hru := hw.run ha
    have bf := hw.b (57 + a)
    have bs0 := hw.b (47 + a)
    obtain ⟨g5, g6, g7, g8, -⟩ := hX.2.2.2.2.2 a ha
    rcases code_cases y with ⟨c1, c2⟩ | ⟨c, hc1, hc2, rfl, c1, c2⟩
    · refine Or.inl (QA.no 2 (by decide) ?_ (fun σ2 hM2 => ?_))
      · unfold f_X11_add
        rw [X_hasRunner hX hw, bG_t hx, bind_some', if_neg o1n0, X_runnerAt (by omega), bind_some', c1, bind_some', if_pos rfl, X_refused]
        rfl
      · unfold f_X12_add f_X12_add_53 f_X12_add_54 f_X12_add_89
        rw [M_isRunner hM2 hw, bG_t hx, bind_some', if_neg o1n0, c2, bind_some', if_pos rfl]
        dsimp only
        rw [une_2, bind_some', if_neg (show ¬ (2 : Int32) = 0 by decide), ref_2, bind_some', if_neg o1n0]
    · have mno : ∀ σ2, MR d σ2 → f_X12_in w (nI (d (47 + a))) (nI (d (57 + a))) σ2 = some (0, σ2) → f_X12_add (nI a) (nI c) w σ2 = some (-1, mR σ2 2) := fun σ2 hM2 hin => by
        unfold f_X12_add f_X12_add_53 f_X12_add_54 f_X12_add_89
        rw [M_isRunner hM2 hw, bG_t hx, bind_some', if_neg o1n0, c2, bind_some', if_neg o1n0]
        dsimp only
        rw [M_rd (j := 47 + a) hM2 (by rw [i47, nI_add]) (by omega), bind_some', M_rd (j := 57 + a) hM2 (by rw [i57, nI_add]) (by omega), bind_some', hin, bind_some', if_pos rfl, une_2, bind_some', if_neg (show ¬ (2 : Int32) = 0 by decide), ref_2, bind_some', if_neg o1n0]
      by_cases w1 : w < nI (d (47 + a))
      · refine Or.inl (QA.no 2 (by decide) ?_ (fun σ2 hM2 => mno σ2 hM2 (by unfold f_X12_in; rw [if_pos w1])))
        unfold f_X11_add
        rw [X_hasRunner hX hw, bG_t hx, bind_some', if_neg o1n0, X_runnerAt (by omega), bind_some', c1, bind_some', if_neg o1n0]
        refine (if_pos (show w < σ 10 (10 + a) 6 by rw [g6]; exact w1)).trans ?_
        rfl
      · by_cases w2 : w ≤ nI (d (57 + a))
        · have hw0 : ¬ w < 0 := fun q => w1 (by
            rw [Int32.lt_iff_toInt_lt] at q ⊢
            rw [nI_toInt (by omega)]
            have e0 : (0 : Int32).toInt = 0 := by decide
            omega)
          obtain ⟨t, ht, rfl⟩ := nI_of hw0
          have ht1 : d (47 + a) ≤ t := Nat.le_of_not_lt (fun q => w1 (nI_lt q (by omega)))
          have ht2 : t ≤ d (57 + a) := Nat.le_of_not_lt (fun q => (nI_ge q (by omega)) w2)
          have cx1 : ¬ nI t < σ 10 (10 + a) 6 := by rw [g6]; exact w1
          have cx2 : nI t ≤ σ 10 (10 + a) 7 := by rw [g7]; exact w2
          have m54 : ∀ σ2, MR d σ2 → f_X12_add (nI a) (nI c) (nI t) σ2 = f_X12_add_54 (nI a) (nI c) (nI t) 1 1 σ2 := fun σ2 hM2 => by
            have hin : f_X12_in (nI t) (nI (d (47 + a))) (nI (d (57 + a))) σ2 = some (1, σ2) := by
              unfold f_X12_in
              rw [if_neg w1, if_neg (nlt_of_le w2)]
            unfold f_X12_add
            rw [M_isRunner hM2 hw, bG_t hx, bind_some', if_neg o1n0, c2, bind_some', if_neg o1n0]
            dsimp only
            rw [M_rd (j := 47 + a) hM2 (by rw [i47, nI_add]) (by omega), bind_some', M_rd (j := 57 + a) hM2 (by rw [i57, nI_add]) (by omega), bind_some', hin, bind_some', if_neg o1n0]
          by_cases hp : d (67 + a) < 16
          · refine Or.inr (fun ⟨m, hm, h26⟩ => ?_)
            obtain ⟨K, k1, k2, k3, k4⟩ := X_placeFor hX hw ha (show t < 10000 by omega)
            obtain ⟨a1, a2, a3, a4, a5, a6⟩ := add_ag (c := c) (t := t) hw ha hp k1
            obtain ⟨τ0, hτ0, f0, x0⟩ := op_insP (e := adM d a K c t) (c := c) (t := t) hX hw ha hp k1 (add_bb hw hp (by omega) (by omega)) (a3 0 (by omega)) (a3 1 (by omega)) (a3 2 (by omega)) (a3 3 (by omega)) a1 a2 a4 a5 a6 adM_n (fun z hz => ⟨adM_P (by omega) hp k1 hz, adM_T (by omega) hp k1 hz⟩)
            obtain ⟨τ, hτ, kk1, kk2, kk3⟩ := X_keepA f0.fo x0 0 a K 0 0 hm h26
            refine ⟨adM d a K c t, nI K, τ, add_e hw ha hp k1 (by omega) ht1 ht2 k2 k3, a3 0 (by omega), a3 1 (by omega), told_of hw ha, ?_, kk1, kk2, ⟨0, a, K, 0, 0, ⟨by omega, by omega, by decide, by decide⟩, ⟨by rw [a3 1 (by omega)]; exact ha, by rw [adM_n]; omega⟩, add_back hw ha hp k1, kk3⟩, fun σ2 hM2 _ m2 hm2 h30 => ?_⟩
            · unfold f_X11_add
              rw [X_hasRunner hX hw, bG_t hx, bind_some', if_neg o1n0, X_runnerAt (by omega), bind_some', c1, bind_some', if_neg o1n0]
              refine (if_neg cx1).trans ?_
              refine (if_pos cx2).trans ?_
              refine (if_pos (show σ 10 (10 + a) 8 < 16 by rw [g8.1, i16]; exact nI_lt hp (by decide))).trans ?_
              dsimp only
              rw [k4, bind_some']
              dsimp only
              rw [hτ0, bind_some', show (f_X0_keep 0 (nI a) (nI K) 0 0 τ0) = some τ from hτ, bind_some', X_answered]
              rfl
            · rw [m54 σ2 hM2]
              unfold f_X12_add_54
              refine Wp.eq une_1 ?_
              refine Wp.t rfl ?_
              refine Wp.eq (M_rd (j := 67 + a) hM2 (by rw [i67, nI_add]) (by omega)) ?_
              refine Wp.f (by rw [i16]; exact nI_ne (by omega) (by decide) (by omega)) ?_
              unfold f_X12_add_89
              refine Wp.eq ref_0 ?_
              refine Wp.t rfl ?_
              refine Wp.bind (M_remembers hm2 (M_30 h30)) (fun τ2 hq => ?_)
              have hM0 : MR d (mR σ2 0) := hM2.mR
              have hM3 : MR d τ2 := fun j hj => (hq.1 30 0 j (by omega) (by omega)).trans (hM0 j hj)
              refine Wp.eq (M_rd (j := 67 + a) hM3 (by rw [i67, nI_add]) (by omega)) ?_
              rw [show (16 : Int32) * nI a = nI (16 * a) by rw [i16, nI_mul]]
              have hst := M_add118 (c := c) (a := a) (p := d (67 + a)) (K := K) (by omega) hw.b (show t < 10000 by omega) hp rfl k2 k3 (d (67 + a) - K) gFuel τ2 (by omega) (Nat.lt_trans (by omega) gFuel_ge) (by
                rw [show K + (d (67 + a) - K) = d (67 + a) by omega]
                intro q hq2
                rw [show sh1 d a (d (67 + a)) (d (67 + a)) q = d q by unfold sh1; rw [if_neg (by omega), if_neg (by omega)]]
                exact hM3 q hq2)
              rw [show K + (d (67 + a) - K) = d (67 + a) by omega] at hst
              refine Wp.mono hst (fun r hr => ?_)
              have hf := M_fin (σ := σ2) (m := m2) (τ := r.2) (fun k i s q1 q2 q3 => (hr.2.2 k i s q2).trans (hq.1 k i s q1 q3)) ⟨(hr.2.2 28 0 30 (by decide)).trans hq.2.1, fun j q q1 q2 => (hr.2.2 40 0 _ (by decide)).trans (hq.2.2.1 j q q1 q2), fun q q2 => (hr.2.2 40 0 _ (by decide)).trans (hq.2.2.2 q q2)⟩
              exact ⟨hr.1, hr.2.1, hf.1, hf.2.1, hf.2.2.1, hf.2.2.2⟩
          · have e16 : d (67 + a) = 16 := by omega
            refine Or.inl (QA.no 3 (by decide) ?_ (fun σ2 hM2 => ?_))
            · unfold f_X11_add
              rw [X_hasRunner hX hw, bG_t hx, bind_some', if_neg o1n0, X_runnerAt (by omega), bind_some', c1, bind_some', if_neg o1n0]
              refine (if_neg cx1).trans ?_
              refine (if_pos cx2).trans ?_
              refine (if_neg (show ¬ σ 10 (10 + a) 8 < 16 by rw [g8.1, i16]; exact nI_nlt (by omega) (by omega))).trans ?_
              rfl
            · rw [m54 σ2 hM2]
              unfold f_X12_add_54 f_X12_add_89
              rw [une_1, bind_some', if_pos rfl, M_rd (j := 67 + a) hM2 (by rw [i67, nI_add]) (by omega), bind_some', if_pos (by rw [e16]; rfl), ref_e (by decide), bind_some', if_neg o1n0]
        · refine Or.inl (QA.no 2 (by decide) ?_ (fun σ2 hM2 => mno σ2 hM2 (by unfold f_X12_in; rw [if_neg w1, if_pos (lt_of_nle w2)])))
          unfold f_X11_add
          rw [X_hasRunner hX hw, bG_t hx, bind_some', if_neg o1n0, X_runnerAt (by omega), bind_some', c1, bind_some', if_neg o1n0]
          refine (if_neg (show ¬ w < σ 10 (10 + a) 6 by rw [g6]; exact w1)).trans ?_
          refine (if_neg (show ¬ w ≤ σ 10 (10 + a) 7 by rw [g7]; exact w2)).trans ?_
          rfl
  · refine Or.inl (QA.no 1 (by decide) ?_ (fun σ2 hM2 => ?_))
    · unfold f_X11_add
      rw [X_hasRunner hX hw, bG_f hx, bind_some', if_pos rfl, X_refused]
      rfl
    · unfold f_X12_add f_X12_add_53 f_X12_add_54 f_X12_add_89
      rw [M_isRunner hM2 hw, bG_f hx, bind_some', if_pos rfl]
      dsimp only
      rw [une_0, bind_some', if_neg o1n0, ref_1, bind_some', if_neg o1n0]
end A5
