/-! finish, become, move -/
section A3
variable {d e : Nat → Nat} {σ τ τ' : gSt} {m a c i k t v : Nat}
theorem X_keepA (hF : Fo σ τ) (hX : XR e τ) (kd u a b c : Nat) (hm : m ≤ 10) (h26 : σ 26 0 2 = nI m) : ∃ τ', f_X0_keep (nI kd) (nI u) (nI a) (nI b) (nI c) τ = some τ' ∧ XR e τ' ∧ Xa σ τ' ∧ ∀ m, m ≤ 10 → σ 26 0 2 = nI m → KX m kd u a b c σ τ' := by
  have h26' : τ 26 0 2 = nI m := (hF 26 0 2 (by omega) (by omega) (by omega) (by omega) (by omega) (by omega) (by omega)).trans h26
  obtain ⟨τ', hτ, hτ1, hτ2⟩ := X_keep (kd := kd) (u := u) (a := a) (b := b) (c := c) (σ := τ) hm h26'
  have hfin := X_fin (σ := σ) hF hX hτ1 (fun m' hm' h' => by
    have e : nI m' = nI m := by rw [← h', h26']
    rw [(nI_inj (by omega) (by omega)).mp e]
    exact hτ2)
  exact ⟨τ', hτ, hfin.1, hfin.2.1, hfin.2.2⟩
theorem M_30 {m2 : Nat} (h30 : σ 28 0 30 = nI m2) : mR σ 0 28 0 30 = nI m2 := by rw [← h30]; simp [mR, gup]
theorem in_fin {n : Nat} (hn : n < 10000) (y : Int32) : f_X12_in y (nI n + 1) 9999 σ = some (if y ≤ nI n then 0 else if y ≤ 9999 then 1 else 0, σ) := by
  unfold f_X12_in
  rw [nI_1]
  have e1 : (nI n).toInt = (n : Int) := nI_toInt (by omega)
  have e2 : (nI (n + 1)).toInt = (n : Int) + 1 := by rw [nI_toInt (by omega)]; omega
  by_cases h : y ≤ nI n
  · rw [if_pos h, if_pos]
    rw [Int32.lt_iff_toInt_lt, e2]
    rw [Int32.le_iff_toInt_le, e1] at h
    omega
  · rw [if_neg h, if_neg]
    · by_cases h2 : y ≤ 9999
      · rw [if_neg (nlt_of_le h2), if_pos h2]
      · rw [if_pos (lt_of_nle h2), if_neg h2]
    · rw [Int32.lt_iff_toInt_lt, e2]
      rw [Int32.le_iff_toInt_le, e1] at h
      omega
theorem S_finish : SS2 Inv f_X11_finish f_X12_finish := by
  intro x y
  refine AC.ss (fun σ d hI hw hM hX => ?_)
  have h10 := hw.2.1
  by_cases hx : gin x (d 1) = true
  · obtain ⟨hxe, ha⟩ := gin_nI hx
    generalize x.toNatClampNeg = a at hxe ha
    subst hxe
    have hru := hw.run ha
    have bf := hw.b (57 + a)
    have bs0 := hw.b (47 + a)
    obtain ⟨g5, g6, g7, g8, -⟩ := hX.2.2.2.2.2 a ha
    by_cases hy1 : y ≤ nI (d (47 + a))
    · refine Or.inl (QA.no 2 (by decide) ?_ (fun σ2 hM2 => ?_))
      · unfold f_X11_finish
        rw [X_hasRunner hX hw, bG_t hx, bind_some', if_neg o1n0, X_runnerAt (by omega), bind_some']
        refine (if_pos (show y ≤ σ 10 (10 + a) 6 by rw [g6]; exact hy1)).trans ?_
        rfl
      · unfold f_X12_finish f_X12_finish_36 f_X12_finish_37 f_X12_finish_90
        rw [M_isRunner hM2 hw, bG_t hx, bind_some', if_neg o1n0]
        dsimp only
        rw [M_rd (j := 47 + a) hM2 (by rw [i47, nI_add]) (by omega), bind_some', in_fin (by omega), if_pos hy1, bind_some', if_pos rfl, une_2, bind_some', if_neg (show ¬ (2 : Int32) = 0 by decide), ref_2, bind_some', if_neg o1n0]
    · by_cases hy2 : y ≤ 9999
      · have hy0 : ¬ y < 0 := fun q => hy1 (Int32.le_trans (Int32.le_of_lt q) (nI_pos' (by omega)))
        obtain ⟨t, ht, rfl⟩ := nI_of hy0
        have ht1 : d (47 + a) < t := Nat.lt_of_not_le (fun q => hy1 (nI_le q (by omega)))
        have ht2 : t ≤ 9999 := Nat.le_of_not_lt (fun q => (nI_ge (a := 9999) q (by omega)) (by rw [← i9999]; exact hy2))
        have c1 : ¬ nI t ≤ σ 10 (10 + a) 6 := by rw [g6]; exact hy1
        have m37 : ∀ σ2, MR d σ2 → f_X12_finish (nI a) (nI t) σ2 = f_X12_finish_37 (nI a) (nI t) 1 1 σ2 := fun σ2 hM2 => by
          unfold f_X12_finish
          rw [M_isRunner hM2 hw, bG_t hx, bind_some', if_neg o1n0]
          dsimp only
          rw [M_rd (j := 47 + a) hM2 (by rw [i47, nI_add]) (by omega), bind_some', in_fin (by omega), if_neg hy1, if_pos hy2, bind_some', if_neg o1n0]
        have tl : 0 < d (67 + a) → f_X9_timeOf (10 + a) (σ 10 (10 + a) 8 - 1) σ = some (nI (dT d a (d (67 + a) - 1)), σ) := fun hp => by
          rw [g8.1, i1, nI_sub (by omega)]
          exact X_timeOf g8 hru.2.2 (by omega)
        have bl := hw.b (237 + 16 * a + (d (67 + a) - 1))
        by_cases hok : 0 < d (67 + a) → d (237 + 16 * a + (d (67 + a) - 1)) ≤ t
        · refine Or.inr (fun ⟨m, hm, h26⟩ => ?_)
          obtain ⟨τ, hτ, k1, k2, k3⟩ := X_keepA (Fr.up (r := 10 + a) (k := 10) (s := 7) (v := nI t) (by omega) Fr.rf).fo (op_finish (t := t) hX hw ha) 3 a (d (57 + a)) 0 0 hm h26
          refine ⟨upd1 d (57 + a) t, nI (d (57 + a)), τ, finish_e hw ha ht1 (by omega) hok, upd1_ne (by omega), upd1_ne (by omega), told_of hw ha, ?_, k1, k2, ⟨3, a, d (57 + a), 0, 0, ⟨by omega, hw.b _, by decide, by decide⟩, by show a < upd1 d (57 + a) t 1; rw [upd1_ne (by omega)]; exact ha, by show Eqv (upd1 (upd1 d (57 + a) t) (57 + a) (d (57 + a))) d; rw [upd1_back]; exact Eqv.rf, k3⟩, fun σ2 hM2 _ m2 hm2 h30 => ?_⟩
          · have fin : f_X11_finish_74 (nI a) (nI t) (10 + a) σ = some (nI (d (57 + a)), xA τ 0) := by
              unfold f_X11_finish_74
              rw [g7]
              rw [show (f_X0_keep 3 (nI a) (nI (d (57 + a))) 0 0 (gup σ 10 (10 + a) 7 (nI t))) = some τ from hτ, bind_some', X_answered]
              rfl
            unfold f_X11_finish
            rw [X_hasRunner hX hw, bG_t hx, bind_some', if_neg o1n0, X_runnerAt (by omega), bind_some']
            refine (if_neg c1).trans ?_
            refine (if_pos hy2).trans ?_
            by_cases hp : d (67 + a) = 0
            · refine (if_pos (show σ 10 (10 + a) 8 ≤ 0 by rw [g8.1, hp]; decide)).trans ?_
              exact fin
            · refine (if_neg (show ¬ σ 10 (10 + a) 8 ≤ 0 by rw [g8.1]; exact nI_nle (by omega) (by omega))).trans ?_
              dsimp only
              rw [tl (by omega), bind_some']
              refine (if_pos (show nI (dT d a (d (67 + a) - 1)) ≤ nI t from nI_le (hok (by omega)) (by omega))).trans ?_
              exact fin
          · rw [m37 σ2 hM2]
            have fin : Wp (f_X12_finish_90 (nI a) (nI t) 0 σ2) (fun r => r.1 = nI (d (57 + a)) ∧ MR (upd1 d (57 + a) t) r.2 ∧ Ma σ2 r.2 ∧ r.2 28 0 1 = 0 ∧ r.2 28 0 3 = -1 ∧ KM m2 σ2 r.2) := by
              unfold f_X12_finish_90
              refine Wp.eq ref_0 ?_
              refine Wp.t rfl ?_
              refine Wp.bind (M_comes (j := 57 + a) (v := t) hM2.mR hm2 (M_30 h30) (by rw [i57, nI_add]) (by omega)) (fun r hr => ?_)
              have hf := M_fin hr.2.2.1 hr.2.2.2
              exact Wp.ret ⟨hr.1, hr.2.1, hf.1, hf.2.1, hf.2.2.1, hf.2.2.2⟩
            unfold f_X12_finish_37 f_X12_finish_89
            refine Wp.eq une_1 ?_
            refine Wp.t rfl ?_
            refine Wp.eq (M_rd (j := 67 + a) hM2 (by rw [i67, nI_add]) (by omega)) ?_
            by_cases hp : d (67 + a) = 0
            · refine Wp.t (by rw [hp]; decide) ?_
              exact fin
            · refine Wp.f (nI_nle (by omega) (by omega)) ?_
              refine Wp.eq (M_rd (j := 67 + a) hM2 (by rw [i67, nI_add]) (by omega)) ?_
              refine Wp.eq (a := (nI (d (237 + 16 * a + (d (67 + a) - 1))), σ2)) (by rw [i1, nI_sub (by omega)]; exact M_punchTime hM2 (by omega)) ?_
              refine Wp.t (nI_le (hok (by omega)) (by omega)) ?_
              exact fin
        · have hp : 0 < d (67 + a) := Decidable.byContradiction (fun q => hok (fun z => absurd z q))
          have hlt : t < d (237 + 16 * a + (d (67 + a) - 1)) := Decidable.byContradiction (fun q => hok (fun _ => by omega))
          refine Or.inl (QA.no 5 (by decide) ?_ (fun σ2 hM2 => ?_))
          · unfold f_X11_finish
            rw [X_hasRunner hX hw, bG_t hx, bind_some', if_neg o1n0, X_runnerAt (by omega), bind_some']
            refine (if_neg c1).trans ?_
            refine (if_pos hy2).trans ?_
            refine (if_neg (show ¬ σ 10 (10 + a) 8 ≤ 0 by rw [g8.1]; exact nI_nle (by omega) (by omega))).trans ?_
            dsimp only
            rw [tl (by omega), bind_some']
            refine (if_neg (show ¬ nI (dT d a (d (67 + a) - 1)) ≤ nI t from nI_ge hlt (Nat.lt_trans bl (by decide)))).trans ?_
            rfl
          · rw [m37 σ2 hM2]
            unfold f_X12_finish_37 f_X12_finish_90
            rw [une_1, bind_some', if_pos rfl, M_rd (j := 67 + a) hM2 (by rw [i67, nI_add]) (by omega), bind_some', if_neg (nI_nle (by omega) (by omega)), bind_some', show f_X12_punchTime (nI a) (nI (d (67 + a)) - 1) σ2 = some (nI (d (237 + 16 * a + (d (67 + a) - 1))), σ2) from (by rw [i1, nI_sub (by omega)]; exact M_punchTime hM2 (by omega)), bind_some', if_neg (nI_ge hlt (by omega)), ref_e (by decide), bind_some', if_neg o1n0]
      · refine Or.inl (QA.no 2 (by decide) ?_ (fun σ2 hM2 => ?_))
        · unfold f_X11_finish
          rw [X_hasRunner hX hw, bG_t hx, bind_some', if_neg o1n0, X_runnerAt (by omega), bind_some']
          refine (if_neg (show ¬ y ≤ σ 10 (10 + a) 6 by rw [g6]; exact hy1)).trans ?_
          refine (if_neg hy2).trans ?_
          rfl
        · unfold f_X12_finish f_X12_finish_36 f_X12_finish_37 f_X12_finish_90
          rw [M_isRunner hM2 hw, bG_t hx, bind_some', if_neg o1n0]
          dsimp only
          rw [M_rd (j := 47 + a) hM2 (by rw [i47, nI_add]) (by omega), bind_some', in_fin (by omega), if_neg hy1, if_neg hy2, bind_some', if_pos rfl, une_2, bind_some', if_neg (show ¬ (2 : Int32) = 0 by decide), ref_2, bind_some', if_neg o1n0]
  · refine Or.inl (QA.no 1 (by decide) ?_ (fun σ2 hM2 => ?_))
    · unfold f_X11_finish
      rw [X_hasRunner hX hw, bG_f hx, bind_some', if_pos rfl, X_refused]
      rfl
    · unfold f_X12_finish f_X12_finish_36 f_X12_finish_37 f_X12_finish_90
      rw [M_isRunner hM2 hw, bG_f hx, bind_some', if_pos rfl]
      dsimp only
      rw [une_0, bind_some', if_neg o1n0, ref_1, bind_some', if_neg o1n0]
theorem S_move : SS2 Inv f_X11_move f_X12_move := by
  intro x y
  refine AC.ss (fun σ d hI hw hM hX => ?_)
  have h10 := hw.2.1
  have h3 := hw.1
  by_cases hx : gin x (d 1) = true
  · obtain ⟨hxe, ha⟩ := gin_nI hx
    generalize x.toNatClampNeg = a at hxe ha
    subst hxe
    have hru := hw.run ha
    obtain ⟨g5, -, -, -, -⟩ := hX.2.2.2.2.2 a ha
    by_cases hy : gin y (d 0) = true
    · obtain ⟨hye, hc⟩ := gin_nI hy
      generalize y.toNatClampNeg = c at hye hc
      subst hye
      refine Or.inr (fun ⟨m, hm, h26⟩ => ?_)
      obtain ⟨τ0, hτ0, f0, x0⟩ := op_move hX hw ha hc
      obtain ⟨τ, hτ, k1, k2, k3⟩ := X_keepA f0.fo x0 4 a (d (37 + a)) 0 0 hm h26
      refine ⟨upd1 d (37 + a) c, nI (d (37 + a)), τ, ?_, upd1_ne (by omega), upd1_ne (by omega), told_of hw ha, ?_, k1, k2, ⟨4, a, d (37 + a), 0, 0, ⟨by omega, hw.b _, by decide, by decide⟩, ⟨by rw [upd1_ne (by omega)]; exact ha, by rw [upd1_ne (by omega)]; exact hru.1⟩, by show Eqv (upd1 (upd1 d (37 + a) c) (37 + a) (d (37 + a))) d; rw [upd1_back]; exact Eqv.rf, k3⟩, fun σ2 hM2 _ m2 hm2 h30 => ?_⟩
      · refine hw.mk2 (upd1_ne (by omega)) (upd1_ne (by omega)) (by rw [upd1_ne (by omega)]; exact hw.2.2.1) (by rw [upd1_ne (by omega)]; exact hw.2.2.2.1) (upd1_b hw (by omega)) (fun c hc => by rw [upd1_ne (by omega)]; exact hw.len hc) (fun b hb => ?_)
        have hrb := hw.run hb
        by_cases eb : b = a
        · subst eb
          obtain ⟨w1, w2, w3, w4, w5⟩ := hw.2.2.2.2.2.2.2 b hb
          refine ⟨by rw [upd1_eq, upd1_ne (by omega)]; exact hc, by rw [upd1_ne (by omega), upd1_ne (by omega)]; exact w2, by rw [upd1_ne (by omega)]; exact w3, fun k hk2 => ?_, fun k hk2 => ?_⟩
          · rw [upd1_ne (by omega)] at hk2
            rw [upd1_ne (by omega), upd1_ne (by omega), upd1_ne (by omega)]
            exact w4 k hk2
          · rw [upd1_ne (by omega)] at hk2
            rw [upd1_ne (by omega), upd1_ne (by omega)]
            exact w5 k hk2
        · exact RWf.ag hw hb (upd1_ne (by omega)) ⟨upd1_ne (by omega), upd1_ne (by omega), upd1_ne (by omega), upd1_ne (by omega), fun k hk2 => ⟨upd1_ne (by omega), upd1_ne (by omega)⟩⟩
      · unfold f_X11_move
        rw [X_hasRunner hX hw, bG_t hx, bind_some', if_neg o1n0, X_hasCourse hX hw, bG_t hy, bind_some', if_neg o1n0, X_runnerAt (by omega), bind_some']
        dsimp only
        rw [hτ0, bind_some', g5, show (f_X0_keep 4 (nI a) (nI (d (37 + a))) 0 0 τ0) = some τ from hτ, bind_some', X_answered]
        rfl
      · unfold f_X12_move f_X12_move_22
        refine Wp.eq (M_isRunner hM2 hw _) ?_
        rw [bG_t hx]
        refine Wp.f o1n0 ?_
        refine Wp.eq (M_isCourse hM2 hw _) ?_
        rw [bG_t hy]
        refine Wp.f o1n0 ?_
        refine Wp.eq un_1 ?_
        refine Wp.eq ref_0 ?_
        refine Wp.t rfl ?_
        refine Wp.bind (M_comes (j := 37 + a) (v := c) hM2.mR hm2 (M_30 h30) (by rw [i37, nI_add]) (by omega)) (fun r hr => ?_)
        have hf := M_fin hr.2.2.1 hr.2.2.2
        exact Wp.ret ⟨hr.1, hr.2.1, hf.1, hf.2.1, hf.2.2.1, hf.2.2.2⟩
    · refine Or.inl (QA.no 1 (by decide) ?_ (fun σ2 hM2 => ?_))
      · unfold f_X11_move
        rw [X_hasRunner hX hw, bG_t hx, bind_some', if_neg o1n0, X_hasCourse hX hw, bG_f hy, bind_some', if_pos rfl, X_refused]
        rfl
      · unfold f_X12_move f_X12_move_21 f_X12_move_22
        rw [M_isRunner hM2 hw, bG_t hx, bind_some', if_neg o1n0, M_isCourse hM2 hw, bG_f hy, bind_some', if_pos rfl, un_0, bind_some', ref_1, bind_some', if_neg o1n0]
  · refine Or.inl (QA.no 1 (by decide) ?_ (fun σ2 hM2 => ?_))
    · unfold f_X11_move
      rw [X_hasRunner hX hw, bG_f hx, bind_some', if_pos rfl, X_refused]
      rfl
    · unfold f_X12_move f_X12_move_21 f_X12_move_22
      rw [M_isRunner hM2 hw, bG_f hx, bind_some', if_pos rfl, un_0, bind_some', ref_1, bind_some', if_neg o1n0]
theorem S_become : SS2 Inv f_X11_become f_X12_become := by
  intro x y
  refine AC.ss (fun σ d hI hw hM hX => ?_)
  have h10 := hw.2.1
  have h3 := hw.1
  have hin1 : ∀ σ2, f_X12_in x 0 1 σ2 = some (bG x (1 + 1), σ2) := fun σ2 => by rw [i1]; exact M_in0 (by decide) _
  have hin6 : ∀ σ2, f_X12_in y 0 600 σ2 = some (bG y (600 + 1), σ2) := fun σ2 => by rw [i600]; exact M_in0 (by decide) _
  have m22 : ∀ σ2, f_X12_become_22 x y 0 σ2 = some (-1, mR σ2 1) := fun σ2 => by
    unfold f_X12_become_22
    rw [hin6, bind_some', une_0, bind_some', ref_1, bind_some', if_neg o1n0]
  by_cases h0 : d 0 = 0
  · refine Or.inl (QA.noT 1 (by decide) ?_ (fun σ2 hM2 hT2 => ?_))
    · unfold f_X11_become
      rw [X_isTold hX hw, if_pos h0, bind_some', if_pos rfl, X_refused]
      rfl
    · unfold f_X12_become f_X12_become_21
      rw [if_pos (by rw [hT2, if_pos h0]), m22]
  · by_cases hx : gin x (1 + 1) = true
    · have hx' := sel_t (by decide) hx
      obtain ⟨hxe, hw2⟩ := gin_nI hx
      generalize x.toNatClampNeg = w at hxe hw2
      subst hxe
      by_cases hy : gin y (600 + 1) = true
      · have hy' := sel_t (by decide) hy
        obtain ⟨hye, hv⟩ := gin_nI hy
        generalize y.toNatClampNeg = v at hye hv
        subst hye
        refine Or.inr (fun ⟨m, hm, h26⟩ => ?_)
        obtain ⟨τ0, hτ0, f0, x0⟩ := op_widen (v := v) hX hw (Nat.pos_of_ne_zero h0) hw2
        obtain ⟨τ, hτ, k1, k2, k3⟩ := X_keepA f0 x0 5 w (d (2 + w)) 0 0 hm h26
        have ag : ∀ a, a < d 1 → AgP d (upd1 d (2 + w) v) a := fun a ha => ⟨upd1_ne (by omega), upd1_ne (by omega), upd1_ne (by omega), upd1_ne (by omega), fun k hk => ⟨upd1_ne (by omega), upd1_ne (by omega)⟩⟩
        refine ⟨upd1 d (2 + w) v, nI (d (2 + w)), τ, ?_, upd1_ne (by omega), upd1_ne (by omega), by omega, ?_, k1, k2, ⟨5, w, d (2 + w), 0, 0, ⟨by omega, hw.b _, by decide, by decide⟩, hw2, by show Eqv (upd1 (upd1 d (2 + w) v) (2 + w) (d (2 + w))) d; rw [upd1_back]; exact Eqv.rf, k3⟩, fun σ2 hM2 hT2 m2 hm2 h30 => ?_⟩
        · refine hw.mk2 (upd1_ne (by omega)) (upd1_ne (by omega)) ?_ ?_ (upd1_b hw (by omega)) (fun c hc => by rw [upd1_ne (by omega)]; exact hw.len hc) (fun b hb => RWf.ag hw hb (upd1_ne (by omega)) (ag b hb))
          · have := hw.2.2.1
            unfold upd1
            split <;> omega
          · have := hw.2.2.2.1
            unfold upd1
            split <;> omega
        · have fin : ∀ u, u = nI (d (2 + w)) → f_X11_become_63 (nI w) (nI v) u σ = some (nI (d (2 + w)), xA τ 0) := fun u hu => by
            subst hu
            unfold f_X11_become_63
            rw [hτ0, bind_some', show (f_X0_keep 5 (nI w) (nI (d (2 + w))) 0 0 τ0) = some τ from hτ, bind_some', X_answered]
            rfl
          unfold f_X11_become
          rw [X_isTold hX hw, if_neg h0, bind_some', if_neg o1n0, if_neg hx'.1, if_pos (show nI w ≤ 1 from hx'.2), if_neg hy'.1, if_pos (by rw [i600]; exact hy'.2)]
          by_cases ew : w = 0
          · subst ew
            rw [if_pos (by decide)]
            exact fin _ (by exact hX.2.2.1 (Nat.pos_of_ne_zero h0))
          · obtain rfl : w = 1 := by omega
            rw [if_neg (by decide)]
            exact fin _ (by exact hX.2.2.2.1 (Nat.pos_of_ne_zero h0))
        · unfold f_X12_become
          refine Wp.f (by rw [hT2, if_neg h0]; exact o1n0) ?_
          refine Wp.eq (hin1 σ2) ?_
          rw [bG_t hx]
          refine Wp.f o1n0 ?_
          unfold f_X12_become_22
          refine Wp.eq (hin6 σ2) ?_
          rw [bG_t hy]
          refine Wp.eq une_1 ?_
          refine Wp.eq ref_0 ?_
          refine Wp.t rfl ?_
          refine Wp.bind (M_comes (j := 2 + w) (v := v) hM2.mR hm2 (M_30 h30) (by rw [i2, nI_add]) (by omega)) (fun r hr => ?_)
          have hf := M_fin hr.2.2.1 hr.2.2.2
          exact Wp.ret ⟨hr.1, hr.2.1, hf.1, hf.2.1, hf.2.2.1, hf.2.2.2⟩
      · refine Or.inl (QA.noT 2 (by decide) ?_ (fun σ2 hM2 hT2 => ?_))
        · unfold f_X11_become
          rw [X_isTold hX hw, if_neg h0, bind_some', if_neg o1n0, if_neg hx'.1, if_pos (show nI w ≤ 1 from hx'.2)]
          rcases sel_f (by decide) hy with q | ⟨q1, q2⟩
          · rw [if_pos q, X_refused]; rfl
          · rw [if_neg q1, if_neg (by rw [i600]; exact q2), X_refused]; rfl
        · unfold f_X12_become f_X12_become_22
          rw [if_neg (by rw [hT2, if_neg h0]; exact o1n0), hin1, bG_t hx, bind_some', if_neg o1n0, hin6, bG_f hy, bind_some', une_2, bind_some', ref_2, bind_some', if_neg o1n0]
    · refine Or.inl (QA.noT 1 (by decide) ?_ (fun σ2 hM2 hT2 => ?_))
      · unfold f_X11_become
        rw [X_isTold hX hw, if_neg h0, bind_some', if_neg o1n0]
        rcases sel_f (by decide) hx with q | ⟨q1, q2⟩
        · rw [if_pos q, X_refused]; rfl
        · rw [if_neg q1, if_neg (show ¬ x ≤ 1 from q2), X_refused]; rfl
      · unfold f_X12_become f_X12_become_21
        rw [if_neg (by rw [hT2, if_neg h0]; exact o1n0), hin1, bG_f hx, bind_some', if_pos rfl, m22]
end A3
