/-! start, finish, become, move -/
section A2
variable {d e : Nat → Nat} {σ τ τ' : gSt} {m a c i k t v : Nat}
theorem Eqv.rf : Eqv d d := ⟨rfl, rfl, rfl, rfl, fun _ _ => ⟨rfl, fun _ _ => rfl⟩, fun _ _ => ⟨rfl, rfl, rfl, rfl, fun _ _ => ⟨rfl, rfl⟩⟩⟩
theorem upd1_back {j : Nat} : upd1 (upd1 d j v) j (d j) = d := by
  funext q
  unfold upd1
  by_cases h : q = j
  · rw [if_pos h, h]
  · rw [if_neg h, if_neg h]
/-- a runner is as he should be -/
def RWf (e : Nat → Nat) (a : Nat) : Prop := e (37 + a) < e 0 ∧ e (47 + a) < e (57 + a) ∧ e (67 + a) ≤ 16 ∧ (∀ k, k < e (67 + a) → e (47 + a) ≤ e (237 + 16 * a + k) ∧ e (237 + 16 * a + k) ≤ e (57 + a)) ∧ ∀ k, k + 1 < e (67 + a) → e (237 + 16 * a + k) ≤ e (237 + 16 * a + (k + 1))
theorem RWf.ag (hw : WF d) (ha : a < d 1) (h0 : e 0 = d 0) (h : AgP d e a) : RWf e a := by
  obtain ⟨p1, p2, p3, p4, p5⟩ := h
  obtain ⟨w1, w2, w3, w4, w5⟩ := hw.2.2.2.2.2.2.2 a ha
  refine ⟨by rw [p1, h0]; exact w1, by rw [p2, p3]; exact w2, by rw [p4]; exact w3, fun k hk => ?_, fun k hk => ?_⟩
  · rw [p4] at hk
    rw [p2, p3, (p5 k hk).2]
    exact w4 k hk
  · rw [p4] at hk
    rw [(p5 k (by omega)).2, (p5 (k + 1) hk).2]
    exact w5 k hk
theorem WF.mk2 (hw : WF d) (h0 : e 0 = d 0) (h1 : e 1 = d 1) (h2 : e 2 ≤ 600) (h3 : e 3 ≤ 600) (hb : ∀ j, e j < 10000) (hc : ∀ c, c < d 0 → 1 ≤ e (4 + c) ∧ e (4 + c) ≤ 10) (ha : ∀ a, a < d 1 → RWf e a) : WF e :=
  ⟨by rw [h0]; exact hw.1, by rw [h1]; exact hw.2.1, h2, h3, hb, by rw [h0, h1]; exact hw.2.2.2.2.2.1, fun c h => hc c (by rw [h0] at h; exact h), fun a h => ha a (by rw [h1] at h; exact h)⟩
theorem upd1_b (hw : WF d) {j : Nat} (hv : v < 10000) : ∀ q, upd1 d j v q < 10000 := fun q => by
  have := hw.b q
  unfold upd1
  split <;> omega
theorem M_comes (hM : MR d σ) (hm : m ≤ 10) (hc : σ 28 0 30 = nI m) {j : Nat} {x : Int32} (hx : x = nI j) (hj : j < 397) : Wp (f_X12_comes x (nI v) σ) (fun r => r.1 = nI (d j) ∧ MR (upd1 d j v) r.2 ∧ (∀ k i s, k ≠ 40 → k ≠ 30 → ¬ (k = 28 ∧ i = 0 ∧ s = 30) → r.2 k i s = σ k i s) ∧ KM m σ r.2) := by
  subst hx
  unfold f_X12_comes
  refine Wp.bind (M_remembers hm hc) (fun τ hq => ?_)
  refine Wp.ld j rfl hj (by decide) ((hq.1 30 0 j (by omega) (by omega)).trans (hM j hj)) ?_
  refine Wp.st j rfl hj (by decide) ?_
  have gk : ∀ k i s, k ≠ 30 → gup τ 30 0 j (nI v) k i s = τ k i s := fun k i s h => by rw [gup_kind h]
  refine Wp.ret ⟨rfl, fun q hq2 => ?_, fun k i s k1 k2 k3 => (gk k i s k2).trans (hq.1 k i s k1 k3), ?_⟩
  · by_cases e : q = j
    · subst e; rw [upd1_eq]; simp [gup]
    · rw [upd1_ne e]
      have := (hq.1 30 0 q (by omega) (by omega)).trans (hM q hq2)
      simp [gup, e, this]
  · exact ⟨(gk 28 0 30 (by decide)).trans hq.2.1, fun j' q a1 a2 => (gk 40 0 _ (by decide)).trans (hq.2.2.1 j' q a1 a2), fun q a2 => (gk 40 0 _ (by decide)).trans (hq.2.2.2 q a2)⟩
/-- what the reference has done behind a call that it doesn't refuse -/
theorem M_fin (hf : ∀ k i s, k ≠ 40 → k ≠ 30 → ¬ (k = 28 ∧ i = 0 ∧ s = 30) → τ k i s = mR σ 0 k i s) (hk : KM m (mR σ 0) τ) : Ma σ τ ∧ τ 28 0 1 = 0 ∧ τ 28 0 3 = -1 ∧ KM m σ τ := by
  have q := mR_q (σ := σ) (e := 0)
  refine ⟨fun k i s a1 a2 a3 => ?_, ?_, ?_, hk.1, fun j z a1 a2 => (hk.2.1 j z a1 a2).trans ?_, fun z a2 => (hk.2.2 z a2).trans ?_⟩
  · by_cases e : k = 40
    · omega
    · rw [hf k i s e a1 (by omega)]
      exact q.1 k i s (by omega) (fun w => by have := a3 w; omega)
  · rw [hf 28 0 1 (by omega) (by omega) (by omega)]; exact q.2.1
  · rw [hf 28 0 3 (by omega) (by omega) (by omega)]; exact q.2.2
  · exact q.1 40 0 _ (by omega) (by omega)
  · exact q.1 30 0 _ (by omega) (by omega)
theorem KX.of {kd u a b c : Nat} (h : KX m kd u a b c τ τ') (h27 : ∀ s, τ 27 0 s = σ 27 0 s) : KX m kd u a b c σ τ' := ⟨h.1, fun j q a1 a2 => (h.2.1 j q a1 a2).trans (h27 _), h.2.2⟩
/-- the class changes its meet, then keeps the act -/
theorem X_fin (hF : Fo σ τ) (hX : XR e τ) {kd u a b c : Nat} (hk : ∀ k i s, k ≠ 26 → k ≠ 27 → τ' k i s = τ k i s) (hK : ∀ m, m ≤ 10 → τ 26 0 2 = nI m → KX m kd u a b c τ τ') : XR e τ' ∧ Xa σ τ' ∧ ∀ m, m ≤ 10 → σ 26 0 2 = nI m → KX m kd u a b c σ τ' := by
  refine ⟨hX.same (fun k i s hk2 => hk k i s (by omega) (by omega)), fun k i s a1 a2 a3 a4 a5 a6 a7 a8 a9 => (hk k i s a8 a9).trans (hF k i s a1 a2 a3 a4 a5 a6 a7), fun m hm h26 => ?_⟩
  exact (hK m hm ((hF 26 0 2 (by omega) (by omega) (by omega) (by omega) (by omega) (by omega) (by omega)).trans h26)).of (fun s => hF 27 0 s (by omega) (by omega) (by omega) (by omega) (by omega) (by omega) (by omega))
theorem nI0 : (0 : Int32) = nI 0 := i0
theorem start_e (hw : WF d) (ha : a < d 1) (ht : t < d (57 + a)) (hk : 0 < d (67 + a) → t ≤ d (237 + 16 * a)) : WF (upd1 d (47 + a) t) := by
  have h10 := hw.2.1
  have h3 := hw.1
  have bf := hw.b (57 + a)
  refine hw.mk2 (upd1_ne (by omega)) (upd1_ne (by omega)) (by rw [upd1_ne (by omega)]; exact hw.2.2.1) (by rw [upd1_ne (by omega)]; exact hw.2.2.2.1) (upd1_b hw (by omega)) (fun c hc => by rw [upd1_ne (by omega)]; exact hw.len hc) (fun b hb => ?_)
  have hrb := hw.run hb
  by_cases eb : b = a
  · subst eb
    obtain ⟨w1, w2, w3, w4, w5⟩ := hw.2.2.2.2.2.2.2 b hb
    refine ⟨by rw [upd1_ne (by omega), upd1_ne (by omega)]; exact w1, by rw [upd1_eq, upd1_ne (by omega)]; exact ht, by rw [upd1_ne (by omega)]; exact w3, fun k hk2 => ?_, fun k hk2 => ?_⟩
    · rw [upd1_ne (by omega)] at hk2
      rw [upd1_eq, upd1_ne (by omega), upd1_ne (by omega)]
      refine ⟨?_, (w4 k hk2).2⟩
      have h1 := hk (by omega)
      have h2 := hw.ts hb (Nat.zero_le k) hk2
      exact Nat.le_trans h1 h2
    · rw [upd1_ne (by omega)] at hk2
      rw [upd1_ne (by omega), upd1_ne (by omega)]
      exact w5 k hk2
  · exact RWf.ag hw hb (upd1_ne (by omega)) ⟨upd1_ne (by omega), upd1_ne (by omega), upd1_ne (by omega), upd1_ne (by omega), fun k hk2 => ⟨upd1_ne (by omega), upd1_ne (by omega)⟩⟩
theorem finish_e (hw : WF d) (ha : a < d 1) (ht : d (47 + a) < t) (ht2 : t < 10000) (hk : 0 < d (67 + a) → d (237 + 16 * a + (d (67 + a) - 1)) ≤ t) : WF (upd1 d (57 + a) t) := by
  have h10 := hw.2.1
  have h3 := hw.1
  refine hw.mk2 (upd1_ne (by omega)) (upd1_ne (by omega)) (by rw [upd1_ne (by omega)]; exact hw.2.2.1) (by rw [upd1_ne (by omega)]; exact hw.2.2.2.1) (upd1_b hw (by omega)) (fun c hc => by rw [upd1_ne (by omega)]; exact hw.len hc) (fun b hb => ?_)
  have hrb := hw.run hb
  by_cases eb : b = a
  · subst eb
    obtain ⟨w1, w2, w3, w4, w5⟩ := hw.2.2.2.2.2.2.2 b hb
    refine ⟨by rw [upd1_ne (by omega), upd1_ne (by omega)]; exact w1, by rw [upd1_eq, upd1_ne (by omega)]; exact ht, by rw [upd1_ne (by omega)]; exact w3, fun k hk2 => ?_, fun k hk2 => ?_⟩
    · rw [upd1_ne (by omega)] at hk2
      rw [upd1_eq, upd1_ne (by omega), upd1_ne (by omega)]
      refine ⟨(w4 k hk2).1, ?_⟩
      have h1 := hk (by omega)
      have h2 := hw.ts hb (show k ≤ d (67 + b) - 1 by omega) (by omega)
      exact Nat.le_trans h2 h1
    · rw [upd1_ne (by omega)] at hk2
      rw [upd1_ne (by omega), upd1_ne (by omega)]
      exact w5 k hk2
  · exact RWf.ag hw hb (upd1_ne (by omega)) ⟨upd1_ne (by omega), upd1_ne (by omega), upd1_ne (by omega), upd1_ne (by omega), fun k hk2 => ⟨upd1_ne (by omega), upd1_ne (by omega)⟩⟩
theorem told_of (hw : WF d) (ha : a < d 1) : 0 < d 0 := by
  have := (hw.run ha).1
  omega
theorem S_start : SS2 Inv f_X11_start f_X12_start := by
  intro x y
  refine AC.ss (fun σ d hI hw hM hX => ?_)
  have h10 := hw.2.1
  by_cases hx : gin x (d 1) = true
  · obtain ⟨hxe, ha⟩ := gin_nI hx
    generalize x.toNatClampNeg = a at hxe ha
    subst hxe
    have hru := hw.run ha
    have bf := hw.b (57 + a)
    obtain ⟨g5, g6, g7, g8, -⟩ := hX.2.2.2.2.2 a ha
    have m35 : ∀ σ2, MR d σ2 → gin y (d (57 + a)) = true → f_X12_start (nI a) y σ2 = f_X12_start_35 (nI a) y 1 1 σ2 := fun σ2 hM2 hy => by
      unfold f_X12_start
      rw [M_isRunner hM2 hw, bG_t hx, bind_some', if_neg o1n0]
      dsimp only
      rw [M_rd (j := 57 + a) hM2 (by rw [i57, nI_add]) (by omega), bind_some', M_in1 (by omega), bG_t hy, bind_some', if_neg o1n0]
    by_cases hy : gin y (d (57 + a)) = true
    · obtain ⟨hye, ht⟩ := gin_nI hy
      generalize y.toNatClampNeg = t at hye ht
      subst hye
      have c1 : ¬ nI t < 0 := nI_pos (by omega)
      have c2 : nI t < σ 10 (10 + a) 7 := by rw [g7]; exact nI_lt ht (by omega)
      by_cases hok : 0 < d (67 + a) → t ≤ d (237 + 16 * a)
      · refine Or.inr (fun ⟨m, hm, h26⟩ => ?_)
        have h1 := X_keep (kd := 2) (u := a) (a := d (47 + a)) (b := 0) (c := 0) (σ := gup σ 10 (10 + a) 6 (nI t)) hm (by rw [gup_kind (by decide)]; exact h26)
        obtain ⟨τ, hτ, hτ1, hτ2⟩ := h1
        have hF : Fo σ (gup σ 10 (10 + a) 6 (nI t)) := (Fr.up (r := 10 + a) (k := 10) (s := 6) (by omega) Fr.rf).fo
        have hfin := X_fin (σ := σ) hF (op_start (t := t) hX hw ha) hτ1 (fun m' hm' h' => by
          have e : nI m' = nI m := by rw [← h', gup_kind (by decide)]; exact h26
          rw [(nI_inj (by omega) (by omega)).mp e]
          exact hτ2)
        refine ⟨upd1 d (47 + a) t, nI (d (47 + a)), τ, start_e hw ha ht hok, upd1_ne (by omega), upd1_ne (by omega), told_of hw ha, ?_, hfin.1, hfin.2.1, ⟨2, a, d (47 + a), 0, 0, ⟨by omega, hw.b _, by decide, by decide⟩, by show a < upd1 d (47 + a) t 1; rw [upd1_ne (by omega)]; exact ha, by show Eqv (upd1 (upd1 d (47 + a) t) (47 + a) (d (47 + a))) d; rw [upd1_back]; exact Eqv.rf, hfin.2.2⟩, fun σ2 hM2 _ m2 hm2 h30 => ?_⟩
        · have fin : f_X11_start_66 (nI a) (nI t) (10 + a) σ = some (nI (d (47 + a)), xA τ 0) := by
            unfold f_X11_start_66
            rw [g6]
            rw [show (f_X0_keep 2 (nI a) (nI (d (47 + a))) 0 0 (gup σ 10 (10 + a) 6 (nI t))) = some τ from hτ, bind_some', X_answered]
            rfl
          unfold f_X11_start
          rw [X_hasRunner hX hw, bG_t hx, bind_some', if_neg o1n0, X_runnerAt (by omega), bind_some', if_neg c1]
          refine (if_pos c2).trans ?_
          by_cases hp : d (67 + a) = 0
          · refine (if_pos (show σ 10 (10 + a) 8 ≤ 0 by rw [g8.1, hp]; decide)).trans ?_
            exact fin
          · refine (if_neg (show ¬ σ 10 (10 + a) 8 ≤ 0 by rw [g8.1]; exact nI_nle (by omega) (by omega))).trans ?_
            dsimp only
            rw [show f_X9_timeOf (10 + a) 0 σ = some (nI (dT d a 0), σ) from X_timeOf (k := 0) g8 hru.2.2 (by omega), bind_some']
            refine (if_pos (show nI t ≤ nI (dT d a 0) from nI_le (hok (by omega)) (Nat.lt_trans (hw.b (237 + 16 * a + 0)) (by decide)))).trans ?_
            exact fin
        · rw [m35 σ2 hM2 hy]
          have fin : ∀ (h30' : mR σ2 0 28 0 30 = nI m2), Wp (f_X12_start_78 (nI a) (nI t) 0 σ2) (fun r => r.1 = nI (d (47 + a)) ∧ MR (upd1 d (47 + a) t) r.2 ∧ Ma σ2 r.2 ∧ r.2 28 0 1 = 0 ∧ r.2 28 0 3 = -1 ∧ KM m2 σ2 r.2) := fun h30' => by
            unfold f_X12_start_78
            refine Wp.eq ref_0 ?_
            refine Wp.t rfl ?_
            refine Wp.bind (M_comes (j := 47 + a) (v := t) hM2.mR hm2 h30' (by rw [i47, nI_add]) (by omega)) (fun r hr => ?_)
            have hf := M_fin hr.2.2.1 hr.2.2.2
            exact Wp.ret ⟨hr.1, hr.2.1, hf.1, hf.2.1, hf.2.2.1, hf.2.2.2⟩
          have h30' : mR σ2 0 28 0 30 = nI m2 := by rw [← h30]; simp [mR, gup]
          unfold f_X12_start_35 f_X12_start_77
          refine Wp.eq une_1 ?_
          refine Wp.t rfl ?_
          refine Wp.eq (M_rd (j := 67 + a) hM2 (by rw [i67, nI_add]) (by omega)) ?_
          by_cases hp : d (67 + a) = 0
          · refine Wp.t (by rw [hp]; decide) ?_
            exact fin h30'
          · refine Wp.f (nI_nle (by omega) (by omega)) ?_
            refine Wp.eq (show f_X12_punchTime (nI a) 0 σ2 = some (nI (d (237 + 16 * a + 0)), σ2) from M_punchTime (k := 0) hM2 (by omega)) ?_
            refine Wp.t (nI_le (hok (by omega)) (Nat.lt_trans (hw.b (237 + 16 * a + 0)) (by decide))) ?_
            exact fin h30'
      · have hp : 0 < d (67 + a) := Decidable.byContradiction (fun q => hok (fun z => absurd z q))
        have hlt : d (237 + 16 * a) < t := Decidable.byContradiction (fun q => hok (fun _ => by omega))
        have bt0 := hw.b (237 + 16 * a)
        refine Or.inl (QA.no 5 (by decide) ?_ (fun σ2 hM2 => ?_))
        · unfold f_X11_start
          rw [X_hasRunner hX hw, bG_t hx, bind_some', if_neg o1n0, X_runnerAt (by omega), bind_some', if_neg c1]
          refine (if_pos c2).trans ?_
          refine (if_neg (show ¬ σ 10 (10 + a) 8 ≤ 0 by rw [g8.1]; exact nI_nle (by omega) (by omega))).trans ?_
          dsimp only
          rw [show f_X9_timeOf (10 + a) 0 σ = some (nI (dT d a 0), σ) from X_timeOf (k := 0) g8 hru.2.2 (by omega), bind_some']
          refine (if_neg (show ¬ nI t ≤ nI (dT d a 0) from nI_ge (show d (237 + 16 * a + 0) < t from hlt) (by omega))).trans ?_
          rfl
        · rw [m35 σ2 hM2 hy]
          unfold f_X12_start_35 f_X12_start_78
          rw [une_1, bind_some', if_pos rfl, M_rd (j := 67 + a) hM2 (by rw [i67, nI_add]) (by omega), bind_some', if_neg (nI_nle (by omega) (by omega)), show f_X12_punchTime (nI a) 0 σ2 = some (nI (d (237 + 16 * a + 0)), σ2) from M_punchTime (k := 0) hM2 (by omega), bind_some', if_neg (nI_ge (show d (237 + 16 * a + 0) < t from hlt) (by omega)), ref_e (by decide), bind_some', if_neg o1n0]
    · refine Or.inl (QA.no 2 (by decide) ?_ (fun σ2 hM2 => ?_))
      · unfold f_X11_start
        rw [X_hasRunner hX hw, bG_t hx, bind_some', if_neg o1n0, X_runnerAt (by omega), bind_some']
        rcases x_cases y with q | ⟨j, q1, rfl⟩
        · rw [if_pos q, X_refused]; rfl
        · rw [if_neg (nI_pos q1)]
          refine (if_neg (show ¬ nI j < σ 10 (10 + a) 7 by rw [g7]; exact nI_nlt (Nat.le_of_not_lt (fun z => hy ((gin_nI_iff q1).mpr z))) (by omega))).trans ?_
          rfl
      · unfold f_X12_start f_X12_start_34 f_X12_start_35 f_X12_start_78
        rw [M_isRunner hM2 hw, bG_t hx, bind_some', if_neg o1n0]
        dsimp only
        rw [M_rd (j := 57 + a) hM2 (by rw [i57, nI_add]) (by omega), bind_some', M_in1 (by omega), bG_f hy, bind_some', if_pos rfl, une_2, bind_some', if_neg (show ¬ (2 : Int32) = 0 by decide), ref_2, bind_some', if_neg o1n0]
  · refine Or.inl (QA.no 1 (by decide) ?_ (fun σ2 hM2 => ?_))
    · unfold f_X11_start
      rw [X_hasRunner hX hw, bG_f hx, bind_some', if_pos rfl, X_refused]
      rfl
    · unfold f_X12_start f_X12_start_34 f_X12_start_35 f_X12_start_78
      rw [M_isRunner hM2 hw, bG_f hx, bind_some', if_pos rfl]
      dsimp only
      rw [une_0, bind_some', if_neg o1n0, ref_1, bind_some', if_neg o1n0]
end A2
