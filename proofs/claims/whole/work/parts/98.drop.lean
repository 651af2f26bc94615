/-! drop -/
section A6
variable {d e : Nat → Nat} {σ τ τ' : gSt} {m a b c i k t v z : Nat}
theorem KX.to {kd u a b c : Nat} (h : KX m kd u a b c σ τ) (h26 : τ' 26 0 2 = τ 26 0 2) (h27 : ∀ s, τ' 27 0 s = τ 27 0 s) : KX m kd u a b c σ τ' := ⟨h26.trans h.1, fun j q a1 a2 => (h27 _).trans (h.2.1 j q a1 a2), (h27 _).trans h.2.2.1, (h27 _).trans h.2.2.2.1, (h27 _).trans h.2.2.2.2.1, (h27 _).trans h.2.2.2.2.2.1, (h27 _).trans h.2.2.2.2.2.2⟩
/-- the class keeps the act, then changes its meet -/
theorem X_keepB (kd u a b c : Nat) (hm : m ≤ 10) (h26 : σ 26 0 2 = nI m) : ∃ τ, f_X0_keep (nI kd) (nI u) (nI a) (nI b) (nI c) σ = some τ ∧ (∀ k i s, k ≠ 26 → k ≠ 27 → τ k i s = σ k i s) ∧ ∀ τ', Fo τ τ' → Xa σ τ' ∧ ∀ m, m ≤ 10 → σ 26 0 2 = nI m → KX m kd u a b c σ τ' := by
  obtain ⟨τ, hτ, hτ1, hτ2⟩ := X_keep (kd := kd) (u := u) (a := a) (b := b) (c := c) (σ := σ) hm h26
  refine ⟨τ, hτ, hτ1, fun τ' hF => ⟨fun k i s a1 a2 a3 a4 a5 a6 a7 a8 a9 => (hF k i s a1 a2 a3 a4 a5 a6 a7).trans (hτ1 k i s a8 a9), fun m' hm' h' => ?_⟩⟩
  have e : nI m' = nI m := by rw [← h', h26]
  rw [(nI_inj (by omega) (by omega)).mp e]
  exact hτ2.to (hF 26 0 2 (by omega) (by omega) (by omega) (by omega) (by omega) (by omega) (by omega)) (fun s => hF 27 0 s (by omega) (by omega) (by omega) (by omega) (by omega) (by omega) (by omega))
theorem drop_ag (hw : WF d) (ha : a < d 1) (hk : k < d (67 + a)) : (∀ c', c' < d 0 → AgC d (drM d a k) c') ∧ (∀ b, b < d 1 → b ≠ a → AgP d (drM d a k) b) ∧ (∀ j, j < 4 → drM d a k j = d j) ∧ drM d a k (37 + a) = d (37 + a) ∧ drM d a k (47 + a) = d (47 + a) ∧ drM d a k (57 + a) = d (57 + a) := by
  have h10 := hw.2.1
  have h3 := hw.1
  have hra := hw.run ha
  refine ⟨fun c' hc' => ?_, fun b hb hne => ?_, fun j hj => drM_o (by omega) (by omega) (by omega), drM_o (by omega) (by omega) (by omega), drM_o (by omega) (by omega) (by omega), drM_o (by omega) (by omega) (by omega)⟩
  · have hl := hw.len hc'
    exact ⟨drM_o (by omega) (by omega) (by omega), fun i hi => drM_o (by omega) (by omega) (by omega)⟩
  · have hrb := hw.run hb
    exact ⟨drM_o (by omega) (by omega) (by omega), drM_o (by omega) (by omega) (by omega), drM_o (by omega) (by omega) (by omega), drM_o (by omega) (by omega) (by omega), fun z hz => ⟨drM_o (by omega) (by omega) (by omega), drM_o (by omega) (by omega) (by omega)⟩⟩
theorem drop_e (hw : WF d) (ha : a < d 1) (hk : k < d (67 + a)) : WF (drM d a k) := by
  have h10 := hw.2.1
  obtain ⟨g1, g2, g3, g4, g5, g6⟩ := drop_ag hw ha hk
  refine hw.mk2 (g3 0 (by omega)) (g3 1 (by omega)) (by rw [g3 2 (by omega)]; exact hw.2.2.1) (by rw [g3 3 (by omega)]; exact hw.2.2.2.1) (drM_b hw) (fun c' hc' => by rw [(g1 c' hc').1]; exact hw.len hc') (fun b hb => ?_)
  by_cases eb : b = a
  · subst eb
    obtain ⟨w1, w2, w3, w4, w5⟩ := hw.2.2.2.2.2.2.2 b hb
    refine ⟨by rw [g4, g3 0 (by omega)]; exact w1, by rw [g5, g6]; exact w2, by rw [drM_n]; omega, fun z hz => ?_, fun z hz => ?_⟩
    · rw [drM_n] at hz
      rw [g5, g6, drM_T (by omega) w3 hz]
      unfold rmv
      by_cases z1 : z < k
      · rw [if_pos z1]; exact w4 z (by omega)
      · rw [if_neg z1]; exact w4 (z + 1) (by omega)
    · rw [drM_n] at hz
      rw [drM_T (by omega) w3 (by omega), drM_T (by omega) w3 hz]
      unfold rmv
      by_cases z1 : z + 1 < k
      · rw [if_pos (by omega), if_pos z1]; exact w5 z (by omega)
      · rw [if_neg z1]
        by_cases z2 : z < k
        · rw [if_pos z2]
          exact Nat.le_trans (w5 z (by omega)) (w5 (z + 1) (by omega))
        · rw [if_neg z2]; exact w5 (z + 1) (by omega)
  · exact RWf.ag hw hb (g3 0 (by omega)) (g2 b hb eb)
theorem drop_back (hw : WF d) (ha : a < d 1) (hk : k < d (67 + a)) : Eqv (inP (drM d a k) a k (d (77 + 16 * a + k)) (d (237 + 16 * a + k))) d := by
  have h10 := hw.2.1
  have h3 := hw.1
  have hra := hw.run ha
  have o : ∀ q, q ≠ 67 + a → ¬ (77 + 16 * a ≤ q ∧ q < 77 + 16 * a + 16) → ¬ (237 + 16 * a ≤ q ∧ q < 237 + 16 * a + 16) → inP (drM d a k) a k (d (77 + 16 * a + k)) (d (237 + 16 * a + k)) q = d q := fun q q1 q2 q3 => by
    unfold inP
    rw [if_neg q1, if_neg (by omega), if_neg (by omega), if_neg (by omega), if_neg (by omega)]
    exact drM_o q1 (by omega) (by omega)
  refine ⟨o 0 (by omega) (by omega) (by omega), o 1 (by omega) (by omega) (by omega), o 2 (by omega) (by omega) (by omega), o 3 (by omega) (by omega) (by omega), fun c' hc' => ?_, fun b hb => ?_⟩
  · rw [o 0 (by omega) (by omega) (by omega)] at hc'
    have hl := hw.len hc'
    refine ⟨o _ (by omega) (by omega) (by omega), fun i hi => ?_⟩
    rw [o _ (by omega) (by omega) (by omega)] at hi
    exact o _ (by omega) (by omega) (by omega)
  · rw [o 1 (by omega) (by omega) (by omega)] at hb
    by_cases eb : b = a
    · subst eb
      have e67 : inP (drM d b k) b k (d (77 + 16 * b + k)) (d (237 + 16 * b + k)) (67 + b) = d (67 + b) := by
        unfold inP
        rw [if_pos rfl, drM_n]
        omega
      refine ⟨o _ (by omega) (by omega) (by omega), o _ (by omega) (by omega) (by omega), o _ (by omega) (by omega) (by omega), e67, fun z hz => ?_⟩
      rw [e67] at hz
      constructor
      · unfold inP
        rw [if_neg (by omega)]
        by_cases z1 : z < k
        · rw [if_neg (by omega), if_neg (by omega), if_neg (by omega), if_neg (by omega), drM_P (by omega) hra.2.2 (by omega), rmv, if_pos z1]
        · by_cases z2 : z = k
          · subst z2; rw [if_pos rfl]
          · rw [if_neg (by omega), if_neg (by omega), if_pos (by omega), show 77 + 16 * b + z - 1 = 77 + 16 * b + (z - 1) by omega, drM_P (by omega) hra.2.2 (by omega), rmv, if_neg (by omega)]
            show d (77 + 16 * b + (z - 1 + 1)) = _
            rw [Nat.sub_add_cancel (by omega)]
      · unfold inP
        rw [if_neg (by omega), if_neg (by omega)]
        by_cases z1 : z < k
        · rw [if_neg (by omega), if_neg (by omega), if_neg (by omega), drM_T (by omega) hra.2.2 (by omega), rmv, if_pos z1]
        · by_cases z2 : z = k
          · subst z2; rw [if_pos rfl]
          · rw [if_neg (by omega), if_neg (by omega), if_pos (by omega), show 237 + 16 * b + z - 1 = 237 + 16 * b + (z - 1) by omega, drM_T (by omega) hra.2.2 (by omega), rmv, if_neg (by omega)]
            show d (237 + 16 * b + (z - 1 + 1)) = _
            rw [Nat.sub_add_cancel (by omega)]
    · have hrb := hw.run hb
      have e67 : inP (drM d a k) a k (d (77 + 16 * a + k)) (d (237 + 16 * a + k)) (67 + b) = d (67 + b) := o _ (by omega) (by omega) (by omega)
      refine ⟨o _ (by omega) (by omega) (by omega), o _ (by omega) (by omega) (by omega), o _ (by omega) (by omega) (by omega), e67, fun z hz => ?_⟩
      rw [e67] at hz
      exact ⟨o _ (by omega) (by omega) (by omega), o _ (by omega) (by omega) (by omega)⟩
def sh2 (d : Nat → Nat) (a p k y : Nat) : Nat → Nat := fun q => if q = 67 + a then p - 1 else if 77 + 16 * a + k ≤ q ∧ q < 77 + 16 * a + y then d (q + 1) else if 237 + 16 * a + k ≤ q ∧ q < 237 + 16 * a + y then d (q + 1) else d q
theorem M_drop56 (ha : a < 10) {p : Nat} {v4 : Int32} (hp : p ≤ 16) (hpd : d (67 + a) = p) (hk : k < p) : ∀ (m y fuel : Nat) (τ : gSt), y + m = p - 1 → k ≤ y → m < fuel → MR (sh2 d a p k y) τ → Wp (f_X12_drop_56 (nI a) (nI (16 * a)) v4 fuel (nI y) τ) (fun r => r.1 = v4 ∧ MR (drM d a k) r.2 ∧ ∀ k i s, k ≠ 30 → r.2 k i s = τ k i s) := by
  intro m
  induction m with
  | zero =>
    intro y fuel τ h1 h2 h3 hM
    obtain ⟨fuel, rfl⟩ : ∃ g, fuel = g + 1 := ⟨fuel - 1, by omega⟩
    have e67 : sh2 d a p k y (67 + a) = p - 1 := if_pos rfl
    rw [f_X12_drop_56]
    refine Wp.eq (M_rd (j := 67 + a) hM (by rw [i67, nI_add]) (by omega)) ?_
    rw [e67]
    refine Wp.t (nI_le (by omega) (by omega)) ?_
    refine Wp.ret ⟨rfl, fun q hq => ?_, fun _ _ _ _ => rfl⟩
    have := hM q hq
    have e : sh2 d a p k y q = drM d a k q := by
      obtain rfl : y = p - 1 := by omega
      unfold sh2 drM
      rw [hpd]
    rw [← e]
    exact this
  | succ m ih =>
    intro y fuel τ h1 h2 h3 hM
    obtain ⟨fuel, rfl⟩ : ∃ g, fuel = g + 1 := ⟨fuel - 1, by omega⟩
    have e67 : sh2 d a p k y (67 + a) = p - 1 := if_pos rfl
    have eT : sh2 d a p k y (237 + 16 * a + (y + 1)) = d (237 + 16 * a + (y + 1)) := by unfold sh2; rw [if_neg (by omega), if_neg (by omega), if_neg (by omega)]
    have eP : sh2 d a p k y (77 + 16 * a + (y + 1)) = d (77 + 16 * a + (y + 1)) := by unfold sh2; rw [if_neg (by omega), if_neg (by omega), if_neg (by omega)]
    rw [f_X12_drop_56]
    refine Wp.eq (M_rd (j := 67 + a) hM (by rw [i67, nI_add]) (by omega)) ?_
    rw [e67]
    refine Wp.f (nI_ge (by omega) (by omega)) ?_
    refine Wp.ld (v := nI (d (237 + 16 * a + (y + 1)))) (237 + 16 * a + (y + 1)) (by rw [i237, nI_add, nI_add, nI_1]; rfl) (by omega) (by decide) (by rw [← eT]; exact hM _ (by omega)) ?_
    refine Wp.st (237 + 16 * a + y) (by rw [i237, nI_add, nI_add]) (by omega) (by decide) ?_
    refine Wp.ld (v := nI (d (77 + 16 * a + (y + 1)))) (77 + 16 * a + (y + 1)) (by rw [i77, nI_add, nI_add, nI_1]; rfl) (by omega) (by decide) (by
      rw [gup_slot (by omega), ← eP]; exact hM _ (by omega)) ?_
    refine Wp.st (77 + 16 * a + y) (by rw [i77, nI_add, nI_add]) (by omega) (by decide) ?_
    rw [nI_1]
    refine Wp.mono (ih (y + 1) fuel _ (by omega) (by omega) (by omega) (fun q hq => ?_)) (fun r hr => ⟨hr.1, hr.2.1, fun k i s hk => (hr.2.2 k i s hk).trans (by rw [gup_kind hk, gup_kind hk])⟩)
    have hMq := hM q hq
    by_cases q2 : q = 77 + 16 * a + y
    · subst q2
      rw [show sh2 d a p k (y + 1) (77 + 16 * a + y) = d (77 + 16 * a + (y + 1)) by unfold sh2; rw [if_neg (by omega), if_pos (by omega)]; rfl]
      simp [gup]
    · by_cases q3 : q = 237 + 16 * a + y
      · subst q3
        rw [show sh2 d a p k (y + 1) (237 + 16 * a + y) = d (237 + 16 * a + (y + 1)) by unfold sh2; rw [if_neg (by omega), if_neg (by omega), if_pos (by omega)]; rfl]
        rw [gup_slot q2]
        simp [gup]
      · rw [gup_slot q2, gup_slot q3, hMq]
        congr 1
        unfold sh2
        by_cases c0 : q = 67 + a
        · rw [if_pos c0, if_pos c0]
        · rw [if_neg c0, if_neg c0]
          by_cases c1 : 77 + 16 * a + k ≤ q ∧ q < 77 + 16 * a + (y + 1)
          · rw [if_pos c1, if_pos (by omega)]
          · rw [if_neg c1, if_neg (by omega)]
            by_cases c2 : 237 + 16 * a + k ≤ q ∧ q < 237 + 16 * a + (y + 1)
            · rw [if_pos c2, if_pos (by omega)]
            · rw [if_neg c2, if_neg (by omega)]
theorem S_drop : SS2 Inv f_X11_drop f_X12_drop := by
  intro x y
  refine AC.ss (fun σ d hI hw hM hX => ?_)
  have h10 := hw.2.1
  have no : f_X4_hasPunch 1 x y σ = some (0, σ) → (∀ σ2, MR d σ2 → f_X12_isPunch x y σ2 = some (0, σ2)) → QA d σ (f_X11_drop x y) (f_X12_drop x y) := fun g1 g2 => by
    refine QA.no 1 (by decide) ?_ (fun σ2 hM2 => ?_)
    · unfold f_X11_drop
      rw [g1, bind_some', if_pos rfl, X_refused]
      rfl
    · unfold f_X12_drop
      rw [g2 σ2 hM2, bind_some', un_0, bind_some', ref_1, bind_some', if_neg o1n0]
  by_cases hx : gin x (d 1) = true
  · obtain ⟨hxe, ha⟩ := gin_nI hx
    generalize x.toNatClampNeg = a at hxe ha
    subst hxe
    by_cases hy : gin y (d (67 + a)) = true
    · obtain ⟨hye, hk⟩ := gin_nI hy
      generalize y.toNatClampNeg = k at hye hk
      subst hye
      have hru := hw.run ha
      obtain ⟨g5, g6, g7, g8, -⟩ := hX.2.2.2.2.2 a ha
      refine Or.inr (fun ⟨m, hm, h26⟩ => ?_)
      obtain ⟨τ0, hτ0, s0, k0⟩ := X_keepB 1 a k (d (77 + 16 * a + k)) (d (237 + 16 * a + k)) hm h26
      obtain ⟨a1, a2, a3, a4, a5, a6⟩ := drop_ag hw ha hk
      have hX0 : XR d τ0 := hX.same (fun k i s hk => s0 k i s (by omega) (by omega))
      obtain ⟨τ, hτ, f1, x1⟩ := op_remP (e := drM d a k) hX0 hw ha hk (drM_b hw) (a3 0 (by omega)) (a3 1 (by omega)) (a3 2 (by omega)) (a3 3 (by omega)) a1 a2 a4 a5 a6 drM_n (fun z hz => ⟨drM_P (by omega) hru.2.2 hz, drM_T (by omega) hru.2.2 hz⟩)
      have hk2 := k0 τ f1.fo
      refine ⟨drM d a k, nI (d (77 + 16 * a + k)), τ, drop_e hw ha hk, a3 0 (by omega), a3 1 (by omega), told_of hw ha, ?_, x1, hk2.1, ⟨1, a, k, d (77 + 16 * a + k), d (237 + 16 * a + k), ⟨by omega, by omega, hw.b _, hw.b _⟩, ⟨by rw [a3 1 (by omega)]; exact ha, by rw [drM_n]; omega, by rw [drM_n]; omega⟩, drop_back hw ha hk, hk2.2⟩, fun σ2 hM2 _ m2 hm2 h30 => ?_⟩
      · unfold f_X11_drop
        rw [X_hasPunch_t hX hw ha, bG_t hy, bind_some', if_neg o1n0, X_runnerAt (by omega), bind_some']
        dsimp only
        rw [X_codeOf g8 hru.2.2 hk, bind_some']
        dsimp only
        rw [X_timeOf g8 hru.2.2 hk, bind_some']
        dsimp only
        rw [show f_X0_keep 1 (nI a) (nI k) (nI (dP d a k)) (nI (dT d a k)) σ = some τ0 from hτ0, bind_some', hτ, bind_some', X_answered]
        rfl
      · unfold f_X12_drop
        refine Wp.eq (M_isPunch_t hM2 hw ha _) ?_
        rw [bG_t hy]
        refine Wp.eq un_1 ?_
        refine Wp.eq ref_0 ?_
        refine Wp.t rfl ?_
        refine Wp.bind (M_remembers hm2 (M_30 h30)) (fun τ2 hq => ?_)
        have hM0 : MR d (mR σ2 0) := hM2.mR
        have hM3 : MR d τ2 := fun j hj => (hq.1 30 0 j (by omega) (by omega)).trans (hM0 j hj)
        rw [show (16 : Int32) * nI a = nI (16 * a) by rw [i16, nI_mul]]
        refine Wp.eq (M_rd (j := 77 + 16 * a + k) hM3 (by rw [i77, nI_add, nI_add]) (by omega)) ?_
        refine Wp.eq (M_rd (j := 67 + a) hM3 (by rw [i67, nI_add]) (by omega)) ?_
        refine Wp.st (67 + a) (by rw [i67, nI_add]) (by omega) (by decide) ?_
        refine Wp.mono (M_drop56 (p := d (67 + a)) (by omega) hru.2.2 rfl hk (d (67 + a) - 1 - k) k gFuel _ (by omega) (Nat.le_refl _) (Nat.lt_trans (by omega) gFuel_ge) (fun q hq2 => ?_)) (fun r hr => ?_)
        · by_cases q1 : q = 67 + a
          · subst q1
            rw [show sh2 d a (d (67 + a)) k k (67 + a) = d (67 + a) - 1 from if_pos rfl, i1, nI_sub (by omega)]
            simp [gup]
          · rw [show sh2 d a (d (67 + a)) k k q = d q by unfold sh2; rw [if_neg q1, if_neg (by omega), if_neg (by omega)], gup_slot q1]
            exact hM3 q hq2
        · have hr2 : ∀ k i s, k ≠ 30 → r.2 k i s = τ2 k i s := fun k i s hk => (hr.2.2 k i s hk).trans (by rw [gup_kind hk])
          have hf := M_fin (σ := σ2) (m := m2) (τ := r.2) (fun k i s q1 q2 q3 => (hr2 k i s q2).trans (hq.1 k i s q1 q3)) ⟨(hr2 28 0 30 (by decide)).trans hq.2.1, fun j q q1 q2 => (hr2 40 0 _ (by decide)).trans (hq.2.2.1 j q q1 q2), fun q q2 => (hr2 40 0 _ (by decide)).trans (hq.2.2.2 q q2)⟩
          exact ⟨hr.1, hr.2.1, hf.1, hf.2.1, hf.2.2.1, hf.2.2.2⟩
    · exact Or.inl (no (by rw [X_hasPunch_t hX hw ha, bG_f hy]) (fun σ2 hM2 => by rw [M_isPunch_t hM2 hw ha, bG_f hy]))
  · exact Or.inl (no (X_hasPunch_f hX hw hx) (fun σ2 hM2 => M_isPunch_f hM2 hw hx))
end A6
