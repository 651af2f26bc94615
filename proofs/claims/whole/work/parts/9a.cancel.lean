/-! cancel -/
section A8
variable {d e : Nat → Nat} {σ τ τ' : gSt} {m a b c i k t v z : Nat}
theorem cnM_o {q : Nat} (h1 : q ≠ 4 + c) (h2 : ¬ (7 + 10 * c + i ≤ q ∧ q < 7 + 10 * c + (d (4 + c) - 1))) : cnM d c i q = d q := by
  unfold cnM
  rw [if_neg h1, if_neg h2]
theorem cnM_n : cnM d c i (4 + c) = d (4 + c) - 1 := if_pos rfl
theorem cnM_C (hc : c < 3) (hn : d (4 + c) ≤ 10) (hz : z < d (4 + c) - 1) : cnM d c i (7 + 10 * c + z) = rmv (dC d c) i z := by
  unfold cnM rmv
  rw [if_neg (by omega)]
  by_cases h1 : z < i
  · rw [if_neg (by omega), if_pos h1]
  · rw [if_pos (by omega), if_neg h1]
    rfl
theorem cnM_b (hw : WF d) : ∀ q, cnM d c i q < 10000 := fun q => by
  have := hw.b (4 + c)
  unfold cnM
  split
  · omega
  · split
    · exact hw.b _
    · exact hw.b _
theorem cn_ag (hw : WF d) (hc : c < d 0) : (∀ c', c' < d 0 → c' ≠ c → AgC d (cnM d c i) c') ∧ (∀ a, a < d 1 → AgP d (cnM d c i) a) ∧ (∀ j, j < 4 → cnM d c i j = d j) := by
  have h10 := hw.2.1
  have h3 := hw.1
  have hl := hw.len hc
  refine ⟨fun c' hc' hne => ?_, fun a ha => ?_, fun j hj => cnM_o (by omega) (by omega)⟩
  · have hl' := hw.len hc'
    exact ⟨cnM_o (by omega) (by omega), fun i' hi' => cnM_o (by omega) (by omega)⟩
  · exact ⟨cnM_o (by omega) (by omega), cnM_o (by omega) (by omega), cnM_o (by omega) (by omega), cnM_o (by omega) (by omega), fun k hk => ⟨cnM_o (by omega) (by omega), cnM_o (by omega) (by omega)⟩⟩
theorem cn_back (hw : WF d) (hc : c < d 0) (hi : i < d (4 + c)) : Eqv (inC (cnM d c i) c i (d (7 + 10 * c + i))) d := by
  have h10 := hw.2.1
  have h3 := hw.1
  have hl := hw.len hc
  have o : ∀ q, q ≠ 4 + c → ¬ (7 + 10 * c ≤ q ∧ q < 7 + 10 * c + 10) → inC (cnM d c i) c i (d (7 + 10 * c + i)) q = d q := fun q q1 q2 => by
    unfold inC
    rw [if_neg q1, if_neg (by omega), if_neg (by omega)]
    exact cnM_o q1 (by omega)
  refine ⟨o 0 (by omega) (by omega), o 1 (by omega) (by omega), o 2 (by omega) (by omega), o 3 (by omega) (by omega), fun c' hc' => ?_, fun b hb => ?_⟩
  · rw [o 0 (by omega) (by omega)] at hc'
    have hl' := hw.len hc'
    by_cases ec : c' = c
    · subst ec
      have e4 : inC (cnM d c' i) c' i (d (7 + 10 * c' + i)) (4 + c') = d (4 + c') := by
        unfold inC
        rw [if_pos rfl, cnM_n]
        omega
      refine ⟨e4, fun z hz => ?_⟩
      rw [e4] at hz
      unfold inC
      rw [if_neg (by omega)]
      by_cases z1 : z < i
      · rw [if_neg (by omega), if_neg (by omega), cnM_C (by omega) hl.2 (by omega), rmv, if_pos z1]
      · by_cases z2 : z = i
        · subst z2; rw [if_pos rfl]
        · rw [if_neg (by omega), if_pos (by omega), show 7 + 10 * c' + z - 1 = 7 + 10 * c' + (z - 1) by omega, cnM_C (by omega) hl.2 (by omega), rmv, if_neg (by omega)]
          show d (7 + 10 * c' + (z - 1 + 1)) = _
          rw [Nat.sub_add_cancel (by omega)]
    · refine ⟨o _ (by omega) (by omega), fun i' hi' => ?_⟩
      rw [o _ (by omega) (by omega)] at hi'
      exact o _ (by omega) (by omega)
  · rw [o 1 (by omega) (by omega)] at hb
    have hrb := hw.run hb
    exact ⟨o _ (by omega) (by omega), o _ (by omega) (by omega), o _ (by omega) (by omega), o _ (by omega) (by omega), fun z hz => ⟨o _ (by omega) (by omega), o _ (by omega) (by omega)⟩⟩
theorem op_remC (h : XR d σ) (hw : WF d) (hc : c < d 0) (hi : i < d (4 + c)) : Wp (f_X4_removeControl 1 (nI c) (nI i) σ) (fun τ => Fo σ τ ∧ XR (cnM d c i) τ) := by
  have h3 := hw.1
  have hl := hw.len hc
  obtain ⟨g1, g2, g3⟩ := cn_ag (i := i) hw hc
  have hx := h.2.2.2.2.1 c hc
  unfold f_X4_removeControl
  refine Wp.eq (X_courseAt (by omega)) ?_
  refine Wp.bind (X_remC hl.2 hi hx) (fun τ1 hq => ?_)
  refine Wp.bind (op_course (e := cnM d c i) h hw hc hq.1 ?_ (by rw [cnM_n]; omega) (cnM_b hw) (g3 0 (by omega)) (g3 1 (by omega)) (g3 2 (by omega)) (g3 3 (by omega)) g1 g2) (fun τ hq => Wp.ret hq)
  rw [cnM_n]
  exact XC_cg hq.2 (fun z hz => cnM_C (by omega) hl.2 hz)
def sh3 (d : Nat → Nat) (c n i y : Nat) : Nat → Nat := fun q => if q = 4 + c then n - 1 else if 7 + 10 * c + i ≤ q ∧ q < 7 + 10 * c + y then d (q + 1) else d q
theorem M_cancel66 (hc : c < 3) {n : Nat} (hn : n ≤ 10) (hnd : d (4 + c) = n) (hi : i < n) : ∀ (m y fuel : Nat) (τ : gSt), y + m = n - 1 → i ≤ y → m < fuel → MR (sh3 d c n i y) τ → Wp (f_X12_cancel_66 (nI c) fuel (nI y) τ) (fun r => r.1 = nI (n - 1) ∧ MR (cnM d c i) r.2 ∧ ∀ k i s, k ≠ 30 → r.2 k i s = τ k i s) := by
  intro m
  induction m with
  | zero =>
    intro y fuel τ h1 h2 h3 hM
    obtain ⟨fuel, rfl⟩ : ∃ g, fuel = g + 1 := ⟨fuel - 1, by omega⟩
    have e4 : sh3 d c n i y (4 + c) = n - 1 := if_pos rfl
    rw [f_X12_cancel_66]
    refine Wp.eq (M_rd (j := 4 + c) hM (by rw [i4, nI_add]) (by omega)) ?_
    rw [e4]
    refine Wp.t (nI_le (by omega) (by omega)) ?_
    refine Wp.eq (M_rd (j := 4 + c) hM (by rw [i4, nI_add]) (by omega)) ?_
    rw [e4]
    refine Wp.ret ⟨rfl, fun q hq => ?_, fun _ _ _ _ => rfl⟩
    have := hM q hq
    have e : sh3 d c n i y q = cnM d c i q := by
      obtain rfl : y = n - 1 := by omega
      unfold sh3 cnM
      rw [hnd]
    rw [← e]
    exact this
  | succ m ih =>
    intro y fuel τ h1 h2 h3 hM
    obtain ⟨fuel, rfl⟩ : ∃ g, fuel = g + 1 := ⟨fuel - 1, by omega⟩
    have e4 : sh3 d c n i y (4 + c) = n - 1 := if_pos rfl
    have eC : sh3 d c n i y (7 + 10 * c + (y + 1)) = d (7 + 10 * c + (y + 1)) := by unfold sh3; rw [if_neg (by omega), if_neg (by omega)]
    rw [f_X12_cancel_66]
    refine Wp.eq (M_rd (j := 4 + c) hM (by rw [i4, nI_add]) (by omega)) ?_
    rw [e4]
    refine Wp.f (nI_ge (by omega) (by omega)) ?_
    refine Wp.ld (v := nI (d (7 + 10 * c + (y + 1)))) (7 + 10 * c + (y + 1)) (by rw [i7, i10, nI_mul, nI_add, nI_add, nI_1]; rfl) (by omega) (by decide) (by rw [← eC]; exact hM _ (by omega)) ?_
    refine Wp.st (7 + 10 * c + y) (by rw [i7, i10, nI_mul, nI_add, nI_add]) (by omega) (by decide) ?_
    rw [nI_1]
    refine Wp.mono (ih (y + 1) fuel _ (by omega) (by omega) (by omega) (fun q hq => ?_)) (fun r hr => ⟨hr.1, hr.2.1, fun k i s hk => (hr.2.2 k i s hk).trans (by rw [gup_kind hk])⟩)
    have hMq := hM q hq
    by_cases q2 : q = 7 + 10 * c + y
    · subst q2
      rw [show sh3 d c n i (y + 1) (7 + 10 * c + y) = d (7 + 10 * c + (y + 1)) by unfold sh3; rw [if_neg (by omega), if_pos (by omega)]; rfl]
      simp [gup]
    · rw [gup_slot q2, hMq]
      congr 1
      unfold sh3
      by_cases c0 : q = 4 + c
      · rw [if_pos c0, if_pos c0]
      · rw [if_neg c0, if_neg c0]
        by_cases c1 : 7 + 10 * c + i ≤ q ∧ q < 7 + 10 * c + (y + 1)
        · rw [if_pos c1, if_pos (by omega)]
        · rw [if_neg c1, if_neg (by omega)]
/-- two alike would stand beside each other -/
abbrev wba (d : Nat → Nat) (c i : Nat) : Prop := 0 < i ∧ i + 1 < d (4 + c) ∧ d (7 + 10 * c + (i - 1)) = d (7 + 10 * c + (i + 1))
theorem M_wouldBeAlike (hM : MR d σ) (hw : WF d) (hc : c < d 0) (hi : i < d (4 + c)) : f_X12_wouldBeAlike (nI c) (nI i) σ = some (if wba d c i then 1 else 0, σ) := by
  have h3 := hw.1
  have hl := hw.len hc
  have b1 := hw.b (7 + 10 * c + (i - 1))
  have b2 := hw.b (7 + 10 * c + (i + 1))
  unfold f_X12_wouldBeAlike
  by_cases h0 : i = 0
  · rw [if_pos (by rw [h0]; decide), if_neg (fun q => by have := q.1; omega)]
  · rw [if_neg (nI_nle (by omega) (by omega)), M_rd (j := 4 + c) hM (by rw [i4, nI_add]) (by omega), bind_some', show nI (d (4 + c)) - 1 = nI (d (4 + c) - 1) by rw [i1, nI_sub (by omega)]]
    by_cases h1 : i + 1 < d (4 + c)
    · rw [if_neg (nI_ge (by omega) (by omega)), show nI i - 1 = nI (i - 1) by rw [i1, nI_sub (by omega)], M_codeOf hM (by omega), bind_some', nI_1, M_codeOf hM (by omega), bind_some']
      by_cases h2 : d (7 + 10 * c + (i - 1)) = d (7 + 10 * c + (i + 1))
      · rw [if_pos (by rw [h2]), if_pos ⟨by omega, h1, h2⟩]
      · rw [if_neg (nI_ne (by omega) (by omega) h2), if_neg (fun q => h2 q.2.2)]
    · rw [if_pos (nI_le (by omega) (by omega)), if_neg (fun q => h1 q.2.1)]
theorem S_cancel : SS2 Inv f_X11_cancel f_X12_cancel := by
  intro x y
  refine AC.ss (fun σ d hI hw hM hX => ?_)
  have h3 := hw.1
  have no : f_X4_hasControl 1 x y σ = some (0, σ) → (∀ σ2, MR d σ2 → f_X12_isControl x y σ2 = some (0, σ2)) → QA d σ (f_X11_cancel x y) (f_X12_cancel x y) := fun g1 g2 => by
    refine QA.no 1 (by decide) ?_ (fun σ2 hM2 => ?_)
    · unfold f_X11_cancel
      rw [g1, bind_some', if_pos rfl, X_refused]
      rfl
    · unfold f_X12_cancel f_X12_cancel_40
      rw [g2 σ2 hM2, bind_some', if_pos rfl, ref_1, bind_some', if_neg o1n0]
  by_cases hx : gin x (d 0) = true
  · obtain ⟨hxe, hc⟩ := gin_nI hx
    generalize x.toNatClampNeg = c at hxe hc
    subst hxe
    by_cases hy : gin y (d (4 + c)) = true
    · obtain ⟨hye, hi⟩ := gin_nI hy
      generalize y.toNatClampNeg = i at hye hi
      subst hye
      have hl := hw.len hc
      have hx8 := (hX.2.2.2.2.1 c hc).1
      have bC := hw.b (7 + 10 * c + (i - 1))
      by_cases h1 : d (4 + c) = 1
      · refine Or.inl (QA.no 5 (by decide) ?_ (fun σ2 hM2 => ?_))
        · unfold f_X11_cancel
          rw [X_hasControl_t hX hw hc, bG_t hy, bind_some', if_neg o1n0, X_courseAt (by omega), bind_some']
          refine (if_pos (show σ 8 (3 + c) 2 = 1 by rw [hx8, h1]; rfl)).trans ?_
          rfl
        · unfold f_X12_cancel f_X12_cancel_35 f_X12_cancel_40
          rw [M_isControl_t hM2 hw hc, bG_t hy, bind_some', if_neg o1n0, M_rd (j := 4 + c) hM2 (by rw [i4, nI_add]) (by omega), bind_some', if_pos (by rw [h1]; rfl), ref_e (by decide), bind_some', if_neg o1n0]
      · have n1 : ¬ nI (d (4 + c)) = 1 := by rw [i1]; exact nI_ne (by omega) (by omega) h1
        have xcode : 0 < i → f_X1_codeAt (3 + c) (nI i - 1) σ = some (nI (d (7 + 10 * c + (i - 1))), σ) := fun h0 => by
          rw [show nI i - 1 = nI (i - 1) by rw [i1, nI_sub (by omega)]]
          exact X_codeAt (hX.2.2.2.2.1 c hc) hl.2 (by omega)
        by_cases hb : wba d c i
        · refine Or.inl (QA.no 5 (by decide) ?_ (fun σ2 hM2 => ?_))
          · unfold f_X11_cancel
            rw [X_hasControl_t hX hw hc, bG_t hy, bind_some', if_neg o1n0, X_courseAt (by omega), bind_some']
            refine (if_neg (show ¬ σ 8 (3 + c) 2 = 1 by rw [hx8]; exact n1)).trans ?_
            rw [if_neg (nI_nle hb.1 (by omega))]
            dsimp only
            rw [xcode hb.1, bind_some']
            dsimp only
            rw [X_isC2 hX hw hc hi bC, if_pos ⟨hb.2.1, hb.2.2.symm⟩, bind_some', if_neg o1n0, X_refused]
            rfl
          · unfold f_X12_cancel f_X12_cancel_35 f_X12_cancel_40
            rw [M_isControl_t hM2 hw hc, bG_t hy, bind_some', if_neg o1n0, M_rd (j := 4 + c) hM2 (by rw [i4, nI_add]) (by omega), bind_some', if_neg n1, M_wouldBeAlike hM2 hw hc hi, if_pos hb, bind_some', if_neg o1n0, ref_e (by decide), bind_some', if_neg o1n0]
        · refine Or.inr (fun ⟨m, hm, h26⟩ => ?_)
          obtain ⟨g1, g2, g3⟩ := cn_ag (i := i) hw hc
          obtain ⟨τ0, hτ0, s0, k0⟩ := X_keepB 7 c i (d (7 + 10 * c + i)) 0 hm h26
          have hX0 : XR d τ0 := hX.same (fun k i s hk => s0 k i s (by omega) (by omega))
          obtain ⟨τ, hτ, f1, x1⟩ := op_remC hX0 hw hc hi
          have hk2 := k0 τ f1
          refine ⟨cnM d c i, nI (d (4 + c) - 1), τ, ?_, g3 0 (by omega), g3 1 (by omega), by omega, ?_, x1, hk2.1, ⟨7, c, i, d (7 + 10 * c + i), 0, ⟨by omega, by omega, hw.b _, by decide⟩, ⟨by rw [g3 0 (by omega)]; exact hc, by rw [cnM_n]; omega, by rw [cnM_n]; omega⟩, cn_back hw hc hi, hk2.2⟩, fun σ2 hM2 _ m2 hm2 h30 => ?_⟩
          · refine hw.mk2 (g3 0 (by omega)) (g3 1 (by omega)) (by rw [g3 2 (by omega)]; exact hw.2.2.1) (by rw [g3 3 (by omega)]; exact hw.2.2.2.1) (cnM_b hw) (fun c' hc' => ?_) (fun a ha => RWf.ag hw ha (g3 0 (by omega)) (g2 a ha))
            by_cases ec : c' = c
            · subst ec; rw [cnM_n]; omega
            · rw [(g1 c' hc' ec).1]; exact hw.len hc'
          · have fin : f_X11_cancel_62 (nI c) (nI i) (3 + c) σ = some (nI (d (4 + c) - 1), xA τ 0) := by
              unfold f_X11_cancel_62
              rw [X_codeAt (hX.2.2.2.2.1 c hc) hl.2 hi, bind_some']
              dsimp only
              rw [show f_X0_keep 7 (nI c) (nI i) (nI (dC d c i)) 0 σ = some τ0 from hτ0, bind_some', hτ, bind_some', X_answered]
              have := (x1.2.2.2.2.1 c (by rw [g3 0 (by omega)]; exact hc)).1
              rw [cnM_n] at this
              rw [this]
              rfl
            unfold f_X11_cancel
            rw [X_hasControl_t hX hw hc, bG_t hy, bind_some', if_neg o1n0, X_courseAt (by omega), bind_some']
            refine (if_neg (show ¬ σ 8 (3 + c) 2 = 1 by rw [hx8]; exact n1)).trans ?_
            by_cases h0 : i = 0
            · rw [if_pos (by rw [h0]; decide)]
              exact fin
            · rw [if_neg (nI_nle (by omega) (by omega))]
              dsimp only
              rw [xcode (by omega), bind_some']
              dsimp only
              rw [X_isC2 hX hw hc hi bC, if_neg (fun q => hb ⟨by omega, q.1, q.2.symm⟩), bind_some', if_pos rfl]
              exact fin
          · unfold f_X12_cancel
            refine Wp.eq (M_isControl_t hM2 hw hc _) ?_
            rw [bG_t hy]
            refine Wp.f o1n0 ?_
            refine Wp.eq (M_rd (j := 4 + c) hM2 (by rw [i4, nI_add]) (by omega)) ?_
            refine Wp.f n1 ?_
            refine Wp.eq (M_wouldBeAlike hM2 hw hc hi) ?_
            rw [if_neg hb]
            refine Wp.t rfl ?_
            unfold f_X12_cancel_40
            refine Wp.eq ref_0 ?_
            refine Wp.t rfl ?_
            refine Wp.bind (M_remembers hm2 (M_30 h30)) (fun τ2 hq => ?_)
            have hM0 : MR d (mR σ2 0) := hM2.mR
            have hM3 : MR d τ2 := fun j hj => (hq.1 30 0 j (by omega) (by omega)).trans (hM0 j hj)
            refine Wp.eq (M_rd (j := 4 + c) hM3 (by rw [i4, nI_add]) (by omega)) ?_
            refine Wp.st (4 + c) (by rw [i4, nI_add]) (by omega) (by decide) ?_
            refine Wp.mono (M_cancel66 (n := d (4 + c)) (by omega) hl.2 rfl hi (d (4 + c) - 1 - i) i gFuel _ (by omega) (Nat.le_refl _) (Nat.lt_trans (by omega) gFuel_ge) (fun q hq2 => ?_)) (fun r hr => ?_)
            · by_cases q1 : q = 4 + c
              · subst q1
                rw [show sh3 d c (d (4 + c)) i i (4 + c) = d (4 + c) - 1 from if_pos rfl, i1, nI_sub (by omega)]
                simp [gup]
              · rw [show sh3 d c (d (4 + c)) i i q = d q by unfold sh3; rw [if_neg q1, if_neg (by omega)], gup_slot q1]
                exact hM3 q hq2
            · have hr2 : ∀ k i s, k ≠ 30 → r.2 k i s = τ2 k i s := fun k i s hk => (hr.2.2 k i s hk).trans (by rw [gup_kind hk])
              have hf := M_fin (σ := σ2) (m := m2) (τ := r.2) (fun k i s q1 q2 q3 => (hr2 k i s q2).trans (hq.1 k i s q1 q3)) ⟨(hr2 28 0 30 (by decide)).trans hq.2.1, fun j q q1 q2 => (hr2 40 0 _ (by decide)).trans (hq.2.2.1 j q q1 q2), fun q q2 => (hr2 40 0 _ (by decide)).trans (hq.2.2.2 q q2)⟩
              exact ⟨hr.1, hr.2.1, hf.1, hf.2.1, hf.2.2.1, hf.2.2.2⟩
    · exact Or.inl (no (by rw [X_hasControl_t hX hw hc, bG_f hy]) (fun σ2 hM2 => by rw [M_isControl_t hM2 hw hc, bG_f hy]))
  · exact Or.inl (no (X_hasControl_f hX hw hx) (fun σ2 hM2 => M_isControl_f hM2 hw hx))
end A8
