/-! undo -/
section A9
variable {d e : Nat → Nat} {σ τ τ' : gSt} {m m0 a b c i k t u v z : Nat}
theorem X_val {q : Nat} {x : Int32} (hx : x = nI q) (hq : q < 5) (hc : τ 26 0 2 = nI m0) (hm : m0 ≤ 9) : f_X0_value x τ = some (τ 27 0 (5 * m0 + q), τ) := by
  have e0 : τ 26 0 2 * 5 + x = nI (5 * m0 + q) := by rw [hc, hx, i5, nI_mul, nI_add, Nat.mul_comm]
  unfold f_X0_value
  rw [e0, if_neg (nI_pos (by omega)), if_neg (by rw [i50]; exact nI_ge (by omega) (by decide)), gld_n (by omega) (by decide), bind_some']
theorem un_rmP (h : XR d σ) (hw : WF d) (hu : u < d 1) (ha : a < d (67 + u)) : Wp (f_X4_removePunch 1 (nI u) (nI a) σ) (fun τ => Fo σ τ ∧ XR (rmP d u a) τ) := by
  have h10 := hw.2.1
  have h3 := hw.1
  have hru := hw.run hu
  have o : ∀ q, q ≠ 67 + u → ¬ (77 + 16 * u ≤ q ∧ q < 77 + 16 * u + 16) → ¬ (237 + 16 * u ≤ q ∧ q < 237 + 16 * u + 16) → rmP d u a q = d q := fun q q1 q2 q3 => by
    unfold rmP
    rw [if_neg q1, if_neg (by omega), if_neg (by omega)]
  refine Wp.mono (op_remP (e := rmP d u a) h hw hu ha (fun j => ?_) (o 0 (by omega) (by omega) (by omega)) (o 1 (by omega) (by omega) (by omega)) (o 2 (by omega) (by omega) (by omega)) (o 3 (by omega) (by omega) (by omega)) (fun c' hc' => ?_) (fun b hb hne => ?_) (o _ (by omega) (by omega) (by omega)) (o _ (by omega) (by omega) (by omega)) (o _ (by omega) (by omega) (by omega)) (if_pos rfl) (fun z hz => ⟨?_, ?_⟩)) (fun τ hq => ⟨hq.1.fo, hq.2⟩)
  · have := hw.b (67 + u)
    unfold rmP
    split
    · omega
    · split
      · exact hw.b _
      · split
        · exact hw.b _
        · exact hw.b _
  · have hl := hw.len hc'
    exact ⟨o _ (by omega) (by omega) (by omega), fun i hi => o _ (by omega) (by omega) (by omega)⟩
  · have hrb := hw.run hb
    exact ⟨o _ (by omega) (by omega) (by omega), o _ (by omega) (by omega) (by omega), o _ (by omega) (by omega) (by omega), o _ (by omega) (by omega) (by omega), fun z hz => ⟨o _ (by omega) (by omega) (by omega), o _ (by omega) (by omega) (by omega)⟩⟩
  · unfold rmP rmv
    rw [if_neg (by omega)]
    by_cases z1 : z < a
    · rw [if_neg (by omega), if_neg (by omega), if_pos z1]
    · rw [if_pos (by omega), if_neg z1]; rfl
  · unfold rmP rmv
    rw [if_neg (by omega), if_neg (by omega)]
    by_cases z1 : z < a
    · rw [if_neg (by omega), if_pos z1]
    · rw [if_pos (by omega), if_neg z1]; rfl
theorem un_inP (h : XR d σ) (hw : WF d) (hu : u < d 1) (ha : a ≤ d (67 + u)) (hp : d (67 + u) < 16) (hb : b < 10000) (hc : c < 10000) : Wp (f_X4_insertPunch 1 (nI u) (nI a) (nI b) (nI c) σ) (fun τ => Fo σ τ ∧ XR (inP d u a b c) τ) := by
  have h10 := hw.2.1
  have h3 := hw.1
  have hru := hw.run hu
  have o : ∀ q, q ≠ 67 + u → ¬ (77 + 16 * u ≤ q ∧ q < 77 + 16 * u + 16) → ¬ (237 + 16 * u ≤ q ∧ q < 237 + 16 * u + 16) → inP d u a b c q = d q := fun q q1 q2 q3 => by
    unfold inP
    rw [if_neg q1, if_neg (by omega), if_neg (by omega), if_neg (by omega), if_neg (by omega)]
  refine Wp.mono (op_insP (e := inP d u a b c) (c := b) (t := c) h hw hu hp ha (fun j => ?_) (o 0 (by omega) (by omega) (by omega)) (o 1 (by omega) (by omega) (by omega)) (o 2 (by omega) (by omega) (by omega)) (o 3 (by omega) (by omega) (by omega)) (fun c' hc' => ?_) (fun b hb hne => ?_) (o _ (by omega) (by omega) (by omega)) (o _ (by omega) (by omega) (by omega)) (o _ (by omega) (by omega) (by omega)) (if_pos rfl) (fun z hz => ⟨?_, ?_⟩)) (fun τ hq => ⟨hq.1.fo, hq.2⟩)
  · unfold inP
    split
    · omega
    · split
      · exact hb
      · split
        · exact hc
        · split
          · exact hw.b _
          · split
            · exact hw.b _
            · exact hw.b _
  · have hl := hw.len hc'
    exact ⟨o _ (by omega) (by omega) (by omega), fun i hi => o _ (by omega) (by omega) (by omega)⟩
  · have hrb := hw.run hb
    exact ⟨o _ (by omega) (by omega) (by omega), o _ (by omega) (by omega) (by omega), o _ (by omega) (by omega) (by omega), o _ (by omega) (by omega) (by omega), fun z hz => ⟨o _ (by omega) (by omega) (by omega), o _ (by omega) (by omega) (by omega)⟩⟩
  · unfold inP isr
    rw [if_neg (by omega)]
    by_cases z1 : z < a
    · rw [if_neg (by omega), if_neg (by omega), if_neg (by omega), if_neg (by omega), if_pos z1]
    · rw [if_neg z1]
      by_cases z2 : z = a
      · rw [if_pos (by omega), if_pos z2]
      · rw [if_neg (by omega), if_neg (by omega), if_pos (by omega), if_neg z2]
        show d (77 + 16 * u + z - 1) = d (77 + 16 * u + (z - 1))
        congr 1
        omega
  · unfold inP isr
    rw [if_neg (by omega), if_neg (by omega)]
    by_cases z1 : z < a
    · rw [if_neg (by omega), if_neg (by omega), if_neg (by omega), if_pos z1]
    · rw [if_neg z1]
      by_cases z2 : z = a
      · rw [if_pos (by omega), if_pos z2]
      · rw [if_neg (by omega), if_neg (by omega), if_pos (by omega), if_neg z2]
        show d (237 + 16 * u + z - 1) = d (237 + 16 * u + (z - 1))
        congr 1
        omega
theorem un_inC (h : XR d σ) (hw : WF d) (hu : u < d 0) (ha : a ≤ d (4 + u)) (hn : d (4 + u) < 10) (hb : b < 10000) : Wp (f_X4_insertControl 1 (nI u) (nI a) (nI b) σ) (fun τ => Fo σ τ ∧ XR (inC d u a b) τ) := by
  have h10 := hw.2.1
  have h3 := hw.1
  have o : ∀ q, q ≠ 4 + u → ¬ (7 + 10 * u ≤ q ∧ q < 7 + 10 * u + 10) → inC d u a b q = d q := fun q q1 q2 => by
    unfold inC
    rw [if_neg q1, if_neg (by omega), if_neg (by omega)]
  have hx := h.2.2.2.2.1 u hu
  have e4 : inC d u a b (4 + u) = d (4 + u) + 1 := if_pos rfl
  unfold f_X4_insertControl
  refine Wp.eq (X_courseAt (by omega)) ?_
  refine Wp.bind (X_insC (c := b) hn ha hx) (fun τ1 hq => ?_)
  refine Wp.bind (op_course (e := inC d u a b) h hw hu hq.1 ?_ (by rw [e4]; omega) (fun j => ?_) (o 0 (by omega) (by omega)) (o 1 (by omega) (by omega)) (o 2 (by omega) (by omega)) (o 3 (by omega) (by omega)) (fun c' hc' hne => ?_) (fun b' hb' => ?_)) (fun τ hq => Wp.ret hq)
  · rw [e4]
    refine XC_cg hq.2 (fun z hz => ?_)
    show inC d u a b (7 + 10 * u + z) = _
    unfold inC isr
    rw [if_neg (by omega)]
    by_cases z1 : z < a
    · rw [if_neg (by omega), if_neg (by omega), if_pos z1]
    · rw [if_neg z1]
      by_cases z2 : z = a
      · rw [if_pos (by omega), if_pos z2]
      · rw [if_neg (by omega), if_pos (by omega), if_neg z2]
        show d (7 + 10 * u + z - 1) = d (7 + 10 * u + (z - 1))
        congr 1
        omega
  · unfold inC
    split
    · omega
    · split
      · exact hb
      · split
        · exact hw.b _
        · exact hw.b _
  · have hl := hw.len hc'
    exact ⟨o _ (by omega) (by omega), fun i hi => o _ (by omega) (by omega)⟩
  · exact ⟨o _ (by omega) (by omega), o _ (by omega) (by omega), o _ (by omega) (by omega), o _ (by omega) (by omega), fun z hz => ⟨o _ (by omega) (by omega), o _ (by omega) (by omega)⟩⟩
theorem XR.eqv (h : XR d τ) (hw : WF e) (hq : Eqv d e) : XR e τ := by
  obtain ⟨q0, q1, q2, q3, q4, q5⟩ := hq
  obtain ⟨g1, g2, g3, g4, g5, g6⟩ := h
  refine ⟨by rw [← q0]; exact g1, by rw [← q1]; exact g2, fun q => by rw [← q2]; exact g3 (by rw [q0]; exact q), fun q => by rw [← q3]; exact g4 (by rw [q0]; exact q), fun c hc => ?_, fun a ha => ?_⟩
  · rw [← q0] at hc
    have g := q4 c hc
    rw [← g.1]
    exact XC_cg (g5 c hc) (fun i hi => (g.2 i hi).symm)
  · have har := (hw.run ha).1
    rw [← q1] at ha
    have g := q5 a ha
    have hc : d (37 + a) < d 0 := by rw [g.1, q0]; exact har
    have gc := q4 _ hc
    exact RO.cg (g6 a ha) ⟨g.1.symm, g.2.1.symm, g.2.2.1.symm, g.2.2.2.1.symm, fun k hk => ⟨(g.2.2.2.2 k hk).1.symm, (g.2.2.2.2 k hk).2.symm⟩⟩ ⟨gc.1.symm, fun i hi => (gc.2 i hi).symm⟩ (fun _ _ => rfl) (fun _ _ _ _ => rfl)
theorem unpre_lt {kd : Nat} (h : unpre kd u a d) : kd < 8 := by
  unfold unpre at h
  split at h <;> first | omega | exact absurd h id
theorem X_takeBack (h : XR d σ) (hw : WF d) (h0 : 0 < d 0) (hm : m0 ≤ 9) (h26 : σ 26 0 2 = nI (m0 + 1)) {kd : Nat} (hb : u < 10000 ∧ a < 10000 ∧ b < 10000 ∧ c < 10000) (k0 : σ 27 0 (5 * m0) = nI kd) (k1 : σ 27 0 (5 * m0 + 1) = nI u) (k2 : σ 27 0 (5 * m0 + 2) = nI a) (k3 : σ 27 0 (5 * m0 + 3) = nI b) (k4 : σ 27 0 (5 * m0 + 4) = nI c) (hp : unpre kd u a d) : Wp (f_X0_takeBack σ) (fun τ => (∃ σ0, (∀ k i s, k ≠ 26 → σ0 k i s = σ k i s) ∧ σ0 26 0 2 = nI m0 ∧ Fo σ0 τ) ∧ XR (unact kd u a b c d) τ) := by
  have h10 := hw.2.1
  have hk8 := unpre_lt hp
  obtain ⟨σ0, hσ0⟩ : ∃ σ0, σ0 = gup σ 26 0 2 (σ 26 0 2 - 1) := ⟨_, rfl⟩
  have s0 : ∀ k i s, k ≠ 26 → σ0 k i s = σ k i s := fun k i s hk => by rw [hσ0, gup_kind hk]
  have s26 : σ0 26 0 2 = nI m0 := by rw [hσ0, gup_same, h26, nI_pred]
  have hX0 : XR d σ0 := h.same (fun k i s hk => s0 k i s (by omega))
  have v0 : f_X0_value 0 σ0 = some (nI kd, σ0) := by rw [X_val (q := 0) i0 (by decide) s26 hm, s0 27 0 _ (by omega)]; exact congrArg (fun x => some (x, σ0)) k0
  have v1 : f_X0_value 1 σ0 = some (nI u, σ0) := by rw [X_val (q := 1) i1 (by decide) s26 hm, s0 27 0 _ (by omega), k1]
  have v2 : f_X0_value 2 σ0 = some (nI a, σ0) := by rw [X_val (q := 2) i2 (by decide) s26 hm, s0 27 0 _ (by omega), k2]
  have v3 : f_X0_value 3 σ0 = some (nI b, σ0) := by rw [X_val (q := 3) i3 (by decide) s26 hm, s0 27 0 _ (by omega), k3]
  have v4 : f_X0_value 4 σ0 = some (nI c, σ0) := by rw [X_val (q := 4) i4 (by decide) s26 hm, s0 27 0 _ (by omega), k4]
  unfold f_X0_takeBack
  refine Wp.t (by rw [h26, i0]; exact nI_lt (by omega) (by omega)) ?_
  rw [← hσ0]
  refine Wp.eq v1 ?_
  refine Wp.eq v2 ?_
  refine Wp.eq v0 ?_
  have go : ∀ {τ : gSt}, Fo σ0 τ ∧ XR (unact kd u a b c d) τ → (∃ σ0, (∀ k i s, k ≠ 26 → σ0 k i s = σ k i s) ∧ σ0 26 0 2 = nI m0 ∧ Fo σ0 τ) ∧ XR (unact kd u a b c d) τ := fun hq => ⟨⟨σ0, s0, s26, hq.1⟩, hq.2⟩
  have nk : ∀ j, j < 8 → kd ≠ j → ¬ nI kd = nI j := fun j hj hne => nI_ne (by omega) (by omega) hne
  by_cases e0 : kd = 0
  · subst e0
    refine Wp.t rfl ?_
    exact Wp.bind (un_rmP hX0 hw hp.1 hp.2) (fun τ hq => Wp.ret (go hq))
  · refine Wp.f (nk 0 (by omega) e0) ?_
    by_cases e1 : kd = 1
    · subst e1
      refine Wp.t rfl ?_
      refine Wp.eq v3 ?_
      refine Wp.eq v4 ?_
      exact Wp.bind (un_inP hX0 hw hp.1 hp.2.1 hp.2.2 hb.2.2.1 hb.2.2.2) (fun τ hq => Wp.ret (go hq))
    · refine Wp.f (nk 1 (by omega) e1) ?_
      by_cases e2 : kd = 2
      · subst e2
        have hu : u < d 1 := hp
        refine Wp.t rfl ?_
        refine Wp.eq (X_runnerAt (by omega)) ?_
        exact Wp.ret (go ⟨(Fr.up (r := 10 + u) (k := 10) (s := 6) (by omega) Fr.rf).fo, op_start hX0 hw hu⟩)
      · refine Wp.f (nk 2 (by omega) e2) ?_
        by_cases e3 : kd = 3
        · subst e3
          have hu : u < d 1 := hp
          refine Wp.t rfl ?_
          refine Wp.eq (X_runnerAt (by omega)) ?_
          exact Wp.ret (go ⟨(Fr.up (r := 10 + u) (k := 10) (s := 7) (by omega) Fr.rf).fo, op_finish hX0 hw hu⟩)
        · refine Wp.f (nk 3 (by omega) e3) ?_
          by_cases e4 : kd = 4
          · subst e4
            refine Wp.t rfl ?_
            exact Wp.bind (op_move hX0 hw hp.1 hp.2) (fun τ hq => Wp.ret (go ⟨hq.1.fo, hq.2⟩))
          · refine Wp.f (nk 4 (by omega) e4) ?_
            by_cases e5 : kd = 5
            · subst e5
              refine Wp.t rfl ?_
              exact Wp.bind (op_widen hX0 hw h0 hp) (fun τ hq => Wp.ret (go hq))
            · refine Wp.f (nk 5 (by omega) e5) ?_
              by_cases e6 : kd = 6
              · subst e6
                refine Wp.t rfl ?_
                refine Wp.eq v3 ?_
                exact Wp.bind (op_code hX0 hw hp.1 hp.2 hb.2.2.1) (fun τ hq => Wp.ret (go hq))
              · refine Wp.f (nk 6 (by omega) e6) ?_
                obtain rfl : kd = 7 := by omega
                refine Wp.eq v3 ?_
                exact Wp.bind (un_inC hX0 hw hp.1 hp.2.1 hp.2.2 hb.2.2.1) (fun τ hq => Wp.ret (go hq))
theorem M_laysB (hm : m0 ≤ 9) : Wp (f_X12_lays_k30_k40 0 (nI (397 * m0)) 397 τ) (fun τ' => (∀ k i s, k ≠ 30 → τ' k i s = τ k i s) ∧ ∀ q, q < 397 → τ' 30 0 q = τ 40 0 (397 * m0 + q)) := by
  refine loop0 (F := fun f (_ : Unit) q τ' => f_X12_lays_k30_k40_3 0 (nI (397 * m0)) 397 f (nI q) τ') (N := 397) (I := fun q _ τ' => (∀ k i s, k ≠ 30 → τ' k i s = τ k i s) ∧ ∀ z, z < q → τ' 30 0 z = τ 40 0 (397 * m0 + z)) (by omega)
    (fun f q x τ' hq hI kk => ?_) (fun f x τ' hI => ?_) (x := ()) (σ := τ) ⟨fun _ _ _ _ => rfl, fun z hz => absurd hz (Nat.not_lt_zero _)⟩
  · obtain ⟨h1, h2⟩ := hI
    show Wp (f_X12_lays_k30_k40_3 0 (nI (397 * m0)) 397 (f + 1) (nI q) τ') _
    rw [f_X12_lays_k30_k40_3]
    refine Wp.f (by rw [i397]; exact nI_ge hq (by decide)) ?_
    refine Wp.ld (397 * m0 + q) (nI_add _ _) (by omega) (by decide) (h1 40 0 _ (by omega)) ?_
    refine Wp.st q (by rw [Int32.zero_add]) hq (by decide) ?_
    rw [nI_1]
    refine kk () _ ⟨fun k i s hn => by rw [gup_kind hn]; exact h1 k i s hn, fun z hz => ?_⟩
    by_cases ez : z = q
    · subst ez; simp [gup]
    · rw [gup_slot ez]
      exact h2 z (by omega)
  · obtain ⟨h1, h2⟩ := hI
    show Wp (f_X12_lays_k30_k40_3 0 (nI (397 * m0)) 397 (f + 1) (nI 397) τ') _
    rw [f_X12_lays_k30_k40_3]
    exact Wp.t (by decide) (Wp.ret ⟨h1, h2⟩)
theorem S_undo : SS0 Inv f_X11_undo f_X12_undo := by
  intro σ hI
  have hI0 := hI
  obtain ⟨d, h1, h2, h3, h4, h5, h6, h7, h8⟩ := hI
  obtain ⟨m, D, a1, a2, a3, a4, a5⟩ := h4
  have ref : ∀ (e : Int32), ¬ e = 4 → f_X11_undo σ = some (-1, xA σ e) → (∀ σ2, (∀ k i s, 26 ≤ k → σ2 k i s = σ k i s) → f_X12_undo σ2 = some (-1, mR σ2 e)) → ∃ r1 r2 : Int32 × gSt, f_X11_undo σ = some r1 ∧ f_X12_undo r1.2 = some r2 ∧ r1.1 = r2.1 ∧ Inv r2.2 := fun e he g1 g2 => ⟨_, _, g1, g2 (xA σ e) (fun k i s hk => by unfold xA; rw [gup_kind (by omega), gup_kind (by omega)]), rfl, inv_query he hI0 (xA_q Xs.rf) mR_q⟩
  by_cases h0 : d 0 = 0
  · refine ref 1 (by decide) ?_ (fun σ2 hs => ?_)
    · unfold f_X11_undo
      rw [X_isTold h3 h1, if_pos h0, bind_some', if_pos rfl, X_refused]
      rfl
    · unfold f_X12_undo f_X12_undo_24
      rw [if_pos (by rw [hs 28 0 6 (by omega), h8, if_pos h0]), ref_1, bind_some', if_neg o1n0]
  · have t28 : ∀ σ2 : gSt, (∀ k i s, 26 ≤ k → σ2 k i s = σ k i s) → ¬ σ2 28 0 6 = 0 := fun σ2 hs => by rw [hs 28 0 6 (by omega), h8, if_neg h0]; exact o1n0
    by_cases hm0 : m = 0
    · refine ref 5 (by decide) ?_ (fun σ2 hs => ?_)
      · unfold f_X11_undo
        rw [X_isTold h3 h1, if_neg h0, bind_some', if_neg o1n0]
        refine (if_pos (show σ 26 0 2 = 0 by rw [a2, hm0]; rfl)).trans ?_
        rfl
      · unfold f_X12_undo f_X12_undo_24
        rw [if_neg (t28 σ2 hs), if_pos (by rw [hs 28 0 30 (by omega), a3, hm0]; rfl), ref_e (by decide), bind_some', if_neg o1n0]
    · obtain ⟨m0, rfl⟩ : ∃ k, m = k + 1 := ⟨m - 1, by omega⟩
      obtain ⟨g1, g2, g3, kd, u, a, b, c, g4, g5, g6, g7, g8, g9, g10, g11⟩ := a5 m0 (by omega)
      rw [a4] at g10 g11
      obtain ⟨τ, hτ, ⟨σ0, s0, s26, hF⟩, hXu⟩ := X_takeBack h3 h1 (Nat.pos_of_ne_zero h0) (by omega) a2 g4 g5 g6 g7 g8 g9 g10
      have hXe := hXu.eqv g1 g11
      have c26 : τ 26 0 2 = nI m0 := (hF 26 0 2 (by omega) (by omega) (by omega) (by omega) (by omega) (by omega) (by omega)).trans s26
      have x1 : ∀ k i s, 27 ≤ k → xA τ 0 k i s = σ k i s := fun k i s hk => by
        unfold xA
        rw [gup_kind (by omega), gup_kind (by omega), hF k i s (by omega) (by omega) (by omega) (by omega) (by omega) (by omega) (by omega), s0 k i s (by omega)]
      have e01 : D m0 0 = d 0 ∧ D m0 1 = d 1 := by
        have b0 := g1.b 0
        have b1 := g1.b 1
        have b2 := h1.b 0
        have b3 := h1.b 1
        have q0 := hXe.1
        have q1 := hXe.2.1
        rw [hF 3 1 3 (by omega) (by omega) (by omega) (by omega) (by omega) (by omega) (by omega), s0 3 1 3 (by omega), h3.1] at q0
        rw [hF 3 1 4 (by omega) (by omega) (by omega) (by omega) (by omega) (by omega) (by omega), s0 3 1 4 (by omega), h3.2.1] at q1
        exact ⟨((nI_inj (by omega) (by omega)).mp q0).symm, ((nI_inj (by omega) (by omega)).mp q1).symm⟩
      have hx : f_X11_undo σ = some (nI m0, xA τ 0) := by
        unfold f_X11_undo
        rw [X_isTold h3 h1, if_neg h0, bind_some', if_neg o1n0]
        refine (if_neg (show ¬ σ 26 0 2 = 0 by rw [a2]; exact nI_ne0 (by omega) (by omega))).trans ?_
        dsimp only
        rw [hτ, bind_some', X_answered, c26]
        rfl
      have hm : Wp (f_X12_undo (xA τ 0)) (fun r => r.1 = nI m0 ∧ MR (D m0) r.2 ∧ r.2 28 0 30 = nI m0 ∧ (∀ k i s, k ≠ 30 → ¬ (k = 28 ∧ i = 0 ∧ s = 30) → r.2 k i s = mR (xA τ 0) 0 k i s)) := by
        unfold f_X12_undo
        refine Wp.f (by rw [x1 28 0 6 (by omega), h8, if_neg h0]; exact o1n0) ?_
        refine Wp.f (by rw [x1 28 0 30 (by omega), a3]; exact nI_ne0 (by omega) (by omega)) ?_
        unfold f_X12_undo_24
        refine Wp.eq ref_0 ?_
        refine Wp.t rfl ?_
        dsimp only
        have e30 : mR (xA τ 0) 0 28 0 30 - 1 = nI m0 := by rw [M_30 (m2 := m0 + 1) (by rw [x1 28 0 30 (by omega)]; exact a3), nI_pred]
        rw [e30, gup_same, i397, nI_mul, ← i397]
        refine Wp.bind (M_laysB (by omega)) (fun τ2 hq => ?_)
        refine Wp.ret ⟨?_, fun q hq2 => ?_, ?_, fun k i s k1 k2 => ?_⟩
        · show τ2 28 0 30 = _
          rw [hq.1 28 0 30 (by omega), gup_same]
        · show τ2 30 0 q = _
          rw [hq.2 q hq2, gup_kind (by decide), (mR_q (σ := xA τ 0) (e := 0)).1 40 0 _ (by omega) (by omega), x1 40 0 _ (by omega)]
          exact g3 q hq2
        · show τ2 28 0 30 = _
          rw [hq.1 28 0 30 (by omega), gup_same]
        · show τ2 k i s = _
          rw [hq.1 k i s k1]
          exact if_neg k2
      obtain ⟨r, hr, r1, r2, r3, r4⟩ := hm
      have mq := mR_q (σ := xA τ 0) (e := 0)
      have y1 : ∀ k i s, k ≠ 30 → k ≠ 28 → (k < 34 ∨ 39 < k) → r.2 k i s = xA τ 0 k i s := fun k i s k1 k2 k3 => (r4 k i s k1 (by omega)).trans (mq.1 k i s k3 (by omega))
      have y2 : ∀ s, s ≠ 0 → s ≠ 1 → s ≠ 3 → s ≠ 23 → s ≠ 24 → s ≠ 27 → s ≠ 28 → s ≠ 29 → s ≠ 30 → r.2 28 0 s = σ 28 0 s := fun s k0 k1 k3 k4 k5 k6 k7 k8 k9 => (r4 28 0 s (by omega) (by omega)).trans ((mq.1 28 0 s (by omega) (by omega)).trans (x1 28 0 s (by omega)))
      have z0 : ∀ k i s, k ≠ 0 → xA τ 0 k i s = τ k i s := fun k i s hk => by unfold xA; rw [gup_kind hk, gup_kind hk]
      have z1 : ∀ k i s, k ≠ 0 → k ≠ 7 → (k < 17 ∨ 25 < k) → k ≠ 3 → ¬ (k = 8 ∧ s ≠ 1) → k ≠ 9 → ¬ (k = 10 ∧ s ≠ 4) → ¬ (11 ≤ k ∧ k ≤ 14) → k ≠ 26 → xA τ 0 k i s = σ k i s := fun k i s b0 b1 b2 b3 b4 b5 b6 b7 b8 => (z0 k i s b0).trans ((hF k i s b1 b2 (by omega) (by omega) b5 b6 b7).trans (s0 k i s b8))
      refine ⟨(nI m0, xA τ 0), r, hx, hr, r1.symm, D m0, g1, r2, ?_, ⟨m0, D, by omega, ?_, r3, rfl, fun j hj => ?_⟩, ?_, ?_, ⟨?_, ?_, ?_⟩, ?_⟩
      · exact hXe.same (fun k i s hk => (y1 k i s (by omega) (by omega) (by omega)).trans (z0 k i s (by omega)))
      · exact (y1 26 0 2 (by omega) (by omega) (by omega)).trans ((z0 26 0 2 (by omega)).trans c26)
      · obtain ⟨w1, w2, w3, kd', u', a', b', c', w4, w5, w6, w7, w8, w9, w10⟩ := a5 j (by omega)
        have c27 : ∀ s, r.2 27 0 s = σ 27 0 s := fun s => (y1 27 0 s (by omega) (by omega) (by omega)).trans (x1 27 0 s (by omega))
        exact ⟨w1, w2, fun q hq => ((y1 40 0 _ (by omega) (by omega) (by omega)).trans (x1 40 0 _ (by omega))).trans (w3 q hq), kd', u', a', b', c', w4, (c27 _).trans w5, (c27 _).trans w6, (c27 _).trans w7, (c27 _).trans w8, (c27 _).trans w9, w10⟩
      · obtain ⟨N, n1, n2, n3, n4⟩ := h5
        refine ⟨N, fun j hj => ((y1 32 0 j (by omega) (by omega) (by omega)).trans (x1 32 0 j (by omega))).trans (n1 j hj), n2, fun c hc => ?_, fun a ha => ?_⟩
        · rw [e01.1] at hc
          exact ⟨(n3 c hc).1, ((y1 8 _ 1 (by omega) (by omega) (by omega)).trans (z1 8 _ 1 (by omega) (by omega) (by omega) (by omega) (by omega) (by omega) (by omega) (by omega) (by omega))).trans (n3 c hc).2⟩
        · rw [e01.2] at ha
          exact ⟨(n4 a ha).1, ((y1 10 _ 4 (by omega) (by omega) (by omega)).trans (z1 10 _ 4 (by omega) (by omega) (by omega) (by omega) (by omega) (by omega) (by omega) (by omega) (by omega))).trans (n4 a ha).2⟩
      · exact h6.same (fun k i s hk => (y1 k i s (by omega) (by omega) (by omega)).trans (z1 k i s (by omega) (by omega) (by omega) (by omega) (by omega) (by omega) (by omega) (by omega) (by omega))) (y2 5 (by omega) (by omega) (by omega) (by omega) (by omega) (by omega) (by omega) (by omega) (by omega))
      · rw [y1 0 0 9 (by omega) (by omega) (by omega), r4 28 0 1 (by omega) (by omega), mq.2.1]; simp [xA, gup]
      · have e11 : xA τ 0 0 0 11 = σ 0 0 11 := by
          have := (hF 0 0 11 (by omega) (by omega) (by omega) (by omega) (by omega) (by omega) (by omega)).trans (s0 0 0 11 (by omega))
          rw [← this]; simp [xA, gup]
        rw [y1 0 0 11 (by omega) (by omega) (by omega), e11, h7.2.1, y2 2 (by omega) (by omega) (by omega) (by omega) (by omega) (by omega) (by omega) (by omega) (by omega)]
      · rw [y1 0 0 10 (by omega) (by omega) (by omega), r4 28 0 1 (by omega) (by omega), mq.2.1, if_neg (by decide)]; simp [xA, gup]
      · rw [y2 6 (by omega) (by omega) (by omega) (by omega) (by omega) (by omega) (by omega) (by omega) (by omega), h8, e01.1]
end A9
