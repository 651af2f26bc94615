/-! text -/
section TT
variable {B N d e : Nat → Nat} {n t : Nat} {σ τ σ' σ1 : gSt}
theorem XR.same1 (h : XR d σ) (hs : ∀ k i s, ((k = 3 ∧ i = 1) ∨ ((k = 8 ∨ k = 9) ∧ 3 ≤ i) ∨ (10 ≤ k ∧ k ≤ 14 ∧ 10 ≤ i)) → σ' k i s = σ k i s) : XR d σ' := by
  obtain ⟨h1, h2, h3, h4, h5, h6⟩ := h
  refine ⟨(hs 3 1 3 (by omega)).trans h1, (hs 3 1 4 (by omega)).trans h2, fun q => (hs 3 1 5 (by omega)).trans (h3 q), fun q => (hs 3 1 6 (by omega)).trans (h4 q), fun c hc => (h5 c hc).same (hs 8 _ _ (by omega)) (fun i => hs 9 _ _ (by omega)), fun a ha => ?_⟩
  obtain ⟨g1, g2, g3, g4, g5⟩ := h6 a ha
  exact ⟨(hs 10 _ _ (by omega)).trans g1, (hs 10 _ _ (by omega)).trans g2, (hs 10 _ _ (by omega)).trans g3, g4.same (hs 10 _ _ (by omega)) (fun k => hs 11 _ _ (by omega)) (fun k => hs 12 _ _ (by omega)), g5.same (hs 10 _ _ (by omega)) (hs 10 _ _ (by omega)) (fun k => hs 13 _ _ (by omega)) (fun k => hs 14 _ _ (by omega))⟩
theorem NR.same1 (h : NR d σ) (hs : ∀ k i s, ((k = 8 ∧ 3 ≤ i) ∨ (k = 10 ∧ 10 ≤ i) ∨ k = 32) → σ' k i s = σ k i s) : NR d σ' := by
  obtain ⟨N, h1, h2, h3, h4⟩ := h
  exact ⟨N, fun j hj => (hs 32 0 j (by omega)).trans (h1 j hj), h2, fun c hc => ⟨(h3 c hc).1, (hs 8 _ _ (by omega)).trans (h3 c hc).2⟩, fun a ha => ⟨(h4 a ha).1, (hs 10 _ _ (by omega)).trans (h4 a ha).2⟩⟩
/-- the reference's store when it begins to read -/
def tS (σ : gSt) : gSt := gup (gup (mR σ 0) 28 0 5 0) 28 0 2 0
theorem tS_o {k i s : Nat} (h : ¬ (k = 28 ∧ s ≤ 5)) : tS σ k i s = σ k i s := by
  unfold tS mR
  rw [gup_out (by omega), gup_out (by omega), gup_out (by omega), gup_out (by omega), gup_out (by omega)]
theorem M_text (hn : n ≤ t) (ht : t ≤ 900) (h5 : σ 28 0 5 = nI t) : f_X12_text (nI n) σ = (f_X12_readAll (nI n) (tS σ)).bind fun p34 => if p34.1 = 0 then (f_X12_no 4 (gup (gup p34.2 28 0 2 (p34.2 28 0 17)) 28 0 3 ((gup p34.2 28 0 2 (p34.2 28 0 17)) 28 0 18))).bind fun p58 => some (p58.1, p58.2) else (f_X12_lays_k30_k31 0 0 397 (gup (gup p34.2 28 0 6 1) 28 0 30 0)).bind fun z85 => (f_X12_lays_k32_k33 0 0 78 z85).bind fun z100 => (gld z100 30 0 397 1).bind fun a108 => some (a108, z100) := by
  unfold f_X12_text
  rw [h5, M_in0 (by omega), bG_t ((gin_nI_iff (by omega)).mpr (by omega)), bind_some']
  have hu : f_X12_unless_ 1 1 σ = some (0, σ) := by unfold f_X12_unless_; rw [if_neg o1n0, if_neg o1n0]
  rw [hu, bind_some', ref_0, bind_some']
  exact if_pos rfl
theorem S_text : SS1 Inv f_X11_text f_X12_text := by
  intro a1 σ hI
  have hI0 := hI
  obtain ⟨d, hw, hM, hX, hA, hNm, ⟨t, B, t1, t2, t3, t4, t5⟩, hE, h6⟩ := hI
  by_cases c : gin a1 (t + 1) = true
  · obtain ⟨he, hlt⟩ := gin_nI c
    generalize a1.toNatClampNeg = n at he hlt
    subst he
    have hn : n ≤ t := by omega
    have hk : ∀ s, s ≤ n → tK B n s < 256 := fun s hs => tK_lt (fun j hj => (t5 j (by omega)).1) hs
    have rd : ∀ τ : gSt, (∀ j, j < n → τ 29 0 j = nI (B j)) → W2 (f_X8_read (nI n) σ) (f_X12_readAll (nI n) τ) (R2 σ τ (FnP σ τ B n t)) := fun τ h => read2 hk hn t1 t3 (fun j hj => ⟨(t5 j (by omega)).1, (t5 j (by omega)).2.1⟩) h
    obtain ⟨a, b0, ha, hb0, hab0⟩ := rd σ (fun j hj => (t5 j (by omega)).2.2)
    have hx : f_X11_text (nI n) σ = if a.1 = 0 then (f_X11_refused 4 (gup (gup a.2 1 0 1 0) 0 0 11 ((gup a.2 1 0 1 0) 15 0 7))).bind fun p55 => some ((-1), (gup p55.2 0 0 10 (p55.2 15 0 8))) else (f_X4_copyFrom 1 0 (gup (gup a.2 1 0 1 0) 0 0 11 ((gup a.2 1 0 1 0) 15 0 7))).bind fun z80 => (f_X0_forget z80).bind fun z87 => (f_X11_answered (z87 3 1 4) z87).bind fun p98 => some (p98.1, p98.2) := by
      unfold f_X11_text
      rw [if_neg (nI_pos (by omega)), t3, if_pos (nI_le hn (by omega)), ha, bind_some']
    rcases hab0 with q0 | ⟨q1, _, u0, e0, N0, w0, p0, X0, _⟩
    · -- a fault
      rw [if_pos q0.1] at hx
      obtain ⟨σF, hF⟩ : ∃ z, z = gup (xA (gup (gup a.2 1 0 1 0) 0 0 11 ((gup a.2 1 0 1 0) 15 0 7)) 4) 0 0 10 (xA (gup (gup a.2 1 0 1 0) 0 0 11 ((gup a.2 1 0 1 0) 15 0 7)) 4 15 0 8) := ⟨_, rfl⟩
      have hx' : f_X11_text (nI n) σ = some (-1, σF) := by rw [hx, hF]; rfl
      have fO : ∀ k i s, ¬ (k = 0 ∧ 9 ≤ s ∧ s ≤ 11) → k ≠ 1 → σF k i s = a.2 k i s := by
        intro k i s g1 g2
        rw [hF]
        unfold xA
        rw [gup_out (by omega), gup_out (by omega), gup_out (by omega), gup_out (by omega), gup_out (by omega)]
      have f9 : σF 0 0 9 = 4 := by rw [hF]; unfold xA; rw [gup_slot (by decide), gup_slot (by decide), gup_same]
      have f11 : σF 0 0 11 = a.2 15 0 7 := by rw [hF]; unfold xA; rw [gup_slot (by decide), gup_slot (by decide), gup_slot (by decide), gup_same, gup_kind (by decide)]
      have f10 : σF 0 0 10 = a.2 15 0 8 := by rw [hF]; unfold xA; rw [gup_same, gup_kind (by decide), gup_kind (by decide), gup_kind (by decide), gup_kind (by decide)]
      have f1 : σF 1 0 1 = 0 := by rw [hF]; unfold xA; rw [gup_kind (by decide), gup_kind (by decide), gup_kind (by decide), gup_kind (by decide), gup_same]
      have fS : ∀ k i s, 28 ≤ k → σF k i s = σ k i s := fun k i s g => (fO k i s (by omega) (by omega)).trans (q0.2.2.1 k i s (by omega) (by omega) (by omega) (by omega) (by omega) (by omega))
      have mt := M_text (σ := σF) hn t1 (by rw [fS 28 0 5 (by omega)]; exact t4)
      obtain ⟨a', b, ha', hb, hab⟩ := rd (tS σF) (fun j hj => by rw [tS_o (by omega), fS 29 0 j (by omega)]; exact (t5 j (by omega)).2.2)
      obtain rfl : a = a' := by rw [ha] at ha'; injection ha'
      rcases hab with q | ⟨q1, _⟩
      · rw [hb, bind_some', if_pos q.2.1] at mt
        obtain ⟨τF, hT⟩ : ∃ z, z = gup (gup (gup b.2 28 0 2 (b.2 28 0 17)) 28 0 3 ((gup b.2 28 0 2 (b.2 28 0 17)) 28 0 18)) 28 0 1 4 := ⟨_, rfl⟩
        have mt' : f_X12_text (nI n) σF = some (-1, τF) := by rw [mt, hT]; rfl
        have gO : ∀ k i s, ¬ (k = 28 ∧ s ≤ 5) → k ≠ 31 → k ≠ 33 → ¬ (k = 28 ∧ 11 ≤ s ∧ s ≤ 18) → τF k i s = σF k i s := by
          intro k i s g1 g2 g3 g4
          rw [hT, gup_out (by omega), gup_out (by omega), gup_out (by omega), q.2.2.2.1 k i s g2 g3 g4, tS_o g1]
        have gA : ∀ k i s, k ≠ 7 → (k < 17 ∨ 25 < k) → k ≠ 15 → ¬ (k = 3 ∧ i = 0) → ¬ ((k = 8 ∨ k = 9) ∧ i < 3) → ¬ (10 ≤ k ∧ k ≤ 14 ∧ i < 10) → k ≠ 0 → k ≠ 1 → ¬ (k = 28 ∧ s ≤ 5) → k ≠ 31 → k ≠ 33 → ¬ (k = 28 ∧ 11 ≤ s ∧ s ≤ 18) → τF k i s = σ k i s := by
          intro k i s g1 g2 g3 g4 g5 g6 g7 g8 g9 g10 g11 g12
          rw [gO k i s g9 g10 g11 g12, fO k i s (by omega) g8]
          exact q0.2.2.1 k i s g1 g2 g3 g4 g5 g6
        refine ⟨(-1, σF), (-1, τF), hx', mt', rfl, d, hw, fun j hj => ?_, hX.same1 (fun k i s g => ?_), hA.same (fun k i s g => ?_) ?_, hNm.same1 (fun k i s g => ?_), ⟨0, fun _ => 0, by decide, by decide, ?_, ?_, fun j hj => absurd hj (Nat.not_lt_zero _)⟩, ⟨?_, ?_, ?_⟩, ?_⟩
        · exact (gA 30 0 j (by omega) (by omega) (by omega) (by omega) (by omega) (by omega) (by omega) (by omega) (by omega) (by omega) (by omega) (by omega)).trans (hM j hj)
        · exact gA k i s (by omega) (by omega) (by omega) (by omega) (by omega) (by omega) (by omega) (by omega) (by omega) (by omega) (by omega) (by omega)
        · exact gA k i s (by omega) (by omega) (by omega) (by omega) (by omega) (by omega) (by omega) (by omega) (by omega) (by omega) (by omega) (by omega)
        · exact gA 28 0 30 (by omega) (by omega) (by omega) (by omega) (by omega) (by omega) (by omega) (by omega) (by omega) (by omega) (by omega) (by omega)
        · exact gA k i s (by omega) (by omega) (by omega) (by omega) (by omega) (by omega) (by omega) (by omega) (by omega) (by omega) (by omega) (by omega)
        · exact (gO 1 0 1 (by omega) (by omega) (by omega) (by omega)).trans f1
        · show τF 28 0 5 = nI 0
          rw [hT, gup_slot (by decide), gup_slot (by decide), gup_slot (by decide), q.2.2.2.1 28 0 5 (by omega) (by omega) (by omega)]
          unfold tS
          rw [gup_slot (by decide), gup_same]; rfl
        · show τF 0 0 9 = τF 28 0 1
          rw [gO 0 0 9 (by omega) (by omega) (by omega) (by omega), f9, hT, gup_same]
        · show τF 0 0 11 = τF 28 0 2
          rw [gO 0 0 11 (by omega) (by omega) (by omega) (by omega), f11, hT, gup_slot (by decide), gup_slot (by decide), gup_same]
          exact q.2.2.2.2.1
        · show τF 0 0 10 = if τF 28 0 1 = 4 then τF 28 0 3 else -1
          rw [if_pos (by rw [hT, gup_same]), gO 0 0 10 (by omega) (by omega) (by omega) (by omega), f10, hT, gup_slot (by decide), gup_same, gup_slot (by decide)]
          exact q.2.2.2.2.2
        · exact (gA 28 0 6 (by omega) (by omega) (by omega) (by omega) (by omega) (by omega) (by omega) (by omega) (by omega) (by omega) (by omega) (by omega)).trans h6
      · exact absurd (q0.1.symm.trans q1) (by decide)
    · -- a new meet
      rw [if_neg (by rw [q1]; exact o1n0)] at hx
      obtain ⟨S, hS⟩ : ∃ z, z = gup (gup a.2 1 0 1 0) 0 0 11 ((gup a.2 1 0 1 0) 15 0 7) := ⟨_, rfl⟩
      rw [← hS] at hx
      have sO : ∀ k i s, k ≠ 0 → k ≠ 1 → S k i s = a.2 k i s := fun k i s g1 g2 => by rw [hS, gup_kind g1, gup_kind g2]
      have sD : ∀ {e N : Nat → Nat}, DR (e 0) (e 1) e N a.2 → DR (e 0) (e 1) e N S := fun {e N} h => h.cg ⟨(sO 3 0 3 (by decide) (by decide)).trans h.1.1, (sO 3 0 4 (by decide) (by decide)).trans h.1.2.1, (sO 3 0 5 (by decide) (by decide)).trans h.1.2.2.1, (sO 3 0 6 (by decide) (by decide)).trans h.1.2.2.2⟩ rfl rfl (fun _ _ => AgC.rf) (fun _ _ => AgP.rf) (fun _ _ => rfl) (fun c _ s => ⟨sO 8 c s (by decide) (by decide), sO 9 c s (by decide) (by decide)⟩) (fun a _ k s k1 k2 => sO k a s (by omega) (by omega))
      obtain ⟨σ3, hc3, _, _, _, fc⟩ := X_copy w0 (sD X0.2.2.2.2)
      obtain ⟨σF, hF⟩ : ∃ z, z = xA (gup σ3 26 0 2 0) 0 := ⟨_, rfl⟩
      have hx' : f_X11_text (nI n) σ = some (σ3 3 1 4, σF) := by
        rw [hx, hc3, bind_some', hF]
        show some ((gup σ3 26 0 2 0) 3 1 4, xA (gup σ3 26 0 2 0) 0) = _
        rw [gup_kind (by decide)]
      have fO : ∀ k i s, ¬ (k = 0 ∧ 9 ≤ s ∧ s ≤ 10) → k ≠ 26 → σF k i s = σ3 k i s := by
        intro k i s g1 g2
        rw [hF]
        unfold xA
        rw [gup_out (by omega), gup_out (by omega), gup_out (by omega)]
      have f9 : σF 0 0 9 = 0 := by rw [hF]; unfold xA; rw [gup_slot (by decide), gup_same]
      have f10 : σF 0 0 10 = -1 := by rw [hF]; unfold xA; rw [gup_same]
      have f26 : σF 26 0 2 = 0 := by rw [hF]; unfold xA; rw [gup_kind (by decide), gup_kind (by decide), gup_same]
      have f11 : σF 0 0 11 = 0 := by
        rw [fO 0 0 11 (by omega) (by omega), fc 0 0 11 (by omega) (by omega) (by omega) (by omega), hS, gup_same, gup_kind (by decide)]
        exact X0.2.2.2.1
      have f1 : σF 1 0 1 = 0 := by
        rw [fO 1 0 1 (by omega) (by omega), fc 1 0 1 (by omega) (by omega) (by omega) (by omega), hS, gup_kind (by decide), gup_same]
      have fS : ∀ k i s, 28 ≤ k → σF k i s = σ k i s := fun k i s g => ((fO k i s (by omega) (by omega)).trans ((fc k i s (by omega) (by omega) (by omega) (by omega)).trans (sO k i s (by omega) (by omega)))).trans (X0.1 k i s (by omega) (by omega) (by omega) (by omega) (by omega) (by omega))
      have mt := M_text (σ := σF) hn t1 (by rw [fS 28 0 5 (by omega)]; exact t4)
      obtain ⟨a', b, ha', hb, hab⟩ := rd (tS σF) (fun j hj => by rw [tS_o (by omega), fS 29 0 j (by omega)]; exact (t5 j (by omega)).2.2)
      obtain rfl : a = a' := by rw [ha] at ha'; injection ha'
      rcases hab with q | ⟨_, q2, u, e, N, we, pe, Xe, Me⟩
      · exact absurd (q1.symm.trans q.1) (by decide)
      · obtain ⟨σ3', hc3', xr, xc, xa, _⟩ := X_copy we (sD Xe.2.2.2.2)
        obtain rfl : σ3 = σ3' := by rw [hc3] at hc3'; injection hc3'
        rw [hb, bind_some', if_neg (by rw [q2]; exact o1n0)] at mt
        obtain ⟨z1, hz1, z1f, z1r⟩ := M_l30 (τ := gup (gup b.2 28 0 6 1) 28 0 30 0)
        obtain ⟨z2, hz2, z2f, z2r⟩ := M_l32 (τ := z1)
        have zr : ∀ j, j < 397 → z2 30 0 j = nI (e j) := fun j hj => by
          rw [z2f 30 0 j (by decide), z1r j hj, gup_kind (by decide), gup_kind (by decide)]
          exact Me.2.2.2.1 j hj
        have zn : ∀ j, j < 78 → z2 32 0 j = nI (N j) ∧ N j < 4294967296 := fun j hj => by
          rw [z2r j hj, z1f 33 0 j (by decide), gup_kind (by decide), gup_kind (by decide)]
          exact ⟨(Me.2.2.2.2 j hj).2, (Me.2.2.2.2 j hj).1⟩
        have hl1 : gld z2 30 0 397 1 = some (nI (e 1)) := (gld_n (j := 1) (by decide) (by decide)).trans (by rw [zr 1 (by decide)])
        have mt' : f_X12_text (nI n) σF = some (nI (e 1), z2) := by
          rw [mt, hz1, bind_some', hz2, bind_some', hl1, bind_some']
        have gO : ∀ k i s, ¬ (k = 28 ∧ s ≤ 6) → ¬ (k = 28 ∧ s = 30) → k ≠ 30 → k ≠ 32 → k ≠ 31 → k ≠ 33 → ¬ (k = 28 ∧ 11 ≤ s ∧ s ≤ 18) → z2 k i s = σF k i s := by
          intro k i s g1 g2 g3 g4 g5 g6 g7
          rw [z2f k i s g4, z1f k i s g3, gup_out (by omega), gup_out (by omega), Me.1 k i s g5 g6 g7, tS_o (by omega)]
        have g28 : ∀ s, s ≤ 5 → z2 28 0 s = tS σF 28 0 s := fun s hs => by
          rw [z2f 28 0 s (by decide), z1f 28 0 s (by decide), gup_slot (by omega), gup_slot (by omega), Me.1 28 0 s (by omega) (by omega) (by omega)]
        refine ⟨(σ3 3 1 4, σF), (nI (e 1), z2), hx', mt', xr.2.1, e, we, zr, xr.same (fun k i s g => ?_), ⟨0, fun _ => e, by decide, ?_, ?_, rfl, fun j hj => absurd hj (Nat.not_lt_zero _)⟩, ⟨fun j => if j < 78 then N j else 0, fun j hj => ?_, fun j => ?_, fun c hc => ?_, fun a' ha' => ?_⟩, ⟨0, fun _ => 0, by decide, by decide, ?_, ?_, fun j hj => absurd hj (Nat.not_lt_zero _)⟩, ⟨?_, ?_, ?_⟩, ?_⟩
        · exact (gO k i s (by omega) (by omega) (by omega) (by omega) (by omega) (by omega) (by omega)).trans (fO k i s (by omega) (by omega))
        · exact (gO 26 0 2 (by omega) (by omega) (by omega) (by omega) (by omega) (by omega) (by omega)).trans f26
        · show z2 28 0 30 = nI 0
          rw [z2f 28 0 30 (by decide), z1f 28 0 30 (by decide), gup_same]; rfl
        · show z2 32 0 j = nI (if j < 78 then N j else 0)
          rw [if_pos hj]; exact (zn j hj).1
        · show (if j < 78 then N j else 0) < 4294967296
          split
          · next g => exact (zn j g).2
          · decide
        · have h3 := we.1
          obtain ⟨x1, x2, x3⟩ := Xe.2.2.2.2.2.1 c hc
          have hq : ∀ q, q < 6 → (fun q => if 6 * c + q < 78 then N (6 * c + q) else 0) q = (fun q => N (6 * c + q)) q := fun q hq => if_pos (by omega)
          refine ⟨isW_cg hq x2, ?_⟩
          show z2 8 (3 + c) 1 = nI (wval (fun q => if 6 * c + q < 78 then N (6 * c + q) else 0) 6)
          rw [wval_cg 6 hq, ← x3, gO 8 (3 + c) 1 (by omega) (by omega) (by omega) (by omega) (by omega) (by omega) (by omega), fO 8 (3 + c) 1 (by omega) (by omega), xc c hc, sO 8 c 1 (by decide) (by decide)]
        · have h10 := we.2.1
          obtain ⟨x1, x2, x3⟩ := Xe.2.2.2.2.2.2 a' ha'
          have hq : ∀ q, q < 6 → (fun q => if 6 * (3 + a') + q < 78 then N (6 * (3 + a') + q) else 0) q = (fun q => N (6 * (3 + a') + q)) q := fun q hq => if_pos (by omega)
          refine ⟨isW_cg hq x2, ?_⟩
          show z2 10 (10 + a') 4 = nI (wval (fun q => if 6 * (3 + a') + q < 78 then N (6 * (3 + a') + q) else 0) 6)
          rw [wval_cg 6 hq, ← x3, gO 10 (10 + a') 4 (by omega) (by omega) (by omega) (by omega) (by omega) (by omega) (by omega), fO 10 (10 + a') 4 (by omega) (by omega), xa a' ha', sO 10 a' 4 (by decide) (by decide)]
        · exact (gO 1 0 1 (by omega) (by omega) (by omega) (by omega) (by omega) (by omega) (by omega)).trans f1
        · show z2 28 0 5 = nI 0
          rw [g28 5 (by omega)]
          unfold tS
          rw [gup_slot (by decide), gup_same]; rfl
        · show z2 0 0 9 = z2 28 0 1
          rw [gO 0 0 9 (by omega) (by omega) (by omega) (by omega) (by omega) (by omega) (by omega), f9, g28 1 (by omega)]
          unfold tS mR
          rw [gup_slot (by decide), gup_slot (by decide), gup_same]
        · show z2 0 0 11 = z2 28 0 2
          rw [gO 0 0 11 (by omega) (by omega) (by omega) (by omega) (by omega) (by omega) (by omega), f11, g28 2 (by omega)]
          unfold tS
          rw [gup_same]
        · show z2 0 0 10 = if z2 28 0 1 = 4 then z2 28 0 3 else -1
          have h1 : z2 28 0 1 = 0 := by
            rw [g28 1 (by omega)]
            unfold tS mR
            rw [gup_slot (by decide), gup_slot (by decide), gup_same]
          rw [if_neg (by rw [h1]; decide), gO 0 0 10 (by omega) (by omega) (by omega) (by omega) (by omega) (by omega) (by omega), f10]
        · show z2 28 0 6 = if e 0 = 0 then 0 else 1
          rw [if_neg (by omega), z2f 28 0 6 (by decide), z1f 28 0 6 (by decide), gup_slot (by decide), gup_same]
  · have hx : f_X11_text a1 σ = some (-1, xA σ 2) := by
      unfold f_X11_text
      rcases x_cases a1 with q | ⟨j, q1, rfl⟩
      · rw [if_pos q]; rfl
      · rw [if_neg (nI_pos q1), if_neg (by rw [t3]; exact nI_ge (Nat.lt_of_not_le (fun z => c ((gin_nI_iff q1).mpr (by omega)))) (by omega))]; rfl
    have hq : Xq σ (xA σ 2) 2 := xA_q Xs.rf
    have hm : f_X12_text a1 (xA σ 2) = some (-1, mR (xA σ 2) 2) := by
      unfold f_X12_text
      have h5 : xA σ 2 28 0 5 = nI t := (hq.1 28 0 5 (by omega) (by omega) (by omega)).trans t4
      rw [h5, M_in0 (by omega), bG_f c, bind_some']
      have hu : f_X12_unless_ 1 0 (xA σ 2) = some (2, xA σ 2) := by unfold f_X12_unless_; rw [if_neg o1n0, if_pos rfl]
      rw [hu, bind_some', ref_2, bind_some']
      exact if_neg o1n0
    exact ⟨_, _, hx, hm, rfl, inv_query (by decide) hI0 hq mR_q⟩
end TT
