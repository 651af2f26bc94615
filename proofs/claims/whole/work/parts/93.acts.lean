/-! acts: what is kept, on both sides, and what holds behind one -/
def m1 (m : Nat) : Nat := if m < 10 then m else 9
def shf (m : Nat) : Nat := if m < 10 then 0 else 1
theorem m1_sh {m : Nat} (h : m ≤ 10) : m1 m + shf m = m ∧ m1 m ≤ 9 := by unfold m1 shf; split <;> omega
def KX (m kd u a b c : Nat) (σ σ' : gSt) : Prop := σ' 26 0 2 = nI (m1 m + 1) ∧ (∀ j q, j < m1 m → q < 5 → σ' 27 0 (5 * j + q) = σ 27 0 (5 * (j + shf m) + q)) ∧ σ' 27 0 (5 * m1 m) = nI kd ∧ σ' 27 0 (5 * m1 m + 1) = nI u ∧ σ' 27 0 (5 * m1 m + 2) = nI a ∧ σ' 27 0 (5 * m1 m + 3) = nI b ∧ σ' 27 0 (5 * m1 m + 4) = nI c
def KM (m : Nat) (σ σ' : gSt) : Prop := σ' 28 0 30 = nI (m1 m + 1) ∧ (∀ j q, j < m1 m → q < 397 → σ' 40 0 (397 * j + q) = σ 40 0 (397 * (j + shf m) + q)) ∧ ∀ q, q < 397 → σ' 40 0 (397 * m1 m + q) = σ 30 0 q
section AK
variable {d e : Nat → Nat} {σ τ : gSt} {m m0 kd u a b c : Nat}
theorem X_set0 {q : Nat} {x v : Int32} (hx : x = nI q) (hq : q < 5) (hc : τ 26 0 2 = nI m0) (hm : m0 ≤ 9) : f_X0_set x v τ = some (gup τ 27 0 (5 * m0 + q) v) := by
  have e0 : τ 26 0 2 * 5 + x = nI (5 * m0 + q) := by rw [hc, hx, i5, nI_mul, nI_add, Nat.mul_comm]
  unfold f_X0_set
  rw [e0, if_neg (nI_pos (by omega)), if_neg (by rw [i50]; exact nI_ge (by omega) (by decide)), gst_n (by omega) (by decide), bind_some']
theorem X_keep30 (hc : τ 26 0 2 = nI m0) (hm : m0 ≤ 9) : Wp (f_X0_keep_30 (nI kd) (nI u) (nI a) (nI b) (nI c) τ) (fun τ' => (∀ k i s, k ≠ 26 → k ≠ 27 → τ' k i s = τ k i s) ∧ τ' 26 0 2 = nI (m0 + 1) ∧ (∀ s, s < 5 * m0 → τ' 27 0 s = τ 27 0 s) ∧ τ' 27 0 (5 * m0) = nI kd ∧ τ' 27 0 (5 * m0 + 1) = nI u ∧ τ' 27 0 (5 * m0 + 2) = nI a ∧ τ' 27 0 (5 * m0 + 3) = nI b ∧ τ' 27 0 (5 * m0 + 4) = nI c) := by
  unfold f_X0_keep_30
  refine Wp.eq (X_set0 (q := 0) i0 (by decide) hc hm) ?_
  refine Wp.eq (X_set0 (q := 1) i1 (by decide) (by simp [gup, hc]) hm) ?_
  refine Wp.eq (X_set0 (q := 2) i2 (by decide) (by simp [gup, hc]) hm) ?_
  refine Wp.eq (X_set0 (q := 3) i3 (by decide) (by simp [gup, hc]) hm) ?_
  refine Wp.eq (X_set0 (q := 4) i4 (by decide) (by simp [gup, hc]) hm) ?_
  refine Wp.ret ⟨fun k i s h1 h2 => ?_, ?_, fun s hs => ?_, ?_, ?_, ?_, ?_, ?_⟩
  · simp only [gup, h1, h2, false_and, if_false]
  · simp [gup, hc, nI_1]
  · have n0 : ¬ s = 5 * m0 := by omega
    have n1 : ¬ s = 5 * m0 + 1 := by omega
    have n2 : ¬ s = 5 * m0 + 2 := by omega
    have n3 : ¬ s = 5 * m0 + 3 := by omega
    have n4 : ¬ s = 5 * m0 + 4 := by omega
    simp [gup, n0, n1, n2, n3, n4]
  · simp [gup]
  · simp [gup]
  · simp [gup]
  · simp [gup]
  · simp [gup]
theorem X_keep (hm : m ≤ 10) (hc : σ 26 0 2 = nI m) : Wp (f_X0_keep (nI kd) (nI u) (nI a) (nI b) (nI c) σ) (fun τ => (∀ k i s, k ≠ 26 → k ≠ 27 → τ k i s = σ k i s) ∧ KX m kd u a b c σ τ) := by
  unfold f_X0_keep
  rw [hc]
  by_cases h : m < 10
  · have e1 : m1 m = m := if_pos h
    have e2 : shf m = 0 := if_pos h
    refine Wp.t (by rw [i10]; exact nI_lt h (by decide)) ?_
    refine Wp.mono (X_keep30 hc (by omega)) (fun τ hq => ⟨hq.1, ?_⟩)
    unfold KX
    rw [e1, e2]
    exact ⟨hq.2.1, fun j q hj hq2 => hq.2.2.1 _ (by omega), hq.2.2.2⟩
  · have e1 : m1 m = 9 := if_neg h
    have e2 : shf m = 1 := if_neg h
    refine Wp.f (by rw [i10]; exact nI_nlt (by omega) (by omega)) ?_
    have hcp : gcpy σ 27 0 50 27 0 50 5 0 45 = some (gupr σ 27 0 (va_cpy (σ 27 0) (σ 27 0) 5 0 45)) := by
      unfold gcpy
      exact if_pos (by decide)
    refine Wp.eq hcp ?_
    refine Wp.mono (X_keep30 (m0 := 9) (by simp [gup]; rfl) (by omega)) (fun τ hq => ⟨fun k i s h1 h2 => ?_, ?_⟩)
    · rw [hq.1 k i s h1 h2]
      simp [gup, gupr, h1, h2]
    · unfold KX
      rw [e1, e2]
      refine ⟨hq.2.1, fun j q hj hq2 => ?_, hq.2.2.2⟩
      rw [hq.2.2.1 _ (by omega)]
      show gup (gupr σ 27 0 (va_cpy (σ 27 0) (σ 27 0) 5 0 45)) 26 0 2 9 27 0 (5 * j + q) = _
      rw [gup_kind (by decide)]
      show (if (27 : Nat) = 27 ∧ (0 : Nat) = 0 then va_cpy (σ 27 0) (σ 27 0) 5 0 45 else σ 27 0) (5 * j + q) = _
      rw [if_pos ⟨rfl, rfl⟩, pk_cpy_in (by omega) (by omega)]
      congr 1
      omega
theorem M_lays (hm : m0 ≤ 9) : Wp (f_X12_lays_k40_k30 (nI (397 * m0)) 0 397 τ) (fun τ' => (∀ k i s, ¬ (k = 40 ∧ i = 0 ∧ 397 * m0 ≤ s ∧ s < 397 * m0 + 397) → τ' k i s = τ k i s) ∧ ∀ q, q < 397 → τ' 40 0 (397 * m0 + q) = τ 30 0 q) := by
  refine loop0 (F := fun f (_ : Unit) q τ' => f_X12_lays_k40_k30_3 (nI (397 * m0)) 0 397 f (nI q) τ') (N := 397) (I := fun q _ τ' => (∀ k i s, ¬ (k = 40 ∧ i = 0 ∧ 397 * m0 ≤ s ∧ s < 397 * m0 + 397) → τ' k i s = τ k i s) ∧ ∀ z, z < q → τ' 40 0 (397 * m0 + z) = τ 30 0 z) (by omega)
    (fun f q x τ' hq hI kk => ?_) (fun f x τ' hI => ?_) (x := ()) (σ := τ) ⟨fun _ _ _ _ => rfl, fun z hz => absurd hz (Nat.not_lt_zero _)⟩
  · obtain ⟨h1, h2⟩ := hI
    show Wp (f_X12_lays_k40_k30_3 (nI (397 * m0)) 0 397 (f + 1) (nI q) τ') _
    rw [f_X12_lays_k40_k30_3]
    refine Wp.f (by rw [i397]; exact nI_ge hq (by decide)) ?_
    refine Wp.ld q (by rw [Int32.zero_add]) hq (by decide) (h1 30 0 q (by omega)) ?_
    refine Wp.st (397 * m0 + q) (nI_add _ _) (by omega) (by decide) ?_
    rw [nI_1]
    refine kk () _ ⟨fun k i s hn => ?_, fun z hz => ?_⟩
    · show (if k = 40 ∧ i = 0 ∧ s = 397 * m0 + q then _ else τ' k i s) = _
      rw [if_neg (fun w => hn ⟨w.1, w.2.1, by omega, by omega⟩)]
      exact h1 k i s hn
    · by_cases ez : z = q
      · subst ez; simp [gup]
      · have := h2 z (by omega)
        have en : ¬ 397 * m0 + z = 397 * m0 + q := by omega
        show (if (40 : Nat) = 40 ∧ (0 : Nat) = 0 ∧ 397 * m0 + z = 397 * m0 + q then _ else τ' 40 0 (397 * m0 + z)) = _
        rw [if_neg (fun w => en w.2.2)]
        exact this
  · obtain ⟨h1, h2⟩ := hI
    show Wp (f_X12_lays_k40_k30_3 (nI (397 * m0)) 0 397 (f + 1) (nI 397) τ') _
    rw [f_X12_lays_k40_k30_3]
    exact Wp.t (by decide) (Wp.ret ⟨h1, h2⟩)
theorem M_rem55 (hm : m0 ≤ 9) (hc : τ 28 0 30 = nI m0) : Wp (f_X12_remembers_55 τ) (fun τ' => (∀ k i s, ¬ (k = 40 ∧ i = 0 ∧ 397 * m0 ≤ s ∧ s < 397 * m0 + 397) → ¬ (k = 28 ∧ i = 0 ∧ s = 30) → τ' k i s = τ k i s) ∧ τ' 28 0 30 = nI (m0 + 1) ∧ ∀ q, q < 397 → τ' 40 0 (397 * m0 + q) = τ 30 0 q) := by
  unfold f_X12_remembers_55
  rw [hc, i397, nI_mul, ← i397]
  refine Wp.bind (M_lays hm) (fun τ' hq => ?_)
  refine Wp.ret ⟨fun k i s h1 h2 => ?_, ?_, fun q hq2 => ?_⟩
  · show (if k = 28 ∧ i = 0 ∧ s = 30 then _ else τ' k i s) = _
    rw [if_neg h2]
    exact hq.1 k i s h1
  · rw [gup_same, hq.1 28 0 30 (by omega), hc, nI_1]
  · rw [gup_kind (by decide)]
    exact hq.2 q hq2
theorem M_remembers (hm : m ≤ 10) (hc : σ 28 0 30 = nI m) : Wp (f_X12_remembers σ) (fun τ => (∀ k i s, k ≠ 40 → ¬ (k = 28 ∧ i = 0 ∧ s = 30) → τ k i s = σ k i s) ∧ KM m σ τ) := by
  unfold f_X12_remembers
  by_cases h : m < 10
  · have e1 : m1 m = m := if_pos h
    have e2 : shf m = 0 := if_pos h
    refine Wp.f (by rw [hc, i10]; exact nI_ne (by omega) (by decide) (by omega)) ?_
    refine Wp.mono (M_rem55 (by omega) hc) (fun τ hq => ⟨fun k i s h1 h2 => hq.1 k i s (by omega) h2, ?_⟩)
    unfold KM
    rw [e1, e2]
    exact ⟨hq.2.1, fun j q hj hq2 => hq.1 40 0 _ (by omega) (by omega), hq.2.2⟩
  · have e1 : m1 m = 9 := if_neg h
    have e2 : shf m = 1 := if_neg h
    obtain rfl : m = 10 := by omega
    refine Wp.t (by rw [hc]; rfl) ?_
    have e9 : gup σ 28 0 30 (σ 28 0 30 - 1) 28 0 30 = nI 9 := by rw [gup_same, hc]; decide
    refine loop0 (F := fun f (_ : Unit) q τ => f_X12_remembers_21 f (nI q) τ) (N := 3573) (I := fun q _ τ => (∀ k i s, k ≠ 40 → ¬ (k = 28 ∧ i = 0 ∧ s = 30) → τ k i s = σ k i s) ∧ τ 28 0 30 = nI 9 ∧ (∀ z, z < q → τ 40 0 z = σ 40 0 (z + 397)) ∧ ∀ z, q ≤ z → τ 40 0 z = σ 40 0 z) (by omega)
      (fun f q x τ hq hI kk => ?_) (fun f x τ hI => ?_) (x := ()) (σ := gup σ 28 0 30 (σ 28 0 30 - 1)) ⟨fun k i s h1 h2 => if_neg h2, e9, fun z hz => absurd hz (Nat.not_lt_zero _), fun z _ => by rw [gup_kind (by decide)]⟩
    · obtain ⟨h1, h2, h3, h4⟩ := hI
      show Wp (f_X12_remembers_21 (f + 1) (nI q) τ) _
      rw [f_X12_remembers_21, h2, i397, nI_mul]
      refine Wp.f (nI_ge (by omega) (by omega)) ?_
      refine Wp.ld (q + 397) (nI_add _ _) (by omega) (by decide) (h4 (q + 397) (by omega)) ?_
      refine Wp.st q rfl (by omega) (by decide) ?_
      rw [nI_1]
      refine kk () _ ⟨fun k i s k1 k2 => by rw [gup_kind k1]; exact h1 k i s k1 k2, by rw [gup_kind (by decide)]; exact h2, fun z hz => ?_, fun z hz => ?_⟩
      · by_cases ez : z = q
        · subst ez; simp [gup]
        · have := h3 z (by omega)
          simp [gup, ez, this]
      · have ez : ¬ z = q := by omega
        have := h4 z (by omega)
        simp [gup, ez, this]
    · obtain ⟨h1, h2, h3, h4⟩ := hI
      show Wp (f_X12_remembers_21 (f + 1) (nI 3573) τ) _
      rw [f_X12_remembers_21, h2, i397, nI_mul]
      refine Wp.t (nI_le (by omega) (by omega)) ?_
      refine Wp.mono (M_rem55 (m0 := 9) (by omega) h2) (fun τ' hq => ⟨fun k i s k1 k2 => (hq.1 k i s (by omega) k2).trans (h1 k i s k1 k2), ?_⟩)
      unfold KM
      rw [e1, e2]
      refine ⟨hq.2.1, fun j q hj hq2 => ?_, fun q hq2 => ?_⟩
      · rw [hq.1 40 0 _ (by omega) (by omega), h3 _ (by omega)]
        congr 1
        omega
      · rw [hq.2.2 q hq2]
        exact h1 30 0 q (by omega) (by omega)
end AK
/-- an act's changes on either side -/
def Xa (σ σ' : gSt) : Prop := ∀ k i s, k ≠ 7 → (k < 17 ∨ 25 < k) → ¬ (k = 3 ∧ (s = 5 ∨ s = 6)) → ¬ (k = 8 ∧ s = 2) → k ≠ 9 → ¬ (k = 10 ∧ s ≠ 4) → ¬ (11 ≤ k ∧ k ≤ 14) → k ≠ 26 → k ≠ 27 → σ' k i s = σ k i s
def Ma (σ σ' : gSt) : Prop := ∀ k i s, k ≠ 30 → (k < 34 ∨ 40 < k) → (k = 28 → s ≠ 0 ∧ s ≠ 1 ∧ s ≠ 3 ∧ s ≠ 23 ∧ s ≠ 24 ∧ s ≠ 27 ∧ s ≠ 28 ∧ s ≠ 29 ∧ s ≠ 30) → σ' k i s = σ k i s
def AC (d : Nat → Nat) (σ : gSt) (fx fm : gSt → Option (Int32 × gSt)) : Prop := ∃ (e : Nat → Nat) (v : Int32) (σ1 : gSt), WF e ∧ e 0 = d 0 ∧ e 1 = d 1 ∧ 0 < d 0 ∧ fx σ = some (v, xA σ1 0) ∧ XR e σ1 ∧ Xa σ σ1 ∧ (∃ kd u a b c : Nat, (u < 10000 ∧ a < 10000 ∧ b < 10000 ∧ c < 10000) ∧ unpre kd u a e ∧ Eqv (unact kd u a b c e) d ∧ ∀ m, m ≤ 10 → σ 26 0 2 = nI m → KX m kd u a b c σ σ1) ∧ ∀ σ2, MR d σ2 → σ2 28 0 6 = (if d 0 = 0 then 0 else 1) → ∀ m, m ≤ 10 → σ2 28 0 30 = nI m → Wp (fm σ2) (fun r => r.1 = v ∧ MR e r.2 ∧ Ma σ2 r.2 ∧ r.2 28 0 1 = 0 ∧ r.2 28 0 3 = -1 ∧ KM m σ2 r.2)
theorem AC.ss {fx fm : gSt → Option (Int32 × gSt)} (h : ∀ σ d, Inv σ → WF d → MR d σ → XR d σ → QA d σ fx fm ∨ ((∃ m, m ≤ 10 ∧ σ 26 0 2 = nI m) → AC d σ fx fm)) : SS0 Inv fx fm := by
  intro σ hI
  have hI0 := hI
  obtain ⟨d, h1, h2, h3, h4, h5, h6, h7, h8⟩ := hI
  rcases h σ d hI0 h1 h2 h3 with q | q
  · obtain ⟨v, e, σ1, he, hx, hq, hm⟩ := q
    obtain ⟨r, hr, hv, hmq⟩ := hm σ1 (h2.xq hq) ((hq.1 28 0 6 (by omega) (by omega) (by omega)).trans h8) (fun k i s hk => hq.1 k i s (by omega) (by omega) (by omega))
    exact ⟨(v, σ1), r, hx, hr, hv.symm, inv_query he hI0 hq hmq⟩
  · obtain ⟨m, D, a1, a2, a3, a4, a5⟩ := h4
    obtain ⟨e, v, σ1, w1, w2, w3, w4, w5, w6, w7, ⟨kd, u, a, b, c, k1, k2, k3, k4⟩, w9⟩ := q ⟨m, a1, a2⟩
    have k4 := k4 m a1 a2
    have hsh := m1_sh a1
    have x0 : ∀ k i s, k ≠ 0 → xA σ1 0 k i s = σ1 k i s := fun k i s hk => by
      unfold xA
      rw [gup_kind hk, gup_kind hk]
    have x1 : ∀ k i s, 27 < k → xA σ1 0 k i s = σ k i s := fun k i s hk => (x0 k i s (by omega)).trans (w7 k i s (by omega) (by omega) (by omega) (by omega) (by omega) (by omega) (by omega) (by omega) (by omega))
    obtain ⟨r, hr, r1, r2, r3, r4, r5, r6⟩ := w9 (xA σ1 0) (fun j hj => (x1 30 0 j (by omega)).trans (h2 j hj)) ((x1 28 0 6 (by omega)).trans h8) m a1 ((x1 28 0 30 (by omega)).trans a3)
    refine ⟨(v, xA σ1 0), r, w5, hr, r1.symm, e, w1, r2, ?_, ?_, ?_, ?_, ?_, ?_⟩
    · exact w6.same (fun k i s hk => (r3 k i s (by omega) (by omega) (by omega)).trans (x0 k i s (by omega)))
    · refine ⟨m1 m + 1, fun j => if j ≤ m1 m then D (j + shf m) else e, by omega, ?_, r6.1, if_neg (by omega), fun j hj => ?_⟩
      · exact ((r3 26 0 2 (by omega) (by omega) (by omega)).trans (x0 26 0 2 (by omega))).trans k4.1
      · have c27 : ∀ s, r.2 27 0 s = σ1 27 0 s := fun s => (r3 27 0 s (by omega) (by omega) (by omega)).trans (x0 27 0 s (by omega))
        by_cases ej : j < m1 m
        · obtain ⟨g1, g2, g3, kd', u', a', b', c', g4, g5, g6, g7, g8, g9, g10, g11⟩ := a5 (j + shf m) (by omega)
          dsimp only
          rw [if_pos (show j ≤ m1 m by omega), if_pos (show j + 1 ≤ m1 m by omega)]
          refine ⟨g1, g2, fun q hq => ?_, kd', u', a', b', c', g4, ?_, ?_, ?_, ?_, ?_, by rw [show j + 1 + shf m = j + shf m + 1 by omega]; exact g10, by rw [show j + 1 + shf m = j + shf m + 1 by omega]; exact g11⟩
          · rw [r6.2.1 j q ej hq, x1 40 0 _ (by omega)]
            exact g3 q hq
          · rw [c27]; exact (k4.2.1 j 0 ej (by decide)).trans g5
          · rw [c27]; exact (k4.2.1 j 1 ej (by decide)).trans g6
          · rw [c27]; exact (k4.2.1 j 2 ej (by decide)).trans g7
          · rw [c27]; exact (k4.2.1 j 3 ej (by decide)).trans g8
          · rw [c27]; exact (k4.2.1 j 4 ej (by decide)).trans g9
        · obtain rfl : j = m1 m := by omega
          dsimp only
          rw [if_pos (Nat.le_refl _), if_neg (by omega), hsh.1, a4]
          refine ⟨h1, w4, fun q hq => ?_, kd, u, a, b, c, k1, ?_, ?_, ?_, ?_, ?_, k2, k3⟩
          · rw [r6.2.2 q hq, x1 30 0 _ (by omega)]
            exact h2 q hq
          · rw [c27]; exact k4.2.2.1
          · rw [c27]; exact k4.2.2.2.1
          · rw [c27]; exact k4.2.2.2.2.1
          · rw [c27]; exact k4.2.2.2.2.2.1
          · rw [c27]; exact k4.2.2.2.2.2.2
    · obtain ⟨N, n1, n2, n3, n4⟩ := h5
      have c1 : ∀ k i s, k = 32 ∨ (k = 8 ∧ s = 1) ∨ (k = 10 ∧ s = 4) → r.2 k i s = σ k i s := fun k i s hk => (r3 k i s (by omega) (by omega) (by omega)).trans ((x0 k i s (by omega)).trans (w7 k i s (by omega) (by omega) (by omega) (by omega) (by omega) (by omega) (by omega) (by omega) (by omega)))
      refine ⟨N, fun j hj => (c1 32 0 j (by omega)).trans (n1 j hj), n2, fun c hc => ?_, fun a ha => ?_⟩
      · rw [w2] at hc
        exact ⟨(n3 c hc).1, (c1 8 _ 1 (by omega)).trans (n3 c hc).2⟩
      · rw [w3] at ha
        exact ⟨(n4 a ha).1, (c1 10 _ 4 (by omega)).trans (n4 a ha).2⟩
    · exact h6.same (fun k i s hk => (r3 k i s (by omega) (by omega) (by omega)).trans ((x0 k i s (by omega)).trans (w7 k i s (by omega) (by omega) (by omega) (by omega) (by omega) (by omega) (by omega) (by omega) (by omega)))) ((r3 28 0 5 (by omega) (by omega) (by omega)).trans (x1 28 0 5 (by omega)))
    · refine ⟨?_, ?_, ?_⟩
      · rw [r3 0 0 9 (by omega) (by omega) (by omega), r4]; simp [xA, gup]
      · have e11 : xA σ1 0 0 0 11 = σ 0 0 11 := by
          have := w7 0 0 11 (by omega) (by omega) (by omega) (by omega) (by omega) (by omega) (by omega) (by omega) (by omega)
          rw [← this]; simp [xA, gup]
        rw [r3 0 0 11 (by omega) (by omega) (by omega), e11, h7.2.1, r3 28 0 2 (by omega) (by omega) (by omega), x1 28 0 2 (by omega)]
      · rw [r3 0 0 10 (by omega) (by omega) (by omega), r4, if_neg (by decide)]; simp [xA, gup]
    · rw [r3 28 0 6 (by omega) (by omega) (by omega), x1 28 0 6 (by omega), h8, w2]
