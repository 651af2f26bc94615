/-! the draft becomes the meet -/
section TK
variable {B N d e : Nat → Nat} {r k c : Nat} {σ τ σ' : gSt}
theorem gupr_at {f : Nat → Int32} {k i : Nat} : gupr σ k i f k i = f := by simp [gupr]
theorem gupr_no {f : Nat → Int32} {k i k' i' : Nat} (h : ¬ (k' = k ∧ i' = i)) : gupr σ k i f k' i' = σ k' i' := by unfold gupr; rw [if_neg h]
theorem gup_out {k i s k' i' s' : Nat} {v : Int32} (h : ¬ (k' = k ∧ i' = i ∧ s' = s)) : gup σ k i s v k' i' s' = σ k' i' s' := by unfold gup; rw [if_neg h]
theorem X_cpC (hc : c < 3) : Wp (f_X1_copyFrom (3 + c) c σ) (fun σ' => (∀ k i s, ¬ ((k = 8 ∨ k = 9) ∧ i = 3 + c) → σ' k i s = σ k i s) ∧ σ' 8 (3 + c) 1 = σ 8 c 1 ∧ σ' 8 (3 + c) 2 = σ 8 c 2 ∧ ∀ j, j < 10 → σ' 9 (3 + c) j = σ 9 c j) := by
  unfold f_X1_copyFrom
  refine Wp.eq (gcp (m := 10) rfl (by decide)) (Wp.ret ⟨fun k i s h => ?_, ?_, ?_, fun j hj => ?_⟩)
  · rw [gupr_no (by omega), gup_out (by omega), gup_out (by omega)]
  · rw [gupr_no (by omega), gup_slot (by decide), gup_same]
  · rw [gupr_no (by omega), gup_same, gup_out (by omega)]
  · rw [gupr_at, cp_at hj, gup_out (by omega), gup_out (by omega)]
theorem X_cpR (hr : r < 10) : Wp (f_X9_copyFrom (10 + r) r σ) (fun σ' => (∀ k i s, ¬ (10 ≤ k ∧ k ≤ 12 ∧ i = 10 + r) → σ' k i s = σ k i s) ∧ (∀ s, 4 ≤ s → s ≤ 8 → σ' 10 (10 + r) s = σ 10 r s) ∧ ∀ j, j < 16 → σ' 11 (10 + r) j = σ 11 r j ∧ σ' 12 (10 + r) j = σ 12 r j) := by
  unfold f_X9_copyFrom
  refine Wp.eq (gcp (m := 16) rfl (by decide)) ?_
  refine Wp.eq (gcp (m := 16) rfl (by decide)) (Wp.ret ⟨fun k i s h => ?_, fun s s1 s2 => ?_, fun j hj => ⟨?_, ?_⟩⟩)
  · rw [gupr_no (by omega), gupr_no (by omega), gup_out (by omega), gup_out (by omega), gup_out (by omega), gup_out (by omega), gup_out (by omega)]
  · rw [gupr_no (by omega), gupr_no (by omega)]
    have hn : ∀ (τ : gSt) (q : Nat) (v : Int32) (s' : Nat), gup τ 10 (10 + r) q v 10 r s' = τ 10 r s' := fun τ q v s' => gup_out (by omega)
    simp only [hn]
    have : s = 4 ∨ s = 5 ∨ s = 6 ∨ s = 7 ∨ s = 8 := by omega
    rcases this with q | q | q | q | q <;> subst q
    · rw [gup_slot (by decide), gup_slot (by decide), gup_slot (by decide), gup_slot (by decide), gup_same]
    · rw [gup_slot (by decide), gup_slot (by decide), gup_slot (by decide), gup_same]
    · rw [gup_slot (by decide), gup_slot (by decide), gup_same]
    · rw [gup_slot (by decide), gup_same]
    · rw [gup_same]
  · rw [gupr_no (by omega), gupr_at, cp_at hj, gup_kind (by decide), gup_kind (by decide), gup_kind (by decide), gup_kind (by decide), gup_kind (by decide)]
  · rw [gupr_at, cp_at hj, gupr_no (by omega), gup_kind (by decide), gup_kind (by decide), gup_kind (by decide), gup_kind (by decide), gup_kind (by decide)]
theorem X_cAt0 (hc : c < 3) : f_X4_courseAt 0 (nI c) σ = some (c, σ) := by
  unfold f_X4_courseAt
  rw [if_neg (nI_pos (by omega)), if_neg (by rw [i3]; exact nI_ge (by omega) (by decide)), gox_n (by omega) (by decide), bind_some']
  unfold grf
  rw [if_pos (by omega), show 3 * 0 + c = c by omega]
theorem X_rAt0 (hr : r < 10) : f_X4_runnerAt 0 (nI r) σ = some (r, σ) := by
  unfold f_X4_runnerAt
  rw [if_neg (nI_pos (by omega)), if_neg (by rw [i10]; exact nI_ge (by omega) (by decide)), gox_n (by omega) (by decide), bind_some']
  unfold grf
  rw [if_pos (by omega), show 10 * 0 + r = r by omega]
/-- the runners, one after another -/
theorem X_cp63 (hw : WF e) (hD : ∀ a, a < e 1 → σ 10 a 5 = nI (e (37 + a)) ∧ σ 10 a 6 = nI (e (47 + a)) ∧ σ 10 a 7 = nI (e (57 + a)) ∧ XP σ a (e (67 + a)) (dP e a) (dT e a)) (hC : ∀ c, c < e 0 → XC σ (3 + c) (e (4 + c)) (dC e c)) (h4 : σ 3 1 4 = nI (e 1)) : ∀ (m k fuel : Nat) (τ : gSt), k + m = e 1 → m < fuel → (∀ q i s, q ≠ 7 → (q < 17 ∨ 25 < q) → ¬ (10 ≤ q ∧ q ≤ 14 ∧ 10 ≤ i) → τ q i s = σ q i s) → (∀ a, a < k → RO e τ a ∧ τ 10 (10 + a) 4 = σ 10 a 4) → Wp (f_X4_copyFrom_63 1 0 fuel (nI k) τ) (fun τ' => (∀ q i s, q ≠ 7 → (q < 17 ∨ 25 < q) → ¬ (10 ≤ q ∧ q ≤ 14 ∧ 10 ≤ i) → τ' q i s = σ q i s) ∧ ∀ a, a < e 1 → RO e τ' a ∧ τ' 10 (10 + a) 4 = σ 10 a 4) := by
  have h10 := hw.2.1
  intro m
  induction m with
  | zero =>
    intro k fuel τ h1 h2 hf hR
    obtain ⟨fuel, rfl⟩ : ∃ g, fuel = g + 1 := ⟨fuel - 1, by omega⟩
    rw [f_X4_copyFrom_63]
    refine Wp.t (by rw [hf 3 1 4 (by omega) (by omega) (by omega), h4]; exact nI_le (by omega) (by omega)) (Wp.ret ⟨hf, fun a ha => hR a (by omega)⟩)
  | succ m ih =>
    intro k fuel τ h1 h2 hf hR
    obtain ⟨fuel, rfl⟩ : ∃ g, fuel = g + 1 := ⟨fuel - 1, by omega⟩
    rw [f_X4_copyFrom_63]
    refine Wp.f (by rw [hf 3 1 4 (by omega) (by omega) (by omega), h4]; exact nI_ge (by omega) (by omega)) ?_
    refine Wp.eq (X_runnerAt (by omega)) ?_
    refine Wp.eq (X_rAt0 (by omega)) ?_
    refine Wp.bind (X_cpR (r := k) (σ := τ) (by omega)) (fun τ1 q => ?_)
    obtain ⟨q1, q2, q3⟩ := q
    obtain ⟨w0, w1, w2, w3, w4, w5, w6, w7⟩ := hw
    obtain ⟨r1, r2, r3, r4, r5⟩ := w7 k (by omega)
    obtain ⟨d1, d2, d3, d4⟩ := hD k (by omega)
    have tk : ∀ q s, 10 ≤ q → q ≤ 12 → τ q k s = σ q k s := fun q s a b => hf q k s (by omega) (by omega) (by omega)
    have c5 : τ1 10 (10 + k) 5 = nI (e (37 + k)) := by rw [q2 5 (by omega) (by omega), tk 10 5 (by omega) (by omega)]; exact d1
    have c6 : τ1 10 (10 + k) 6 = nI (e (47 + k)) := by rw [q2 6 (by omega) (by omega), tk 10 6 (by omega) (by omega)]; exact d2
    have c7 : τ1 10 (10 + k) 7 = nI (e (57 + k)) := by rw [q2 7 (by omega) (by omega), tk 10 7 (by omega) (by omega)]; exact d3
    have cP : XP τ1 (10 + k) (e (67 + k)) (dP e k) (dT e k) := ⟨by rw [q2 8 (by omega) (by omega), tk 10 8 (by omega) (by omega)]; exact d4.1, fun z hz => ⟨by rw [(q3 z (by omega)).1, tk 11 z (by omega) (by omega)]; exact (d4.2 z hz).1, by rw [(q3 z (by omega)).2, tk 12 z (by omega) (by omega)]; exact (d4.2 z hz).2⟩⟩
    have cC : XC τ1 (3 + e (37 + k)) (nown e k) (dC e (e (37 + k))) := (hC (e (37 + k)) r1).same (by rw [q1 8 _ 2 (by omega), hf 8 _ 2 (by omega) (by omega) (by omega)]) (fun i => by rw [q1 9 _ i (by omega), hf 9 _ i (by omega) (by omega) (by omega)])
    refine Wp.bind (X_matchRunner (r := k) (τ := τ1) w4 (by omega) c5 (by omega) cC cP (w6 _ r1).2 r3) (fun τ2 p => ?_)
    obtain ⟨p1, p2, p3, p4⟩ := p
    rw [nI_1]
    refine ih (k + 1) fuel τ2 (by omega) (by omega) (fun q i s a1 a2 a3 => ?_) (fun a ha => ?_)
    · rw [p1 q i s a1 a2 (by omega), q1 q i s (by omega)]
      exact hf q i s a1 a2 a3
    · by_cases ea : a = k
      · subst ea
        refine ⟨⟨by rw [p2 5 (by omega)]; exact c5, by rw [p2 6 (by omega)]; exact c6, by rw [p2 7 (by omega)]; exact c7, cP.same (p2 8 (by omega)) (fun z => p3 11 z (by omega)) (fun z => p3 12 z (by omega)), p4⟩, ?_⟩
        rw [p2 4 (by omega), q2 4 (by omega) (by omega), tk 10 4 (by omega) (by omega)]
      · obtain ⟨x1, x2⟩ := hR a (by omega)
        refine ⟨x1.cg AgP.rf AgC.rf (fun s _ => ?_) (fun q s b1 b2 => ?_), ?_⟩
        · rw [p1 10 (10 + a) s (by omega) (by omega) (by omega), q1 10 (10 + a) s (by omega)]
        · rw [p1 q (10 + a) s (by omega) (by omega) (by omega), q1 q (10 + a) s (by omega)]
        · rw [p1 10 (10 + a) 4 (by omega) (by omega) (by omega), q1 10 (10 + a) 4 (by omega)]
          exact x2
theorem X_copy (hw : WF e) (hD : DR (e 0) (e 1) e N σ) : Wp (f_X4_copyFrom 1 0 σ) (fun σ' => XR e σ' ∧ (∀ c, c < e 0 → σ' 8 (3 + c) 1 = σ 8 c 1) ∧ (∀ a, a < e 1 → σ' 10 (10 + a) 4 = σ 10 a 4) ∧ ∀ k i s, k ≠ 7 → (k < 17 ∨ 25 < k) → k ≠ 3 → ¬ (8 ≤ k ∧ k ≤ 14) → σ' k i s = σ k i s) := by
  obtain ⟨⟨g1, g2, g3, g4⟩, g5, g6⟩ := hD
  have h3 := hw.1
  have h10 := hw.2.1
  unfold f_X4_copyFrom
  have hn : ∀ (τ : gSt) (q : Nat) (v : Int32) (s' : Nat), gup τ 3 1 q v 3 0 s' = τ 3 0 s' := fun τ q v s' => gup_out (by omega)
  simp only [hn]
  rw [g1, g2, g3, g4]
  obtain ⟨σb, hb⟩ : ∃ z, z = gup (gup (gup (gup σ 3 1 3 (nI (e 0))) 3 1 4 (nI (e 1))) 3 1 5 (nI (e 2))) 3 1 6 (nI (e 3)) := ⟨_, rfl⟩
  rw [← hb]
  have b3 : σb 3 1 3 = nI (e 0) := by rw [hb, gup_slot (by decide), gup_slot (by decide), gup_slot (by decide), gup_same]
  have b4 : σb 3 1 4 = nI (e 1) := by rw [hb, gup_slot (by decide), gup_slot (by decide), gup_same]
  have b5 : σb 3 1 5 = nI (e 2) := by rw [hb, gup_slot (by decide), gup_same]
  have b6 : σb 3 1 6 = nI (e 3) := by rw [hb, gup_same]
  have bo : ∀ q i s, q ≠ 3 → σb q i s = σ q i s := fun q i s h => by rw [hb, gup_kind h, gup_kind h, gup_kind h, gup_kind h]
  have key : ∀ (m k fuel : Nat) (τ : gSt), k + m = e 0 → m < fuel → (∀ q i s, ¬ ((q = 8 ∨ q = 9) ∧ 3 ≤ i) → τ q i s = σb q i s) → (∀ c, c < k → τ 8 (3 + c) 1 = σb 8 c 1 ∧ τ 8 (3 + c) 2 = σb 8 c 2 ∧ ∀ j, j < 10 → τ 9 (3 + c) j = σb 9 c j) → Wp (f_X4_copyFrom_34 1 0 fuel (nI k) τ) (fun σ' => XR e σ' ∧ (∀ c, c < e 0 → σ' 8 (3 + c) 1 = σ 8 c 1) ∧ (∀ a, a < e 1 → σ' 10 (10 + a) 4 = σ 10 a 4) ∧ ∀ k i s, k ≠ 7 → (k < 17 ∨ 25 < k) → k ≠ 3 → ¬ (8 ≤ k ∧ k ≤ 14) → σ' k i s = σ k i s) := by
    intro m
    induction m with
    | zero =>
      intro k fuel τ h1 h2 hf hR
      obtain ⟨fuel, rfl⟩ : ∃ g, fuel = g + 1 := ⟨fuel - 1, by omega⟩
      rw [f_X4_copyFrom_34]
      refine Wp.t (by rw [hf 3 1 3 (by omega), b3]; exact nI_le (by omega) (by omega)) ?_
      have tD : ∀ q a s, 10 ≤ q → q ≤ 12 → τ q a s = σ q a s := fun q a s a1 a2 => (hf q a s (by omega)).trans (bo q a s (by omega))
      have hC : ∀ c, c < e 0 → XC τ (3 + c) (e (4 + c)) (dC e c) := fun c hc => by
        obtain ⟨x1, x2, x3⟩ := hR c (by omega)
        have := (g5 c hc).1
        have wc := hw.2.2.2.2.2.2.1 c hc
        exact ⟨by rw [x2, bo 8 c 2 (by omega)]; exact this.1, fun i hi => by rw [x3 i (by omega), bo 9 c i (by omega)]; exact this.2 i hi⟩
      refine Wp.mono (X_cp63 (σ := τ) hw (fun a ha => ?_) hC (by rw [hf 3 1 4 (by omega), b4]) (e 1) 0 gFuel τ (by omega) (Nat.lt_trans (by omega) gFuel_ge) (fun _ _ _ _ _ _ => rfl) (fun a ha => absurd ha (Nat.not_lt_zero _))) (fun σ' q => ?_)
      · obtain ⟨⟨y1, y2, y3, y4⟩, _, _⟩ := g6 a ha
        exact ⟨by rw [tD 10 a 5 (by omega) (by omega)]; exact y1, by rw [tD 10 a 6 (by omega) (by omega)]; exact y2, by rw [tD 10 a 7 (by omega) (by omega)]; exact y3, y4.same (tD 10 a 8 (by omega) (by omega)) (fun z => tD 11 a z (by omega) (by omega)) (fun z => tD 12 a z (by omega) (by omega))⟩
      · obtain ⟨q1, q2⟩ := q
        have q3 : ∀ s, σ' 3 1 s = σb 3 1 s := fun s => (q1 3 1 s (by omega) (by omega) (by omega)).trans (hf 3 1 s (by omega))
        refine ⟨⟨by rw [q3]; exact b3, by rw [q3]; exact b4, fun _ => by rw [q3]; exact b5, fun _ => by rw [q3]; exact b6, fun c hc => (hC c hc).same (q1 8 _ 2 (by omega) (by omega) (by omega)) (fun i => q1 9 _ i (by omega) (by omega) (by omega)), fun a ha => (q2 a ha).1⟩, fun c hc => ?_, fun a ha => ?_, fun q i s a1 a2 a3 a4 => ?_⟩
        · rw [q1 8 (3 + c) 1 (by omega) (by omega) (by omega), (hR c (by omega)).1, bo 8 c 1 (by omega)]
        · rw [(q2 a ha).2, tD 10 a 4 (by omega) (by omega)]
        · rw [q1 q i s a1 a2 (by omega), hf q i s (by omega), bo q i s a3]
    | succ m ih =>
      intro k fuel τ h1 h2 hf hR
      obtain ⟨fuel, rfl⟩ : ∃ g, fuel = g + 1 := ⟨fuel - 1, by omega⟩
      rw [f_X4_copyFrom_34]
      refine Wp.f (by rw [hf 3 1 3 (by omega), b3]; exact nI_ge (by omega) (by omega)) ?_
      refine Wp.eq (X_courseAt (by omega)) ?_
      refine Wp.eq (X_cAt0 (by omega)) ?_
      refine Wp.bind (X_cpC (c := k) (σ := τ) (by omega)) (fun τ1 q => ?_)
      obtain ⟨q1, q2, q3, q4⟩ := q
      rw [nI_1]
      refine ih (k + 1) fuel τ1 (by omega) (by omega) (fun q i s a => (q1 q i s (by omega)).trans (hf q i s a)) (fun c hc => ?_)
      by_cases ec : c = k
      · subst ec
        exact ⟨q2.trans (hf 8 c 1 (by omega)), q3.trans (hf 8 c 2 (by omega)), fun j hj => (q4 j hj).trans (hf 9 c j (by omega))⟩
      · obtain ⟨x1, x2, x3⟩ := hR c (by omega)
        exact ⟨(q1 8 (3 + c) 1 (by omega)).trans x1, (q1 8 (3 + c) 2 (by omega)).trans x2, fun j hj => (q1 9 (3 + c) j (by omega)).trans (x3 j hj)⟩
  exact key (e 0) 0 gFuel σb (by omega) (Nat.lt_trans (by omega) gFuel_ge) (fun _ _ _ _ => rfl) (fun c hc => absurd hc (Nat.not_lt_zero _))
/-- the reference lays its rows -/
theorem M_l30 : Wp (f_X12_lays_k30_k31 0 0 397 τ) (fun τ' => (∀ k i s, k ≠ 30 → τ' k i s = τ k i s) ∧ ∀ q, q < 397 → τ' 30 0 q = τ 31 0 q) := by
  have key : ∀ (m k fuel : Nat) (τ1 : gSt), k + m = 397 → m < fuel → (∀ q i s, q ≠ 30 → τ1 q i s = τ q i s) → (∀ z, z < k → τ1 30 0 z = τ 31 0 z) → Wp (f_X12_lays_k30_k31_3 0 0 397 fuel (nI k) τ1) (fun τ' => (∀ k i s, k ≠ 30 → τ' k i s = τ k i s) ∧ ∀ q, q < 397 → τ' 30 0 q = τ 31 0 q) := by
    intro m
    induction m with
    | zero =>
      intro k fuel τ1 h1 h2 a1 a2
      obtain ⟨fuel, rfl⟩ : ∃ g, fuel = g + 1 := ⟨fuel - 1, by omega⟩
      rw [f_X12_lays_k30_k31_3]
      exact Wp.t (by rw [i397]; exact nI_le (by omega) (by omega)) (Wp.ret ⟨a1, fun q hq => a2 q (by omega)⟩)
    | succ m ih =>
      intro k fuel τ1 h1 h2 a1 a2
      obtain ⟨fuel, rfl⟩ : ∃ g, fuel = g + 1 := ⟨fuel - 1, by omega⟩
      rw [f_X12_lays_k30_k31_3]
      refine Wp.f (by rw [i397]; exact nI_ge (by omega) (by omega)) ?_
      refine Wp.ld k (by rw [i0, nI_add, Nat.zero_add]) (by omega) (by decide) (a1 31 0 k (by decide)) ?_
      refine Wp.st k (by rw [i0, nI_add, Nat.zero_add]) (by omega) (by decide) ?_
      rw [nI_1]
      refine ih (k + 1) fuel _ (by omega) (by omega) (fun q i s hq => by rw [gup_kind hq]; exact a1 q i s hq) (fun z hz => ?_)
      rw [gup_get]
      by_cases ez : z = k
      · rw [if_pos ez, ez]
      · rw [if_neg ez]; exact a2 z (by omega)
  exact key 397 0 gFuel τ (by omega) (Nat.lt_trans (by omega) gFuel_ge) (fun _ _ _ _ => rfl) (fun z hz => absurd hz (Nat.not_lt_zero _))
theorem M_l32 : Wp (f_X12_lays_k32_k33 0 0 78 τ) (fun τ' => (∀ k i s, k ≠ 32 → τ' k i s = τ k i s) ∧ ∀ q, q < 78 → τ' 32 0 q = τ 33 0 q) := by
  have key : ∀ (m k fuel : Nat) (τ1 : gSt), k + m = 78 → m < fuel → (∀ q i s, q ≠ 32 → τ1 q i s = τ q i s) → (∀ z, z < k → τ1 32 0 z = τ 33 0 z) → Wp (f_X12_lays_k32_k33_3 0 0 78 fuel (nI k) τ1) (fun τ' => (∀ k i s, k ≠ 32 → τ' k i s = τ k i s) ∧ ∀ q, q < 78 → τ' 32 0 q = τ 33 0 q) := by
    intro m
    induction m with
    | zero =>
      intro k fuel τ1 h1 h2 a1 a2
      obtain ⟨fuel, rfl⟩ : ∃ g, fuel = g + 1 := ⟨fuel - 1, by omega⟩
      rw [f_X12_lays_k32_k33_3]
      exact Wp.t (by rw [i78]; exact nI_le (by omega) (by omega)) (Wp.ret ⟨a1, fun q hq => a2 q (by omega)⟩)
    | succ m ih =>
      intro k fuel τ1 h1 h2 a1 a2
      obtain ⟨fuel, rfl⟩ : ∃ g, fuel = g + 1 := ⟨fuel - 1, by omega⟩
      rw [f_X12_lays_k32_k33_3]
      refine Wp.f (by rw [i78]; exact nI_ge (by omega) (by omega)) ?_
      refine Wp.ld k (by rw [i0, nI_add, Nat.zero_add]) (by omega) (by decide) (a1 33 0 k (by decide)) ?_
      refine Wp.st k (by rw [i0, nI_add, Nat.zero_add]) (by omega) (by decide) ?_
      rw [nI_1]
      refine ih (k + 1) fuel _ (by omega) (by omega) (fun q i s hq => by rw [gup_kind hq]; exact a1 q i s hq) (fun z hz => ?_)
      rw [gup_get]
      by_cases ez : z = k
      · rw [if_pos ez, ez]
      · rw [if_neg ez]; exact a2 z (by omega)
  exact key 78 0 gFuel τ (by omega) (Nat.lt_trans (by omega) gFuel_ge) (fun _ _ _ _ => rfl) (fun z hz => absurd hz (Nat.not_lt_zero _))
end TK
