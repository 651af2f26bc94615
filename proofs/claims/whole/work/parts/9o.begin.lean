/-! a text from its beginning; the draft becomes the meet -/
section TB
variable {B N N' d e : Nat → Nat} {n s L u nc nr v t r k c : Nat} {σ τ σ' τ' σ0 τ0 : gSt}
def ini (j : Nat) : Nat := if j = 2 then 10 else if j = 3 then 20 else 0
theorem M_fill : ∀ (m k fuel : Nat) (τ : gSt), k + m = 397 → m < fuel → ∃ τ' : gSt, f_X12_readAll_17 fuel (nI k) τ = ((f_X12_goesOn τ').bind fun z => (f_X12_readLine z).bind fun p => if p.1 = 0 then some (0, p.2) else f_X12_readAll_70 gFuel p.2) ∧ (∀ q i s, q ≠ 31 → τ' q i s = τ q i s) ∧ (∀ j, j < k → τ' 31 0 j = τ 31 0 j) ∧ ∀ j, k ≤ j → j < 397 → τ' 31 0 j = nI (ini j) := by
  intro m
  induction m with
  | zero =>
    intro k fuel τ h1 h2
    obtain ⟨fuel, rfl⟩ : ∃ g, fuel = g + 1 := ⟨fuel - 1, by omega⟩
    rw [f_X12_readAll_17, if_pos (by rw [i397]; exact nI_le (by omega) (by omega))]
    exact ⟨τ, rfl, fun _ _ _ _ => rfl, fun _ _ => rfl, fun j a b => absurd a (by omega)⟩
  | succ m ih =>
    intro k fuel τ h1 h2
    obtain ⟨fuel, rfl⟩ : ∃ g, fuel = g + 1 := ⟨fuel - 1, by omega⟩
    have go : ∀ x : Int32, x = nI (ini k) → ∃ τ' : gSt, ((gst τ 31 0 397 (nI k) x).bind fun z50 => f_X12_readAll_17 fuel (nI k + 1) z50) = ((f_X12_goesOn τ').bind fun z => (f_X12_readLine z).bind fun p => if p.1 = 0 then some (0, p.2) else f_X12_readAll_70 gFuel p.2) ∧ (∀ q i s, q ≠ 31 → τ' q i s = τ q i s) ∧ (∀ j, j < k → τ' 31 0 j = τ 31 0 j) ∧ ∀ j, k ≤ j → j < 397 → τ' 31 0 j = nI (ini j) := by
      intro x hx
      rw [gst_n (by omega) (by decide), bind_some', nI_1]
      obtain ⟨τ', a1, a2, a3, a4⟩ := ih (k + 1) fuel (gup τ 31 0 k x) (by omega) (by omega)
      refine ⟨τ', a1, fun q i s hq => (a2 q i s hq).trans (by rw [gup_kind hq]), fun j hj => (a3 j (by omega)).trans (gup_slot (by omega)), fun j b1 b2 => ?_⟩
      by_cases ej : j = k
      · subst ej
        exact (a3 j (by omega)).trans (gup_same.trans hx)
      · exact a4 j (by omega) b2
    rw [f_X12_readAll_17, if_neg (by rw [i397]; exact nI_ge (by omega) (by omega))]
    by_cases e2 : k = 2
    · rw [if_pos (show nI k = 2 by rw [e2]; rfl)]
      exact go 10 (by rw [e2]; rfl)
    · rw [if_neg (show ¬ nI k = 2 by rw [i2]; exact nI_ne (by omega) (by decide) e2)]
      by_cases e3 : k = 3
      · rw [if_pos (show nI k = 3 by rw [e3]; rfl)]
        exact go 20 (by rw [e3]; rfl)
      · rw [if_neg (show ¬ nI k = 3 by rw [i3]; exact nI_ne (by omega) (by decide) e3)]
        refine go 0 ?_
        unfold ini
        rw [if_neg e2, if_neg e3]; rfl
theorem nI_bv (x : Int32) : x = nI x.toBitVec.toNat := by
  refine Int32.toBitVec_inj.mp ?_
  show x.toBitVec = BitVec.ofNat 32 x.toBitVec.toNat
  simp
theorem wf_ini : WF ini := by
  refine ⟨by decide, by decide, by decide, by decide, fun j => ?_, fun _ => rfl, fun c hc => absurd hc (Nat.not_lt_zero _), fun a ha => absurd ha (Nat.not_lt_zero _)⟩
  unfold ini
  split
  · decide
  · split <;> decide
theorem read2 (hk : ∀ s, s ≤ n → tK B n s < 256) (hn : n ≤ t) (ht : t ≤ 900) (h1 : σ 1 0 1 = nI t) (hB : ∀ j, j < n → B j < 256 ∧ σ 2 0 j = nI (B j)) (hC : ∀ j, j < n → τ 29 0 j = nI (B j)) : W2 (f_X8_read (nI n) σ) (f_X12_readAll (nI n) τ) (R2 σ τ (FnP σ τ B n t)) := by
  unfold f_X8_read f_X12_readAll f_X8_begin f_X4_clear
  refine W2.xe (Eq.refl (some (gup (gup (gup (gup (gup (gup (gup (gup σ 3 0 3 0) 3 0 4 0) 3 0 5 10) 3 0 6 20) 15 0 2 (nI n)) 15 0 3 0) 15 0 7 0) 15 0 6 0))) ?_
  obtain ⟨τ1, a1, a2, a3, a4⟩ := M_fill 397 0 gFuel (gup (gup (gup τ 28 0 11 (nI n)) 28 0 13 0) 28 0 16 0) (by omega) (Nat.lt_trans (by omega) gFuel_ge)
  have a1' : f_X12_readAll_17 gFuel 0 (gup (gup (gup τ 28 0 11 (nI n)) 28 0 13 0) 28 0 16 0) = _ := a1
  rw [a1']
  refine lines2 (L := t) hk (by omega) n gFuel gFuel 0 0 0 ini (fun j => (τ 33 0 j).toBitVec.toNat) _ τ1 (by omega) (Nat.lt_trans (by omega) gFuel_ge) (Nat.lt_trans (by omega) gFuel_ge) (Nat.le_refl _) (Nat.zero_le _) (by decide) wf_ini ?_ ?_ ?_ ?_
  · refine ⟨?_, ⟨hn, ht, ?_, ?_, fun j hj => ⟨(hB j hj).1, ?_⟩⟩, ?_, ?_, ⟨⟨?_, ?_, ?_, ?_⟩, fun c hc => absurd hc (Nat.not_lt_zero _), fun a ha => absurd ha (Nat.not_lt_zero _)⟩⟩
    · exact (((((((Fx.rf.up (by omega)).up (by omega)).up (by omega)).up (by omega)).up (by omega)).up (by omega)).up (by omega)).up (by omega)
    · rw [gup_kind (by decide), gup_kind (by decide), gup_kind (by decide), gup_kind (by decide), gup_kind (by decide), gup_kind (by decide), gup_kind (by decide), gup_kind (by decide)]; exact h1
    · rw [gup_slot (by decide), gup_slot (by decide), gup_slot (by decide), gup_same]
    · rw [gup_kind (by decide), gup_kind (by decide), gup_kind (by decide), gup_kind (by decide), gup_kind (by decide), gup_kind (by decide), gup_kind (by decide), gup_kind (by decide)]; exact (hB j hj).2
    · rw [gup_same]; rfl
    · rw [gup_slot (by decide), gup_same]
    · rw [gup_kind (by decide), gup_kind (by decide), gup_kind (by decide), gup_kind (by decide), gup_slot (by decide), gup_slot (by decide), gup_slot (by decide), gup_same]; rfl
    · rw [gup_kind (by decide), gup_kind (by decide), gup_kind (by decide), gup_kind (by decide), gup_slot (by decide), gup_slot (by decide), gup_same]; rfl
    · rw [gup_kind (by decide), gup_kind (by decide), gup_kind (by decide), gup_kind (by decide), gup_slot (by decide), gup_same]; rfl
    · rw [gup_kind (by decide), gup_kind (by decide), gup_kind (by decide), gup_kind (by decide), gup_same]; rfl
  · rw [gup_slot (by decide), gup_slot (by decide), gup_same]; rfl
  · refine ⟨fun k' i' s' b1 b2 b3 => ?_, ⟨by omega, ?_, fun j hj => ⟨(hB j hj).1, ?_⟩⟩, ?_, fun j hj => a4 j (Nat.zero_le _) hj, fun j hj => ⟨(τ 33 0 j).toBitVec.isLt, ?_⟩⟩
    · rw [a2 k' i' s' b1]
      exact (((Fy.rf.up (by omega)).up (by omega)).up (by omega)) k' i' s' b1 b2 b3
    · rw [a2 28 0 11 (by decide), gup_slot (by decide), gup_slot (by decide), gup_same]
    · rw [a2 29 0 j (by decide), gup_kind (by decide), gup_kind (by decide), gup_kind (by decide)]; exact hC j hj
    · rw [a2 28 0 16 (by decide), gup_same]; rfl
    · rw [a2 33 0 j (by decide), gup_kind (by decide), gup_kind (by decide), gup_kind (by decide)]; exact nI_bv _
  · rw [a2 28 0 13 (by decide), gup_slot (by decide), gup_same]; rfl
/-- one row after another -/
theorem gcp {k0 i0 k1 i1 m : Nat} {x : Int32} (hx : x = nI m) (hm : m < 1000) : gcpy σ k0 i0 m k1 i1 m 0 0 x = some (gupr σ k1 i1 (va_cpy (σ k0 i0) (σ k1 i1) 0 0 m)) := by
  subst hx
  unfold gcpy
  have e0 : (0 : Int32).toNatClampNeg = 0 := by decide
  rw [nI_cl (by omega), e0, if_pos ⟨⟨by decide, by decide, nI_pos (by omega)⟩, by omega, by omega⟩]
theorem cp_at {A C : Nat → Int32} {m j : Nat} (h : j < m) : va_cpy A C 0 0 m j = A j := by
  unfold va_cpy
  simp [h]
end TB
