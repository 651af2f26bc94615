/-! the reference's next token; words -/
section TM
variable {B : Nat → Nat} {n s p m L : Nat} {σ τ τ' : gSt}
theorem M_goesOn (hB : MB B n τ) (hs : s ≤ n) (a3 : τ 28 0 13 = nI s) : Wp (f_X12_goesOn τ) (fun τ' => Gt τ τ' ∧ MT B n s τ') := by
  have hn := hB.1
  have hp := tP_b (B := B) hs
  have key : ∀ (m z fuel : Nat) (τ' : gSt), z + m = n → s ≤ z → m < fuel → Gt τ τ' → τ' 28 0 13 = nI z → tP B n s = rn (isB B) m z → Wp (f_X12_goesOn_0 fuel τ') (fun τ' => Gt τ τ' ∧ MT B n s τ') := by
    intro m
    induction m with
    | zero =>
      intro z fuel τ' h1 h2 h3 hF b3 hP
      obtain ⟨fuel, rfl⟩ : ∃ g, fuel = g + 1 := ⟨fuel - 1, by omega⟩
      obtain rfl : z = n := by omega
      have hB' := hB.gt hF
      have hPz : tP B z s = z := hP
      have eK : tK B z s = 0 := if_pos (by omega)
      have eQ : tQ B z s = z := by unfold tQ; rw [if_pos (by omega), hPz]
      rw [f_X12_goesOn_0, b3]
      refine Wp.eq (M_seeE hB') ?_
      refine Wp.f (show ¬ (-1 : Int32) = 32 by decide) ?_
      refine Wp.eq (a := (-1, gup τ' 28 0 12 (nI z))) (by
        show f_X12_see (gup τ' 28 0 12 (τ' 28 0 13) 28 0 13) (gup τ' 28 0 12 (τ' 28 0 13)) = _
        rw [gup_slot (by decide), b3]
        exact M_seeE (hB'.gt (Gt.up (by omega) Gt.rf))) ?_
      refine Wp.t rfl ?_
      dsimp only
      exact (Wp.ret ⟨hF.tr (Gt.up (by omega) (Gt.up (by omega) Gt.rf)), by rw [gup_slot (by decide), gup_slot (by decide), eQ]; exact b3, by rw [gup_slot (by decide), gup_same, hPz], by rw [gup_same, eK]; rfl, fun q => by rw [eK] at q; omega⟩)
    | succ m ih =>
      intro z fuel τ' h1 h2 h3 hF b3 hP
      obtain ⟨fuel, rfl⟩ : ∃ g, fuel = g + 1 := ⟨fuel - 1, by omega⟩
      have hB' := hB.gt hF
      have bb := (hB.2.2 z (by omega)).1
      rw [f_X12_goesOn_0, b3]
      refine Wp.eq (M_see hB' (show z < n by omega)) ?_
      by_cases c : B z = 32
      · refine Wp.t (by rw [c]; rfl) ?_
        dsimp only
        refine ih (z + 1) fuel _ (by omega) (by omega) (by omega) (hF.tr (Gt.up (by omega) Gt.rf)) (by rw [gup_same, b3, nI_1]) ?_
        rw [hP, rn, if_pos (show isB B z = true from decide_eq_true c)]
      · have hPz : tP B n s = z := by rw [hP, rn, if_neg (show ¬ isB B z = true from fun q => c (of_decide_eq_true q))]
        have h : ¬ n ≤ tP B n s := by omega
        refine Wp.f (by rw [i32]; exact nI_ne (by omega) (by decide) c) ?_
        obtain ⟨τ1, hτ1⟩ : ∃ τ1, τ1 = gup τ' 28 0 12 (nI z) := ⟨_, rfl⟩
        have f1 : Gt τ' τ1 := by rw [hτ1]; exact Gt.up (by omega) Gt.rf
        have hB1 := hB'.gt f1
        have d3 : τ1 28 0 13 = nI z := by rw [hτ1, gup_slot (by decide)]; exact b3
        have d2 : τ1 28 0 12 = nI z := by rw [hτ1, gup_same]
        refine Wp.eq (a := (nI (B z), τ1)) (by
          show f_X12_see (gup τ' 28 0 12 (τ' 28 0 13) 28 0 13) (gup τ' 28 0 12 (τ' 28 0 13)) = _
          rw [gup_slot (by decide), b3, ← hτ1]
          exact M_see hB1 (by omega)) ?_
        refine Wp.f (nI_nm1 (by omega)) ?_
        refine Wp.eq (M_inL bb) ?_
        by_cases c1 : 97 ≤ B z ∧ B z ≤ 122
        · have cL : isL B (tP B n s) = true := by rw [hPz]; exact decide_eq_true c1
          have eQ : tQ B n s = rn (isL B) (n - z) z := by unfold tQ; rw [if_neg h, if_pos cL, hPz]
          have eK : tK B n s = if tQ B n s - tP B n s ≤ 6 then 2 else 1 := by unfold tK; rw [if_neg h, if_pos cL]
          rw [if_pos c1]
          refine Wp.f o1n0 ?_
          refine Wp.mono (M_word65 (B := B) (p := z) (n - z) z gFuel τ1 (by omega) (Nat.le_refl _) (Nat.lt_trans (by omega) gFuel_ge) hB1 d3 d2) (fun τ2 hq => ?_)
          rw [← eQ, ← hPz, ← eK] at hq
          refine ⟨hF.tr (f1.tr hq.1), hq.2.2.1, hq.2.1, hq.2.2.2, fun q => ?_⟩
          rw [eK] at q
          split at q <;> omega
        · have cL : ¬ isL B (tP B n s) = true := by rw [hPz]; exact fun q => c1 (of_decide_eq_true q)
          rw [if_neg c1]
          refine Wp.t rfl ?_
          refine Wp.eq (M_inD bb) ?_
          by_cases c2 : 48 ≤ B z ∧ B z ≤ 57
          · have cD : isD B (tP B n s) = true := by rw [hPz]; exact decide_eq_true c2
            have eQ : tQ B n s = rn (isD B) (n - z) z := by unfold tQ; rw [if_neg h, if_neg cL, if_pos cD, hPz]
            have eK : tK B n s = if tQ B n s - tP B n s ≤ 4 then 3 else 1 := by unfold tK; rw [if_neg h, if_neg cL, if_pos cD]
            rw [if_pos c2]
            refine Wp.f o1n0 ?_
            dsimp only
            refine Wp.mono (M_whole136 (B := B) (p := z) (n - z) z gFuel (gup τ1 28 0 15 0) (by omega) (Nat.le_refl _) (Nat.lt_trans (by omega) gFuel_ge) (hB1.gt (Gt.up (by omega) Gt.rf)) (by rw [gup_slot (by decide)]; exact d3) (by rw [gup_slot (by decide)]; exact d2) (fun _ => by rw [gup_same, Nat.sub_self]; rfl)) (fun τ2 hq => ?_)
            rw [← eQ, ← hPz, ← eK] at hq
            refine ⟨hF.tr (f1.tr ((Gt.up (by omega) Gt.rf).tr hq.1)), hq.2.2.1, hq.2.1, hq.2.2.2.1, fun q => hq.2.2.2.2 (Decidable.byContradiction (fun w => ?_))⟩
            rw [eK, if_neg w] at q
            omega
          · have cD : ¬ isD B (tP B n s) = true := by rw [hPz]; exact fun q => c2 (of_decide_eq_true q)
            have eQ : tQ B n s = z + 1 := by unfold tQ; rw [if_neg h, if_neg cL, if_neg cD, hPz]
            have eK : tK B n s = if B z = 59 ∨ B z = 44 ∨ B z = 58 then B z else 1 := by unfold tK; rw [if_neg h, if_neg cL, if_neg cD, hPz]
            rw [if_neg c2]
            refine Wp.t rfl ?_
            have fin : ∀ (x : Int32), x = nI (tK B n s) → tK B n s ≠ 3 → Gt τ (gup (gup τ1 28 0 13 (τ1 28 0 13 + 1)) 28 0 14 x) ∧ MT B n s (gup (gup τ1 28 0 13 (τ1 28 0 13 + 1)) 28 0 14 x) := fun x hx n3 => ⟨hF.tr (f1.tr (Gt.up (by omega) (Gt.up (by omega) Gt.rf))), by rw [gup_slot (by decide), gup_same, d3, nI_1, eQ], by rw [gup_slot (by decide), gup_slot (by decide), hPz]; exact d2, by rw [gup_same]; exact hx, fun q => absurd q n3⟩
            have lit : ∀ (l : Nat) (x : Int32), x = nI l → l < 256 → (nI (B z) = x ↔ B z = l) := fun l x hx hl => by rw [hx]; exact nI_inj (by omega) (by omega)
            have l59 := lit 59 59 (by decide) (by decide)
            have l44 := lit 44 44 (by decide) (by decide)
            have l58 := lit 58 58 (by decide) (by decide)
            by_cases s1 : B z = 59
            · refine Wp.t (l59.mpr s1) (Wp.ret (fin _ ?_ ?_))
              · rw [eK, if_pos (Or.inl s1)]
              · rw [eK, if_pos (Or.inl s1), s1]; decide
            · refine Wp.f (fun q => s1 (l59.mp q)) ?_
              by_cases s2 : B z = 44
              · refine Wp.t (l44.mpr s2) (Wp.ret (fin _ ?_ ?_))
                · rw [eK, if_pos (Or.inr (Or.inl s2))]
                · rw [eK, if_pos (Or.inr (Or.inl s2)), s2]; decide
              · refine Wp.f (fun q => s2 (l44.mp q)) ?_
                by_cases s3 : B z = 58
                · refine Wp.t (l58.mpr s3) (Wp.ret (fin _ ?_ ?_))
                  · rw [eK, if_pos (Or.inr (Or.inr s3))]
                  · rw [eK, if_pos (Or.inr (Or.inr s3)), s3]; decide
                · have eK1 : tK B n s = 1 := by rw [eK, if_neg (fun q => by rcases q with w | w | w; exact s1 w; exact s2 w; exact s3 w)]
                  refine Wp.f (fun q => s3 (l58.mp q)) (Wp.ret (fin _ ?_ ?_))
                  · rw [eK1]; rfl
                  · omega
  unfold f_X12_goesOn
  exact key (n - s) s gFuel τ (by omega) (Nat.le_refl _) (Nat.lt_trans (by omega) gFuel_ge) Gt.rf a3 rfl
/-- the letters of a word token -/
theorem tok_L (hs : s ≤ n) (h : tK B n s = 2) : tP B n s < n ∧ tP B n s < tQ B n s ∧ tQ B n s ≤ n ∧ tQ B n s - tP B n s ≤ 6 ∧ ∀ z, tP B n s ≤ z → z < tQ B n s → 97 ≤ B z ∧ B z ≤ 122 := by
  have hq := tQ_b (B := B) hs
  have hq3 := hq.2.2 (by omega)
  have h' := h
  unfold tK at h'
  by_cases c : n ≤ tP B n s
  · rw [if_pos c] at h'; omega
  · rw [if_neg c] at h'
    by_cases c1 : isL B (tP B n s) = true
    · rw [if_pos c1] at h'
      have eQ : tQ B n s = rn (isL B) (n - tP B n s) (tP B n s) := by unfold tQ; rw [if_neg c, if_pos c1]
      have hr := rn_b (q := isL B) (n - tP B n s) (tP B n s)
      refine ⟨by omega, hq3, hq.2.1, Decidable.byContradiction (fun z => by rw [if_neg z] at h'; omega), fun z h1 h2 => ?_⟩
      rw [eQ] at h2
      exact of_decide_eq_true (hr.2.2.1 z h1 h2)
    · rw [if_neg c1] at h'
      exfalso
      by_cases c2 : isD B (tP B n s) = true
      · rw [if_pos c2] at h'; split at h' <;> omega
      · rw [if_neg c2] at h'
        split at h'
        · next q => rcases q with w | w | w <;> omega
        · omega
theorem tok_D (hs : s ≤ n) (h : tK B n s = 3) : tQ B n s - tP B n s ≤ 4 ∧ dv B (tP B n s) (tQ B n s - tP B n s) < 10000 := by
  have hq := tQ_b (B := B) hs
  have h' := h
  unfold tK at h'
  by_cases c : n ≤ tP B n s
  · rw [if_pos c] at h'; omega
  · rw [if_neg c] at h'
    by_cases c1 : isL B (tP B n s) = true
    · rw [if_pos c1] at h'; split at h' <;> omega
    · rw [if_neg c1] at h'
      by_cases c2 : isD B (tP B n s) = true
      · rw [if_pos c2] at h'
        have eQ : tQ B n s = rn (isD B) (n - tP B n s) (tP B n s) := by unfold tQ; rw [if_neg c, if_neg c1, if_pos c2]
        have hr := rn_b (q := isD B) (n - tP B n s) (tP B n s)
        have h4 : tQ B n s - tP B n s ≤ 4 := Decidable.byContradiction (fun z => by rw [if_neg z] at h'; omega)
        refine ⟨h4, ?_⟩
        have := dv_b (B := B) (p := tP B n s) (m := tQ B n s - tP B n s) (fun z h1 h2 => by
          have : z < tQ B n s := by omega
          rw [eQ] at this
          exact of_decide_eq_true (hr.2.2.1 z h1 this))
        have hp : 10 ^ (tQ B n s - tP B n s) ≤ 10 ^ 4 := Nat.pow_le_pow_right (by decide) h4
        omega
      · rw [if_neg c2] at h'
        exfalso
        split at h'
        · next q => rcases q with w | w | w <;> omega
        · omega
/-- a token's kind is small -/
theorem tK_lt (hB : ∀ j, j < n → B j < 256) (hs : s ≤ n) : tK B n s < 256 := by
  unfold tK
  split
  · omega
  · next c =>
    split
    · split <;> omega
    · split
      · split <;> omega
      · split
        · exact hB _ (by omega)
        · omega
/-- two words of at most six letters with one number are alike -/
theorem wv_inj {B' : Nat → Nat} {p p' : Nat} : ∀ (m m' : Nat), (∀ z, z < m → 97 ≤ B (p + z) ∧ B (p + z) ≤ 122) → (∀ z, z < m' → 97 ≤ B' (p' + z) ∧ B' (p' + z) ≤ 122) → wv B p m = wv B' p' m' → m = m' ∧ ∀ z, z < m → B (p + z) = B' (p' + z) := by
  intro m
  induction m with
  | zero =>
    intro m' _ h2 he
    cases m' with
    | zero => exact ⟨rfl, fun z hz => absurd hz (Nat.not_lt_zero _)⟩
    | succ m' =>
      exfalso
      have := h2 m' (by omega)
      rw [wv, wv] at he
      omega
  | succ m ih =>
    intro m' h1 h2 he
    have a1 := h1 m (by omega)
    cases m' with
    | zero =>
      exfalso
      rw [wv, wv] at he
      omega
    | succ m' =>
      have a2 := h2 m' (by omega)
      rw [wv, wv] at he
      obtain ⟨e1, e2⟩ := ih m' (fun z hz => h1 z (by omega)) (fun z hz => h2 z (by omega)) (by omega)
      subst e1
      refine ⟨rfl, fun z hz => ?_⟩
      by_cases ez : z = m
      · subst ez; omega
      · exact e2 z (by omega)
end TM
