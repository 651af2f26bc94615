/-! the next token, on both sides -/
section TL
variable {B : Nat → Nat} {n s p m L : Nat} {σ τ τ' : gSt}
def XT (B : Nat → Nat) (n s : Nat) (τ : gSt) : Prop := τ 15 0 3 = nI (tQ B n s) ∧ τ 15 0 8 = nI (tP B n s) ∧ τ 15 0 4 = nI (ck (tK B n s)) ∧ (tK B n s = 2 → τ 15 0 5 = nI (wv B (tP B n s) (tQ B n s - tP B n s))) ∧ (tK B n s = 3 → τ 15 0 5 = nI (dv B (tP B n s) (tQ B n s - tP B n s)))
def MT (B : Nat → Nat) (n s : Nat) (τ : gSt) : Prop := τ 28 0 13 = nI (tQ B n s) ∧ τ 28 0 12 = nI (tP B n s) ∧ τ 28 0 14 = nI (tK B n s) ∧ (tK B n s = 3 → τ 28 0 15 = nI (dv B (tP B n s) (tQ B n s - tP B n s)))
theorem X_adv40 (hB : XB B n L τ) (hs : s ≤ n) (a3 : τ 15 0 3 = nI (tP B n s)) : Wp (f_X8_advance_40 τ) (fun τ' => Ft τ τ' ∧ XT B n s τ') := by
  have hp := tP_b (B := B) hs
  have hn := hB.1
  have hn2 := hB.2.1
  unfold f_X8_advance_40
  obtain ⟨τ1, hτ1⟩ : ∃ τ1, τ1 = gup τ 15 0 8 (τ 15 0 3) := ⟨_, rfl⟩
  rw [← hτ1]
  have f1 : Ft τ τ1 := by rw [hτ1]; exact Ft.up (by omega) Ft.rf
  have hB1 := hB.ft f1
  have b3 : τ1 15 0 3 = nI (tP B n s) := by rw [hτ1, gup_slot (by decide)]; exact a3
  have b8 : τ1 15 0 8 = nI (tP B n s) := by rw [hτ1, gup_same]; exact a3
  have b2 := hB1.2.2.2.1
  rw [b3]
  by_cases h : n ≤ tP B n s
  · obtain ⟨v, hv⟩ := X_byteAny hB1 (show tP B n s ≤ 900 by omega)
    have eK : tK B n s = 0 := if_pos h
    have eQ : tQ B n s = tP B n s := if_pos h
    refine Wp.eq hv ?_
    refine Wp.f (show ¬ τ1 15 0 3 < τ1 15 0 2 by rw [b3, b2]; exact nI_nlt h (by omega)) ?_
    refine Wp.ret ⟨f1.tr (Ft.up (by omega) Ft.rf), by rw [gup_slot (by decide), eQ]; exact b3, by rw [gup_slot (by decide)]; exact b8, by rw [gup_same, eK]; rfl, fun q => by rw [eK] at q; omega, fun q => by rw [eK] at q; omega⟩
  · have bb := (hB.2.2.2.2 (tP B n s) (by omega)).1
    refine Wp.eq (X_byteAt hB1 (show tP B n s < n by omega)) ?_
    refine Wp.t (show τ1 15 0 3 < τ1 15 0 2 by rw [b3, b2]; exact nI_lt (by omega) (by omega)) ?_
    refine Wp.eq (X_isLetter bb) ?_
    by_cases c1 : 97 ≤ B (tP B n s) ∧ B (tP B n s) ≤ 122
    · have cL : isL B (tP B n s) = true := decide_eq_true c1
      have eQ : tQ B n s = rn (isL B) (n - tP B n s) (tP B n s) := by unfold tQ; rw [if_neg h, if_pos cL]
      have eK : tK B n s = if tQ B n s - tP B n s ≤ 6 then 2 else 1 := by unfold tK; rw [if_neg h, if_pos cL]
      rw [if_pos c1]
      refine Wp.f o1n0 ?_
      unfold f_X8_readWord
      refine Wp.bind (X_word5 (B := B) (p := tP B n s) hp.2 (n - tP B n s) (tP B n s) gFuel (gup τ1 15 0 5 0) (by omega) (Nat.le_refl _) (Nat.lt_trans (by omega) gFuel_ge) (hB1.ft (Ft.up (by omega) Ft.rf)) (by rw [gup_slot (by decide)]; exact b3) (by rw [gup_slot (by decide)]; exact b8) (fun y q1 q2 => by omega) (fun _ => by rw [gup_same, Nat.sub_self]; rfl)) (fun τ' hq => ?_)
      rw [← eQ] at hq
      refine Wp.ret ⟨f1.tr ((Ft.up (by omega) Ft.rf).tr hq.1), hq.2.2.1, hq.2.1, ?_, ?_, ?_⟩
      · rw [hq.2.2.2.1, eK]
        by_cases c6 : tQ B n s - tP B n s ≤ 6
        · rw [if_pos c6, if_pos c6]; rfl
        · rw [if_neg c6, if_neg c6]; rfl
      · intro q
        refine hq.2.2.2.2 (Decidable.byContradiction (fun z => ?_))
        rw [eK, if_neg z] at q
        omega
      · intro q
        rw [eK] at q
        split at q <;> omega
    · have cL : ¬ isL B (tP B n s) = true := fun q => c1 (of_decide_eq_true q)
      rw [if_neg c1]
      refine Wp.t rfl ?_
      refine Wp.eq (X_isDigit bb) ?_
      by_cases c2 : 48 ≤ B (tP B n s) ∧ B (tP B n s) ≤ 57
      · have cD : isD B (tP B n s) = true := decide_eq_true c2
        have eQ : tQ B n s = rn (isD B) (n - tP B n s) (tP B n s) := by unfold tQ; rw [if_neg h, if_neg cL, if_pos cD]
        have eK : tK B n s = if tQ B n s - tP B n s ≤ 4 then 3 else 1 := by unfold tK; rw [if_neg h, if_neg cL, if_pos cD]
        rw [if_pos c2]
        refine Wp.f o1n0 ?_
        unfold f_X8_readWhole
        refine Wp.bind (X_whole5 (B := B) (p := tP B n s) hp.2 (n - tP B n s) (tP B n s) gFuel (gup τ1 15 0 5 0) (by omega) (Nat.le_refl _) (Nat.lt_trans (by omega) gFuel_ge) (hB1.ft (Ft.up (by omega) Ft.rf)) (by rw [gup_slot (by decide)]; exact b3) (by rw [gup_slot (by decide)]; exact b8) (fun y q1 q2 => by omega) (fun _ => by rw [gup_same, Nat.sub_self]; rfl)) (fun τ' hq => ?_)
        rw [← eQ] at hq
        refine Wp.ret ⟨f1.tr ((Ft.up (by omega) Ft.rf).tr hq.1), hq.2.2.1, hq.2.1, ?_, ?_, ?_⟩
        · rw [hq.2.2.2.1, eK]
          by_cases c6 : tQ B n s - tP B n s ≤ 4
          · rw [if_pos c6, if_pos c6]; rfl
          · rw [if_neg c6, if_neg c6]; rfl
        · intro q
          rw [eK] at q
          split at q <;> omega
        · intro q
          refine hq.2.2.2.2 (Decidable.byContradiction (fun z => ?_))
          rw [eK, if_neg z] at q
          omega
      · have cD : ¬ isD B (tP B n s) = true := fun q => c2 (of_decide_eq_true q)
        have eQ : tQ B n s = tP B n s + 1 := by unfold tQ; rw [if_neg h, if_neg cL, if_neg cD]
        have eK : tK B n s = if B (tP B n s) = 59 ∨ B (tP B n s) = 44 ∨ B (tP B n s) = 58 then B (tP B n s) else 1 := by unfold tK; rw [if_neg h, if_neg cL, if_neg cD]
        rw [if_neg c2]
        refine Wp.t rfl ?_
        have fin : ∀ (x : Int32), x = nI (ck (tK B n s)) → tK B n s ≠ 2 → tK B n s ≠ 3 → Ft τ (gup (gup τ1 15 0 4 x) 15 0 3 ((gup τ1 15 0 4 x) 15 0 3 + 1)) ∧ XT B n s (gup (gup τ1 15 0 4 x) 15 0 3 ((gup τ1 15 0 4 x) 15 0 3 + 1)) := fun x hx n2 n3 => ⟨f1.tr (Ft.up (by omega) (Ft.up (by omega) Ft.rf)), by rw [gup_same, gup_slot (by decide), b3, nI_1, eQ], by rw [gup_slot (by decide), gup_slot (by decide)]; exact b8, by rw [gup_slot (by decide), gup_same]; exact hx, fun q => absurd q n2, fun q => absurd q n3⟩
        have lit : ∀ (l : Nat) (x : Int32), x = nI l → l < 256 → (nI (B (tP B n s)) = x ↔ B (tP B n s) = l) := fun l x hx hl => by rw [hx]; exact nI_inj (by omega) (by omega)
        have l59 := lit 59 59 (by decide) (by decide)
        have l44 := lit 44 44 (by decide) (by decide)
        have l58 := lit 58 58 (by decide) (by decide)
        by_cases s1 : B (tP B n s) = 59
        · refine Wp.t (l59.mpr s1) (Wp.ret (fin _ ?_ ?_ ?_))
          · rw [eK, if_pos (Or.inl s1), s1]; rfl
          · rw [eK, if_pos (Or.inl s1), s1]; decide
          · rw [eK, if_pos (Or.inl s1), s1]; decide
        · refine Wp.f (fun q => s1 (l59.mp q)) ?_
          by_cases s2 : B (tP B n s) = 44
          · refine Wp.t (l44.mpr s2) (Wp.ret (fin _ ?_ ?_ ?_))
            · rw [eK, if_pos (Or.inr (Or.inl s2)), s2]; rfl
            · rw [eK, if_pos (Or.inr (Or.inl s2)), s2]; decide
            · rw [eK, if_pos (Or.inr (Or.inl s2)), s2]; decide
          · refine Wp.f (fun q => s2 (l44.mp q)) ?_
            by_cases s3 : B (tP B n s) = 58
            · refine Wp.t (l58.mpr s3) (Wp.ret (fin _ ?_ ?_ ?_))
              · rw [eK, if_pos (Or.inr (Or.inr s3)), s3]; rfl
              · rw [eK, if_pos (Or.inr (Or.inr s3)), s3]; decide
              · rw [eK, if_pos (Or.inr (Or.inr s3)), s3]; decide
            · have eK1 : tK B n s = 1 := by rw [eK, if_neg (fun q => by rcases q with z | z | z; exact s1 z; exact s2 z; exact s3 z)]
              refine Wp.f (fun q => s3 (l58.mp q)) (Wp.ret (fin _ ?_ ?_ ?_))
              · rw [eK1]; rfl
              · omega
              · omega
theorem X_advance (hB : XB B n L τ) (hs : s ≤ n) (a3 : τ 15 0 3 = nI s) : Wp (f_X8_advance τ) (fun τ' => Ft τ τ' ∧ XT B n s τ') := by
  have key : ∀ (m z fuel : Nat) (τ' : gSt), z + m = n → s ≤ z → m < fuel → Ft τ τ' → τ' 15 0 3 = nI z → tP B n s = rn (isB B) m z → Wp (f_X8_advance_0 fuel τ') (fun τ' => Ft τ τ' ∧ XT B n s τ') := by
    have hn := hB.1
    have hn2 := hB.2.1
    intro m
    induction m with
    | zero =>
      intro z fuel τ' h1 h2 h3 hF b3 hP
      obtain ⟨fuel, rfl⟩ : ∃ g, fuel = g + 1 := ⟨fuel - 1, by omega⟩
      have hB' := hB.ft hF
      rw [f_X8_advance_0]
      refine Wp.t (by rw [b3, hB'.2.2.2.1]; exact nI_le (by omega) (by omega)) ?_
      exact Wp.mono (X_adv40 hB' hs (by rw [hP]; exact b3)) (fun τ2 hq => ⟨hF.tr hq.1, hq.2⟩)
    | succ m ih =>
      intro z fuel τ' h1 h2 h3 hF b3 hP
      obtain ⟨fuel, rfl⟩ : ∃ g, fuel = g + 1 := ⟨fuel - 1, by omega⟩
      have hB' := hB.ft hF
      have bb := (hB.2.2.2.2 z (by omega)).1
      rw [f_X8_advance_0]
      refine Wp.f (by rw [b3, hB'.2.2.2.1]; exact nI_ge (by omega) (by omega)) ?_
      rw [b3]
      refine Wp.eq (X_byteAt hB' (show z < n by omega)) ?_
      by_cases c : B z = 32
      · refine Wp.t (by rw [c]; rfl) ?_
        dsimp only
        refine ih (z + 1) fuel _ (by omega) (by omega) (by omega) (hF.tr (Ft.up (by omega) Ft.rf)) (by rw [gup_same, b3, nI_1]) ?_
        rw [hP, rn, if_pos (show isB B z = true from decide_eq_true c)]
      · refine Wp.f (by rw [i32]; exact nI_ne (by omega) (by decide) c) ?_
        refine Wp.mono (X_adv40 hB' hs ?_) (fun τ2 hq => ⟨hF.tr hq.1, hq.2⟩)
        rw [hP, rn, if_neg (show ¬ isB B z = true from fun q => c (of_decide_eq_true q))]
        exact b3
  unfold f_X8_advance
  have hn := hB.1
  have hn2 := hB.2.1
  exact key (n - s) s gFuel τ (by omega) (Nat.le_refl _) (Nat.lt_trans (by omega) gFuel_ge) Ft.rf a3 rfl
theorem in_m1 {l h : Nat} (hl : l < 1000) : f_X12_in (-1) (nI l) (nI h) σ = some (0, σ) := by
  unfold f_X12_in
  rw [if_pos]
  rw [Int32.lt_iff_toInt_lt, nI_toInt (by omega)]
  show (-1 : Int) < _
  omega
theorem M_word65 : ∀ (m z fuel : Nat) (τ : gSt), z + m = n → p ≤ z → m < fuel → MB B n τ → τ 28 0 13 = nI z → τ 28 0 12 = nI p → Wp (f_X12_goesOn_65 fuel τ) (fun τ' => Gt τ τ' ∧ τ' 28 0 12 = nI p ∧ τ' 28 0 13 = nI (rn (isL B) m z) ∧ τ' 28 0 14 = nI (if rn (isL B) m z - p ≤ 6 then 2 else 1)) := by
  have fin : ∀ (z : Nat) (τ : gSt), p ≤ z → z ≤ 900 → τ 28 0 13 = nI z → τ 28 0 12 = nI p → Wp (if (τ 28 0 13 - τ 28 0 12) ≤ 6 then some (gup τ 28 0 14 2) else some (gup τ 28 0 14 1)) (fun τ' => Gt τ τ' ∧ τ' 28 0 12 = nI p ∧ τ' 28 0 13 = nI z ∧ τ' 28 0 14 = nI (if z - p ≤ 6 then 2 else 1)) := by
    intro z τ h1 h2 a3 a8
    rw [a3, a8, nI_sub h1]
    by_cases c : z - p ≤ 6
    · refine Wp.t (by rw [i6]; exact nI_le c (by decide)) (Wp.ret ⟨Gt.up (by omega) Gt.rf, by rw [gup_slot (by decide)]; exact a8, by rw [gup_slot (by decide)]; exact a3, by rw [gup_same, if_pos c]; rfl⟩)
    · refine Wp.f (by rw [i6]; exact nI_ge (by omega) (by omega)) (Wp.ret ⟨Gt.up (by omega) Gt.rf, by rw [gup_slot (by decide)]; exact a8, by rw [gup_slot (by decide)]; exact a3, by rw [gup_same, if_neg c]; rfl⟩)
  intro m
  induction m with
  | zero =>
    intro z fuel τ h1 h2 h3 hB a3 a8
    obtain ⟨fuel, rfl⟩ : ∃ g, fuel = g + 1 := ⟨fuel - 1, by omega⟩
    obtain rfl : z = n := by omega
    have hn := hB.1
    rw [f_X12_goesOn_65, a3]
    refine Wp.eq (M_seeE hB) ?_
    refine Wp.eq (a := (0, τ)) (by rw [i97, i122]; exact in_m1 (by decide)) ?_
    refine Wp.t rfl ?_
    exact fin z τ h2 hn a3 a8
  | succ m ih =>
    intro z fuel τ h1 h2 h3 hB a3 a8
    obtain ⟨fuel, rfl⟩ : ∃ g, fuel = g + 1 := ⟨fuel - 1, by omega⟩
    have hn := hB.1
    have bb := (hB.2.2 z (by omega)).1
    rw [f_X12_goesOn_65, a3]
    refine Wp.eq (M_see hB (show z < n by omega)) ?_
    refine Wp.eq (M_inL bb) ?_
    rw [rn]
    by_cases c : 97 ≤ B z ∧ B z ≤ 122
    · rw [if_pos c, if_pos (show isL B z = true from decide_eq_true c)]
      refine Wp.f o1n0 ?_
      dsimp only
      refine Wp.mono (ih (z + 1) fuel _ (by omega) (by omega) (by omega) (hB.gt (Gt.up (by omega) Gt.rf)) (by rw [gup_same, a3, nI_1]) (by rw [gup_slot (by decide)]; exact a8)) (fun τ' hq => ⟨(Gt.up (by omega) Gt.rf).tr hq.1, hq.2⟩)
    · rw [if_neg c, if_neg (show ¬ isL B z = true from fun q => c (of_decide_eq_true q))]
      refine Wp.t rfl ?_
      exact fin z τ h2 (by omega) a3 a8
theorem M_whole136 : ∀ (m z fuel : Nat) (τ : gSt), z + m = n → p ≤ z → m < fuel → MB B n τ → τ 28 0 13 = nI z → τ 28 0 12 = nI p → (z - p ≤ 4 → τ 28 0 15 = nI (dv B p (z - p))) → Wp (f_X12_goesOn_136 fuel τ) (fun τ' => Gt τ τ' ∧ τ' 28 0 12 = nI p ∧ τ' 28 0 13 = nI (rn (isD B) m z) ∧ τ' 28 0 14 = nI (if rn (isD B) m z - p ≤ 4 then 3 else 1) ∧ (rn (isD B) m z - p ≤ 4 → τ' 28 0 15 = nI (dv B p (rn (isD B) m z - p)))) := by
  have fin : ∀ (z : Nat) (τ : gSt), p ≤ z → z ≤ 900 → τ 28 0 13 = nI z → τ 28 0 12 = nI p → (z - p ≤ 4 → τ 28 0 15 = nI (dv B p (z - p))) → Wp (if (τ 28 0 13 - τ 28 0 12) ≤ 4 then some (gup τ 28 0 14 3) else some (gup τ 28 0 14 1)) (fun τ' => Gt τ τ' ∧ τ' 28 0 12 = nI p ∧ τ' 28 0 13 = nI z ∧ τ' 28 0 14 = nI (if z - p ≤ 4 then 3 else 1) ∧ (z - p ≤ 4 → τ' 28 0 15 = nI (dv B p (z - p)))) := by
    intro z τ h1 h2 a3 a8 a5
    rw [a3, a8, nI_sub h1]
    by_cases c : z - p ≤ 4
    · refine Wp.t (by rw [i4]; exact nI_le c (by decide)) (Wp.ret ⟨Gt.up (by omega) Gt.rf, by rw [gup_slot (by decide)]; exact a8, by rw [gup_slot (by decide)]; exact a3, by rw [gup_same, if_pos c]; rfl, fun q => by rw [gup_slot (by decide)]; exact a5 q⟩)
    · refine Wp.f (by rw [i4]; exact nI_ge (by omega) (by omega)) (Wp.ret ⟨Gt.up (by omega) Gt.rf, by rw [gup_slot (by decide)]; exact a8, by rw [gup_slot (by decide)]; exact a3, by rw [gup_same, if_neg c]; rfl, fun q => absurd q c⟩)
  intro m
  induction m with
  | zero =>
    intro z fuel τ h1 h2 h3 hB a3 a8 a5
    obtain ⟨fuel, rfl⟩ : ∃ g, fuel = g + 1 := ⟨fuel - 1, by omega⟩
    obtain rfl : z = n := by omega
    have hn := hB.1
    rw [f_X12_goesOn_136, a3]
    refine Wp.eq (M_seeE hB) ?_
    refine Wp.eq (a := (0, τ)) (by rw [i48, i57]; exact in_m1 (by decide)) ?_
    refine Wp.t rfl ?_
    exact fin z τ h2 hn a3 a8 a5
  | succ m ih =>
    intro z fuel τ h1 h2 h3 hB a3 a8 a5
    obtain ⟨fuel, rfl⟩ : ∃ g, fuel = g + 1 := ⟨fuel - 1, by omega⟩
    have hn := hB.1
    have bb := (hB.2.2 z (by omega)).1
    rw [f_X12_goesOn_136, a3]
    refine Wp.eq (M_see hB (show z < n by omega)) ?_
    refine Wp.eq (M_inD bb) ?_
    rw [rn]
    by_cases c : 48 ≤ B z ∧ B z ≤ 57
    · rw [if_pos c, if_pos (show isD B z = true from decide_eq_true c)]
      refine Wp.f o1n0 ?_
      by_cases c4 : 4 ≤ z - p
      · refine Wp.t (show 4 ≤ τ 28 0 13 - τ 28 0 12 by rw [a3, a8, nI_sub h2, i4]; exact nI_le c4 (by omega)) ?_
        dsimp only
        refine Wp.mono (ih (z + 1) fuel _ (by omega) (by omega) (by omega) (hB.gt (Gt.up (by omega) (Gt.up (by omega) Gt.rf))) (by rw [gup_same, gup_slot (by decide), a3, nI_1]) (by rw [gup_slot (by decide), gup_slot (by decide)]; exact a8) (fun q => by omega)) (fun τ' hq => ⟨(Gt.up (by omega) (Gt.up (by omega) Gt.rf)).tr hq.1, hq.2⟩)
      · refine Wp.f (show ¬ 4 ≤ τ 28 0 13 - τ 28 0 12 by rw [a3, a8, nI_sub h2, i4]; exact nI_ge (by omega) (by decide)) ?_
        refine Wp.eq (a := (nI (B z), τ)) (by show f_X12_see (τ 28 0 13) τ = _; rw [a3]; exact M_see hB (by omega)) ?_
        have hx2 : 10 * τ 28 0 15 + nI (B z) - 48 = nI (dv B p (z + 1 - p)) := by
          rw [a5 (by omega), i10, nI_mul, nI_add, i48, nI_sub (by omega), show z + 1 - p = z - p + 1 by omega, dv, show p + (z - p) = z by omega]
          congr 1
          omega
        dsimp only
        rw [hx2]
        refine Wp.mono (ih (z + 1) fuel _ (by omega) (by omega) (by omega) (hB.gt (Gt.up (by omega) (Gt.up (by omega) Gt.rf))) (by rw [gup_same, gup_slot (by decide), a3, nI_1]) (by rw [gup_slot (by decide), gup_slot (by decide)]; exact a8) (fun q => by rw [gup_slot (by decide), gup_same])) (fun τ' hq => ⟨(Gt.up (by omega) (Gt.up (by omega) Gt.rf)).tr hq.1, hq.2⟩)
    · rw [if_neg c, if_neg (show ¬ isD B z = true from fun q => c (of_decide_eq_true q))]
      refine Wp.t rfl ?_
      exact fin z τ h2 (by omega) a3 a8 a5
end TL
