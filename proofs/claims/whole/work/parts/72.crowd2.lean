/-! crowd, the question -/
section QA5
variable {d : Nat → Nat} {σ σ' : gSt} {a c i t : Nat}
abbrev crc (d : Nat → Nat) (t : Nat) : Nat := cnt (crw d t) (d 1)
def fl (d : Nat → Nat) : Nat → Nat
  | 0 => 0
  | 1 => d 47
  | n + 2 => if crc d (fl d (n + 1)) < crc d (d (47 + (n + 1))) ∨ (crc d (d (47 + (n + 1))) = crc d (fl d (n + 1)) ∧ d (47 + (n + 1)) < fl d (n + 1)) then d (47 + (n + 1)) else fl d (n + 1)
theorem fl_b (hw : WF d) : ∀ n, fl d n < 10000 := by
  intro n
  induction n with
  | zero => rw [fl]; omega
  | succ n ih =>
    cases n with
    | zero => rw [fl]; exact hw.b _
    | succ n => rw [fl]; split; exact hw.b _; exact ih
theorem cnt_pos {q : Nat → Bool} {k : Nat} (hk : q k = true) : ∀ n, k < n → 0 < cnt q n := by
  intro n
  induction n with
  | zero => intro h; omega
  | succ n ih =>
    intro h
    by_cases e : k = n
    · subst e
      rw [cnt_t hk]
      omega
    · have := ih (by omega)
      rw [cnt]
      omega
theorem crc_pos (hw : WF d) (ha : a < d 1) : 0 < crc d (d (47 + a)) := cnt_pos (k := a) (by have := (hw.run ha).2.1; simp [crw, this]) _ ha
theorem dif_pos {x y : Nat} (hx : x < 10000) (h : y < x) : (0 : Int32) < nI x - nI y := by
  rw [nI_sub (by omega), i0]
  exact nI_lt (by omega) (by omega)
theorem dif_neg0 : ∀ x : Fin 11, ∀ y : Fin 11, x.val < y.val → ¬ (0 : Int32) < nI x.val - nI y.val ∧ ¬ nI x.val - nI y.val = 0 := by decide
theorem dif_neg {x y : Nat} (hy : y ≤ 10) (h : x < y) : ¬ (0 : Int32) < nI x - nI y ∧ ¬ nI x - nI y = 0 := dif_neg0 ⟨x, by omega⟩ ⟨y, by omega⟩ h
theorem X_fullestTime (h : XR d σ) (hw : WF d) (h1 : 0 < d 1) : f_X4_fullestTime 1 σ = some (nI (fl d (d 1)), σ) := by
  have hr := hw.2.1
  unfold f_X4_fullestTime
  rw [show f_X4_runnerAt 1 0 σ = some (10 + 0, σ) from X_runnerAt (a := 0) (by omega), bind_some']
  dsimp only
  rw [(h.2.2.2.2.2 0 h1).2.1, i1]
  have := loopW (F := fun f (x : Int32) b σ => f_X4_fullestTime_11 1 f x (nI b) σ) (N := d 1) (I := fun b x τ => x = nI (fl d b) ∧ 1 ≤ b ∧ τ = σ) (Q := fun r => r = (nI (fl d (d 1)), σ))
    (fun f b x τ hb hI kk => by
      obtain ⟨rfl, hb1, rfl⟩ := hI
      obtain ⟨b, rfl⟩ : ∃ k, b = k + 1 := ⟨b - 1, by omega⟩
      have b1 := hw.b (47 + (b + 1))
      have b2 := fl_b hw (b + 1)
      have c1 : crc d (d (47 + (b + 1))) ≤ 10 := Nat.le_trans (cnt_le _ _) hr
      have c2 : crc d (fl d (b + 1)) ≤ 10 := Nat.le_trans (cnt_le _ _) hr
      simp only [f_X4_fullestTime_11]
      rw [h.2.1]
      refine Wp.f (nI_ge hb (by omega)) ?_
      refine Wp.eq (X_runnerAt (by omega)) ?_
      have hs6 : τ 10 (10 + (b + 1)) 6 = nI (d (47 + (b + 1))) := (h.2.2.2.2.2 (b + 1) hb).2.1
      refine Wp.eq (a := (nI (crc d (d (47 + (b + 1)))), τ)) (by
        show f_X4_inForest 1 (τ 10 (10 + (b + 1)) 6) τ = _
        rw [hs6]
        exact X_inForest h hw b1) ?_
      refine Wp.eq (X_inForest h hw b2) ?_
      rw [nI_1 (b + 1)]
      by_cases g : crc d (fl d (b + 1)) < crc d (d (47 + (b + 1)))
      · refine Wp.t (dif_pos (by omega) g) ?_
        exact kk _ _ ⟨by rw [fl, if_pos (Or.inl g)]; exact hs6, by omega, rfl⟩
      · by_cases g2 : crc d (d (47 + (b + 1))) = crc d (fl d (b + 1))
        · have hz : nI (crc d (d (47 + (b + 1)))) - nI (crc d (fl d (b + 1))) = 0 := by rw [g2, nI_sub (Nat.le_refl _), Nat.sub_self]; rfl
          refine Wp.f (by
            show ¬ (0 : Int32) < nI (crc d (d (47 + (b + 1)))) - nI (crc d (fl d (b + 1)))
            rw [hz]; decide) ?_
          refine Wp.t hz ?_
          by_cases g3 : d (47 + (b + 1)) < fl d (b + 1)
          · refine Wp.f (by
              show ¬ nI (fl d (b + 1)) ≤ τ 10 (10 + (b + 1)) 6
              rw [hs6]
              exact nI_ge g3 (by omega)) ?_
            exact kk _ _ ⟨by rw [fl, if_pos (Or.inr ⟨g2, g3⟩)]; exact hs6, by omega, rfl⟩
          · refine Wp.t (by
              show nI (fl d (b + 1)) ≤ τ 10 (10 + (b + 1)) 6
              rw [hs6]
              exact nI_le (by omega) (by omega)) ?_
            exact kk _ _ ⟨by rw [fl, if_neg (by omega)], by omega, rfl⟩
        · have hz := dif_neg c2 (show crc d (d (47 + (b + 1))) < crc d (fl d (b + 1)) by omega)
          refine Wp.f hz.1 ?_
          refine Wp.f hz.2 ?_
          exact kk _ _ ⟨by rw [fl, if_neg (by omega)], by omega, rfl⟩)
    (fun f x τ hI => by
      obtain ⟨rfl, -, rfl⟩ := hI
      simp only [f_X4_fullestTime_11]
      rw [h.2.1]
      exact Wp.t (nI_le (Nat.le_refl _) (by omega)) (Wp.ret rfl)) (d 1 - 1) 1 gFuel (nI (d (47 + 0))) σ (by omega) (Nat.lt_trans (show d 1 - 1 < 4000 by omega) gFuel_ge) ⟨rfl, Nat.le_refl _, rfl⟩
  obtain ⟨r, hr1, rfl⟩ := this
  exact hr1
end QA5
