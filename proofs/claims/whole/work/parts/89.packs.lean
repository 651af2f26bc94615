/-! packs, pack -/
section PK
variable {d : Nat → Nat} {σ σ' : gSt} {a b c i : Nat} {s : Nat × (Nat → Nat) × (Nat → Nat)}
/-- one goes on with the one ahead; how many packs up to a place, which, where the last began -/
def gon (d : Nat → Nat) (s : Nat × (Nat → Nat) × (Nat → Nat)) (j : Nat) : Bool := decide (j < s.1 ∧ ¬ nI (d 2) < nI (s.2.1 j) - nI (s.2.1 (j - 1)))
def sc (d : Nat → Nat) (s : Nat × (Nat → Nat) × (Nat → Nat)) : Nat → Nat × (Nat → Nat × Nat) × Nat
  | 0 => (0, fun _ => (0, 0), 0)
  | j + 1 => if gon d s (j + 1) = true then sc d s j else if (sc d s j).2.2 + 2 ≤ j + 1 then ((sc d s j).1 + 1, fun q => if q = (sc d s j).1 then ((sc d s j).2.2, j + 1) else (sc d s j).2.1 q, j + 1) else ((sc d s j).1, (sc d s j).2.1, j + 1)
theorem sc_g {j : Nat} (h : gon d s (j + 1) = true) : sc d s (j + 1) = sc d s j := by rw [sc, if_pos h]
theorem sc_y {j : Nat} (h : ¬ gon d s (j + 1) = true) (h2 : (sc d s j).2.2 + 2 ≤ j + 1) : sc d s (j + 1) = ((sc d s j).1 + 1, fun q => if q = (sc d s j).1 then ((sc d s j).2.2, j + 1) else (sc d s j).2.1 q, j + 1) := by rw [sc, if_neg h, if_pos h2]
theorem sc_n {j : Nat} (h : ¬ gon d s (j + 1) = true) (h2 : ¬ (sc d s j).2.2 + 2 ≤ j + 1) : sc d s (j + 1) = ((sc d s j).1, (sc d s j).2.1, j + 1) := by rw [sc, if_neg h, if_neg h2]
theorem sc_le : ∀ j, (sc d s j).2.2 ≤ j ∧ (sc d s j).1 ≤ j := by
  intro j
  induction j with
  | zero => exact ⟨Nat.le_refl _, Nat.le_refl _⟩
  | succ j ih =>
    by_cases h : gon d s (j + 1) = true
    · rw [sc_g h]; exact ⟨by omega, by omega⟩
    · by_cases h2 : (sc d s j).2.2 + 2 ≤ j + 1
      · rw [sc_y h h2]; exact ⟨Nat.le_refl _, Nat.succ_le_succ ih.2⟩
      · rw [sc_n h h2]; exact ⟨Nat.le_refl _, Nat.le_succ_of_le ih.2⟩
theorem sc_mono {j : Nat} : ∀ m, (sc d s j).1 ≤ (sc d s (j + m)).1 ∧ ∀ q, q < (sc d s j).1 → (sc d s (j + m)).2.1 q = (sc d s j).2.1 q := by
  intro m
  induction m with
  | zero => exact ⟨Nat.le_refl _, fun _ _ => rfl⟩
  | succ m ih =>
    show (sc d s j).1 ≤ (sc d s (j + m + 1)).1 ∧ ∀ q, q < (sc d s j).1 → (sc d s (j + m + 1)).2.1 q = (sc d s j).2.1 q
    by_cases h : gon d s (j + m + 1) = true
    · rw [sc_g h]; exact ih
    · by_cases h2 : (sc d s (j + m)).2.2 + 2 ≤ j + m + 1
      · rw [sc_y h h2]
        refine ⟨Nat.le_succ_of_le ih.1, fun q hq => ?_⟩
        show (if q = (sc d s (j + m)).1 then _ else (sc d s (j + m)).2.1 q) = _
        rw [if_neg (by omega)]
        exact ih.2 q hq
      · rw [sc_n h h2]; exact ih
theorem sc_P : ∀ j q, q < (sc d s j).1 → ((sc d s j).2.1 q).1 + 2 ≤ ((sc d s j).2.1 q).2 ∧ ((sc d s j).2.1 q).2 ≤ j := by
  intro j
  induction j with
  | zero => intro q hq; exact absurd hq (Nat.not_lt_zero _)
  | succ j ih =>
    intro q hq
    by_cases h : gon d s (j + 1) = true
    · rw [sc_g h] at hq ⊢
      have := ih q hq
      exact ⟨this.1, by omega⟩
    · by_cases h2 : (sc d s j).2.2 + 2 ≤ j + 1
      · rw [sc_y h h2] at hq ⊢
        dsimp only at hq ⊢
        by_cases e : q = (sc d s j).1
        · rw [if_pos e]; exact ⟨h2, Nat.le_refl _⟩
        · rw [if_neg e]
          have := ih q (by omega)
          exact ⟨this.1, by omega⟩
      · rw [sc_n h h2] at hq ⊢
        have := ih q hq
        exact ⟨this.1, by show _ ≤ j + 1; exact Nat.le_succ_of_le this.2⟩
theorem X_ptime {τ : gSt} (hG : GX s τ) (hn : s.1 ≤ 100) {j : Nat} (hj : j < s.1) : f_X6_timeOf (nI j) τ = some (nI (s.2.1 j), τ) := by
  unfold f_X6_timeOf
  rw [if_neg (nI_pos (by omega)), hG.1, if_neg (nI_ge hj (by omega)), i100, if_neg (nI_ge (by omega) (by decide)), gld_n (by omega) (by decide), bind_some', (hG.2 j hj).1]
theorem X_seek (hX : XR d σ) (h0 : 0 < d 0) (hn : s.1 ≤ 100) (hG : GX s σ) {v : Int32} : Wp (f_X6_seek v σ) (fun r => r.1 = nI (sc d s s.1).1 ∧ Xs σ r.2 ∧ GX s r.2 ∧ ∀ q, v = nI q → q < (sc d s s.1).1 → r.2 22 0 4 = nI ((sc d s s.1).2.1 q).1 ∧ r.2 22 0 5 = nI (((sc d s s.1).2.1 q).2 - 1)) := by
  have key : Wp (f_X6_seek_7 v gFuel 0 0 (nI (0 + 1)) σ) (fun r => r.1 = nI (sc d s s.1).1 ∧ Xs σ r.2 ∧ GX s r.2 ∧ ∀ q, v = nI q → q < (sc d s s.1).1 → r.2 22 0 4 = nI ((sc d s s.1).2.1 q).1 ∧ r.2 22 0 5 = nI (((sc d s s.1).2.1 q).2 - 1)) := by
    refine loop0 (F := fun f (x : Int32 × Int32) i τ => f_X6_seek_7 v f x.1 x.2 (nI (i + 1)) τ) (N := s.1) (I := fun i x τ => x.1 = nI (sc d s i).1 ∧ x.2 = nI (sc d s i).2.2 ∧ Xs σ τ ∧ GX s τ ∧ ∀ q, v = nI q → q < (sc d s i).1 → τ 22 0 4 = nI ((sc d s i).2.1 q).1 ∧ τ 22 0 5 = nI (((sc d s i).2.1 q).2 - 1)) (by omega)
      (fun f i x τ hi hI kk => ?_) (fun f x τ hI => ?_) (x := (0, 0)) (σ := σ) ⟨rfl, rfl, Xs.rf, hG, fun q _ hq => absurd hq (Nat.not_lt_zero _)⟩
    · obtain ⟨x1, x2⟩ := x
      obtain ⟨e1, e2, hs, hG, hF⟩ := hI
      dsimp only at e1 e2
      subst e1 e2
      have hle := sc_le (d := d) (s := s) i
      have hXτ := hX.of hs
      have no : ¬ gon d s (i + 1) = true → Wp (f_X6_seek_55 v (nI (sc d s i).1) (nI (sc d s i).2.2) (nI (i + 1)) (fun v2 v3 v4 σ => f_X6_seek_7 v f v2 v3 v4 σ) 0 τ) (fun r => r.1 = nI (sc d s s.1).1 ∧ Xs σ r.2 ∧ GX s r.2 ∧ ∀ q, v = nI q → q < (sc d s s.1).1 → r.2 22 0 4 = nI ((sc d s s.1).2.1 q).1 ∧ r.2 22 0 5 = nI (((sc d s s.1).2.1 q).2 - 1)) := by
        intro hg
        unfold f_X6_seek_55
        refine Wp.t rfl ?_
        rw [nI_1 (i + 1), nI_sub (show (sc d s i).2.2 ≤ i + 1 by omega)]
        by_cases h2 : (sc d s i).2.2 + 2 ≤ i + 1
        · refine Wp.f (by rw [i2]; exact nI_nlt (by omega) (by omega)) ?_
          have e := sc_y hg h2
          by_cases hv : nI (sc d s i).1 = v
          · refine Wp.t hv ?_
            refine kk (_, _) _ ⟨by rw [e]; exact nI_1 _, by rw [e]; rfl, Xs.up (by omega) (Xs.up (by omega) hs), ⟨by simp [gup, hG.1], fun j hj => by have g := hG.2 j hj; simp [gup, g.1, g.2]⟩, fun q hq hq2 => ?_⟩
            rw [e] at hq2 ⊢
            dsimp only at hq2 ⊢
            have hqe : q = (sc d s i).1 := by
              rw [hq] at hv
              exact ((nI_inj (by omega) (by omega)).mp hv).symm
            rw [if_pos hqe]
            constructor
            · simp [gup]
            · have : nI (i + 1) - 1 = nI (i + 1 - 1) := nI_pred i
              simp [gup, this]
          · refine Wp.f hv ?_
            refine kk (_, _) _ ⟨by rw [e]; exact nI_1 _, by rw [e]; rfl, hs, hG, fun q hq hq2 => ?_⟩
            rw [e] at hq2 ⊢
            dsimp only at hq2 ⊢
            have hqe : ¬ q = (sc d s i).1 := fun z => hv (by rw [hq, z])
            rw [if_neg hqe]
            exact hF q hq (by omega)
        · refine Wp.t (by rw [i2]; exact nI_lt (by omega) (by decide)) ?_
          have e := sc_n hg h2
          exact kk (_, _) _ ⟨by rw [e]; rfl, by rw [e]; rfl, hs, hG, by rw [e]; exact hF⟩
      have yes : gon d s (i + 1) = true → Wp (f_X6_seek_55 v (nI (sc d s i).1) (nI (sc d s i).2.2) (nI (i + 1)) (fun v2 v3 v4 σ => f_X6_seek_7 v f v2 v3 v4 σ) 1 τ) (fun r => r.1 = nI (sc d s s.1).1 ∧ Xs σ r.2 ∧ GX s r.2 ∧ ∀ q, v = nI q → q < (sc d s s.1).1 → r.2 22 0 4 = nI ((sc d s s.1).2.1 q).1 ∧ r.2 22 0 5 = nI (((sc d s s.1).2.1 q).2 - 1)) := by
        intro hg
        unfold f_X6_seek_55
        refine Wp.f o1n0 ?_
        rw [nI_1 (i + 1)]
        have e := sc_g hg
        exact kk (_, _) _ ⟨by rw [e]; rfl, by rw [e]; rfl, hs, hG, by rw [e]; exact hF⟩
      simp only [f_X6_seek_7, f_X6_seek_54]
      rw [hG.1]
      refine Wp.f (nI_nlt (by omega) (by omega)) ?_
      by_cases hle2 : s.1 ≤ i + 1
      · refine Wp.t (nI_le hle2 (by omega)) ?_
        exact no (fun q => by have := of_decide_eq_true q; omega)
      · refine Wp.f (nI_ge (by omega) (by omega)) ?_
        refine Wp.eq (X_ptime hG hn (show i + 1 < s.1 by omega)) ?_
        dsimp only
        rw [nI_pred]
        refine Wp.eq (X_ptime hG hn (show i < s.1 by omega)) ?_
        by_cases hc : nI (d 2) < nI (s.2.1 (i + 1)) - nI (s.2.1 i)
        · refine Wp.t (show τ 3 1 5 < nI (s.2.1 (i + 1)) - nI (s.2.1 i) by rw [hXτ.2.2.1 h0]; exact hc) ?_
          exact no (fun q => (of_decide_eq_true q).2 hc)
        · refine Wp.f (show ¬ τ 3 1 5 < nI (s.2.1 (i + 1)) - nI (s.2.1 i) by rw [hXτ.2.2.1 h0]; exact hc) ?_
          exact yes (decide_eq_true ⟨by omega, hc⟩)
    · obtain ⟨x1, x2⟩ := x
      obtain ⟨e1, e2, hs, hG, hF⟩ := hI
      dsimp only at e1 e2
      subst e1 e2
      simp only [f_X6_seek_7]
      rw [hG.1]
      exact Wp.t (nI_lt (by omega) (by omega)) (Wp.ret ⟨rfl, hs, hG, hF⟩)
  unfold f_X6_seek
  rw [show (1 : Int32) = nI (0 + 1) from i1]
  exact key
theorem M_find17 (hM : MR d σ) (hn : s.1 ≤ 100) (hG : GM s σ) {v2 : Int32} {fm : Nat} {k4 : Int32 → Int32 → gSt → Option (Int32 × gSt)} {Q : Int32 × gSt → Prop} (kk : ∀ to, fm < to → to ≤ s.1 → ¬ gon d s to = true → sc d s (to - 1) = sc d s fm → Wp (f_X12_findsPack_58 v2 (nI fm) (nI to) k4 σ) Q) : ∀ (m to fuel : Nat), to + m = s.1 → m < fuel → fm < to → sc d s (to - 1) = sc d s fm → Wp (f_X12_findsPack_17 v2 (nI fm) k4 fuel (nI to) σ) Q := by
  intro m
  induction m with
  | zero =>
    intro to fuel h1 h2 h3 h4
    obtain ⟨fuel, rfl⟩ : ∃ g, fuel = g + 1 := ⟨fuel - 1, by omega⟩
    rw [f_X12_findsPack_17, hG.1]
    refine Wp.t (nI_le (by omega) (by omega)) ?_
    exact kk to h3 (by omega) (fun q => by have := of_decide_eq_true q; omega) h4
  | succ m ih =>
    intro to fuel h1 h2 h3 h4
    obtain ⟨fuel, rfl⟩ : ∃ g, fuel = g + 1 := ⟨fuel - 1, by omega⟩
    rw [f_X12_findsPack_17, hG.1]
    refine Wp.f (nI_ge (by omega) (by omega)) ?_
    refine Wp.ld to rfl (by omega) (by decide) (hG.2 to (by omega)).1 ?_
    refine Wp.ld (to - 1) (by rw [i1, nI_sub (by omega)]) (by omega) (by decide) (hG.2 (to - 1) (by omega)).1 ?_
    refine Wp.eq (M_rd (j := 2) hM i2 (by decide)) ?_
    by_cases hc : nI (d 2) < nI (s.2.1 to) - nI (s.2.1 (to - 1))
    · refine Wp.t hc ?_
      exact kk to h3 (by omega) (fun q => (of_decide_eq_true q).2 hc) h4
    · refine Wp.f hc ?_
      rw [nI_1]
      refine ih (to + 1) fuel (by omega) (by omega) (by omega) ?_
      have hg : gon d s (to - 1 + 1) = true := by
        rw [Nat.sub_add_cancel (by omega)]
        exact decide_eq_true ⟨by omega, hc⟩
      have := sc_g hg
      rw [Nat.sub_add_cancel (by omega)] at this
      rw [Nat.add_sub_cancel, this, h4]
theorem M_find4 (hM : MR d σ) (hn : s.1 ≤ 100) (hG : GM s σ) {k : Nat} (hk : k < 2147483648) : ∀ (m fm fuel : Nat), s.1 - fm ≤ m → m < fuel → fm ≤ s.1 → (sc d s fm).2.2 = fm → (sc d s fm).1 ≤ k → Wp (f_X12_findsPack_4 fuel (nI (k - (sc d s fm).1)) (nI fm) σ) (fun r => (k < (sc d s s.1).1 → r = (1, gup (gup σ 28 0 28 (nI ((sc d s s.1).2.1 k).1)) 28 0 29 (nI ((sc d s s.1).2.1 k).2))) ∧ (¬ k < (sc d s s.1).1 → r = (0, σ))) := by
  intro m
  induction m with
  | zero =>
    intro fm fuel h1 h2 h3 h4 h5
    obtain ⟨fuel, rfl⟩ : ∃ g, fuel = g + 1 := ⟨fuel - 1, by omega⟩
    obtain rfl : fm = s.1 := by omega
    rw [f_X12_findsPack_4, hG.1]
    refine Wp.t (nI_le (Nat.le_refl _) (by omega)) ?_
    exact Wp.ret ⟨fun q => by omega, fun _ => rfl⟩
  | succ m ih =>
    intro fm fuel h1 h2 h3 h4 h5
    obtain ⟨fuel, rfl⟩ : ∃ g, fuel = g + 1 := ⟨fuel - 1, by omega⟩
    rw [f_X12_findsPack_4, hG.1]
    by_cases hf : fm = s.1
    · refine Wp.t (nI_le (by omega) (by omega)) ?_
      rw [hf] at h5
      exact Wp.ret ⟨fun q => by omega, fun _ => rfl⟩
    · refine Wp.f (nI_ge (by omega) (by omega)) ?_
      rw [nI_1]
      refine M_find17 hM hn hG (fun to g1 g2 g3 g4 => ?_) (s.1 - (fm + 1)) (fm + 1) gFuel (by omega) (Nat.lt_trans (by omega) gFuel_ge) (by omega) (by rw [Nat.add_sub_cancel])
      have hgo : ¬ gon d s (to - 1 + 1) = true := by rw [Nat.sub_add_cancel (by omega)]; exact g3
      have hto : to - 1 + 1 = to := by omega
      unfold f_X12_findsPack_58
      rw [nI_sub (show fm ≤ to by omega)]
      by_cases h6 : to - fm ≤ 1
      · refine Wp.t (by rw [i1]; exact nI_le h6 (by decide)) ?_
        have e := sc_n hgo (by rw [g4, h4]; omega)
        rw [hto, g4] at e
        have := ih to fuel (by omega) (by omega) g2 (by rw [e]) (by rw [e]; exact h5)
        rw [e] at this
        exact this
      · refine Wp.f (by rw [i1]; exact nI_ge (by omega) (by omega)) ?_
        have e := sc_y hgo (by rw [g4, h4]; omega)
        rw [hto, g4, h4] at e
        have hmo := sc_mono (d := d) (s := s) (j := to) (s.1 - to)
        rw [show to + (s.1 - to) = s.1 by omega, e] at hmo
        dsimp only at hmo
        by_cases h7 : k = (sc d s fm).1
        · refine Wp.t (by rw [h7, Nat.sub_self]; rfl) ?_
          refine Wp.ret ⟨fun _ => ?_, fun q => by omega⟩
          rw [hmo.2 k (by omega), if_pos h7]
        · refine Wp.f (nI_ne0 (by omega) (by omega)) ?_
          rw [nI_dec (by omega)]
          have := ih to fuel (by omega) (by omega) g2 (by rw [e]) (by rw [e]; show (sc d s fm).1 + 1 ≤ k; omega)
          rw [e] at this
          dsimp only at this
          rw [show k - ((sc d s fm).1 + 1) = k - (sc d s fm).1 - 1 by omega] at this
          exact this
theorem M_find (hM : MR d σ) (hn : s.1 ≤ 100) (hG : GM s σ) {k : Nat} (hk : k < 2147483648) : Wp (f_X12_findsPack (nI k) σ) (fun r => (k < (sc d s s.1).1 → r = (1, gup (gup σ 28 0 28 (nI ((sc d s s.1).2.1 k).1)) 28 0 29 (nI ((sc d s s.1).2.1 k).2))) ∧ (¬ k < (sc d s s.1).1 → r = (0, σ))) := M_find4 (d := d) hM hn hG hk s.1 0 gFuel (by omega) (Nat.lt_trans (by omega) gFuel_ge) (Nat.zero_le _) rfl (Nat.zero_le _)
theorem GM.up {v : Int32} {z : Nat} (h : GM s σ) (hz : z = 28 ∨ z = 29) : GM s (gup σ 28 0 z v) := by
  rcases hz with q | q
  · subst q; exact ⟨by simp [gup, h.1], fun j hj => by have g := h.2 j hj; simp [gup, g.1, g.2]⟩
  · subst q; exact ⟨by simp [gup, h.1], fun j hj => by have g := h.2 j hj; simp [gup, g.1, g.2]⟩
theorem M_packs30 (hM : MR d σ) (hn : s.1 ≤ 100) (hs : Ms σ σ') (hG : GM s σ') : Wp (f_X12_packs_30 gFuel 0 σ') (fun r => r.1 = nI (sc d s s.1).1 ∧ Ms σ r.2) := by
  have hle := sc_le (d := d) (s := s) s.1
  refine loop0 (F := fun f (_ : Unit) i τ => f_X12_packs_30 f (nI i) τ) (N := (sc d s s.1).1) (I := fun i _ τ => Ms σ τ ∧ GM s τ) (by omega)
    (fun f i x τ hi hI kk => ?_) (fun f x τ hI => ?_) (x := ()) (σ := σ') ⟨hs, hG⟩
  · obtain ⟨hs, hG⟩ := hI
    show Wp (f_X12_packs_30 (f + 1) (nI i) τ) _
    rw [f_X12_packs_30]
    refine Wp.bind (M_find (d := d) (hM.of hs) hn hG (show i < 2147483648 by omega)) (fun r hr => ?_)
    rw [hr.1 hi]
    refine Wp.f o1n0 ?_
    rw [nI_1]
    exact kk () _ ⟨Ms.up28 (by omega) (Ms.up28 (by omega) hs), (hG.up (Or.inl rfl)).up (Or.inr rfl)⟩
  · obtain ⟨hs, hG⟩ := hI
    show Wp (f_X12_packs_30 (f + 1) (nI (sc d s s.1).1) τ) _
    rw [f_X12_packs_30]
    refine Wp.bind (M_find (d := d) (hM.of hs) hn hG (show (sc d s s.1).1 < 2147483648 by omega)) (fun r hr => ?_)
    rw [hr.2 (by omega)]
    exact Wp.t rfl (Wp.ret ⟨rfl, hs⟩)
theorem S_packs : SS1 Inv f_X11_packs f_X12_packs := by
  intro x
  refine QA.ss (fun σ d hI hw hM hX => ?_)
  have hr := hw.2.1
  by_cases h0 : d 0 = 0
  · refine QA.noT 1 (by decide) ?_ (fun σ2 hM2 hT2 => ?_)
    · unfold f_X11_packs
      rw [X_isTold hX hw, if_pos h0, bind_some', if_pos rfl, X_refused]
      rfl
    · unfold f_X12_packs
      rcases code_cases x with ⟨-, g2⟩ | ⟨u, -, -, -, -, g2⟩
      · rw [g2, bind_some', hT2, if_pos h0, une_0, bind_some', ref_1, bind_some', if_neg o1n0]
      · rw [g2, bind_some', hT2, if_pos h0, une_0, bind_some', ref_1, bind_some', if_neg o1n0]
  · rcases code_cases x with ⟨g1, g2⟩ | ⟨u, hu1, hu2, rfl, g1, g2⟩
    · refine QA.noT 2 (by decide) ?_ (fun σ2 hM2 hT2 => ?_)
      · unfold f_X11_packs
        rw [X_isTold hX hw, if_neg h0, bind_some', if_neg o1n0, g1, bind_some', if_pos rfl, X_refused]
        rfl
      · unfold f_X12_packs
        rw [g2, bind_some', hT2, if_neg h0, une_2, bind_some', ref_2, bind_some', if_neg o1n0]
    · have hgo := gs_ok (u := u) hw (d 1) (Nat.le_refl _)
      have hn : (gs d u (d 1)).1 ≤ 100 := Nat.le_trans hgo.1 (by omega)
      refine QA.yesT (nI (sc d (gs d u (d 1)) (gs d u (d 1)).1).1) ?_ (fun σ2 hM2 hM3 hT2 => ?_)
      · unfold f_X11_packs
        refine Wp.eq (X_isTold hX hw) ?_
        rw [if_neg h0]
        refine Wp.f o1n0 ?_
        refine Wp.eq (g1 σ) ?_
        refine Wp.f o1n0 ?_
        refine Wp.bind (X_gather hX hw (show u < 10000 by omega)) (fun τ hq => ?_)
        refine Wp.bind (X_seek (hX.of hq.1) (Nat.pos_of_ne_zero h0) hn hq.2) (fun p hp => ?_)
        exact Wp.ret ⟨hp.1, _, hq.1.tr hp.2.1, rfl⟩
      · unfold f_X12_packs
        refine Wp.eq (g2 σ2) ?_
        rw [hT2, if_neg h0]
        refine Wp.eq une_1 ?_
        refine Wp.eq ref_0 ?_
        refine Wp.t rfl ?_
        refine Wp.bind (M_laysMet hM2 hw Ms.rf (show u < 10000 by omega)) (fun τ hq => ?_)
        exact M_packs30 hM2 hn hq.1 hq.2
/-- the runners of a pack -/
def bw (B : Nat → Nat) (f : Nat) : Nat → Int32
  | 0 => 0
  | m + 1 => bw B f m ||| (1 <<< (nI (B (f + m)) &&& 31))
theorem X_rBits {f0 t0 : Nat} (hn : s.1 ≤ 100) (hG : GX s σ) (h1 : f0 + 2 ≤ t0) (h2 : t0 ≤ s.1) (e4 : σ 22 0 4 = nI f0) (e5 : σ 22 0 5 = nI (t0 - 1)) : f_X6_runnerBits σ = some (bw s.2.2 f0 (t0 - f0), σ) := by
  have key : Wp (f_X6_runnerBits_7 gFuel 0 (nI (f0 + 0)) σ) (fun r => r = (bw s.2.2 f0 (t0 - f0), σ)) := by
    refine loop0 (F := fun f (x : Int32) i τ => f_X6_runnerBits_7 f x (nI (f0 + i)) τ) (N := t0 - f0) (I := fun i x τ => x = bw s.2.2 f0 i ∧ τ = σ) (by omega)
      (fun f i x τ hi hI kk => ?_) (fun f x τ hI => ?_) (x := 0) (σ := σ) ⟨rfl, rfl⟩
    · obtain ⟨rfl, rfl⟩ := hI
      simp only [f_X6_runnerBits_7]
      rw [e5]
      refine Wp.f (nI_nlt (by omega) (by omega)) ?_
      refine Wp.f (by rw [i100]; exact nI_ge (by omega) (by decide)) ?_
      refine Wp.f (nI_pos (by omega)) ?_
      refine Wp.ld (f0 + i) rfl (by omega) (by decide) (hG.2 (f0 + i) (by omega)).2 ?_
      rw [nI_1]
      exact kk _ _ ⟨by rw [bw], rfl⟩
    · obtain ⟨rfl, rfl⟩ := hI
      simp only [f_X6_runnerBits_7]
      rw [e5]
      exact Wp.t (nI_lt (by omega) (by omega)) (Wp.ret rfl)
  obtain ⟨r, hr1, hr2⟩ := key
  rw [hr2] at hr1
  unfold f_X6_runnerBits
  rw [e4]
  exact hr1
theorem M_pack119 {f0 t0 : Nat} (hn : s.1 ≤ 100) (hG : GM s σ) (h1 : f0 + 2 ≤ t0) (h2 : t0 ≤ s.1) (e5 : σ 28 0 29 = nI t0) : Wp (f_X12_pack_119 gFuel 0 (nI f0) σ) (fun r => r = (bw s.2.2 f0 (t0 - f0), σ)) := by
  refine loop0 (F := fun f (x : Int32) i τ => f_X12_pack_119 f x (nI (f0 + i)) τ) (N := t0 - f0) (I := fun i x τ => x = bw s.2.2 f0 i ∧ τ = σ) (by omega)
    (fun f i x τ hi hI kk => ?_) (fun f x τ hI => ?_) (x := 0) (σ := σ) ⟨rfl, rfl⟩
  · obtain ⟨rfl, rfl⟩ := hI
    simp only [f_X12_pack_119]
    rw [e5]
    refine Wp.f (nI_ge (by omega) (by omega)) ?_
    refine Wp.ld (f0 + i) rfl (by omega) (by decide) (hG.2 (f0 + i) (by omega)).2 ?_
    rw [nI_1]
    exact kk _ _ ⟨by rw [bw], rfl⟩
  · obtain ⟨rfl, rfl⟩ := hI
    simp only [f_X12_pack_119]
    rw [e5]
    exact Wp.t (nI_le (by omega) (by omega)) (Wp.ret rfl)
def pkQ (s : Nat × (Nat → Nat) × (Nat → Nat)) (f0 t0 : Nat) (z : Int32) : Int32 := if z = 0 then nI (t0 - f0) else if z = 1 then bw s.2.2 f0 (t0 - f0) else if z = 2 then nI (s.2.1 f0) else nI (s.2.1 (t0 - 1))
theorem S_pack : SS3 Inv f_X11_pack f_X12_pack := by
  intro x y z
  refine QA.ss (fun σ d hI hw hM hX => ?_)
  have hr := hw.2.1
  have hin : ∀ σ2, f_X12_in z 0 3 σ2 = some (bG z (3 + 1), σ2) := fun σ2 => by rw [i3]; exact M_in0 (by decide) _
  have m25 : ∀ σ2, f_X12_pack_26 x y z 0 σ2 = some (-1, mR σ2 1) := fun σ2 => by
    unfold f_X12_pack_26
    rcases code_cases x with ⟨-, g2⟩ | ⟨u, -, -, -, -, g2⟩
    · rw [g2, bind_some', une_0, bind_some', ref_1, bind_some', if_neg o1n0]
    · rw [g2, bind_some', une_0, bind_some', ref_1, bind_some', if_neg o1n0]
  by_cases h0 : d 0 = 0
  · refine QA.noT 1 (by decide) ?_ (fun σ2 hM2 hT2 => ?_)
    · unfold f_X11_pack
      rw [X_isTold hX hw, if_pos h0, bind_some', if_pos rfl, X_refused]
      rfl
    · unfold f_X12_pack f_X12_pack_25
      rw [if_pos (by rw [hT2, if_pos h0]), m25]
  · by_cases hy : y < 0
    · refine QA.noT 1 (by decide) ?_ (fun σ2 hM2 hT2 => ?_)
      · unfold f_X11_pack
        rw [X_isTold hX hw, if_neg h0, bind_some', if_neg o1n0, if_pos hy, X_refused]
        rfl
      · unfold f_X12_pack f_X12_pack_25
        rw [if_neg (by rw [hT2, if_neg h0]; exact o1n0), if_pos hy, m25]
    · by_cases hz : gin z (3 + 1) = true
      · have hz' := sel_t (by decide) hz
        obtain ⟨k, hk, rfl⟩ := nI_of hy
        rcases code_cases x with ⟨g1, g2⟩ | ⟨u, hu1, hu2, rfl, g1, g2⟩
        · refine QA.noT 2 (by decide) ?_ (fun σ2 hM2 hT2 => ?_)
          · unfold f_X11_pack
            rw [X_isTold hX hw, if_neg h0, bind_some', if_neg o1n0, if_neg hy, if_neg hz'.1, if_pos (show z ≤ 3 from hz'.2), g1, bind_some', if_pos rfl, X_refused]
            rfl
          · unfold f_X12_pack f_X12_pack_26
            rw [if_neg (by rw [hT2, if_neg h0]; exact o1n0), if_neg hy, hin, bG_t hz, bind_some', if_neg o1n0, g2, bind_some', une_2, bind_some', ref_2, bind_some', if_neg o1n0]
        · have hgo := gs_ok (u := u) hw (d 1) (Nat.le_refl _)
          have hn : (gs d u (d 1)).1 ≤ 100 := Nat.le_trans hgo.1 (by omega)
          have hle := sc_le (d := d) (s := gs d u (d 1)) (gs d u (d 1)).1
          have hP := sc_P (d := d) (s := gs d u (d 1)) (gs d u (d 1)).1
          refine QA.yesT (if k < (sc d (gs d u (d 1)) (gs d u (d 1)).1).1 then pkQ (gs d u (d 1)) ((sc d (gs d u (d 1)) (gs d u (d 1)).1).2.1 k).1 ((sc d (gs d u (d 1)) (gs d u (d 1)).1).2.1 k).2 z else -2) ?_ (fun σ2 hM2 hM3 hT2 => ?_)
          · unfold f_X11_pack
            refine Wp.eq (X_isTold hX hw) ?_
            rw [if_neg h0]
            refine Wp.f o1n0 ?_
            refine Wp.f hy ?_
            refine Wp.f hz'.1 ?_
            refine Wp.t (show z ≤ 3 from hz'.2) ?_
            refine Wp.eq (g1 σ) ?_
            refine Wp.f o1n0 ?_
            refine Wp.bind (X_gather hX hw (show u < 10000 by omega)) (fun τ hq => ?_)
            refine Wp.bind (X_seek (hX.of hq.1) (Nat.pos_of_ne_zero h0) hn hq.2) (fun p hp => ?_)
            obtain ⟨p1, p2, p3, p4⟩ := hp
            have hs := hq.1.tr p2
            rw [p1]
            by_cases hkc : k < (sc d (gs d u (d 1)) (gs d u (d 1)).1).1
            · have hPk := hP k hkc
              have h45 := p4 k rfl hkc
              refine Wp.t (nI_lt hkc (by omega)) ?_
              rw [if_pos hkc, pkQ, h45.1, h45.2]
              by_cases z0 : z = 0
              · refine Wp.t z0 ?_
                refine Wp.ret ⟨?_, _, hs, rfl⟩
                rw [if_pos z0]
                show nI _ - nI _ + 1 = _
                rw [nI_sub (by omega), nI_1]
                congr 1
                omega
              · refine Wp.f z0 ?_
                rw [if_neg z0]
                by_cases z1 : z = 1
                · refine Wp.t z1 ?_
                  refine Wp.eq (X_rBits hn p3 hPk.1 hPk.2 h45.1 h45.2) ?_
                  exact Wp.ret ⟨by rw [if_pos z1], _, hs, rfl⟩
                · refine Wp.f z1 ?_
                  rw [if_neg z1]
                  by_cases z2 : z = 2
                  · refine Wp.t z2 ?_
                    refine Wp.eq (X_ptime p3 hn (by omega)) ?_
                    exact Wp.ret ⟨by rw [if_pos z2], _, hs, rfl⟩
                  · refine Wp.f z2 ?_
                    refine Wp.eq (X_ptime p3 hn (by omega)) ?_
                    exact Wp.ret ⟨by rw [if_neg z2], _, hs, rfl⟩
            · refine Wp.f (nI_nlt (by omega) (by omega)) ?_
              exact Wp.ret ⟨by rw [if_neg hkc], _, hs, rfl⟩
          · unfold f_X12_pack
            refine Wp.f (by rw [hT2, if_neg h0]; exact o1n0) ?_
            refine Wp.f hy ?_
            refine Wp.eq (hin σ2) ?_
            rw [bG_t hz]
            refine Wp.f o1n0 ?_
            unfold f_X12_pack_26
            refine Wp.eq (g2 σ2) ?_
            refine Wp.eq une_1 ?_
            refine Wp.eq ref_0 ?_
            refine Wp.t rfl ?_
            refine Wp.bind (M_laysMet hM2 hw Ms.rf (show u < 10000 by omega)) (fun τ hq => ?_)
            refine Wp.bind (M_find (d := d) (hM2.of hq.1) hn hq.2 hk) (fun p hp => ?_)
            by_cases hkc : k < (sc d (gs d u (d 1)) (gs d u (d 1)).1).1
            · have hPk := hP k hkc
              rw [hp.1 hkc, if_pos hkc, pkQ]
              have hG2 := (hq.2.up (v := nI ((sc d (gs d u (d 1)) (gs d u (d 1)).1).2.1 k).1) (Or.inl rfl)).up (v := nI ((sc d (gs d u (d 1)) (gs d u (d 1)).1).2.1 k).2) (Or.inr rfl)
              have hs : Ms (mR σ2 0) (gup (gup τ 28 0 28 (nI ((sc d (gs d u (d 1)) (gs d u (d 1)).1).2.1 k).1)) 28 0 29 (nI ((sc d (gs d u (d 1)) (gs d u (d 1)).1).2.1 k).2)) := Ms.up28 (by omega) (Ms.up28 (by omega) hq.1)
              have e28 : gup (gup τ 28 0 28 (nI ((sc d (gs d u (d 1)) (gs d u (d 1)).1).2.1 k).1)) 28 0 29 (nI ((sc d (gs d u (d 1)) (gs d u (d 1)).1).2.1 k).2) 28 0 28 = nI ((sc d (gs d u (d 1)) (gs d u (d 1)).1).2.1 k).1 := by simp [gup]
              have e29 : gup (gup τ 28 0 28 (nI ((sc d (gs d u (d 1)) (gs d u (d 1)).1).2.1 k).1)) 28 0 29 (nI ((sc d (gs d u (d 1)) (gs d u (d 1)).1).2.1 k).2) 28 0 29 = nI ((sc d (gs d u (d 1)) (gs d u (d 1)).1).2.1 k).2 := by simp [gup]
              generalize gup (gup τ 28 0 28 (nI ((sc d (gs d u (d 1)) (gs d u (d 1)).1).2.1 k).1)) 28 0 29 (nI ((sc d (gs d u (d 1)) (gs d u (d 1)).1).2.1 k).2) = τ2 at hG2 hs e28 e29
              refine Wp.f o1n0 ?_
              dsimp only
              rw [e28, e29]
              by_cases z1 : z = 1
              · refine Wp.t z1 ?_
                refine Wp.mono (M_pack119 hn hG2 hPk.1 hPk.2 e29) (fun r hr => ?_)
                rw [hr, if_neg (by rw [z1]; exact o1n0), if_pos z1]
                exact ⟨rfl, hs⟩
              · refine Wp.f z1 ?_
                by_cases z0 : z = 0
                · refine Wp.t z0 ?_
                  refine Wp.ret ⟨?_, hs⟩
                  rw [if_pos z0]
                  exact nI_sub (by omega)
                · refine Wp.f z0 ?_
                  rw [if_neg z0, if_neg z1]
                  by_cases z2 : z = 2
                  · refine Wp.t z2 ?_
                    refine Wp.ld _ rfl (by omega) (by decide) (hG2.2 _ (by omega)).1 ?_
                    exact Wp.ret ⟨by rw [if_pos z2], hs⟩
                  · refine Wp.f z2 ?_
                    refine Wp.ld (((sc d (gs d u (d 1)) (gs d u (d 1)).1).2.1 k).2 - 1) (by rw [i1, nI_sub (by omega)]) (by omega) (by decide) (hG2.2 _ (by omega)).1 ?_
                    exact Wp.ret ⟨by rw [if_neg z2], hs⟩
            · rw [hp.2 hkc, if_neg hkc]
              exact Wp.t rfl (Wp.ret ⟨rfl, hq.1⟩)
      · refine QA.noT 1 (by decide) ?_ (fun σ2 hM2 hT2 => ?_)
        · unfold f_X11_pack
          rw [X_isTold hX hw, if_neg h0, bind_some', if_neg o1n0, if_neg hy]
          rcases sel_f (by decide) hz with q | ⟨q1, q2⟩
          · rw [if_pos q, X_refused]; rfl
          · rw [if_neg q1, if_neg (show ¬ z ≤ 3 from q2), X_refused]; rfl
        · unfold f_X12_pack f_X12_pack_25
          rw [if_neg (by rw [hT2, if_neg h0]; exact o1n0), if_neg hy, hin, bG_f hz, bind_some', if_pos rfl, m25]
end PK
