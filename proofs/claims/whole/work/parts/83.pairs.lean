/-! two of a course beside each other: together, alone -/
section PR
variable {d : Nat → Nat} {σ σ' : gSt} {a b c i : Nat}
/-- two that can't be looked at together, and two that can -/
theorem pair_cases (hw : WF d) (hX : XR d σ) (x y : Int32) : (∃ e : Int32, (e = 1 ∨ e = 5) ∧ f_X11_pairRefusal x y σ = some (e, σ) ∧ ∀ σ2 z, MR d σ2 → ¬ z = 0 → f_X12_whyNotTwo x y z σ2 = some (e, σ2)) ∨ ∃ a b : Nat, x = nI a ∧ y = nI b ∧ a < d 1 ∧ b < d 1 ∧ a ≠ b ∧ d (37 + b) = d (37 + a) ∧ f_X11_pairRefusal x y σ = some (0, σ) ∧ ∀ σ2 z, MR d σ2 → ¬ z = 0 → f_X12_whyNotTwo x y z σ2 = some (0, σ2) := by
  have hr := hw.2.1
  by_cases hx : gin x (d 1) = true
  · by_cases hy : gin y (d 1) = true
    · obtain ⟨hxe, ha⟩ := gin_nI hx
      generalize x.toNatClampNeg = a at hxe ha
      subst hxe
      obtain ⟨hye, hb⟩ := gin_nI hy
      generalize y.toNatClampNeg = b at hye hb
      subst hye
      have ba := hw.b (37 + a)
      have bb := hw.b (37 + b)
      by_cases e : a = b
      · subst e
        refine Or.inl ⟨5, Or.inr rfl, ?_, fun σ2 z hM2 hz => ?_⟩
        · unfold f_X11_pairRefusal
          rw [X_hasRunner hX hw, bG_t hx, bind_some', if_neg o1n0, X_hasRunner hX hw, bG_t hx, bind_some', if_neg o1n0, if_pos rfl]
        · unfold f_X12_whyNotTwo
          rw [if_neg hz, M_isRunner hM2 hw, bG_t hx, bind_some', if_neg o1n0, M_isRunner hM2 hw, bG_t hx, bind_some', if_neg o1n0, if_pos rfl]
      · have ne : ¬ nI a = nI b := nI_ne (by omega) (by omega) e
        by_cases e2 : d (37 + b) = d (37 + a)
        · refine Or.inr ⟨a, b, rfl, rfl, ha, hb, e, e2, ?_, fun σ2 z hM2 hz => ?_⟩
          · unfold f_X11_pairRefusal
            rw [X_hasRunner hX hw, bG_t hx, bind_some', if_neg o1n0, X_hasRunner hX hw, bG_t hy, bind_some', if_neg o1n0, if_neg ne, X_runnerAt (by omega), bind_some', X_runnerAt (by omega), bind_some']
            exact if_pos (show σ 10 (10 + a) 5 = σ 10 (10 + b) 5 by rw [(hX.2.2.2.2.2 a ha).1, (hX.2.2.2.2.2 b hb).1, e2])
          · unfold f_X12_whyNotTwo
            rw [if_neg hz, M_isRunner hM2 hw, bG_t hx, bind_some', if_neg o1n0, M_isRunner hM2 hw, bG_t hy, bind_some', if_neg o1n0, if_neg ne, M_rd (j := 37 + a) hM2 (by rw [i37, nI_add]) (by omega), bind_some', M_rd (j := 37 + b) hM2 (by rw [i37, nI_add]) (by omega), bind_some', if_pos (by rw [e2])]
        · have ne2 : ¬ nI (d (37 + a)) = nI (d (37 + b)) := nI_ne (by omega) (by omega) (fun q => e2 q.symm)
          refine Or.inl ⟨5, Or.inr rfl, ?_, fun σ2 z hM2 hz => ?_⟩
          · unfold f_X11_pairRefusal
            rw [X_hasRunner hX hw, bG_t hx, bind_some', if_neg o1n0, X_hasRunner hX hw, bG_t hy, bind_some', if_neg o1n0, if_neg ne, X_runnerAt (by omega), bind_some', X_runnerAt (by omega), bind_some']
            exact if_neg (show ¬ σ 10 (10 + a) 5 = σ 10 (10 + b) 5 by rw [(hX.2.2.2.2.2 a ha).1, (hX.2.2.2.2.2 b hb).1]; exact ne2)
          · unfold f_X12_whyNotTwo
            rw [if_neg hz, M_isRunner hM2 hw, bG_t hx, bind_some', if_neg o1n0, M_isRunner hM2 hw, bG_t hy, bind_some', if_neg o1n0, if_neg ne, M_rd (j := 37 + a) hM2 (by rw [i37, nI_add]) (by omega), bind_some', M_rd (j := 37 + b) hM2 (by rw [i37, nI_add]) (by omega), bind_some', if_neg ne2]
    · refine Or.inl ⟨1, Or.inl rfl, ?_, fun σ2 z hM2 hz => ?_⟩
      · unfold f_X11_pairRefusal
        rw [X_hasRunner hX hw, bG_t hx, bind_some', if_neg o1n0, X_hasRunner hX hw, bG_f hy, bind_some', if_pos rfl]
      · unfold f_X12_whyNotTwo
        rw [if_neg hz, M_isRunner hM2 hw, bG_t hx, bind_some', if_neg o1n0, M_isRunner hM2 hw, bG_f hy, bind_some', if_pos rfl]
  · refine Or.inl ⟨1, Or.inl rfl, ?_, fun σ2 z hM2 hz => ?_⟩
    · unfold f_X11_pairRefusal
      rw [X_hasRunner hX hw, bG_f hx, bind_some', if_pos rfl]
    · unfold f_X12_whyNotTwo
      rw [if_neg hz, M_isRunner hM2 hw, bG_f hx, bind_some', if_pos rfl]
theorem ref_e {e : Int32} (h : ¬ e = 0) : f_X12_isRefused e σ = some (1, mR σ e) := by rw [M_isRefused, if_neg h]
theorem e15 {e : Int32} (h : e = 1 ∨ e = 5) : ¬ e = 0 ∧ ¬ e = 4 := by rcases h with q | q <;> subst q <;> decide
theorem gab_n {x y : Nat} (hx : x < 10000) (hy : y < 10000) : gab (nI x - nI y) = nI (if y ≤ x then x - y else y - x) := by
  unfold gab
  by_cases e : y ≤ x
  · rw [if_pos e, nI_sub e, if_pos (nI_pos' (by omega))]
  · rw [if_neg e]
    have h1 : ¬ (0 : Int32) ≤ nI x - nI y := by
      rw [Int32.le_iff_toInt_le, pk_sub_toInt (by omega) (by omega)]
      show ¬ (0 : Int) ≤ _
      omega
    rw [if_neg h1]
    have h2 : (0 : Int32) - (nI x - nI y) = nI y - nI x := by rw [Int32.zero_sub, Int32.neg_sub]
    rw [h2, nI_sub (by omega)]
theorem in_n {x y g : Nat} (hx : x < 10000) (hy : y < 10000) (hg : g ≤ 600) : f_X12_in (nI x - nI y) (-(nI g)) (nI g) σ = some (if x ≤ y + g ∧ y ≤ x + g then 1 else 0, σ) := by
  have e1 : (nI x - nI y).toInt = (x : Int) - y := pk_sub_toInt (by omega) (by omega)
  have e2 : (-(nI g)).toInt = -(g : Int) := by
    rw [Int32.toInt_neg, nI_toInt (by omega)]
    exact Int.bmod_eq_of_le (by omega) (by omega)
  have e3 : (nI g).toInt = (g : Int) := nI_toInt (by omega)
  unfold f_X12_in
  by_cases c1 : x + g < y
  · rw [if_pos (by rw [Int32.lt_iff_toInt_lt, e1, e2]; omega), if_neg (by omega)]
  · rw [if_neg (by rw [Int32.lt_iff_toInt_lt, e1, e2]; omega)]
    by_cases c2 : y + g < x
    · rw [if_pos (by rw [Int32.lt_iff_toInt_lt, e1, e3]; omega), if_neg (by omega)]
    · rw [if_neg (by rw [Int32.lt_iff_toInt_lt, e1, e3]; omega), if_pos (by omega)]
/-- both are at a point, and near in time -/
def nr (d : Nat → Nat) (a b i : Nat) : Bool := match tA d a i, tA d b i with
  | some x, some y => decide (x ≤ y + d 2 ∧ y ≤ x + d 2)
  | _, _ => false
def nb (d : Nat → Nat) (a b : Nat) : Nat → Int32
  | 0 => 0
  | i + 1 => if nr d a b i = true then nb d a b i ||| (1 <<< (nI i &&& 31)) else nb d a b i
theorem nr_n1 (h : tA d a i = none) : ¬ nr d a b i = true := by
  unfold nr
  rw [h]
  exact fun q => nomatch q
theorem nr_n2 (h : tA d b i = none) : ¬ nr d a b i = true := by
  unfold nr
  rw [h]
  cases tA d a i with
  | none => exact fun q => nomatch q
  | some x => exact fun q => nomatch q
theorem X_bothAt (h : XR d σ) (hw : WF d) (ha : a < d 1) (hb : b < d 1) (hi : i ≤ nown d a) (hi2 : i ≤ nown d b) : f_X7_bothAt (10 + a) (10 + b) (nI i) σ = some (if tA d a i ≠ none ∧ tA d b i ≠ none then 1 else 0, σ) := by
  have b1 := hw.b (57 + a)
  have b2 := hw.b (57 + b)
  unfold f_X7_bothAt
  rw [X_timeAt h hw ha hi, bind_some']
  cases e1 : tA d a i with
  | none => simp [xo]
  | some x =>
    have hx := tA_b hw ha e1
    refine (if_neg (nI_nm1 (show x < 2147483648 by omega))).trans ?_
    dsimp only
    rw [X_timeAt h hw hb hi2, bind_some']
    cases e2 : tA d b i with
    | none => simp [xo]
    | some y =>
      have hy := tA_b hw hb e2
      refine (if_neg (nI_nm1 (show y < 2147483648 by omega))).trans ?_
      simp
theorem X_nearAt (h : XR d σ) (hw : WF d) (ha : a < d 1) (hb : b < d 1) (hi : i ≤ nown d a) (hi2 : i ≤ nown d b) : f_X7_nearAt (10 + a) (10 + b) (nI i) σ = some (if nr d a b i = true then 1 else 0, σ) := by
  have b1 := hw.b (57 + a)
  have b2 := hw.b (57 + b)
  have bg := hw.2.2.1
  unfold f_X7_nearAt nr
  rw [X_bothAt h hw ha hb hi hi2, bind_some']
  cases e1 : tA d a i with
  | none => simp
  | some x =>
    have hx := tA_b hw ha e1
    cases e2 : tA d b i with
    | none => simp
    | some y =>
      have hy := tA_b hw hb e2
      rw [if_pos (show some x ≠ none ∧ some y ≠ none from ⟨(fun q => nomatch q), (fun q => nomatch q)⟩), if_neg o1n0]
      dsimp only
      rw [X_timeAt h hw ha hi, bind_some']
      dsimp only
      rw [X_timeAt h hw hb hi2, bind_some', e1, e2]
      show (if σ 3 1 5 < gab (nI x - nI y) then some ((0 : Int32), σ) else some (1, σ)) = _
      rw [h.2.2.1 (by have := (hw.run ha).1; omega), gab_n (by omega) (by omega)]
      by_cases c : x ≤ y + d 2 ∧ y ≤ x + d 2
      · rw [if_neg (nI_nlt (by split <;> omega) (by omega)), if_pos (by simpa using c)]
      · rw [if_pos (nI_lt (by split <;> omega) (by split <;> omega)), if_neg (by simpa using c)]
theorem X_nearBits (h : XR d σ) (hw : WF d) (ha : a < d 1) (hb : b < d 1) (hab : nown d b = nown d a) : f_X7_nearBits (10 + a) (10 + b) σ = some (nb d a b (nown d a + 1), σ) := by
  have ho := hw.own ha
  have := loop0 (F := fun f (x : Int32) i σ => f_X7_nearBits_5 (10 + a) (10 + b) f x (nI i) σ) (N := nown d a + 1) (I := fun i x τ => x = nb d a b i ∧ τ = σ) (Q := fun r => r = (nb d a b (nown d a + 1), σ)) (by omega)
    (fun f i x τ hi hI kk => by
      obtain ⟨rfl, rfl⟩ := hI
      show Wp (f_X7_nearBits_5 (10 + a) (10 + b) (f + 1) (nb d a b i) (nI i) τ) _
      rw [f_X7_nearBits_5, (h.2.2.2.2.2 a ha).2.2.2.2.1]
      refine Wp.f (nI_nlt (by omega) (by omega)) ?_
      refine Wp.eq (X_nearAt h hw ha hb (by omega) (by omega)) ?_
      dsimp only
      rw [nI_1 i]
      by_cases e : nr d a b i = true
      · rw [if_pos e]
        refine Wp.f o1n0 ?_
        exact kk _ _ ⟨by rw [nb, if_pos e], rfl⟩
      · rw [if_neg e]
        refine Wp.t rfl ?_
        exact kk _ _ ⟨by rw [or0, nb, if_neg e], rfl⟩)
    (fun f x τ hI => by
      obtain ⟨rfl, rfl⟩ := hI
      show Wp (f_X7_nearBits_5 (10 + a) (10 + b) (f + 1) (nb d a b (nown d a + 1)) (nI (nown d a + 1)) τ) _
      rw [f_X7_nearBits_5, (h.2.2.2.2.2 a ha).2.2.2.2.1]
      exact Wp.t (nI_lt (by omega) (by omega)) (Wp.ret rfl)) (x := 0) (σ := σ) ⟨rfl, rfl⟩
  obtain ⟨r, hr1, rfl⟩ := this
  exact hr1
theorem M_togetherOf (hM : MR d σ) (hw : WF d) (hs : Ms σ σ') (ha : a < d 1) (hb : b < d 1) (hab : nown d b = nown d a) : Wp (f_X12_togetherOf (nI a) (nI b) σ') (fun r => r.1 = nb d a b (nown d a + 1) ∧ Ms σ r.2) := by
  have ho := hw.own ha
  have hr := hw.2.1
  have h3 := hw.1
  have hru := hw.run ha
  have bg := hw.2.2.1
  have b1 := hw.b (57 + a)
  have b2 := hw.b (57 + b)
  have hon : nown d a = d (4 + d (37 + a)) := rfl
  refine loop0 (F := fun f (x : Int32) i σ => f_X12_togetherOf_5 (nI a) (nI b) f x (nI i) σ) (N := nown d a + 1) (I := fun i x τ => x = nb d a b i ∧ Ms σ τ) (by omega)
    (fun f i x τ hi hI kk => ?_) (fun f x τ hI => ?_) (x := 0) (σ := σ') ⟨rfl, hs⟩
  · obtain ⟨rfl, hs⟩ := hI
    show Wp (f_X12_togetherOf_5 (nI a) (nI b) (f + 1) (nb d a b i) (nI i) τ) _
    rw [f_X12_togetherOf_5]
    refine Wp.eq (M_rd (j := 37 + a) (hM.of hs) (by rw [i37, nI_add]) (by omega)) ?_
    refine Wp.eq (M_rd (j := 4 + d (37 + a)) (hM.of hs) (by rw [i4, nI_add]) (by omega)) ?_
    refine Wp.f (nI_nlt (by omega) (by omega)) ?_
    refine Wp.bind (M_timeAt hM hw hs ha (by omega)) (fun q hq => ?_)
    refine Wp.bind (M_timeAt hM hw hq.2 hb (by omega)) (fun p hp => ?_)
    rw [hq.1, hp.1, nI_1 i]
    cases e1 : tA d a i with
    | none =>
      refine Wp.t rfl ?_
      exact kk _ _ ⟨by rw [or0, nb, if_neg (nr_n1 e1)], hp.2⟩
    | some x =>
      have hx := tA_b hw ha e1
      refine Wp.f (nI_nm1 (show x < 2147483648 by omega)) ?_
      cases e2 : tA d b i with
      | none =>
        refine Wp.t rfl ?_
        exact kk _ _ ⟨by rw [or0, nb, if_neg (nr_n2 e2)], hp.2⟩
      | some y =>
        have hy := tA_b hw hb e2
        refine Wp.f (nI_nm1 (show y < 2147483648 by omega)) ?_
        refine Wp.eq (M_rd (j := 2) (hM.of hp.2) i2 (by decide)) ?_
        refine Wp.eq (M_rd (j := 2) (hM.of hp.2) i2 (by decide)) ?_
        refine Wp.eq (in_n (x := x) (y := y) (by omega) (by omega) bg) ?_
        by_cases e : x ≤ y + d 2 ∧ y ≤ x + d 2
        · rw [if_pos e]
          refine Wp.f o1n0 ?_
          exact kk _ _ ⟨by rw [nb, if_pos (show nr d a b i = true by rw [nr, e1, e2]; exact decide_eq_true e)], hp.2⟩
        · rw [if_neg e]
          refine Wp.t rfl ?_
          exact kk _ _ ⟨by rw [or0, nb, if_neg (show ¬ nr d a b i = true by rw [nr, e1, e2]; simpa using e)], hp.2⟩
  · obtain ⟨rfl, hs⟩ := hI
    show Wp (f_X12_togetherOf_5 (nI a) (nI b) (f + 1) (nb d a b (nown d a + 1)) (nI (nown d a + 1)) τ) _
    rw [f_X12_togetherOf_5]
    refine Wp.eq (M_rd (j := 37 + a) (hM.of hs) (by rw [i37, nI_add]) (by omega)) ?_
    refine Wp.eq (M_rd (j := 4 + d (37 + a)) (hM.of hs) (by rw [i4, nI_add]) (by omega)) ?_
    exact Wp.t (nI_lt (by omega) (by omega)) (Wp.ret ⟨rfl, hs⟩)
theorem S_together : SS2 Inv f_X11_together f_X12_together := by
  intro x y
  refine QA.ss (fun σ d hI hw hM hX => ?_)
  have hr := hw.2.1
  rcases pair_cases hw hX x y with ⟨e, he, g1, g2⟩ | ⟨a, b, rfl, rfl, ha, hb, hne, hc, g1, g2⟩
  · have h1 := e15 he
    refine QA.no e h1.2 ?_ (fun σ2 hM2 => ?_)
    · unfold f_X11_together
      rw [g1, bind_some', if_neg h1.1, X_refused]
      rfl
    · unfold f_X12_together
      rw [g2 σ2 1 hM2 o1n0, bind_some', ref_e h1.1, bind_some', if_neg o1n0]
  · have hab : nown d b = nown d a := by unfold nown; rw [hc]
    refine QA.yes (nb d a b (nown d a + 1)) ?_ (fun σ2 hM2 hM3 => ?_)
    · unfold f_X11_together
      refine Wp.eq g1 ?_
      refine Wp.t rfl ?_
      refine Wp.eq (X_runnerAt (by omega)) ?_
      refine Wp.eq (X_runnerAt (by omega)) ?_
      refine Wp.eq (X_nearBits hX hw ha hb hab) ?_
      exact Wp.ret ⟨rfl, _, Xs.rf, rfl⟩
    · unfold f_X12_together
      refine Wp.eq (g2 σ2 1 hM3 o1n0) ?_
      refine Wp.eq ref_0 ?_
      refine Wp.t rfl ?_
      exact Wp.bind (M_togetherOf hM2 hw Ms.rf ha hb hab) (fun q hq => Wp.ret ⟨hq.1, hq.2⟩)
/-- where he is alone -/
def al (d : Nat → Nat) (a : Nat) : Nat → Int32
  | 0 => nb d a a (nown d a + 1)
  | b + 1 => if b = a ∨ ¬ d (37 + b) = d (37 + a) then al d a b else al d a b &&& (nb d a b (nown d a + 1) ^^^ (-1))
theorem X_aloneBits (h : XR d σ) (hw : WF d) (ha : a < d 1) : f_X7_aloneBits (nI a) σ = some (al d a (d 1), σ) := by
  have hr := hw.2.1
  have bc := hw.b (37 + a)
  unfold f_X7_aloneBits
  rw [X_runnerAt (by omega), bind_some']
  dsimp only
  rw [X_nearBits h hw ha ha rfl, bind_some']
  have := loop0 (F := fun f (x : Int32) b σ => f_X7_aloneBits_19 (nI a) (10 + a) f x (nI b) σ) (N := d 1) (I := fun b x τ => x = al d a b ∧ τ = σ) (Q := fun r => r = (al d a (d 1), σ)) (by omega)
    (fun f b x τ hb hI kk => by
      obtain ⟨rfl, rfl⟩ := hI
      show Wp (f_X7_aloneBits_19 (nI a) (10 + a) (f + 1) (al d a b) (nI b) τ) _
      rw [f_X7_aloneBits_19, h.2.1]
      refine Wp.f (nI_ge hb (by omega)) ?_
      rw [nI_1 b]
      by_cases e : b = a
      · refine Wp.t (by rw [e]) ?_
        exact kk _ _ ⟨by rw [al, if_pos (Or.inl e)], rfl⟩
      · refine Wp.f (nI_ne (by omega) (by omega) e) ?_
        rw [(h.2.2.2.2.2 a ha).1]
        refine Wp.eq (X_isOf h hw hb (by omega)) ?_
        by_cases e2 : d (37 + b) = d (37 + a)
        · rw [if_pos e2]
          refine Wp.f o1n0 ?_
          refine Wp.eq (X_runnerAt (by omega)) ?_
          refine Wp.eq (X_nearBits h hw ha hb (by unfold nown; rw [e2])) ?_
          exact kk _ _ ⟨by rw [al, if_neg (fun q => q.elim e (fun z => z e2))], rfl⟩
        · rw [if_neg e2]
          refine Wp.t rfl ?_
          exact kk _ _ ⟨by rw [al, if_pos (Or.inr e2)], rfl⟩)
    (fun f x τ hI => by
      obtain ⟨rfl, rfl⟩ := hI
      show Wp (f_X7_aloneBits_19 (nI a) (10 + a) (f + 1) (al d a (d 1)) (nI (d 1)) τ) _
      rw [f_X7_aloneBits_19, h.2.1]
      exact Wp.t (nI_le (Nat.le_refl _) (by omega)) (Wp.ret rfl)) (x := nb d a a (nown d a + 1)) (σ := σ) ⟨rfl, rfl⟩
  obtain ⟨r, hr1, rfl⟩ := this
  exact hr1
theorem M_alone69 (hM : MR d σ) (hw : WF d) (hs : Ms σ σ') (ha : a < d 1) : Wp (f_X12_alone_69 (nI a) gFuel (nb d a a (nown d a + 1)) 0 σ') (fun r => r.1 = al d a (d 1) ∧ Ms σ r.2) := by
  have hr := hw.2.1
  have bc := hw.b (37 + a)
  refine loop0 (F := fun f (x : Int32) b σ => f_X12_alone_69 (nI a) f x (nI b) σ) (N := d 1) (I := fun b x τ => x = al d a b ∧ Ms σ τ) (by omega)
    (fun f b x τ hb hI kk => ?_) (fun f x τ hI => ?_) (x := nb d a a (nown d a + 1)) (σ := σ') ⟨rfl, hs⟩
  · obtain ⟨rfl, hs⟩ := hI
    have bb := hw.b (37 + b)
    show Wp (f_X12_alone_69 (nI a) (f + 1) (al d a b) (nI b) τ) _
    rw [f_X12_alone_69]
    refine Wp.eq (M_rd (j := 1) (hM.of hs) i1 (by decide)) ?_
    refine Wp.f (nI_ge hb (by omega)) ?_
    rw [nI_1 b]
    by_cases e : b = a
    · refine Wp.t (by rw [e]) ?_
      exact kk _ _ ⟨by rw [Int32.and_self, al, if_pos (Or.inl e)], hs⟩
    · refine Wp.f (nI_ne (by omega) (by omega) e) ?_
      refine Wp.eq (M_rd (j := 37 + b) (hM.of hs) (by rw [i37, nI_add]) (by omega)) ?_
      refine Wp.eq (M_rd (j := 37 + a) (hM.of hs) (by rw [i37, nI_add]) (by omega)) ?_
      by_cases e2 : d (37 + b) = d (37 + a)
      · refine Wp.t (by rw [e2]) ?_
        refine Wp.bind (M_togetherOf hM hw hs ha hb (by unfold nown; rw [e2])) (fun q hq => ?_)
        rw [hq.1]
        exact kk _ _ ⟨by rw [al, if_neg (fun q => q.elim e (fun z => z e2))], hq.2⟩
      · refine Wp.f (nI_ne (by omega) (by omega) e2) ?_
        exact kk _ _ ⟨by rw [Int32.and_self, al, if_pos (Or.inr e2)], hs⟩
  · obtain ⟨rfl, hs⟩ := hI
    show Wp (f_X12_alone_69 (nI a) (f + 1) (al d a (d 1)) (nI (d 1)) τ) _
    rw [f_X12_alone_69]
    refine Wp.eq (M_rd (j := 1) (hM.of hs) i1 (by decide)) ?_
    exact Wp.t (nI_le (Nat.le_refl _) (by omega)) (Wp.ret ⟨rfl, hs⟩)
theorem M_alone21 (hM : MR d σ) (hw : WF d) (hs : Ms σ σ') (ha : a < d 1) : Wp (f_X12_alone_21 (nI a) gFuel 0 0 σ') (fun r => r.1 = al d a (d 1) ∧ Ms σ r.2) := by
  have ho := hw.own ha
  have hr := hw.2.1
  have h3 := hw.1
  have hru := hw.run ha
  have b1 := hw.b (57 + a)
  have hon : nown d a = d (4 + d (37 + a)) := rfl
  refine loop0 (F := fun f (x : Int32) i σ => f_X12_alone_21 (nI a) f x (nI i) σ) (N := nown d a + 1) (I := fun i x τ => x = nb d a a i ∧ Ms σ τ) (by omega)
    (fun f i x τ hi hI kk => ?_) (fun f x τ hI => ?_) (x := 0) (σ := σ') ⟨rfl, hs⟩
  · obtain ⟨rfl, hs⟩ := hI
    show Wp (f_X12_alone_21 (nI a) (f + 1) (nb d a a i) (nI i) τ) _
    rw [f_X12_alone_21]
    refine Wp.eq (M_rd (j := 37 + a) (hM.of hs) (by rw [i37, nI_add]) (by omega)) ?_
    refine Wp.eq (M_rd (j := 4 + d (37 + a)) (hM.of hs) (by rw [i4, nI_add]) (by omega)) ?_
    refine Wp.f (nI_nlt (by omega) (by omega)) ?_
    refine Wp.bind (M_timeAt hM hw hs ha (by omega)) (fun q hq => ?_)
    rw [hq.1, nI_1 i]
    cases e1 : tA d a i with
    | none =>
      refine Wp.t rfl ?_
      exact kk _ _ ⟨by rw [or0, nb, if_neg (nr_n1 e1)], hq.2⟩
    | some x =>
      have hx := tA_b hw ha e1
      refine Wp.f (nI_nm1 (show x < 2147483648 by omega)) ?_
      exact kk _ _ ⟨by rw [nb, if_pos (show nr d a a i = true by rw [nr, e1]; exact decide_eq_true ⟨by omega, by omega⟩)], hq.2⟩
  · obtain ⟨rfl, hs⟩ := hI
    show Wp (f_X12_alone_21 (nI a) (f + 1) (nb d a a (nown d a + 1)) (nI (nown d a + 1)) τ) _
    rw [f_X12_alone_21]
    refine Wp.eq (M_rd (j := 37 + a) (hM.of hs) (by rw [i37, nI_add]) (by omega)) ?_
    refine Wp.eq (M_rd (j := 4 + d (37 + a)) (hM.of hs) (by rw [i4, nI_add]) (by omega)) ?_
    refine Wp.t (nI_lt (by omega) (by omega)) ?_
    exact M_alone69 hM hw hs ha
theorem S_alone : SS1 Inv f_X11_alone f_X12_alone := by
  intro x
  refine QA.ss (fun σ d hI hw hM hX => ?_)
  have hr := hw.2.1
  by_cases hx : gin x (d 1) = true
  · obtain ⟨hxe, ha⟩ := gin_nI hx
    generalize x.toNatClampNeg = a at hxe ha
    subst hxe
    refine QA.yes (al d a (d 1)) ?_ (fun σ2 hM2 hM3 => ?_)
    · unfold f_X11_alone
      refine Wp.eq (X_hasRunner hX hw _) ?_
      rw [bG_t hx]
      refine Wp.f o1n0 ?_
      refine Wp.eq (X_aloneBits hX hw ha) ?_
      exact Wp.ret ⟨rfl, _, Xs.rf, rfl⟩
    · unfold f_X12_alone
      refine Wp.eq (M_isRunner hM3 hw _) ?_
      rw [bG_t hx]
      refine Wp.eq un_1 ?_
      refine Wp.eq ref_0 ?_
      refine Wp.t rfl ?_
      exact M_alone21 hM2 hw Ms.rf ha
  · refine QA.no 1 (by decide) ?_ (fun σ2 hM2 => ?_)
    · unfold f_X11_alone
      rw [X_hasRunner hX hw, bG_f hx, bind_some', if_pos rfl, X_refused]
      rfl
    · unfold f_X12_alone
      rw [M_isRunner hM2 hw, bG_f hx, bind_some', un_0, bind_some', ref_1, bind_some', if_neg o1n0]
end PR
