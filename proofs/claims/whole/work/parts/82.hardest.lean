/-! hardest -/
section PH
variable {d : Nat → Nat} {σ σ' : gSt} {a c i : Nat}
/-- what one lost on a leg of course c; all of them -/
def lbs (d : Nat → Nat) (c i b : Nat) : Nat := match lf d c i b, lst (lf d c i) (d 1) with
  | some v, some l => v - l
  | _, _ => 0
def lba (d : Nat → Nat) (c i : Nat) : Option Nat := (lst (lf d c i) (d 1)).map (fun _ => sm (lbs d c i) (d 1))
theorem lst_some {f : Nat → Option Nat} {n j v : Nat} (hj : j < n) (hf : f j = some v) : ∃ l, lst f n = some l ∧ l ≤ v := by
  have := am_spec f n
  cases ha : am f n with
  | none =>
    rw [ha] at this
    have := this.2 j hj
    rw [hf] at this
    cases this
  | some k =>
    rw [ha] at this
    obtain ⟨h1, l, h2, h3, h4, -⟩ := this
    exact ⟨l, h3, h4 j v hj hf⟩
theorem lst_no {f : Nat → Option Nat} {n j : Nat} (hj : j < n) (h : lst f n = none) : f j = none := by
  cases hf : f j with
  | none => rfl
  | some v =>
    obtain ⟨l, h1, -⟩ := lst_some hj hf
    rw [h] at h1
    cases h1
theorem lbs_b (hw : WF d) (hi : i ≤ d (4 + c)) {b : Nat} (hb : b < d 1) : lbs d c i b ≤ 10000 := by
  unfold lbs
  split
  · next v l h1 h2 =>
    have := lf_b hw hi hb h1
    omega
  · omega
theorem lba_b (hw : WF d) (hi : i ≤ d (4 + c)) {u : Nat} (h : lba d c i = some u) : u ≤ 100000 := by
  have hr := hw.2.1
  unfold lba at h
  obtain ⟨l, h1, h2⟩ := Option.map_eq_some_iff.mp h
  have h3 : sm (lbs d c i) (d 1) ≤ d 1 * 10000 := sm_le (fun j hj => lbs_b hw hi hj)
  have h4 : d 1 * 10000 ≤ 10 * 10000 := Nat.mul_le_mul hr (Nat.le_refl _)
  omega
theorem X_lostByAll (h : XR d σ) (hw : WF d) (hc : c < d 0) (hi : i ≤ d (4 + c)) : f_X2_lostByAll (nI c) (nI i) σ = some (xo (lba d c i), σ) := by
  have hr := hw.2.1
  have h3 := hw.1
  have go : ∀ (s : Int32) (P : Nat → Int32), P 0 = s → (∀ b, b < d 1 → (lf d c i b = none → P (b + 1) = P b) ∧ (∀ v, lf d c i b = some v → P (b + 1) = P b + (nI v - xo (lst (lf d c i) (d 1))))) → f_X2_lostByAll_22 (nI c) (nI i) (xo (lst (lf d c i) (d 1))) gFuel s 0 σ = some (P (d 1), σ) := by
    intro s P h0 hP
    have := loop0 (F := fun f (x : Int32) b σ => f_X2_lostByAll_22 (nI c) (nI i) (xo (lst (lf d c i) (d 1))) f x (nI b) σ) (N := d 1) (I := fun b x τ => x = P b ∧ τ = σ) (Q := fun r => r = (P (d 1), σ)) (by omega)
      (fun f b x τ hb hI kk => by
        obtain ⟨rfl, rfl⟩ := hI
        show Wp (f_X2_lostByAll_22 (nI c) (nI i) (xo (lst (lf d c i) (d 1))) (f + 1) (P b) (nI b) τ) _
        rw [f_X2_lostByAll_22, h.2.1]
        refine Wp.f (nI_ge hb (by omega)) ?_
        refine Wp.eq (X_isOf h hw hb (by omega)) ?_
        unfold f_X2_lostByAll_64
        by_cases e : d (37 + b) = c
        · rw [if_pos e]
          refine Wp.f o1n0 ?_
          refine Wp.eq (X_runnerAt (by omega)) ?_
          have hib : i ≤ nown d b := by show i ≤ d (4 + d (37 + b)); rw [e]; exact hi
          refine Wp.eq (X_legTime h hw hb hib) ?_
          have hlf : lf d c i b = lg d b i := by unfold lf; rw [if_pos e]
          dsimp only
          rw [nI_1 b, ← hlf]
          cases hv : lf d c i b with
          | none =>
            refine Wp.t rfl ?_
            exact kk _ _ ⟨by rw [add0]; exact ((hP b hb).1 hv).symm, rfl⟩
          | some v =>
            have := lf_b hw hi hb hv
            refine Wp.f (nI_nm1 (show v < 2147483648 by omega)) ?_
            exact kk _ _ ⟨((hP b hb).2 v hv).symm, rfl⟩
        · rw [if_neg e]
          refine Wp.t rfl ?_
          dsimp only
          rw [nI_1 b]
          refine Wp.t rfl ?_
          have hlf : lf d c i b = none := by unfold lf; rw [if_neg e]
          exact kk _ _ ⟨by rw [add0]; exact ((hP b hb).1 hlf).symm, rfl⟩)
      (fun f x τ hI => by
        obtain ⟨rfl, rfl⟩ := hI
        show Wp (f_X2_lostByAll_22 (nI c) (nI i) (xo (lst (lf d c i) (d 1))) (f + 1) (P (d 1)) (nI (d 1)) τ) _
        rw [f_X2_lostByAll_22, h.2.1]
        exact Wp.t (nI_le (Nat.le_refl _) (by omega)) (Wp.ret rfl)) (x := s) (σ := σ) ⟨h0.symm, rfl⟩
    obtain ⟨r, hr1, rfl⟩ := this
    exact hr1
  unfold f_X2_lostByAll
  rw [X_bestTime h hw hc hi, bind_some']
  cases hl : lst (lf d c i) (d 1) with
  | none =>
    refine (if_pos rfl).trans ?_
    have := go (-1) (fun _ => -1) rfl (fun b hb => ⟨fun _ => rfl, fun v hv => by rw [lst_no hb hl] at hv; cases hv⟩)
    rw [hl] at this
    rw [lba, hl]
    exact this
  | some l =>
    have hlb := lst_b (fun j u hj hu => lf_b hw hi hj hu) hl
    refine (if_neg (nI_nm1 (show l < 2147483648 by omega))).trans ?_
    have := go 0 (fun b => nI (sm (lbs d c i) b)) rfl (fun b hb => ⟨fun hv => by
      show nI (sm (lbs d c i) (b + 1)) = _
      rw [sm, lbs, hv]; rfl, fun v hv => by
      obtain ⟨l', g1, g2⟩ := lst_some hb hv
      rw [hl] at g1
      cases g1
      show nI (sm (lbs d c i) (b + 1)) = nI (sm (lbs d c i) b) + (nI v - xo (lst (lf d c i) (d 1)))
      rw [hl]
      show _ = _ + (nI v - nI l)
      rw [nI_sub g2, nI_add, sm, lbs, hv, hl]⟩)
    rw [hl] at this
    rw [lba, hl]
    exact this
def pm (d : Nat → Nat) (c i : Nat) : Nat → Option Nat
  | 0 => none
  | b + 1 => match lf d c i b with
    | none => pm d c i b
    | some _ => some ((pm d c i b).getD 0 + lbs d c i b)
theorem pm_sum : ∀ b, (lst (lf d c i) b = none → pm d c i b = none ∧ sm (lbs d c i) b = 0) ∧ (∀ l, lst (lf d c i) b = some l → pm d c i b = some (sm (lbs d c i) b)) := by
  intro b
  induction b with
  | zero => exact ⟨fun _ => ⟨rfl, rfl⟩, fun l h => nomatch h⟩
  | succ b ih =>
    cases hf : lf d c i b with
    | none =>
      have e1 : lst (lf d c i) (b + 1) = lst (lf d c i) b := by rw [lst, hf]; cases lst (lf d c i) b <;> rfl
      have e2 : pm d c i (b + 1) = pm d c i b := by rw [pm, hf]
      have e3 : sm (lbs d c i) (b + 1) = sm (lbs d c i) b := by rw [sm, lbs, hf]; rfl
      rw [e1, e2, e3]
      exact ih
    | some v =>
      have e2 : pm d c i (b + 1) = some ((pm d c i b).getD 0 + lbs d c i b) := by rw [pm, hf]
      constructor
      · intro h
        have := lst_no (show b < b + 1 by omega) h
        rw [hf] at this
        cases this
      · intro l _
        rw [e2, sm]
        cases hl : lst (lf d c i) b with
        | none =>
          obtain ⟨q1, q2⟩ := ih.1 hl
          rw [q1, q2]
          rfl
        | some l' =>
          rw [ih.2 l' hl]
          rfl
theorem pm_lba : pm d c i (d 1) = lba d c i := by
  have := pm_sum (d := d) (c := c) (i := i) (d 1)
  unfold lba
  cases hl : lst (lf d c i) (d 1) with
  | none => rw [(this.1 hl).1]; rfl
  | some l => rw [this.2 l hl]; rfl
theorem pm_b (hw : WF d) (hi : i ≤ d (4 + c)) : ∀ {b u : Nat}, b ≤ d 1 → pm d c i b = some u → u ≤ b * 10000 := by
  intro b
  induction b with
  | zero => intro u _ h; cases h
  | succ b ih =>
    intro u hb h
    rw [pm] at h
    have h1 := lbs_b hw hi (show b < d 1 by omega)
    cases hf : lf d c i b with
    | none =>
      rw [hf] at h
      have := ih (by omega) h
      exact Nat.le_trans this (Nat.mul_le_mul_right _ (Nat.le_succ b))
    | some v =>
      rw [hf] at h
      rw [Nat.succ_mul]
      cases hp : pm d c i b with
      | none =>
        rw [hp] at h
        have e : 0 + lbs d c i b = u := Option.some.inj h
        rw [← e, Nat.zero_add]
        exact Nat.le_trans h1 (Nat.le_add_left _ _)
      | some w =>
        rw [hp] at h
        have := ih (by omega) hp
        have e : w + lbs d c i b = u := Option.some.inj h
        rw [← e]
        exact Nat.add_le_add this h1
theorem M_lostByAll (hM : MR d σ) (hw : WF d) (hs : Ms σ σ') (hc : c < d 0) (hi : i ≤ d (4 + c)) : Wp (f_X12_lostByAll (nI c) (nI i) σ') (fun r => r.1 = mo (lba d c i) ∧ Ms σ r.2) := by
  have hr := hw.2.1
  have h3 := hw.1
  rw [← pm_lba]
  refine loop0 (F := fun f (x : Int32) b σ => f_X12_lostByAll_6 (nI c) (nI i) f x (nI b) σ) (N := d 1) (I := fun b x τ => x = mo (pm d c i b) ∧ Ms σ τ) (by omega)
    (fun f b x τ hb hI kk => ?_) (fun f x τ hI => ?_) (x := -2) (σ := σ') ⟨rfl, hs⟩
  · obtain ⟨rfl, hs⟩ := hI
    have bb := hw.b (37 + b)
    show Wp (f_X12_lostByAll_6 (nI c) (nI i) (f + 1) (mo (pm d c i b)) (nI b) τ) _
    rw [f_X12_lostByAll_6]
    refine Wp.eq (M_rd (j := 1) (hM.of hs) i1 (by decide)) ?_
    refine Wp.f (nI_ge hb (by omega)) ?_
    refine Wp.eq (M_rd (j := 37 + b) (hM.of hs) (by rw [i37, nI_add]) (by omega)) ?_
    unfold f_X12_lostByAll_43
    rw [nI_1 b]
    by_cases e : d (37 + b) = c
    · refine Wp.t (by rw [e]) ?_
      have hib : i ≤ nown d b := by show i ≤ d (4 + d (37 + b)); rw [e]; exact hi
      have hlf : lf d c i b = lg d b i := by unfold lf; rw [if_pos e]
      refine Wp.bind (M_lostOn hM hw hs hb hib) (fun q hq => ?_)
      rw [hq.1]
      cases hv : lf d c i b with
      | none =>
        have hlo : lo d b i = none := by rw [lo, ← hlf, hv]
        rw [hlo]
        refine Wp.t rfl ?_
        exact kk _ _ ⟨by rw [pm, hv], hq.2⟩
      | some v =>
        have hvb := lf_b hw hi hb hv
        obtain ⟨l, g1, g2⟩ := lst_some hb hv
        have hlo : lo d b i = some (lbs d c i b) := by rw [lo, ← hlf, hv, e, g1, lbs, hv, g1]
        have hlb := lbs_b hw hi hb
        rw [hlo]
        refine Wp.f (nI_nm2 (show lbs d c i b < 2147483648 by omega)) ?_
        cases hp : pm d c i b with
        | none =>
          refine Wp.t rfl ?_
          exact kk _ _ ⟨by rw [pm, hv, hp]; show nI (lbs d c i b) = nI (0 + lbs d c i b); rw [Nat.zero_add], hq.2⟩
        | some w =>
          have hwb := pm_b hw hi (by omega) hp
          refine Wp.f (nI_nm2 (show w < 2147483648 by omega)) ?_
          exact kk _ _ ⟨by rw [pm, hv, hp]; exact nI_add _ _, hq.2⟩
    · refine Wp.f (nI_ne (by omega) (by omega) e) ?_
      refine Wp.t rfl ?_
      have hlf : lf d c i b = none := by unfold lf; rw [if_neg e]
      exact kk _ _ ⟨by rw [pm, hlf], hs⟩
  · obtain ⟨rfl, hs⟩ := hI
    show Wp (f_X12_lostByAll_6 (nI c) (nI i) (f + 1) (mo (pm d c i (d 1))) (nI (d 1)) τ) _
    rw [f_X12_lostByAll_6]
    refine Wp.eq (M_rd (j := 1) (hM.of hs) i1 (by decide)) ?_
    exact Wp.t (nI_le (Nat.le_refl _) (by omega)) (Wp.ret ⟨rfl, hs⟩)
/-- the first with the most -/
def hd (d : Nat → Nat) (c : Nat) : Nat → Option (Nat × Nat)
  | 0 => none
  | i + 1 => match lba d c i with
    | none => hd d c i
    | some u => match hd d c i with
      | none => some (i, u)
      | some q => if u ≤ q.2 then some q else some (i, u)
theorem hd_b (hw : WF d) (hc : c < d 0) : ∀ {n : Nat} {q : Nat × Nat}, n ≤ d (4 + c) + 1 → hd d c n = some q → q.1 < n ∧ q.2 ≤ 100000 ∧ lba d c q.1 = some q.2 := by
  intro n
  induction n with
  | zero => intro q _ h; cases h
  | succ n ih =>
    intro q hn h
    rw [hd] at h
    cases hu : lba d c n with
    | none =>
      rw [hu] at h
      have := ih (by omega) h
      exact ⟨by omega, this.2⟩
    | some u =>
      have hb := lba_b hw (show n ≤ d (4 + c) by omega) hu
      rw [hu] at h
      cases hq : hd d c n with
      | none =>
        rw [hq] at h
        cases h
        exact ⟨by show n < n + 1; omega, hb, hu⟩
      | some p =>
        rw [hq] at h
        dsimp only at h
        by_cases e : u ≤ p.2
        · rw [if_pos e] at h
          cases h
          have := ih (by omega) hq
          exact ⟨by omega, this.2⟩
        · rw [if_neg e] at h
          cases h
          exact ⟨by show n < n + 1; omega, hb, hu⟩
theorem X_hardestLeg (h : XR d σ) (hw : WF d) (hc : c < d 0) : f_X2_hardestLeg (nI c) σ = some (xo ((hd d c (d (4 + c) + 1)).map (·.1)), σ) := by
  have h3 := hw.1
  have hl := hw.len hc
  have key : Wp (f_X2_hardestLeg_7 (nI c) gFuel (-1) (-1) (nI 0) σ) (fun r => r = (xo ((hd d c (d (4 + c) + 1)).map (·.1)), σ)) := by
    refine loop0 (F := fun f (x : Int32 × Int32) i σ => f_X2_hardestLeg_7 (nI c) f x.1 x.2 (nI i) σ) (N := d (4 + c) + 1) (I := fun i x τ => x = (xo ((hd d c i).map (·.1)), xo ((hd d c i).map (·.2))) ∧ τ = σ) (by omega)
      (fun f i x τ hi hI kk => ?_) (fun f x τ hI => ?_) (x := (-1, -1)) (σ := σ) ⟨rfl, rfl⟩
    · obtain ⟨rfl, rfl⟩ := hI
      simp only [f_X2_hardestLeg_7]
      refine Wp.eq (X_courseAt (by omega)) ?_
      refine Wp.f (show ¬ τ 8 (3 + c) 2 < nI i by rw [(h.2.2.2.2.1 c hc).1]; exact nI_nlt (by omega) (by omega)) ?_
      refine Wp.eq (X_lostByAll h hw hc (by omega)) ?_
      dsimp only
      rw [nI_1 i]
      cases hv : lba d c i with
      | none =>
        refine Wp.t ?_ ?_
        · cases hq : hd d c i with
          | none => decide
          | some q =>
            have hqb := hd_b hw hc (by omega) hq
            show (-1 : Int32) ≤ nI q.2
            rw [Int32.le_iff_toInt_le, nI_toInt (by omega)]
            show (-1 : Int) ≤ _
            omega
        · exact kk (_, _) _ ⟨by rw [hd, hv]; rfl, rfl⟩
      | some u =>
        have hub := lba_b hw (by omega) hv
        cases hq : hd d c i with
        | none =>
          refine Wp.f ?_ ?_
          · show ¬ nI u ≤ (-1 : Int32)
            rw [Int32.le_iff_toInt_le, nI_toInt (by omega)]
            show ¬ _ ≤ (-1 : Int)
            omega
          · exact kk (_, _) _ ⟨by rw [hd, hv, hq]; rfl, rfl⟩
        | some q =>
          have hqb := hd_b hw hc (by omega) hq
          by_cases e : u ≤ q.2
          · refine Wp.t (nI_le e (show q.2 < 2147483648 by omega)) ?_
            exact kk (_, _) _ ⟨by rw [hd, hv, hq]; simp only [if_pos e]; rfl, rfl⟩
          · refine Wp.f (nI_ge (show q.2 < u by omega) (by omega)) ?_
            exact kk (_, _) _ ⟨by rw [hd, hv, hq]; simp only [if_neg e]; rfl, rfl⟩
    · obtain ⟨rfl, rfl⟩ := hI
      simp only [f_X2_hardestLeg_7]
      refine Wp.eq (X_courseAt (by omega)) ?_
      exact Wp.t (show τ 8 (3 + c) 2 < nI (d (4 + c) + 1) by rw [(h.2.2.2.2.1 c hc).1]; exact nI_lt (by omega) (by omega)) (Wp.ret rfl)
  obtain ⟨r, hr1, hr2⟩ := key
  rw [hr2] at hr1
  unfold f_X2_hardestLeg
  rw [show (0 : Int32) = nI 0 from i0]
  exact hr1
theorem M_hardest44 (hM : MR d σ) (hw : WF d) (hs : Ms σ σ') (hc : c < d 0) {z : Int32} : Wp (f_X12_hardest_44 (nI c) z gFuel (-2) (-2) 0 σ') (fun r => (r.1 = if z = 0 then mo ((hd d c (d (4 + c) + 1)).map (·.1)) else mo ((hd d c (d (4 + c) + 1)).map (·.2))) ∧ Ms σ r.2) := by
  have h3 := hw.1
  have hl := hw.len hc
  refine loop0 (F := fun f (x : Int32 × Int32) i σ => f_X12_hardest_44 (nI c) z f x.1 x.2 (nI i) σ) (N := d (4 + c) + 1) (I := fun i x τ => x = (mo ((hd d c i).map (·.1)), mo ((hd d c i).map (·.2))) ∧ Ms σ τ) (by omega)
    (fun f i x τ hi hI kk => ?_) (fun f x τ hI => ?_) (x := (-2, -2)) (σ := σ') ⟨rfl, hs⟩
  · obtain ⟨rfl, hs⟩ := hI
    show Wp (f_X12_hardest_44 (nI c) z (f + 1) (mo ((hd d c i).map (·.1))) (mo ((hd d c i).map (·.2))) (nI i) τ) _
    rw [f_X12_hardest_44]
    refine Wp.eq (M_rd (j := 4 + c) (hM.of hs) (by rw [i4, nI_add]) (by omega)) ?_
    refine Wp.f (nI_nlt (by omega) (by omega)) ?_
    refine Wp.bind (M_lostByAll hM hw hs hc (by omega)) (fun q hq => ?_)
    rw [hq.1, nI_1 i]
    cases hv : lba d c i with
    | none =>
      refine Wp.t rfl ?_
      exact kk (_, _) _ ⟨by rw [hd, hv]; rfl, hq.2⟩
    | some u =>
      have := lba_b hw (by omega) hv
      refine Wp.f (nI_nm2 (show u < 2147483648 by omega)) ?_
      cases hp : hd d c i with
      | none =>
        refine Wp.t rfl ?_
        exact kk (_, _) _ ⟨by rw [hd, hv, hp]; rfl, hq.2⟩
      | some p =>
        have := hd_b hw hc (by omega) hp
        refine Wp.f (nI_nm2 (show p.1 < 2147483648 by omega)) ?_
        by_cases e : u ≤ p.2
        · refine Wp.t (nI_le e (show p.2 < 2147483648 by omega)) ?_
          exact kk (_, _) _ ⟨by rw [hd, hv, hp]; simp only [if_pos e]; rfl, hq.2⟩
        · refine Wp.f (nI_ge (show p.2 < u by omega) (by omega)) ?_
          exact kk (_, _) _ ⟨by rw [hd, hv, hp]; simp only [if_neg e]; rfl, hq.2⟩
  · obtain ⟨rfl, hs⟩ := hI
    show Wp (f_X12_hardest_44 (nI c) z (f + 1) (mo ((hd d c (d (4 + c) + 1)).map (·.1))) (mo ((hd d c (d (4 + c) + 1)).map (·.2))) (nI (d (4 + c) + 1)) τ) _
    rw [f_X12_hardest_44]
    refine Wp.eq (M_rd (j := 4 + c) (hM.of hs) (by rw [i4, nI_add]) (by omega)) ?_
    refine Wp.t (nI_lt (by omega) (by omega)) ?_
    by_cases e0 : z = 0
    · exact Wp.t e0 (Wp.ret ⟨by rw [if_pos e0], hs⟩)
    · exact Wp.f e0 (Wp.ret ⟨by rw [if_neg e0], hs⟩)
theorem S_hardest : SS2 Inv f_X11_hardest f_X12_hardest := by
  intro x z
  refine QA.ss (fun σ d hI hw hM hX => ?_)
  have h3 := hw.1
  by_cases hx : gin x (d 0) = true
  · obtain ⟨hxe, hc⟩ := gin_nI hx
    generalize x.toNatClampNeg = c at hxe hc
    subst hxe
    have hl := hw.len hc
    by_cases hz : gin z (1 + 1) = true
    · have hz' := sel_t (by decide) hz
      refine QA.yes (if z = 0 then mo ((hd d c (d (4 + c) + 1)).map (·.1)) else mo ((hd d c (d (4 + c) + 1)).map (·.2))) ?_ (fun σ2 hM2 hM3 => ?_)
      · unfold f_X11_hardest
        refine Wp.eq (X_hasCourse hX hw _) ?_
        rw [bG_t hx]
        refine Wp.f o1n0 ?_
        refine Wp.f hz'.1 ?_
        refine Wp.t (show z ≤ 1 from hz'.2) ?_
        refine Wp.eq (X_hardestLeg hX hw hc) ?_
        cases hq : hd d c (d (4 + c) + 1) with
        | none =>
          refine Wp.t rfl ?_
          refine Wp.ret ⟨?_, _, Xs.rf, rfl⟩
          by_cases e0 : z = 0
          · rw [if_pos e0]; rfl
          · rw [if_neg e0]; rfl
        | some q =>
          have hb := hd_b hw hc (Nat.le_refl _) hq
          refine Wp.f (nI_nm1 (show q.1 < 2147483648 by omega)) ?_
          by_cases e0 : z = 0
          · refine Wp.t e0 ?_
            exact Wp.ret ⟨by rw [if_pos e0]; rfl, _, Xs.rf, rfl⟩
          · refine Wp.f e0 ?_
            refine Wp.eq (X_lostByAll (i := q.1) hX hw hc (by omega)) ?_
            rw [hb.2.2]
            exact Wp.ret ⟨by rw [if_neg e0]; rfl, _, Xs.rf, rfl⟩
      · unfold f_X12_hardest f_X12_hardest_23
        refine Wp.eq (M_isCourse hM3 hw _) ?_
        rw [bG_t hx]
        refine Wp.f o1n0 ?_
        refine Wp.eq (by rw [i1]; exact M_in0 (by decide) _) ?_
        rw [bG_t hz]
        refine Wp.f o1n0 ?_
        refine Wp.eq un_1 ?_
        refine Wp.eq ref_0 ?_
        refine Wp.t rfl ?_
        exact M_hardest44 hM2 hw Ms.rf hc
    · refine QA.no 1 (by decide) ?_ (fun σ2 hM2 => ?_)
      · unfold f_X11_hardest
        rw [X_hasCourse hX hw, bG_t hx, bind_some', if_neg o1n0]
        rcases sel_f (by decide) hz with q | ⟨q1, q2⟩
        · rw [if_pos q, X_refused]; rfl
        · rw [if_neg q1, if_neg (show ¬ z ≤ 1 from q2), X_refused]; rfl
      · unfold f_X12_hardest f_X12_hardest_22 f_X12_hardest_23
        rw [M_isCourse hM2 hw, bG_t hx, bind_some', if_neg o1n0, show f_X12_in z 0 1 σ2 = some (bG z (1 + 1), σ2) from by rw [i1]; exact M_in0 (by decide) _, bG_f hz, bind_some', if_pos rfl, un_0, bind_some', ref_1, bind_some', if_neg o1n0]
  · refine QA.no 1 (by decide) ?_ (fun σ2 hM2 => ?_)
    · unfold f_X11_hardest
      rw [X_hasCourse hX hw, bG_f hx, bind_some', if_pos rfl, X_refused]
      rfl
    · unfold f_X12_hardest f_X12_hardest_22 f_X12_hardest_23
      rw [M_isCourse hM2 hw, bG_f hx, bind_some', if_pos rfl, un_0, bind_some', ref_1, bind_some', if_neg o1n0]
end PH
