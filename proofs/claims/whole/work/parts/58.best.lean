section BL
variable {d : Nat → Nat} {σ σ' : gSt} {a c i : Nat}
theorem lg_b (hw : WF d) (ha : a < d 1) (hi : i ≤ nown d a) {u : Nat} (h : lg d a i = some u) : u < 10000 := by
  have b := hw.b (57 + a)
  unfold lg at h
  cases e1 : tB d a i with
  | none => rw [e1] at h; cases h
  | some x =>
    cases e2 : tA d a i with
    | none => rw [e1, e2] at h; cases h
    | some y =>
      rw [e1, e2] at h
      cases h
      have := (tA_b hw ha e2).2
      omega
/-- of the runners of course c -/
def lf (d : Nat → Nat) (c i a : Nat) : Option Nat := if d (37 + a) = c then lg d a i else none
theorem lf_b (hw : WF d) (hi : i ≤ d (4 + c)) {j u : Nat} (hj : j < d 1) (h : lf d c i j = some u) : u < 10000 := by
  unfold lf at h
  split at h
  · next e => exact lg_b hw hj (by unfold nown; rw [e]; exact hi) h
  · cases h
theorem X_bestTime (h : XR d σ) (hw : WF d) (hc : c < d 0) (hi : i ≤ d (4 + c)) : f_X2_bestTime (nI c) (nI i) σ = some (xo (lst (lf d c i) (d 1)), σ) := by
  have hr := hw.2.1
  have h3 := hw.1
  have := loop0 (F := fun f (x : Int32) a σ => f_X2_bestTime_5 (nI c) (nI i) f x (nI a) σ) (N := d 1) (I := fun a x τ => x = xo (lst (lf d c i) a) ∧ τ = σ) (Q := fun r => r = (xo (lst (lf d c i) (d 1)), σ)) (by omega)
    (fun f a x τ ha hI kk => by
      obtain ⟨rfl, rfl⟩ := hI
      simp only [f_X2_bestTime_5]
      rw [h.2.1]
      refine Wp.f (nI_ge ha (by omega)) ?_
      refine Wp.eq (X_isOf h hw ha (by omega)) ?_
      have tail : ∀ o : Option Nat, lf d c i a = o → Wp (f_X2_bestTime_47 (nI c) (nI i) (xo (lst (lf d c i) a)) (nI a) (fun v3 v4 σ => f_X2_bestTime_5 (nI c) (nI i) f v3 v4 σ) (xo o) τ) (fun r => r = (xo (lst (lf d c i) (d 1)), τ)) := by
        intro o ho
        unfold f_X2_bestTime_47
        rw [nI_1 a]
        cases o with
        | none =>
          refine Wp.t rfl ?_
          exact kk _ _ ⟨by rw [lst, ho]; cases lst (lf d c i) a <;> rfl, rfl⟩
        | some v =>
          have hv := lf_b hw hi ha ho
          refine Wp.f (nI_nm1 (by omega)) ?_
          cases hl : lst (lf d c i) a with
          | none =>
            refine Wp.t rfl ?_
            exact kk _ _ ⟨by rw [lst, ho, hl], rfl⟩
          | some z =>
            have hz := lst_b (fun j u hj hu => lf_b hw hi (show j < d 1 by omega) hu) hl
            refine Wp.f (nI_nm1 (by omega)) ?_
            by_cases hle : z ≤ v
            · refine Wp.t (nI_le hle (by omega)) ?_
              exact kk _ _ ⟨by rw [lst, ho, hl]; simp [show ¬ v < z by omega], rfl⟩
            · refine Wp.f (nI_ge (by omega) (by omega)) ?_
              exact kk _ _ ⟨by rw [lst, ho, hl]; simp [show v < z by omega], rfl⟩
      by_cases e : d (37 + a) = c
      · rw [if_pos e]
        refine Wp.f o1n0 ?_
        refine Wp.eq (X_runnerAt (by omega)) ?_
        refine Wp.eq (X_legTime h hw ha (by unfold nown; rw [e]; exact hi)) ?_
        exact tail _ (by unfold lf; rw [if_pos e])
      · rw [if_neg e]
        refine Wp.t rfl ?_
        exact tail none (by unfold lf; rw [if_neg e]))
    (fun f x τ hI => by
      obtain ⟨rfl, rfl⟩ := hI
      simp only [f_X2_bestTime_5]
      rw [h.2.1]
      exact Wp.t (nI_le (Nat.le_refl _) (by omega)) (Wp.ret rfl)) (x := -1) (σ := σ) ⟨rfl, rfl⟩
  obtain ⟨r, hr1, rfl⟩ := this
  exact hr1
theorem X_bestRunner (h : XR d σ) (hw : WF d) (hc : c < d 0) (hi : i ≤ d (4 + c)) : f_X2_bestRunner (nI c) (nI i) σ = some (xo (am (lf d c i) (d 1)), σ) := by
  have hr := hw.2.1
  have h3 := hw.1
  unfold f_X2_bestRunner
  rw [X_bestTime h hw hc hi, bind_some']
  have hsp := am_spec (lf d c i) (d 1)
  have := loop0 (F := fun f (_ : Unit) a σ => f_X2_bestRunner_10 (nI c) (nI i) (xo (lst (lf d c i) (d 1))) f (nI a) σ) (N := d 1) (I := fun a _ τ => τ = σ ∧ ∀ z v, z < a → lst (lf d c i) (d 1) = some v → lf d c i z ≠ some v) (Q := fun r => r = (xo (am (lf d c i) (d 1)), σ)) (by omega)
    (fun f a x τ ha hI kk => by
      obtain ⟨rfl, hI⟩ := hI
      simp only [f_X2_bestRunner_10]
      rw [h.2.1]
      refine Wp.f (nI_ge ha (by omega)) ?_
      rw [nI_1 a]
      cases hl : lst (lf d c i) (d 1) with
      | none =>
        refine Wp.t rfl ?_
        have := kk () τ ⟨rfl, fun z v _ hv => by rw [hl] at hv; cases hv⟩
        rw [hl] at this
        exact this
      | some v =>
        have hv := lst_b (fun j u hj hu => lf_b hw hi hj hu) hl
        rw [hl] at hsp
        have on : lf d c i a ≠ some v → Wp (f_X2_bestRunner_10 (nI c) (nI i) (xo (some v)) f (nI (a + 1)) τ) (fun r => r = (xo (am (lf d c i) (d 1)), τ)) := by
          intro hne
          have := kk () τ ⟨rfl, fun z u hz hu => by
            rw [hl] at hu
            by_cases e : z = a
            · subst e; intro q; rw [q] at hne; exact hne hu.symm
            · exact hI z u (by omega) (by rw [hl]; exact hu)⟩
          rw [hl] at this
          exact this
        refine Wp.f (nI_nm1 (by omega)) ?_
        refine Wp.eq (X_isOf h hw ha (by omega)) ?_
        by_cases e : d (37 + a) = c
        · have hfa : lf d c i a = lg d a i := by unfold lf; rw [if_pos e]
          rw [if_pos e]
          refine Wp.f o1n0 ?_
          refine Wp.eq (X_runnerAt (by omega)) ?_
          refine Wp.eq (X_legTime h hw ha (by unfold nown; rw [e]; exact hi)) ?_
          dsimp only
          cases hg : lg d a i with
          | none =>
            refine Wp.f (fun q => nI_nm1 (show v < 2147483648 by omega) q.symm) ?_
            exact on (by rw [hfa, hg]; exact fun q => by cases q)
          | some z =>
            have hz := lf_b hw hi ha (hfa.trans hg)
            by_cases hzv : z = v
            · refine Wp.t (by rw [hzv]) ?_
              refine Wp.ret ?_
              cases ham : am (lf d c i) (d 1) with
              | none =>
                rw [ham] at hsp
                obtain ⟨q1, -⟩ := hsp
                cases q1
              | some j =>
                rw [ham] at hsp
                obtain ⟨s1, y, s2, s3, s4, s5⟩ := hsp
                cases s3
                have : j = a := by
                  rcases Nat.lt_trichotomy j a with q | q | q
                  · exact absurd s2 (hI j v q hl)
                  · exact q
                  · have := s5 a z q (hfa.trans hg)
                    omega
                rw [this]
                rfl
            · refine Wp.f (nI_ne (by omega) (by omega) hzv) ?_
              exact on (by rw [hfa, hg]; exact fun q => hzv (Option.some.inj q))
        · rw [if_neg e]
          refine Wp.t rfl ?_
          exact on (by unfold lf; rw [if_neg e]; exact fun q => by cases q))
    (fun f x τ hI => by
      obtain ⟨rfl, hI⟩ := hI
      simp only [f_X2_bestRunner_10]
      rw [h.2.1]
      refine Wp.t (nI_le (Nat.le_refl _) (by omega)) (Wp.ret ?_)
      cases ham : am (lf d c i) (d 1) with
      | none => rfl
      | some j =>
        rw [ham] at hsp
        obtain ⟨s1, y, s2, s3, -⟩ := hsp
        exact absurd s2 (hI j y s1 s3)) (x := ()) (σ := σ) ⟨rfl, fun z v hz => by omega⟩
  obtain ⟨r, hr1, rfl⟩ := this
  exact hr1
theorem M_bestRunnerL (hM : MR d σ) (hw : WF d) (hs : Ms σ σ') (hc : c < d 0) (hi : i ≤ d (4 + c)) : Wp (f_X12_bestRunner (nI c) (nI i) 1 σ') (fun r => r.1 = mo (am (lf d c i) (d 1)) ∧ Ms σ r.2) := by
  have hr := hw.2.1
  have h3 := hw.1
  refine loop0 (F := fun f (x : Int32 × Int32) a σ => f_X12_bestRunner_10 (nI c) (nI i) 1 f x.1 x.2 (nI a) σ) (N := d 1) (I := fun a x τ => x.1 = mo (am (lf d c i) a) ∧ (∀ j v, am (lf d c i) a = some j → lf d c i j = some v → x.2 = nI v) ∧ Ms σ τ) (by omega)
    (fun f a x τ ha hI kk => ?_) (fun f x τ hI => ?_) (x := (-2, 0)) (σ := σ') ⟨rfl, (fun j v h => nomatch h), hs⟩
  · obtain ⟨x1, x2⟩ := x
    obtain ⟨e1, e2, hs⟩ := hI
    dsimp only at e1 e2
    have b := hw.b (37 + a)
    show Wp (f_X12_bestRunner_10 (nI c) (nI i) 1 (f + 1) x1 x2 (nI a) τ) _
    rw [f_X12_bestRunner_10]
    refine Wp.eq (M_rd (j := 1) (hM.of hs) i1 (by decide)) ?_
    refine Wp.f (nI_ge ha (by omega)) ?_
    refine Wp.eq (M_rd (j := 37 + a) (hM.of hs) (by rw [i37, nI_add]) (by omega)) ?_
    have hsp := am_spec (lf d c i) a
    have tail : ∀ (o : Option Nat) (τ : gSt), lf d c i a = o → Ms σ τ → Wp (f_X12_bestRunner_61 (nI c) (nI i) 1 x1 x2 (nI a) (fun v4 v5 v6 σ => f_X12_bestRunner_10 (nI c) (nI i) 1 f v4 v5 v6 σ) (mo o) τ) (fun r => r.1 = mo (am (lf d c i) (d 1)) ∧ Ms σ r.2) := by
      intro o τ ho hs
      unfold f_X12_bestRunner_61
      rw [nI_1 a]
      cases o with
      | none =>
        refine Wp.t rfl ?_
        have hn : am (lf d c i) (a + 1) = am (lf d c i) a := by rw [am, ho]; cases am (lf d c i) a <;> rfl
        exact kk (x1, x2) τ ⟨by rw [hn]; exact e1, fun j v hj => e2 j v (by rw [← hn]; exact hj), hs⟩
      | some v =>
        have hv := lf_b hw hi ha ho
        refine Wp.f (nI_nm2 (by omega)) ?_
        cases ham : am (lf d c i) a with
        | none =>
          rw [ham] at e1
          have hn : am (lf d c i) (a + 1) = some a := by rw [am, ho, ham]
          refine Wp.t e1 ?_
          exact kk (nI a, nI v) τ ⟨by rw [hn]; rfl, fun j u hj hu => by rw [hn] at hj; cases hj; rw [ho] at hu; cases hu; rfl, hs⟩
        | some j =>
          rw [ham] at hsp e1 e2
          obtain ⟨s1, y, s2, s3, s4, s5⟩ := hsp
          have hy := lf_b hw hi (show j < d 1 by omega) s2
          have ex := e2 j y rfl s2
          refine Wp.f (by rw [e1]; exact nI_nm2 (by omega)) ?_
          rw [ex]
          by_cases hle : y ≤ v
          · have hn : am (lf d c i) (a + 1) = some j := by rw [am, ho, ham]; simp [s2, show ¬ v < y by omega]
            refine Wp.t (nI_le hle (by omega)) ?_
            exact kk (x1, nI y) τ ⟨by rw [hn]; exact e1, fun j' u hj hu => by rw [hn] at hj; cases hj; rw [s2] at hu; cases hu; rfl, hs⟩
          · have hn : am (lf d c i) (a + 1) = some a := by rw [am, ho, ham]; simp [s2, show v < y by omega]
            refine Wp.f (nI_ge (by omega) (by omega)) ?_
            exact kk (nI a, nI v) τ ⟨by rw [hn]; rfl, fun j' u hj hu => by rw [hn] at hj; cases hj; rw [ho] at hu; cases hu; rfl, hs⟩
    by_cases e : d (37 + a) = c
    · refine Wp.t (by rw [e]) ?_
      refine Wp.f o1n0 ?_
      refine Wp.bind (M_legOf hM hw hs ha (show i ≤ nown d a by unfold nown; rw [e]; exact hi)) (fun q hq => ?_)
      rw [hq.1]
      exact tail _ _ (by unfold lf; rw [if_pos e]) hq.2
    · refine Wp.f (nI_ne (by omega) (by omega) e) ?_
      exact tail none _ (by unfold lf; rw [if_neg e]) hs
  · obtain ⟨e1, -, hs⟩ := hI
    show Wp (f_X12_bestRunner_10 (nI c) (nI i) 1 (f + 1) x.1 x.2 (nI (d 1)) τ) _
    rw [f_X12_bestRunner_10]
    refine Wp.eq (M_rd (j := 1) (hM.of hs) i1 (by decide)) ?_
    exact Wp.t (nI_le (Nat.le_refl _) (by omega)) (Wp.ret ⟨e1, hs⟩)
theorem sp_b (hw : WF d) (ha : a < d 1) (hi : i ≤ nown d a) {u : Nat} (h : sp d a i = some u) : u < 10000 := by
  have b := hw.b (57 + a)
  unfold sp at h
  obtain ⟨y, h1, h2⟩ := Option.map_eq_some_iff.mp h
  have := (tA_b hw ha h1).2
  omega
/-- of the runners of course c -/
def sf (d : Nat → Nat) (c i a : Nat) : Option Nat := if d (37 + a) = c then sp d a i else none
theorem sf_b (hw : WF d) (hi : i ≤ d (4 + c)) {j u : Nat} (hj : j < d 1) (h : sf d c i j = some u) : u < 10000 := by
  unfold sf at h
  split at h
  · next e => exact sp_b hw hj (by unfold nown; rw [e]; exact hi) h
  · cases h
theorem X_leastSplit (h : XR d σ) (hw : WF d) (hc : c < d 0) (hi : i ≤ d (4 + c)) : f_X2_leastSplit (nI c) (nI i) σ = some (xo (lst (sf d c i) (d 1)), σ) := by
  have hr := hw.2.1
  have h3 := hw.1
  have := loop0 (F := fun f (x : Int32) a σ => f_X2_leastSplit_5 (nI c) (nI i) f x (nI a) σ) (N := d 1) (I := fun a x τ => x = xo (lst (sf d c i) a) ∧ τ = σ) (Q := fun r => r = (xo (lst (sf d c i) (d 1)), σ)) (by omega)
    (fun f a x τ ha hI kk => by
      obtain ⟨rfl, rfl⟩ := hI
      simp only [f_X2_leastSplit_5]
      rw [h.2.1]
      refine Wp.f (nI_ge ha (by omega)) ?_
      refine Wp.eq (X_isOf h hw ha (by omega)) ?_
      have tail : ∀ o : Option Nat, sf d c i a = o → Wp (f_X2_leastSplit_47 (nI c) (nI i) (xo (lst (sf d c i) a)) (nI a) (fun v3 v4 σ => f_X2_leastSplit_5 (nI c) (nI i) f v3 v4 σ) (xo o) τ) (fun r => r = (xo (lst (sf d c i) (d 1)), τ)) := by
        intro o ho
        unfold f_X2_leastSplit_47
        rw [nI_1 a]
        cases o with
        | none =>
          refine Wp.t rfl ?_
          exact kk _ _ ⟨by rw [lst, ho]; cases lst (sf d c i) a <;> rfl, rfl⟩
        | some v =>
          have hv := sf_b hw hi ha ho
          refine Wp.f (nI_nm1 (by omega)) ?_
          cases hl : lst (sf d c i) a with
          | none =>
            refine Wp.t rfl ?_
            exact kk _ _ ⟨by rw [lst, ho, hl], rfl⟩
          | some z =>
            have hz := lst_b (fun j u hj hu => sf_b hw hi (show j < d 1 by omega) hu) hl
            refine Wp.f (nI_nm1 (by omega)) ?_
            by_cases hle : z ≤ v
            · refine Wp.t (nI_le hle (by omega)) ?_
              exact kk _ _ ⟨by rw [lst, ho, hl]; simp [show ¬ v < z by omega], rfl⟩
            · refine Wp.f (nI_ge (by omega) (by omega)) ?_
              exact kk _ _ ⟨by rw [lst, ho, hl]; simp [show v < z by omega], rfl⟩
      by_cases e : d (37 + a) = c
      · rw [if_pos e]
        refine Wp.f o1n0 ?_
        refine Wp.eq (X_runnerAt (by omega)) ?_
        refine Wp.eq (X_splitAt h hw ha (by unfold nown; rw [e]; exact hi)) ?_
        exact tail _ (by unfold sf; rw [if_pos e])
      · rw [if_neg e]
        refine Wp.t rfl ?_
        exact tail none (by unfold sf; rw [if_neg e]))
    (fun f x τ hI => by
      obtain ⟨rfl, rfl⟩ := hI
      simp only [f_X2_leastSplit_5]
      rw [h.2.1]
      exact Wp.t (nI_le (Nat.le_refl _) (by omega)) (Wp.ret rfl)) (x := -1) (σ := σ) ⟨rfl, rfl⟩
  obtain ⟨r, hr1, rfl⟩ := this
  exact hr1
theorem X_leader (h : XR d σ) (hw : WF d) (hc : c < d 0) (hi : i ≤ d (4 + c)) : f_X2_leader (nI c) (nI i) σ = some (xo (am (sf d c i) (d 1)), σ) := by
  have hr := hw.2.1
  have h3 := hw.1
  unfold f_X2_leader
  rw [X_leastSplit h hw hc hi, bind_some']
  have hsp := am_spec (sf d c i) (d 1)
  have := loop0 (F := fun f (_ : Unit) a σ => f_X2_leader_10 (nI c) (nI i) (xo (lst (sf d c i) (d 1))) f (nI a) σ) (N := d 1) (I := fun a _ τ => τ = σ ∧ ∀ z v, z < a → lst (sf d c i) (d 1) = some v → sf d c i z ≠ some v) (Q := fun r => r = (xo (am (sf d c i) (d 1)), σ)) (by omega)
    (fun f a x τ ha hI kk => by
      obtain ⟨rfl, hI⟩ := hI
      simp only [f_X2_leader_10]
      rw [h.2.1]
      refine Wp.f (nI_ge ha (by omega)) ?_
      rw [nI_1 a]
      cases hl : lst (sf d c i) (d 1) with
      | none =>
        refine Wp.t rfl ?_
        have := kk () τ ⟨rfl, fun z v _ hv => by rw [hl] at hv; cases hv⟩
        rw [hl] at this
        exact this
      | some v =>
        have hv := lst_b (fun j u hj hu => sf_b hw hi hj hu) hl
        rw [hl] at hsp
        have on : sf d c i a ≠ some v → Wp (f_X2_leader_10 (nI c) (nI i) (xo (some v)) f (nI (a + 1)) τ) (fun r => r = (xo (am (sf d c i) (d 1)), τ)) := by
          intro hne
          have := kk () τ ⟨rfl, fun z u hz hu => by
            rw [hl] at hu
            by_cases e : z = a
            · subst e; intro q; rw [q] at hne; exact hne hu.symm
            · exact hI z u (by omega) (by rw [hl]; exact hu)⟩
          rw [hl] at this
          exact this
        refine Wp.f (nI_nm1 (by omega)) ?_
        refine Wp.eq (X_isOf h hw ha (by omega)) ?_
        by_cases e : d (37 + a) = c
        · have hfa : sf d c i a = sp d a i := by unfold sf; rw [if_pos e]
          rw [if_pos e]
          refine Wp.f o1n0 ?_
          refine Wp.eq (X_runnerAt (by omega)) ?_
          refine Wp.eq (X_splitAt h hw ha (by unfold nown; rw [e]; exact hi)) ?_
          dsimp only
          cases hg : sp d a i with
          | none =>
            refine Wp.f (fun q => nI_nm1 (show v < 2147483648 by omega) q.symm) ?_
            exact on (by rw [hfa, hg]; exact fun q => by cases q)
          | some z =>
            have hz := sf_b hw hi ha (hfa.trans hg)
            by_cases hzv : z = v
            · refine Wp.t (by rw [hzv]) ?_
              refine Wp.ret ?_
              cases ham : am (sf d c i) (d 1) with
              | none =>
                rw [ham] at hsp
                obtain ⟨q1, -⟩ := hsp
                cases q1
              | some j =>
                rw [ham] at hsp
                obtain ⟨s1, y, s2, s3, s4, s5⟩ := hsp
                cases s3
                have : j = a := by
                  rcases Nat.lt_trichotomy j a with q | q | q
                  · exact absurd s2 (hI j v q hl)
                  · exact q
                  · have := s5 a z q (hfa.trans hg)
                    omega
                rw [this]
                rfl
            · refine Wp.f (nI_ne (by omega) (by omega) hzv) ?_
              exact on (by rw [hfa, hg]; exact fun q => hzv (Option.some.inj q))
        · rw [if_neg e]
          refine Wp.t rfl ?_
          exact on (by unfold sf; rw [if_neg e]; exact fun q => by cases q))
    (fun f x τ hI => by
      obtain ⟨rfl, hI⟩ := hI
      simp only [f_X2_leader_10]
      rw [h.2.1]
      refine Wp.t (nI_le (Nat.le_refl _) (by omega)) (Wp.ret ?_)
      cases ham : am (sf d c i) (d 1) with
      | none => rfl
      | some j =>
        rw [ham] at hsp
        obtain ⟨s1, y, s2, s3, -⟩ := hsp
        exact absurd s2 (hI j y s1 s3)) (x := ()) (σ := σ) ⟨rfl, fun z v hz => by omega⟩
  obtain ⟨r, hr1, rfl⟩ := this
  exact hr1
theorem M_bestRunnerS (hM : MR d σ) (hw : WF d) (hs : Ms σ σ') (hc : c < d 0) (hi : i ≤ d (4 + c)) : Wp (f_X12_bestRunner (nI c) (nI i) 0 σ') (fun r => r.1 = mo (am (sf d c i) (d 1)) ∧ Ms σ r.2) := by
  have hr := hw.2.1
  have h3 := hw.1
  refine loop0 (F := fun f (x : Int32 × Int32) a σ => f_X12_bestRunner_10 (nI c) (nI i) 0 f x.1 x.2 (nI a) σ) (N := d 1) (I := fun a x τ => x.1 = mo (am (sf d c i) a) ∧ (∀ j v, am (sf d c i) a = some j → sf d c i j = some v → x.2 = nI v) ∧ Ms σ τ) (by omega)
    (fun f a x τ ha hI kk => ?_) (fun f x τ hI => ?_) (x := (-2, 0)) (σ := σ') ⟨rfl, (fun j v h => nomatch h), hs⟩
  · obtain ⟨x1, x2⟩ := x
    obtain ⟨e1, e2, hs⟩ := hI
    dsimp only at e1 e2
    have b := hw.b (37 + a)
    show Wp (f_X12_bestRunner_10 (nI c) (nI i) 0 (f + 1) x1 x2 (nI a) τ) _
    rw [f_X12_bestRunner_10]
    refine Wp.eq (M_rd (j := 1) (hM.of hs) i1 (by decide)) ?_
    refine Wp.f (nI_ge ha (by omega)) ?_
    refine Wp.eq (M_rd (j := 37 + a) (hM.of hs) (by rw [i37, nI_add]) (by omega)) ?_
    have hsp := am_spec (sf d c i) a
    have tail : ∀ (o : Option Nat) (τ : gSt), sf d c i a = o → Ms σ τ → Wp (f_X12_bestRunner_61 (nI c) (nI i) 0 x1 x2 (nI a) (fun v4 v5 v6 σ => f_X12_bestRunner_10 (nI c) (nI i) 0 f v4 v5 v6 σ) (mo o) τ) (fun r => r.1 = mo (am (sf d c i) (d 1)) ∧ Ms σ r.2) := by
      intro o τ ho hs
      unfold f_X12_bestRunner_61
      rw [nI_1 a]
      cases o with
      | none =>
        refine Wp.t rfl ?_
        have hn : am (sf d c i) (a + 1) = am (sf d c i) a := by rw [am, ho]; cases am (sf d c i) a <;> rfl
        exact kk (x1, x2) τ ⟨by rw [hn]; exact e1, fun j v hj => e2 j v (by rw [← hn]; exact hj), hs⟩
      | some v =>
        have hv := sf_b hw hi ha ho
        refine Wp.f (nI_nm2 (by omega)) ?_
        cases ham : am (sf d c i) a with
        | none =>
          rw [ham] at e1
          have hn : am (sf d c i) (a + 1) = some a := by rw [am, ho, ham]
          refine Wp.t e1 ?_
          exact kk (nI a, nI v) τ ⟨by rw [hn]; rfl, fun j u hj hu => by rw [hn] at hj; cases hj; rw [ho] at hu; cases hu; rfl, hs⟩
        | some j =>
          rw [ham] at hsp e1 e2
          obtain ⟨s1, y, s2, s3, s4, s5⟩ := hsp
          have hy := sf_b hw hi (show j < d 1 by omega) s2
          have ex := e2 j y rfl s2
          refine Wp.f (by rw [e1]; exact nI_nm2 (by omega)) ?_
          rw [ex]
          by_cases hle : y ≤ v
          · have hn : am (sf d c i) (a + 1) = some j := by rw [am, ho, ham]; simp [s2, show ¬ v < y by omega]
            refine Wp.t (nI_le hle (by omega)) ?_
            exact kk (x1, nI y) τ ⟨by rw [hn]; exact e1, fun j' u hj hu => by rw [hn] at hj; cases hj; rw [s2] at hu; cases hu; rfl, hs⟩
          · have hn : am (sf d c i) (a + 1) = some a := by rw [am, ho, ham]; simp [s2, show v < y by omega]
            refine Wp.f (nI_ge (by omega) (by omega)) ?_
            exact kk (nI a, nI v) τ ⟨by rw [hn]; rfl, fun j' u hj hu => by rw [hn] at hj; cases hj; rw [ho] at hu; cases hu; rfl, hs⟩
    by_cases e : d (37 + a) = c
    · refine Wp.t (by rw [e]) ?_
      refine Wp.t rfl ?_
      refine Wp.bind (M_splitOf hM hw hs ha (show i ≤ nown d a by unfold nown; rw [e]; exact hi)) (fun q hq => ?_)
      rw [hq.1]
      exact tail _ _ (by unfold sf; rw [if_pos e]) hq.2
    · refine Wp.f (nI_ne (by omega) (by omega) e) ?_
      exact tail none _ (by unfold sf; rw [if_neg e]) hs
  · obtain ⟨e1, -, hs⟩ := hI
    show Wp (f_X12_bestRunner_10 (nI c) (nI i) 0 (f + 1) x.1 x.2 (nI (d 1)) τ) _
    rw [f_X12_bestRunner_10]
    refine Wp.eq (M_rd (j := 1) (hM.of hs) i1 (by decide)) ?_
    exact Wp.t (nI_le (Nat.le_refl _) (by omega)) (Wp.ret ⟨e1, hs⟩)
/-- the best of a leg -/
theorem M_bestLeg (hM : MR d σ) (hw : WF d) (hs : Ms σ σ') (hc : c < d 0) (hi : i ≤ d (4 + c)) : Wp (f_X12_bestLeg (nI c) (nI i) σ') (fun r => r.1 = mo (lst (lf d c i) (d 1)) ∧ Ms σ r.2) := by
  have hr := hw.2.1
  unfold f_X12_bestLeg
  refine Wp.bind (M_bestRunnerL hM hw hs hc hi) (fun q hq => ?_)
  rw [hq.1]
  have hsp := am_spec (lf d c i) (d 1)
  cases ham : am (lf d c i) (d 1) with
  | none =>
    rw [ham] at hsp
    obtain ⟨q1, -⟩ := hsp
    refine Wp.t rfl (Wp.ret ⟨by rw [q1]; rfl, hq.2⟩)
  | some j =>
    rw [ham] at hsp
    obtain ⟨s1, y, s2, s3, -⟩ := hsp
    refine Wp.f (nI_nm2 (by omega)) ?_
    have ej : d (37 + j) = c := by
      unfold lf at s2
      split at s2
      · next e => exact e
      · cases s2
    have hg : lg d j i = some y := by unfold lf at s2; rw [if_pos ej] at s2; exact s2
    refine Wp.bind (M_legOf hM hw hq.2 s1 (show i ≤ nown d j by unfold nown; rw [ej]; exact hi)) (fun q2 h2 => ?_)
    exact Wp.ret ⟨by rw [h2.1, hg, s3], h2.2⟩
end BL
