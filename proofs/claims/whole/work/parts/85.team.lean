/-! team, mate, passes -/
section PT
variable {d : Nat → Nat} {σ σ' : gSt} {a b c i : Nat}
/-- the lesser leg of two -/
def tm (d : Nat → Nat) (a b i : Nat) : Option Nat := match lg d a i, lg d b i with
  | none, none => none
  | some x, none => some x
  | none, some y => some y
  | some x, some y => some (if x < y then x else y)
def tms (d : Nat → Nat) (a b : Nat) : Nat → Option Nat
  | 0 => some 0
  | i + 1 => match tms d a b i, tm d a b i with
    | some s, some v => some (s + v)
    | _, _ => none
theorem tm_b (hw : WF d) (ha : a < d 1) (hb : b < d 1) (hi : i ≤ nown d a) (hi2 : i ≤ nown d b) {u : Nat} (h : tm d a b i = some u) : u < 10000 := by
  unfold tm at h
  cases e1 : lg d a i with
  | none =>
    cases e2 : lg d b i with
    | none => rw [e1, e2] at h; cases h
    | some y => rw [e1, e2] at h; cases h; exact lg_b hw hb hi2 e2
  | some x =>
    have h1 := lg_b hw ha hi e1
    cases e2 : lg d b i with
    | none => rw [e1, e2] at h; cases h; exact h1
    | some y =>
      have h2 := lg_b hw hb hi2 e2
      rw [e1, e2] at h
      have e3 : (if x < y then x else y) = u := Option.some.inj h
      rw [← e3]
      split
      · exact h1
      · exact h2
theorem tms_none : ∀ m n, tm d a b n = none → tms d a b (n + 1 + m) = none := by
  intro m n h
  induction m with
  | zero => show tms d a b (n + 1) = none; rw [tms, h]; cases tms d a b n <;> rfl
  | succ m ih => show tms d a b (n + 1 + m + 1) = none; rw [tms, ih]
theorem tms_b (hw : WF d) (ha : a < d 1) (hb : b < d 1) (hab : nown d b = nown d a) : ∀ {n u : Nat}, n ≤ nown d a + 1 → tms d a b n = some u → u ≤ n * 10000 := by
  intro n
  induction n with
  | zero => intro u _ h; cases h; exact Nat.zero_le _
  | succ n ih =>
    intro u hn h
    rw [tms] at h
    rw [Nat.succ_mul]
    cases e1 : tms d a b n with
    | none => rw [e1] at h; cases h
    | some s =>
      cases e2 : tm d a b n with
      | none => rw [e1, e2] at h; cases h
      | some v =>
        rw [e1, e2] at h
        have e3 : s + v = u := Option.some.inj h
        rw [← e3]
        exact Nat.add_le_add (ih (by omega) e1) (Nat.le_of_lt (tm_b hw ha hb (by omega) (by omega) e2))
theorem tms_bb (hw : WF d) (ha : a < d 1) (hb : b < d 1) (hab : nown d b = nown d a) {n u : Nat} (hn : n ≤ nown d a + 1) (h : tms d a b n = some u) : u < 1000000 := by
  have ho := hw.own ha
  have h1 := tms_b hw ha hb hab hn h
  have h2 : n * 10000 ≤ 11 * 10000 := Nat.mul_le_mul_right _ (by omega)
  omega
theorem gmn_n {x y : Nat} (hx : x < 2147483648) (hy : y < 2147483648) : gmn (nI x) (nI y) = nI (if x < y then x else y) := by
  unfold gmn
  by_cases e : y < x
  · rw [if_pos (nI_lt e hx), if_neg (by omega)]
  · rw [if_neg (nI_nlt (by omega) (by omega))]
    by_cases e2 : x < y
    · rw [if_pos e2]
    · rw [if_neg e2, show x = y by omega]
theorem X_lesser (hw : WF d) (ha : a < d 1) (hb : b < d 1) (hi : i ≤ nown d a) (hi2 : i ≤ nown d b) : f_X7_lesser (xo (lg d a i)) (xo (lg d b i)) σ = some (xo (tm d a b i), σ) := by
  have m1 : ∀ y : Nat, y < 2147483648 → gmx (-1) (nI y) = nI y := fun y hy => by
    unfold gmx
    rw [if_pos]
    rw [Int32.lt_iff_toInt_lt, nI_toInt (by omega)]
    show (-1 : Int) < _
    omega
  have m2 : ∀ y : Nat, y < 2147483648 → gmx (nI y) (-1) = nI y := fun y hy => by
    unfold gmx
    rw [if_neg]
    rw [Int32.lt_iff_toInt_lt, nI_toInt (by omega)]
    show ¬ _ < (-1 : Int)
    omega
  unfold f_X7_lesser tm
  cases e1 : lg d a i with
  | none =>
    cases e2 : lg d b i with
    | none => rfl
    | some y =>
      have h2 := lg_b hw hb hi2 e2
      refine (if_pos rfl).trans ?_
      show some (gmx (-1) (nI y), σ) = some (nI y, σ)
      rw [m1 y (by omega)]
  | some x =>
    have h1 := lg_b hw ha hi e1
    refine (if_neg (nI_nm1 (show x < 2147483648 by omega))).trans ?_
    cases e2 : lg d b i with
    | none =>
      refine (if_pos rfl).trans ?_
      show some (gmx (nI x) (-1), σ) = some (nI x, σ)
      rw [m2 x (by omega)]
    | some y =>
      have h2 := lg_b hw hb hi2 e2
      refine (if_neg (nI_nm1 (show y < 2147483648 by omega))).trans ?_
      show some (gmn (nI x) (nI y), σ) = some (nI _, σ)
      rw [gmn_n (by omega) (by omega)]
theorem X_teamTime (h : XR d σ) (hw : WF d) (ha : a < d 1) (hb : b < d 1) (hab : nown d b = nown d a) : f_X7_teamTime (10 + a) (10 + b) σ = some (xo (tms d a b (nown d a + 1)), σ) := by
  have ho := hw.own ha
  have key : Wp (f_X7_teamTime_5 (10 + a) (10 + b) gFuel (nI 0) (nI 0) σ) (fun r => r = (xo (tms d a b (nown d a + 1)), σ)) := by
    refine loop0 (F := fun f (x : Int32) i σ => f_X7_teamTime_5 (10 + a) (10 + b) f x (nI i) σ) (N := nown d a + 1) (I := fun i x τ => (∃ s, tms d a b i = some s ∧ x = nI s) ∧ τ = σ) (by omega)
      (fun f i x τ hi hI kk => ?_) (fun f x τ hI => ?_) (x := nI 0) (σ := σ) ⟨⟨0, rfl, rfl⟩, rfl⟩
    · obtain ⟨⟨s, hs, rfl⟩, rfl⟩ := hI
      simp only [f_X7_teamTime_5]
      rw [(h.2.2.2.2.2 a ha).2.2.2.2.1]
      refine Wp.f (nI_nlt (by omega) (by omega)) ?_
      refine Wp.eq (X_legTime h hw ha (by omega)) ?_
      refine Wp.eq (X_legTime h hw hb (by omega)) ?_
      refine Wp.eq (X_lesser hw ha hb (by omega) (by omega)) ?_
      dsimp only
      rw [nI_1 i]
      cases e : tm d a b i with
      | none =>
        refine Wp.t rfl ?_
        have := tms_none (d := d) (a := a) (b := b) (nown d a - i) i e
        rw [show i + 1 + (nown d a - i) = nown d a + 1 by omega] at this
        rw [this]
        exact Wp.ret rfl
      | some v =>
        have := tm_b hw ha hb (show i ≤ nown d a by omega) (by omega) e
        refine Wp.f (nI_nm1 (show v < 2147483648 by omega)) ?_
        exact kk _ _ ⟨⟨s + v, by rw [tms, hs, e], nI_add _ _⟩, rfl⟩
    · obtain ⟨⟨s, hs, rfl⟩, rfl⟩ := hI
      simp only [f_X7_teamTime_5]
      rw [(h.2.2.2.2.2 a ha).2.2.2.2.1]
      exact Wp.t (nI_lt (by omega) (by omega)) (Wp.ret (by rw [hs]; rfl))
  obtain ⟨r, hr1, hr2⟩ := key
  rw [hr2] at hr1
  exact hr1
theorem M_teamOf (hM : MR d σ) (hw : WF d) (hs : Ms σ σ') (ha : a < d 1) (hb : b < d 1) (hab : nown d b = nown d a) : Wp (f_X12_teamOf (nI a) (nI b) σ') (fun r => r.1 = mo (tms d a b (nown d a + 1)) ∧ Ms σ r.2) := by
  have ho := hw.own ha
  have hr := hw.2.1
  have h3 := hw.1
  have hru := hw.run ha
  have hon : nown d a = d (4 + d (37 + a)) := rfl
  refine loop0 (F := fun f (x : Int32) i σ => f_X12_teamOf_5 (nI a) (nI b) f x (nI i) σ) (N := nown d a + 1) (I := fun i x τ => (∃ s, tms d a b i = some s ∧ x = nI s) ∧ Ms σ τ) (by omega)
    (fun f i x τ hi hI kk => ?_) (fun f x τ hI => ?_) (x := 0) (σ := σ') ⟨⟨0, rfl, rfl⟩, hs⟩
  · obtain ⟨⟨s, hts, rfl⟩, hs⟩ := hI
    show Wp (f_X12_teamOf_5 (nI a) (nI b) (f + 1) (nI s) (nI i) τ) _
    rw [f_X12_teamOf_5]
    refine Wp.eq (M_rd (j := 37 + a) (hM.of hs) (by rw [i37, nI_add]) (by omega)) ?_
    refine Wp.eq (M_rd (j := 4 + d (37 + a)) (hM.of hs) (by rw [i4, nI_add]) (by omega)) ?_
    refine Wp.f (nI_nlt (by omega) (by omega)) ?_
    refine Wp.bind (M_legOf hM hw hs ha (by omega)) (fun q hq => ?_)
    refine Wp.bind (M_legOf hM hw hq.2 hb (by omega)) (fun p hp => ?_)
    unfold f_X12_teamOf_61
    rw [hq.1, hp.1, nI_1 i]
    have yes : ∀ v, tm d a b i = some v → Wp (f_X12_teamOf_5 (nI a) (nI b) f (nI s + nI v) (nI (i + 1)) p.2) (fun r => r.1 = mo (tms d a b (nown d a + 1)) ∧ Ms σ r.2) := fun v e => kk _ _ ⟨⟨s + v, by rw [tms, hts, e], nI_add _ _⟩, hp.2⟩
    cases e1 : lg d a i with
    | none =>
      refine Wp.t rfl ?_
      cases e2 : lg d b i with
      | none =>
        refine Wp.t rfl ?_
        have e : tm d a b i = none := by rw [tm, e1, e2]
        have := tms_none (d := d) (a := a) (b := b) (nown d a - i) i e
        rw [show i + 1 + (nown d a - i) = nown d a + 1 by omega] at this
        rw [this]
        exact Wp.ret ⟨rfl, hp.2⟩
      | some y =>
        have h2 := lg_b hw hb (show i ≤ nown d b by omega) e2
        refine Wp.f (nI_nm2 (show y < 2147483648 by omega)) ?_
        refine Wp.t rfl ?_
        exact yes y (by rw [tm, e1, e2])
    | some x =>
      have h1 := lg_b hw ha (show i ≤ nown d a by omega) e1
      refine Wp.f (nI_nm2 (show x < 2147483648 by omega)) ?_
      refine Wp.f (nI_nm2 (show x < 2147483648 by omega)) ?_
      cases e2 : lg d b i with
      | none =>
        refine Wp.t rfl ?_
        exact yes x (by rw [tm, e1, e2])
      | some y =>
        have h2 := lg_b hw hb (show i ≤ nown d b by omega) e2
        refine Wp.f (nI_nm2 (show y < 2147483648 by omega)) ?_
        by_cases e : y ≤ x
        · refine Wp.t (nI_le e (show x < 2147483648 by omega)) ?_
          exact yes y (by rw [tm, e1, e2]; simp only [if_neg (show ¬ x < y by omega)])
        · refine Wp.f (nI_ge (show x < y by omega) (show y < 2147483648 by omega)) ?_
          exact yes x (by rw [tm, e1, e2]; simp only [if_pos (show x < y by omega)])
  · obtain ⟨⟨s, hts, rfl⟩, hs⟩ := hI
    show Wp (f_X12_teamOf_5 (nI a) (nI b) (f + 1) (nI s) (nI (nown d a + 1)) τ) _
    rw [f_X12_teamOf_5]
    refine Wp.eq (M_rd (j := 37 + a) (hM.of hs) (by rw [i37, nI_add]) (by omega)) ?_
    refine Wp.eq (M_rd (j := 4 + d (37 + a)) (hM.of hs) (by rw [i4, nI_add]) (by omega)) ?_
    exact Wp.t (nI_lt (by omega) (by omega)) (Wp.ret ⟨by rw [hts]; rfl, hs⟩)
theorem S_team : SS2 Inv f_X11_team f_X12_team := by
  intro x y
  refine QA.ss (fun σ d hI hw hM hX => ?_)
  have hr := hw.2.1
  rcases pair_cases hw hX x y with ⟨e, he, g1, g2⟩ | ⟨a, b, rfl, rfl, ha, hb, hne, hc, g1, g2⟩
  · have h1 := e15 he
    refine QA.no e h1.2 ?_ (fun σ2 hM2 => ?_)
    · unfold f_X11_team
      rw [g1, bind_some', if_neg h1.1, X_refused]
      rfl
    · unfold f_X12_team
      rw [g2 σ2 1 hM2 o1n0, bind_some', ref_e h1.1, bind_some', if_neg o1n0]
  · have hab : nown d b = nown d a := by unfold nown; rw [hc]
    refine QA.yes (mo (tms d a b (nown d a + 1))) ?_ (fun σ2 hM2 hM3 => ?_)
    · unfold f_X11_team
      refine Wp.eq g1 ?_
      refine Wp.t rfl ?_
      refine Wp.eq (X_runnerAt (by omega)) ?_
      refine Wp.eq (X_runnerAt (by omega)) ?_
      refine Wp.eq (X_teamTime hX hw ha hb hab) ?_
      cases e : tms d a b (nown d a + 1) with
      | none =>
        refine Wp.t rfl ?_
        exact Wp.ret ⟨rfl, _, Xs.rf, rfl⟩
      | some v =>
        have := tms_bb hw ha hb hab (Nat.le_refl _) e
        refine Wp.f (nI_nm1 (show v < 2147483648 by omega)) ?_
        exact Wp.ret ⟨rfl, _, Xs.rf, rfl⟩
    · unfold f_X12_team
      refine Wp.eq (g2 σ2 1 hM3 o1n0) ?_
      refine Wp.eq ref_0 ?_
      refine Wp.t rfl ?_
      exact Wp.bind (M_teamOf hM2 hw Ms.rf ha hb hab) (fun q hq => Wp.ret ⟨hq.1, hq.2⟩)
/-- the best mate -/
def mf (d : Nat → Nat) (a b : Nat) : Option Nat := if b = a ∨ ¬ d (37 + b) = d (37 + a) then none else tms d a b (nown d a + 1)
theorem mf_b (hw : WF d) (ha : a < d 1) {j u : Nat} (hj : j < d 1) (h : mf d a j = some u) : u < 1000000 := by
  unfold mf at h
  by_cases e : j = a ∨ ¬ d (37 + j) = d (37 + a)
  · rw [if_pos e] at h; cases h
  · rw [if_neg e] at h
    exact tms_bb hw ha hj (by unfold nown; rw [Decidable.byContradiction (fun q => e (Or.inr q))]) (Nat.le_refl _) h
theorem X_bestMate (h : XR d σ) (hw : WF d) (ha : a < d 1) : f_X7_bestMate (nI a) σ = some (xo (am (mf d a) (d 1)), σ) := by
  have hr := hw.2.1
  have bc := hw.b (37 + a)
  have key : Wp (f_X7_bestMate_17 (nI a) (10 + a) gFuel (-1) (-1) (nI 0) σ) (fun r => r = (xo (am (mf d a) (d 1)), σ)) := by
    refine loop0 (F := fun f (x : Int32 × Int32) b σ => f_X7_bestMate_17 (nI a) (10 + a) f x.1 x.2 (nI b) σ) (N := d 1) (I := fun b x τ => AMI (mf d a) b x.1 x.2 (-1) ∧ τ = σ) (by omega)
      (fun f b x τ hb hI kk => ?_) (fun f x τ hI => ?_) (x := (-1, -1)) (σ := σ) ⟨Or.inl ⟨rfl, rfl⟩, rfl⟩
    · obtain ⟨hA, rfl⟩ := hI
      have bb := hw.b (37 + b)
      have tail : ∀ o, mf d a b = o → Wp (f_X7_bestMate_69 (nI a) (10 + a) x.1 x.2 (nI b) (fun v3 v4 v5 σ => f_X7_bestMate_17 (nI a) (10 + a) f v3 v4 v5 σ) (xo o) τ) (fun r => r = (xo (am (mf d a) (d 1)), τ)) := by
        intro o ho
        unfold f_X7_bestMate_69
        rw [nI_1 b]
        cases o with
        | none =>
          refine Wp.t rfl ?_
          exact kk x _ ⟨hA.no ho, rfl⟩
        | some v =>
          have hvb := mf_b hw ha hb ho
          refine Wp.f (nI_nm1 (show v < 2147483648 by omega)) ?_
          exact AMI.st (K := fun w l => f_X7_bestMate_17 (nI a) (10 + a) f w l (nI (b + 1)) τ) hA (Or.inl rfl) (by omega) (fun j u hj hu => Nat.lt_trans (mf_b hw ha (show j < d 1 by omega) hu) (by decide)) ho rfl (fun w' l' h' => kk (w', l') _ ⟨h', rfl⟩)
      show Wp (f_X7_bestMate_17 (nI a) (10 + a) (f + 1) x.1 x.2 (nI b) τ) _
      rw [f_X7_bestMate_17, h.2.1]
      refine Wp.f (nI_ge hb (by omega)) ?_
      unfold f_X7_bestMate_68
      by_cases e : b = a
      · refine Wp.t (by rw [e]) ?_
        exact tail none (if_pos (Or.inl e))
      · refine Wp.f (nI_ne (by omega) (by omega) e) ?_
        rw [(h.2.2.2.2.2 a ha).1]
        refine Wp.eq (X_isOf h hw hb (by omega)) ?_
        by_cases e2 : d (37 + b) = d (37 + a)
        · rw [if_pos e2]
          refine Wp.f o1n0 ?_
          refine Wp.eq (X_runnerAt (by omega)) ?_
          refine Wp.eq (X_teamTime h hw ha hb (by unfold nown; rw [e2])) ?_
          exact tail _ (if_neg (fun q => q.elim e (fun z => z e2)))
        · rw [if_neg e2]
          refine Wp.t rfl ?_
          exact tail none (if_pos (Or.inr e2))
    · obtain ⟨hA, rfl⟩ := hI
      show Wp (f_X7_bestMate_17 (nI a) (10 + a) (f + 1) x.1 x.2 (nI (d 1)) τ) _
      rw [f_X7_bestMate_17, h.2.1]
      exact Wp.t (nI_le (Nat.le_refl _) (by omega)) (Wp.ret (by rw [hA.x]))
  obtain ⟨r, hr1, hr2⟩ := key
  rw [hr2] at hr1
  unfold f_X7_bestMate
  rw [X_runnerAt (by omega), bind_some']
  exact hr1
theorem M_mate25 (hM : MR d σ) (hw : WF d) (hs : Ms σ σ') (ha : a < d 1) : Wp (f_X12_mate_25 (nI a) gFuel (-2) 0 0 σ') (fun r => r.1 = mo (am (mf d a) (d 1)) ∧ Ms σ r.2) := by
  have hr := hw.2.1
  have bc := hw.b (37 + a)
  refine loop0 (F := fun f (x : Int32 × Int32) b σ => f_X12_mate_25 (nI a) f x.1 x.2 (nI b) σ) (N := d 1) (I := fun b x τ => AMI (mf d a) b x.1 x.2 (-2) ∧ Ms σ τ) (by omega)
    (fun f b x τ hb hI kk => ?_) (fun f x τ hI => ?_) (x := (-2, 0)) (σ := σ') ⟨Or.inl ⟨rfl, rfl⟩, hs⟩
  · obtain ⟨hA, hs⟩ := hI
    have bb := hw.b (37 + b)
    have tail : ∀ o τ, mf d a b = o → Ms σ τ → Wp (f_X12_mate_76 (nI a) x.1 x.2 (nI b) (fun v2 v3 v4 σ => f_X12_mate_25 (nI a) f v2 v3 v4 σ) (mo o) τ) (fun r => r.1 = mo (am (mf d a) (d 1)) ∧ Ms σ r.2) := by
      intro o τ ho hs
      unfold f_X12_mate_76
      rw [nI_1 b]
      cases o with
      | none =>
        refine Wp.t rfl ?_
        exact kk x _ ⟨hA.no ho, hs⟩
      | some v =>
        have hvb := mf_b hw ha hb ho
        refine Wp.f (nI_nm2 (show v < 2147483648 by omega)) ?_
        exact AMI.st (K := fun w l => f_X12_mate_25 (nI a) f w l (nI (b + 1)) τ) hA (Or.inr rfl) (by omega) (fun j u hj hu => Nat.lt_trans (mf_b hw ha (show j < d 1 by omega) hu) (by decide)) ho rfl (fun w' l' h' => kk (w', l') _ ⟨h', hs⟩)
    show Wp (f_X12_mate_25 (nI a) (f + 1) x.1 x.2 (nI b) τ) _
    rw [f_X12_mate_25]
    refine Wp.eq (M_rd (j := 1) (hM.of hs) i1 (by decide)) ?_
    refine Wp.f (nI_ge hb (by omega)) ?_
    unfold f_X12_mate_64
    by_cases e : b = a
    · refine Wp.t (by rw [e]) ?_
      exact tail none _ (if_pos (Or.inl e)) hs
    · refine Wp.f (nI_ne (by omega) (by omega) e) ?_
      refine Wp.eq (M_rd (j := 37 + b) (hM.of hs) (by rw [i37, nI_add]) (by omega)) ?_
      refine Wp.eq (M_rd (j := 37 + a) (hM.of hs) (by rw [i37, nI_add]) (by omega)) ?_
      by_cases e2 : d (37 + b) = d (37 + a)
      · refine Wp.t (by rw [e2]) ?_
        refine Wp.bind (M_teamOf hM hw hs ha hb (by unfold nown; rw [e2])) (fun q hq => ?_)
        rw [hq.1]
        exact tail _ _ (if_neg (fun q => q.elim e (fun z => z e2))) hq.2
      · refine Wp.f (nI_ne (by omega) (by omega) e2) ?_
        exact tail none _ (if_pos (Or.inr e2)) hs
  · obtain ⟨hA, hs⟩ := hI
    show Wp (f_X12_mate_25 (nI a) (f + 1) x.1 x.2 (nI (d 1)) τ) _
    rw [f_X12_mate_25]
    refine Wp.eq (M_rd (j := 1) (hM.of hs) i1 (by decide)) ?_
    exact Wp.t (nI_le (Nat.le_refl _) (by omega)) (Wp.ret ⟨hA.m, hs⟩)
theorem S_mate : SS1 Inv f_X11_mate f_X12_mate := by
  intro x
  refine QA.ss (fun σ d hI hw hM hX => ?_)
  have hr := hw.2.1
  by_cases hx : gin x (d 1) = true
  · obtain ⟨hxe, ha⟩ := gin_nI hx
    generalize x.toNatClampNeg = a at hxe ha
    subst hxe
    refine QA.yes (mo (am (mf d a) (d 1))) ?_ (fun σ2 hM2 hM3 => ?_)
    · unfold f_X11_mate
      refine Wp.eq (X_hasRunner hX hw _) ?_
      rw [bG_t hx]
      refine Wp.f o1n0 ?_
      refine Wp.eq (X_bestMate hX hw ha) ?_
      have hsp := am_spec (mf d a) (d 1)
      cases e : am (mf d a) (d 1) with
      | none =>
        refine Wp.t rfl ?_
        exact Wp.ret ⟨rfl, _, Xs.rf, rfl⟩
      | some j =>
        rw [e] at hsp
        have := hsp.1
        refine Wp.f (nI_nm1 (show j < 2147483648 by omega)) ?_
        exact Wp.ret ⟨rfl, _, Xs.rf, rfl⟩
    · unfold f_X12_mate
      refine Wp.eq (M_isRunner hM3 hw _) ?_
      rw [bG_t hx]
      refine Wp.eq un_1 ?_
      refine Wp.eq ref_0 ?_
      refine Wp.t rfl ?_
      exact M_mate25 hM2 hw Ms.rf ha
  · refine QA.no 1 (by decide) ?_ (fun σ2 hM2 => ?_)
    · unfold f_X11_mate
      rw [X_hasRunner hX hw, bG_f hx, bind_some', if_pos rfl, X_refused]
      rfl
    · unfold f_X12_mate
      rw [M_isRunner hM2 hw, bG_f hx, bind_some', un_0, bind_some', ref_1, bind_some', if_neg o1n0]
/-- he passes the other between two points -/
def pq (d : Nat → Nat) (a b i : Nat) : Bool := decide ((tA d a i ≠ none ∧ tA d b i ≠ none) ∧ (tA d a (i + 1) ≠ none ∧ tA d b (i + 1) ≠ none) ∧ ¬ xo (tA d a i) ≤ xo (tA d b i) ∧ ¬ xo (tA d b (i + 1)) ≤ xo (tA d a (i + 1)))
theorem pq_f (h : ¬ ((tA d a i ≠ none ∧ tA d b i ≠ none) ∧ (tA d a (i + 1) ≠ none ∧ tA d b (i + 1) ≠ none) ∧ ¬ xo (tA d a i) ≤ xo (tA d b i) ∧ ¬ xo (tA d b (i + 1)) ≤ xo (tA d a (i + 1)))) : pq d a b i = false := decide_eq_false h
theorem pq_t (h : (tA d a i ≠ none ∧ tA d b i ≠ none) ∧ (tA d a (i + 1) ≠ none ∧ tA d b (i + 1) ≠ none) ∧ ¬ xo (tA d a i) ≤ xo (tA d b i) ∧ ¬ xo (tA d b (i + 1)) ≤ xo (tA d a (i + 1))) : pq d a b i = true := decide_eq_true h
theorem X_passings (h : XR d σ) (hw : WF d) (ha : a < d 1) (hb : b < d 1) (hab : nown d b = nown d a) : f_X7_passings (10 + a) (10 + b) σ = some (nI (cnt (pq d a b) (nown d a)), σ) := by
  have ho := hw.own ha
  have key : Wp (f_X7_passings_5 (10 + a) (10 + b) gFuel 0 (nI 0) σ) (fun r => r = (nI (cnt (pq d a b) (nown d a)), σ)) := by
    refine loop0 (F := fun f (x : Int32) i σ => f_X7_passings_5 (10 + a) (10 + b) f x (nI i) σ) (N := nown d a) (I := fun i x τ => x = nI (cnt (pq d a b) i) ∧ τ = σ) (by omega)
      (fun f i x τ hi hI kk => ?_) (fun f x τ hI => ?_) (x := 0) (σ := σ) ⟨rfl, rfl⟩
    · obtain ⟨rfl, rfl⟩ := hI
      have no : ∀ (u1 u2 u3 : Int32), (u1 = 0 ∨ u2 = 0 ∨ u3 = 0) → pq d a b i = false → Wp (f_X7_passings_91 (10 + a) (10 + b) (nI (cnt (pq d a b) i)) (nI i) u1 u2 (fun v3 v4 σ => f_X7_passings_5 (10 + a) (10 + b) f v3 v4 σ) u3 τ) (fun r => r = (nI (cnt (pq d a b) (nown d a)), τ)) := by
        intro u1 u2 u3 hu hp
        unfold f_X7_passings_91
        rw [nI_1 i]
        have go : Wp (f_X7_passings_5 (10 + a) (10 + b) f (nI (cnt (pq d a b) i) + 0) (nI (i + 1)) τ) (fun r => r = (nI (cnt (pq d a b) (nown d a)), τ)) := kk _ _ ⟨by rw [add0, cnt_f hp], rfl⟩
        by_cases c1 : u1 = 0
        · exact Wp.t c1 go
        · refine Wp.f c1 ?_
          by_cases c2 : u2 = 0
          · exact Wp.t c2 go
          · refine Wp.f c2 ?_
            exact Wp.t (by rcases hu with q | q | q; exact absurd q c1; exact absurd q c2; exact q) go
      have t43 : ∀ (u1 : Int32), ((¬ u1 = 0) ↔ ((tA d a i ≠ none ∧ tA d b i ≠ none) ∧ (tA d a (i + 1) ≠ none ∧ tA d b (i + 1) ≠ none))) → Wp (f_X7_passings_43 (10 + a) (10 + b) (nI (cnt (pq d a b) i)) (nI i) (fun v3 v4 σ => f_X7_passings_5 (10 + a) (10 + b) f v3 v4 σ) u1 τ) (fun r => r = (nI (cnt (pq d a b) (nown d a)), τ)) := by
        intro u1 hu
        have t65 : ∀ (u2 : Int32), ((¬ u2 = 0) ↔ ¬ xo (tA d a i) ≤ xo (tA d b i)) → Wp (f_X7_passings_65 (10 + a) (10 + b) (nI (cnt (pq d a b) i)) (nI i) u1 (fun v3 v4 σ => f_X7_passings_5 (10 + a) (10 + b) f v3 v4 σ) u2 τ) (fun r => r = (nI (cnt (pq d a b) (nown d a)), τ)) := by
          intro u2 hu2
          unfold f_X7_passings_65
          rw [nI_1 i]
          refine Wp.eq (X_timeAt h hw ha (by omega)) ?_
          refine Wp.eq (X_timeAt h hw hb (by omega)) ?_
          dsimp only
          by_cases c3 : xo (tA d b (i + 1)) ≤ xo (tA d a (i + 1))
          · refine Wp.t c3 ?_
            exact no u1 u2 0 (Or.inr (Or.inr rfl)) (pq_f (fun q => q.2.2.2 c3))
          · refine Wp.f c3 ?_
            by_cases c1 : u1 = 0
            · exact no u1 u2 1 (Or.inl c1) (pq_f (fun q => hu.mpr ⟨q.1, q.2.1⟩ c1))
            · by_cases c2 : u2 = 0
              · exact no u1 u2 1 (Or.inr (Or.inl c2)) (pq_f (fun q => hu2.mpr q.2.2.1 c2))
              · unfold f_X7_passings_91
                refine Wp.f c1 ?_
                refine Wp.f c2 ?_
                refine Wp.f o1n0 ?_
                rw [nI_1 i]
                have g := hu.mp c1
                exact kk _ _ ⟨by rw [nI_1, cnt_t (pq_t ⟨g.1, g.2, hu2.mp c2, c3⟩)], rfl⟩
        unfold f_X7_passings_43
        refine Wp.eq (X_timeAt h hw ha (by omega)) ?_
        refine Wp.eq (X_timeAt h hw hb (by omega)) ?_
        dsimp only
        by_cases c2 : xo (tA d a i) ≤ xo (tA d b i)
        · refine Wp.t c2 ?_
          exact t65 0 ⟨fun q => absurd rfl q, fun q => absurd c2 q⟩
        · refine Wp.f c2 ?_
          exact t65 1 ⟨fun _ => c2, fun _ => o1n0⟩
      simp only [f_X7_passings_5, f_X7_passings_42]
      rw [(h.2.2.2.2.2 a ha).2.2.2.2.1]
      refine Wp.f (nI_ge hi (by omega)) ?_
      refine Wp.eq (X_bothAt h hw ha hb (by omega) (by omega)) ?_
      by_cases c1 : tA d a i ≠ none ∧ tA d b i ≠ none
      · rw [if_pos c1]
        refine Wp.f o1n0 ?_
        dsimp only
        rw [nI_1 i]
        refine Wp.eq (X_bothAt h hw ha hb (by omega) (by omega)) ?_
        by_cases c2 : tA d a (i + 1) ≠ none ∧ tA d b (i + 1) ≠ none
        · rw [if_pos c2]
          refine Wp.f o1n0 ?_
          exact t43 1 ⟨fun _ => ⟨c1, c2⟩, fun _ => o1n0⟩
        · rw [if_neg c2]
          refine Wp.t rfl ?_
          exact t43 0 ⟨fun q => absurd rfl q, fun q => absurd q.2 c2⟩
      · rw [if_neg c1]
        refine Wp.t rfl ?_
        exact t43 0 ⟨fun q => absurd rfl q, fun q => absurd q.1 c1⟩
    · obtain ⟨rfl, rfl⟩ := hI
      simp only [f_X7_passings_5]
      rw [(h.2.2.2.2.2 a ha).2.2.2.2.1]
      exact Wp.t (nI_le (Nat.le_refl _) (by omega)) (Wp.ret rfl)
  obtain ⟨r, hr1, hr2⟩ := key
  rw [hr2] at hr1
  exact hr1
theorem xo_m1 (hw : WF d) (ha : a < d 1) : xo (tA d a i) = -1 ↔ tA d a i = none := by
  have b1 := hw.b (57 + a)
  cases e : tA d a i with
  | none => exact ⟨fun _ => rfl, fun _ => rfl⟩
  | some t =>
    have := tA_b hw ha e
    exact ⟨fun q => absurd q (nI_nm1 (show t < 2147483648 by omega)), fun q => nomatch q⟩
theorem M_passes21 (hM : MR d σ) (hw : WF d) (hs : Ms σ σ') (ha : a < d 1) (hb : b < d 1) (hab : nown d b = nown d a) : Wp (f_X12_passes_21 (nI a) (nI b) gFuel 0 1 σ') (fun r => r.1 = nI (cnt (pq d a b) (nown d a)) ∧ Ms σ r.2) := by
  have ho := hw.own ha
  have hr := hw.2.1
  have h3 := hw.1
  have hru := hw.run ha
  have hon : nown d a = d (4 + d (37 + a)) := rfl
  refine loop0 (F := fun f (x : Int32) i σ => f_X12_passes_21 (nI a) (nI b) f x (nI (i + 1)) σ) (N := nown d a) (I := fun i x τ => x = nI (cnt (pq d a b) i) ∧ Ms σ τ) (by omega)
    (fun f i x τ hi hI kk => ?_) (fun f x τ hI => ?_) (x := 0) (σ := σ') ⟨rfl, hs⟩
  · obtain ⟨rfl, hs⟩ := hI
    show Wp (f_X12_passes_21 (nI a) (nI b) (f + 1) (nI (cnt (pq d a b) i)) (nI (i + 1)) τ) _
    rw [f_X12_passes_21, nI_pred]
    refine Wp.eq (M_rd (j := 37 + a) (hM.of hs) (by rw [i37, nI_add]) (by omega)) ?_
    refine Wp.eq (M_rd (j := 4 + d (37 + a)) (hM.of hs) (by rw [i4, nI_add]) (by omega)) ?_
    refine Wp.f (nI_nlt (by omega) (by omega)) ?_
    refine Wp.bind (M_timeAt hM hw hs ha (by omega)) (fun q hq => ?_)
    refine Wp.bind (M_timeAt hM hw hq.2 hb (by omega)) (fun p hp => ?_)
    refine Wp.bind (M_timeAt hM hw hp.2 ha (by omega)) (fun u hu => ?_)
    refine Wp.bind (M_timeAt hM hw hu.2 hb (by omega)) (fun v hv => ?_)
    rw [hq.1, hp.1, hu.1, hv.1]
    have x1 := xo_m1 (i := i) hw ha
    have x2 := xo_m1 (i := i) hw hb
    have x3 := xo_m1 (i := i + 1) hw ha
    have x4 := xo_m1 (i := i + 1) hw hb
    have no : pq d a b i = false → Wp (f_X12_passes_110 (nI a) (nI b) (nI (cnt (pq d a b) i)) (nI (i + 1)) (xo (tA d a i)) (xo (tA d b i)) (xo (tA d a (i + 1))) (xo (tA d b (i + 1))) (fun v3 v4 σ => f_X12_passes_21 (nI a) (nI b) f v3 v4 σ) v.2) (fun r => r.1 = nI (cnt (pq d a b) (nown d a)) ∧ Ms σ r.2) := by
      intro hp
      unfold f_X12_passes_110 f_X12_passes_111
      refine Wp.t rfl ?_
      rw [nI_1]
      exact kk _ _ ⟨by rw [add0, cnt_f hp], hv.2⟩
    by_cases c1 : xo (tA d a i) = -1
    · exact Wp.t c1 (no (pq_f (fun z => z.1.1 (x1.mp c1))))
    · refine Wp.f c1 ?_
      by_cases c2 : xo (tA d b i) = -1
      · exact Wp.t c2 (no (pq_f (fun z => z.1.2 (x2.mp c2))))
      · refine Wp.f c2 ?_
        by_cases c3 : xo (tA d a (i + 1)) = -1
        · exact Wp.t c3 (no (pq_f (fun z => z.2.1.1 (x3.mp c3))))
        · refine Wp.f c3 ?_
          by_cases c4 : xo (tA d b (i + 1)) = -1
          · exact Wp.t c4 (no (pq_f (fun z => z.2.1.2 (x4.mp c4))))
          · refine Wp.f c4 ?_
            unfold f_X12_passes_111
            refine Wp.f o1n0 ?_
            rw [nI_1]
            by_cases c5 : xo (tA d a i) ≤ xo (tA d b i)
            · refine Wp.t c5 ?_
              exact kk _ _ ⟨by rw [add0, cnt_f (pq_f (fun z => z.2.2.1 c5))], hv.2⟩
            · refine Wp.f c5 ?_
              by_cases c6 : xo (tA d b (i + 1)) ≤ xo (tA d a (i + 1))
              · refine Wp.t c6 ?_
                exact kk _ _ ⟨by rw [add0, cnt_f (pq_f (fun z => z.2.2.2 c6))], hv.2⟩
              · refine Wp.f c6 ?_
                exact kk _ _ ⟨by rw [nI_1, cnt_t (pq_t ⟨⟨(fun z => c1 (x1.mpr z)), (fun z => c2 (x2.mpr z))⟩, ⟨(fun z => c3 (x3.mpr z)), (fun z => c4 (x4.mpr z))⟩, c5, c6⟩)], hv.2⟩
  · obtain ⟨rfl, hs⟩ := hI
    show Wp (f_X12_passes_21 (nI a) (nI b) (f + 1) (nI (cnt (pq d a b) (nown d a))) (nI (nown d a + 1)) τ) _
    rw [f_X12_passes_21]
    refine Wp.eq (M_rd (j := 37 + a) (hM.of hs) (by rw [i37, nI_add]) (by omega)) ?_
    refine Wp.eq (M_rd (j := 4 + d (37 + a)) (hM.of hs) (by rw [i4, nI_add]) (by omega)) ?_
    exact Wp.t (nI_lt (by omega) (by omega)) (Wp.ret ⟨rfl, hs⟩)
theorem S_passes : SS2 Inv f_X11_passes f_X12_passes := by
  intro x y
  refine QA.ss (fun σ d hI hw hM hX => ?_)
  have hr := hw.2.1
  rcases pair_cases hw hX x y with ⟨e, he, g1, g2⟩ | ⟨a, b, rfl, rfl, ha, hb, hne, hc, g1, g2⟩
  · have h1 := e15 he
    refine QA.no e h1.2 ?_ (fun σ2 hM2 => ?_)
    · unfold f_X11_passes
      rw [g1, bind_some', if_neg h1.1, X_refused]
      rfl
    · unfold f_X12_passes
      rw [g2 σ2 1 hM2 o1n0, bind_some', ref_e h1.1, bind_some', if_neg o1n0]
  · have hab : nown d b = nown d a := by unfold nown; rw [hc]
    refine QA.yes (nI (cnt (pq d a b) (nown d a))) ?_ (fun σ2 hM2 hM3 => ?_)
    · unfold f_X11_passes
      refine Wp.eq g1 ?_
      refine Wp.t rfl ?_
      refine Wp.eq (X_runnerAt (by omega)) ?_
      refine Wp.eq (X_runnerAt (by omega)) ?_
      refine Wp.eq (X_passings hX hw ha hb hab) ?_
      exact Wp.ret ⟨rfl, _, Xs.rf, rfl⟩
    · unfold f_X12_passes
      refine Wp.eq (g2 σ2 1 hM3 o1n0) ?_
      refine Wp.eq ref_0 ?_
      refine Wp.t rfl ?_
      exact M_passes21 hM2 hw Ms.rf ha hb hab
end PT
