/-! loops that count up, once and for all -/
theorem loopW {α β : Type} {F : Nat → α → Nat → gSt → Option β} {N : Nat} {I : Nat → α → gSt → Prop} {Q : β → Prop} (hstep : ∀ f a x σ, a < N → I a x σ → (∀ x' σ', I (a + 1) x' σ' → Wp (F f x' (a + 1) σ') Q) → Wp (F (f + 1) x a σ) Q) (hend : ∀ f x σ, I N x σ → Wp (F (f + 1) x N σ) Q) :
    ∀ (m a f : Nat) (x : α) (σ : gSt), a + m = N → m < f → I a x σ → Wp (F f x a σ) Q := by
  intro m
  induction m with
  | zero =>
    intro a f x σ h1 h2 hI
    obtain ⟨f, rfl⟩ : ∃ g, f = g + 1 := ⟨f - 1, by omega⟩
    obtain rfl : a = N := by omega
    exact hend f x σ hI
  | succ m ih =>
    intro a f x σ h1 h2 hI
    obtain ⟨f, rfl⟩ : ∃ g, f = g + 1 := ⟨f - 1, by omega⟩
    exact hstep f a x σ (by omega) hI (fun x' σ' h' => ih (a + 1) f x' σ' (by omega) (by omega) h')
theorem loop0 {α β : Type} {F : Nat → α → Nat → gSt → Option β} {N : Nat} {I : Nat → α → gSt → Prop} {Q : β → Prop} (hN : N ≤ 4000) (hstep : ∀ f a x σ, a < N → I a x σ → (∀ x' σ', I (a + 1) x' σ' → Wp (F f x' (a + 1) σ') Q) → Wp (F (f + 1) x a σ) Q) (hend : ∀ f x σ, I N x σ → Wp (F (f + 1) x N σ) Q) {x : α} {σ : gSt} (h : I 0 x σ) : Wp (F gFuel x 0 σ) Q := loopW hstep hend N 0 gFuel x σ (by omega) (Nat.lt_of_le_of_lt hN gFuel_ge) h
def cnt (q : Nat → Bool) : Nat → Nat
  | 0 => 0
  | n + 1 => cnt q n + (if q n then 1 else 0)
theorem cnt_le (q : Nat → Bool) (n : Nat) : cnt q n ≤ n := by
  induction n with
  | zero => exact Nat.le_refl _
  | succ n ih => rw [cnt]; split <;> omega
def sm (f : Nat → Nat) : Nat → Nat
  | 0 => 0
  | n + 1 => sm f n + f n
theorem sm_le {f : Nat → Nat} {b : Nat} : ∀ {n : Nat}, (∀ j, j < n → f j ≤ b) → sm f n ≤ n * b := by
  intro n
  induction n with
  | zero => intro _; exact Nat.zero_le _
  | succ n ih =>
    intro h
    have h1 := ih (fun j hj => h j (by omega))
    have h2 := h n (by omega)
    rw [sm, Nat.succ_mul]
    omega
/-- the least of what there is; the first who has it -/
def lst (f : Nat → Option Nat) : Nat → Option Nat
  | 0 => none
  | n + 1 => match lst f n, f n with
    | none, o => o
    | some l, none => some l
    | some l, some v => some (if v < l then v else l)
def am (f : Nat → Option Nat) : Nat → Option Nat
  | 0 => none
  | n + 1 => match am f n, f n with
    | none, none => none
    | none, some _ => some n
    | some j, none => some j
    | some j, some v => if v < (f j).getD 0 then some n else some j
theorem am_spec (f : Nat → Option Nat) (n : Nat) : match am f n with
    | none => lst f n = none ∧ ∀ j, j < n → f j = none
    | some j => j < n ∧ ∃ v, f j = some v ∧ lst f n = some v ∧ (∀ z u, z < n → f z = some u → v ≤ u) ∧ ∀ z u, z < j → f z = some u → v < u := by
  induction n with
  | zero => exact ⟨rfl, fun j h => by omega⟩
  | succ n ih =>
    rw [am, lst]
    cases ha : am f n with
    | none =>
      rw [ha] at ih
      obtain ⟨h1, h2⟩ := ih
      rw [h1]
      cases hf : f n with
      | none => exact ⟨rfl, fun j hj => by
          by_cases e : j = n
          · rw [e]; exact hf
          · exact h2 j (by omega)⟩
      | some v =>
        refine ⟨by omega, v, hf, rfl, fun z u hz hu => ?_, fun z u hz hu => ?_⟩
        · by_cases e : z = n
          · subst e; rw [hf] at hu; cases hu; exact Nat.le_refl _
          · rw [h2 z (by omega)] at hu; cases hu
        · rw [h2 z hz] at hu; cases hu
    | some j =>
      rw [ha] at ih
      obtain ⟨h1, v, h2, h3, h4, h5⟩ := ih
      rw [h3]
      cases hf : f n with
      | none =>
        refine ⟨by omega, v, h2, rfl, fun z u hz hu => ?_, h5⟩
        by_cases e : z = n
        · subst e; rw [hf] at hu; cases hu
        · exact h4 z u (by omega) hu
      | some y =>
        simp only [h2, Option.getD_some]
        by_cases hy : y < v
        · rw [if_pos hy]
          simp only
          refine ⟨by omega, y, hf, by rw [if_pos hy], fun z u hz hu => ?_, fun z u hz hu => ?_⟩
          · by_cases e : z = n
            · subst e; rw [hf] at hu; cases hu; exact Nat.le_refl _
            · have := h4 z u (by omega) hu; omega
          · have := h4 z u hz hu; omega
        · rw [if_neg hy]
          simp only
          refine ⟨by omega, v, h2, by rw [if_neg hy], fun z u hz hu => ?_, h5⟩
          by_cases e : z = n
          · subst e; rw [hf] at hu; cases hu; omega
          · exact h4 z u (by omega) hu
theorem lst_b {f : Nat → Option Nat} {n b v : Nat} (h : ∀ j u, j < n → f j = some u → u < b) (hv : lst f n = some v) : v < b := by
  have := am_spec f n
  cases ha : am f n with
  | none => rw [ha] at this; rw [this.1] at hv; cases hv
  | some j =>
    rw [ha] at this
    obtain ⟨h1, y, h2, h3, -⟩ := this
    rw [h3] at hv
    cases hv
    exact h j _ h1 h2
section LO
variable {d : Nat → Nat} {σ σ' : gSt} {a c i : Nat}
/-- a is of course c; a valid one -/
def ofc (d : Nat → Nat) (c a : Nat) : Bool := decide (d (37 + a) = c)
def vfc (d : Nat → Nat) (c a : Nat) : Bool := decide (d (37 + a) = c ∧ mso d a = 0)
def vld (d : Nat → Nat) (a : Nat) : Bool := decide (mso d a = 0)
theorem X_runnersOf (h : XR d σ) (hw : WF d) (hc : c < 10000) : f_X4_runnersOf 1 (nI c) σ = some (nI (cnt (ofc d c) (d 1)), σ) := by
  have hr := hw.2.1
  have := loop0 (F := fun f (x : Int32) a σ => f_X4_runnersOf_4 1 (nI c) f x (nI a) σ) (N := d 1) (I := fun a x τ => x = nI (cnt (ofc d c) a) ∧ τ = σ) (Q := fun r => r = (nI (cnt (ofc d c) (d 1)), σ)) (by omega)
    (fun f a x τ ha hI kk => by
      obtain ⟨rfl, rfl⟩ := hI
      simp only [f_X4_runnersOf_4]
      rw [h.2.1]
      refine Wp.f (nI_ge ha (by omega)) ?_
      refine Wp.eq (X_isOf h hw ha hc) ?_
      rw [nI_1 a]
      by_cases e : d (37 + a) = c
      · rw [if_pos e]
        refine Wp.f o1n0 ?_
        exact kk _ _ ⟨by rw [nI_1, cnt]; simp [ofc, e], rfl⟩
      · rw [if_neg e]
        refine Wp.t rfl ?_
        exact kk _ _ ⟨by rw [add0, cnt]; simp [ofc, e], rfl⟩)
    (fun f x τ hI => by
      obtain ⟨rfl, rfl⟩ := hI
      simp only [f_X4_runnersOf_4]
      rw [h.2.1]
      exact Wp.t (nI_le (Nat.le_refl _) (by omega)) (Wp.ret rfl)) (x := 0) (σ := σ) ⟨rfl, rfl⟩
  obtain ⟨r, hr1, rfl⟩ := this
  exact hr1
theorem X_validOf (h : XR d σ) (hw : WF d) (hc : c < 10000) : f_X4_validOf 1 (nI c) σ = some (nI (cnt (vfc d c) (d 1)), σ) := by
  have hr := hw.2.1
  have := loop0 (F := fun f (x : Int32) a σ => f_X4_validOf_4 1 (nI c) f x (nI a) σ) (N := d 1) (I := fun a x τ => x = nI (cnt (vfc d c) a) ∧ τ = σ) (Q := fun r => r = (nI (cnt (vfc d c) (d 1)), σ)) (by omega)
    (fun f a x τ ha hI kk => by
      obtain ⟨rfl, rfl⟩ := hI
      simp only [f_X4_validOf_4]
      rw [h.2.1]
      refine Wp.f (nI_ge ha (by omega)) ?_
      refine Wp.eq (X_isValidOf h hw ha hc) ?_
      rw [nI_1 a]
      by_cases e : d (37 + a) = c ∧ mso d a = 0
      · rw [if_pos e]
        refine Wp.f o1n0 ?_
        exact kk _ _ ⟨by rw [nI_1, cnt]; simp [vfc, e], rfl⟩
      · rw [if_neg e]
        refine Wp.t rfl ?_
        exact kk _ _ ⟨by rw [add0, cnt, show vfc d c a = false from decide_eq_false e]; rfl, rfl⟩)
    (fun f x τ hI => by
      obtain ⟨rfl, rfl⟩ := hI
      simp only [f_X4_validOf_4]
      rw [h.2.1]
      exact Wp.t (nI_le (Nat.le_refl _) (by omega)) (Wp.ret rfl)) (x := 0) (σ := σ) ⟨rfl, rfl⟩
  obtain ⟨r, hr1, rfl⟩ := this
  exact hr1
theorem X_allPunches (h : XR d σ) (hw : WF d) : f_X4_allPunches 1 σ = some (nI (sm (fun a => d (67 + a)) (d 1)), σ) := by
  have hr := hw.2.1
  have := loop0 (F := fun f (x : Int32) a σ => f_X4_allPunches_4 1 f x (nI a) σ) (N := d 1) (I := fun a x τ => x = nI (sm (fun a => d (67 + a)) a) ∧ τ = σ) (Q := fun r => r = (nI (sm (fun a => d (67 + a)) (d 1)), σ)) (by omega)
    (fun f a x τ ha hI kk => by
      obtain ⟨rfl, rfl⟩ := hI
      simp only [f_X4_allPunches_4]
      rw [h.2.1]
      refine Wp.f (nI_ge ha (by omega)) ?_
      refine Wp.eq (X_runnerAt (by omega)) ?_
      dsimp only
      rw [(h.2.2.2.2.2 a ha).2.2.2.1.1, nI_1 a, nI_add]
      exact kk _ _ ⟨rfl, rfl⟩)
    (fun f x τ hI => by
      obtain ⟨rfl, rfl⟩ := hI
      simp only [f_X4_allPunches_4]
      rw [h.2.1]
      exact Wp.t (nI_le (Nat.le_refl _) (by omega)) (Wp.ret rfl)) (x := 0) (σ := σ) ⟨rfl, rfl⟩
  obtain ⟨r, hr1, rfl⟩ := this
  exact hr1
theorem X_allValid (h : XR d σ) (hw : WF d) : f_X4_allValid 1 σ = some (nI (sm (fun c => cnt (vfc d c) (d 1)) (d 0)), σ) := by
  have hr := hw.1
  have := loop0 (F := fun f (x : Int32) a σ => f_X4_allValid_4 1 f x (nI a) σ) (N := d 0) (I := fun a x τ => x = nI (sm (fun c => cnt (vfc d c) (d 1)) a) ∧ τ = σ) (Q := fun r => r = (nI (sm (fun c => cnt (vfc d c) (d 1)) (d 0)), σ)) (by omega)
    (fun f a x τ ha hI kk => by
      obtain ⟨rfl, rfl⟩ := hI
      simp only [f_X4_allValid_4]
      rw [h.1]
      refine Wp.f (nI_ge ha (by omega)) ?_
      refine Wp.eq (X_validOf h hw (by omega)) ?_
      dsimp only
      rw [nI_1 a, nI_add]
      exact kk _ _ ⟨rfl, rfl⟩)
    (fun f x τ hI => by
      obtain ⟨rfl, rfl⟩ := hI
      simp only [f_X4_allValid_4]
      rw [h.1]
      exact Wp.t (nI_le (Nat.le_refl _) (by omega)) (Wp.ret rfl)) (x := 0) (σ := σ) ⟨rfl, rfl⟩
  obtain ⟨r, hr1, rfl⟩ := this
  exact hr1
/-- all valid ones, course by course -/
theorem valid_sum (hw : WF d) : ∀ n, n ≤ d 1 → sm (fun c => cnt (vfc d c) n) (d 0) = cnt (vld d) n := by
  have z : ∀ m, sm (fun _ => 0) m = 0 := by intro m; induction m with
    | zero => rfl
    | succ m ih => rw [sm, ih]
  have step : ∀ (f : Nat → Nat) (c0 m : Nat), sm (fun c => f c + (if c0 = c then 1 else 0)) m = sm f m + (if c0 < m then 1 else 0) := by
    intro f c0 m
    induction m with
    | zero => simp [sm]
    | succ m ih =>
      rw [sm, sm, ih]
      by_cases e : c0 = m
      · subst e; simp; omega
      · by_cases e2 : c0 < m
        · simp [e, e2, show c0 < m + 1 by omega]; omega
        · simp [e, e2, show ¬ c0 < m + 1 by omega]
  intro n
  induction n with
  | zero => intro _; simp only [cnt]; exact z _
  | succ n ih =>
    intro hn
    have hru := (hw.run (show n < d 1 by omega)).1
    simp only [cnt]
    by_cases e : mso d n = 0
    · have : (fun c => cnt (vfc d c) n + (if vfc d c n = true then 1 else 0)) = fun c => cnt (vfc d c) n + (if d (37 + n) = c then 1 else 0) := by
        funext c; simp [vfc, e]
      rw [this, step, ih (by omega)]
      simp [vld, e, hru]
    · have : (fun c => cnt (vfc d c) n + (if vfc d c n = true then 1 else 0)) = fun c => cnt (vfc d c) n := by
        funext c; simp [vfc, e]
      rw [this, ih (by omega)]
      simp [vld, e]
theorem M_validOf (hM : MR d σ) (hw : WF d) (hs : Ms σ σ') (hc : c < 10000) : Wp (f_X12_validOf (nI c) σ') (fun r => r.1 = nI (cnt (vfc d c) (d 1)) ∧ Ms σ r.2) := by
  have hr := hw.2.1
  refine loop0 (F := fun f (x : Int32) a σ => f_X12_validOf_4 (nI c) f x (nI a) σ) (N := d 1) (I := fun a x τ => x = nI (cnt (vfc d c) a) ∧ Ms σ τ) (by omega)
    (fun f a x τ ha hI kk => ?_) (fun f x τ hI => ?_) (x := 0) (σ := σ') ⟨rfl, hs⟩
  · obtain ⟨rfl, hs⟩ := hI
    have b := hw.b (37 + a)
    simp only [f_X12_validOf_4]
    refine Wp.eq (M_rd (j := 1) (hM.of hs) i1 (by decide)) ?_
    refine Wp.f (nI_ge ha (by omega)) ?_
    refine Wp.f (nI_nm1 (by omega)) ?_
    refine Wp.eq (M_rd (j := 37 + a) (hM.of hs) (by rw [i37, nI_add]) (by omega)) ?_
    rw [nI_1 a]
    by_cases e : d (37 + a) = c
    · refine Wp.t (by rw [e]) ?_
      unfold f_X12_validOf_33
      refine Wp.bind (M_isValid hM hw hs ha) (fun q hq => ?_)
      rw [hq.1, nI_1 a]
      by_cases e2 : mso d a = 0
      · rw [if_pos e2]
        refine Wp.f o1n0 ?_
        exact kk _ _ ⟨by rw [nI_1, cnt]; simp [vfc, e, e2], hq.2⟩
      · rw [if_neg e2]
        refine Wp.t rfl ?_
        exact kk _ _ ⟨by rw [add0, cnt]; simp [vfc, e2], hq.2⟩
    · refine Wp.f (nI_ne (by omega) (by omega) e) ?_
      exact kk _ _ ⟨by rw [add0, cnt]; simp [vfc, e], hs⟩
  · obtain ⟨rfl, hs⟩ := hI
    simp only [f_X12_validOf_4]
    refine Wp.eq (M_rd (j := 1) (hM.of hs) i1 (by decide)) ?_
    exact Wp.t (nI_le (Nat.le_refl _) (by omega)) (Wp.ret ⟨rfl, hs⟩)
theorem M_allValid (hM : MR d σ) (hw : WF d) (hs : Ms σ σ') : Wp (f_X12_validOf (-1) σ') (fun r => r.1 = nI (cnt (vld d) (d 1)) ∧ Ms σ r.2) := by
  have hr := hw.2.1
  refine loop0 (F := fun f (x : Int32) a σ => f_X12_validOf_4 (-1) f x (nI a) σ) (N := d 1) (I := fun a x τ => x = nI (cnt (vld d) a) ∧ Ms σ τ) (by omega)
    (fun f a x τ ha hI kk => ?_) (fun f x τ hI => ?_) (x := 0) (σ := σ') ⟨rfl, hs⟩
  · obtain ⟨rfl, hs⟩ := hI
    show Wp (f_X12_validOf_4 (-1) (f + 1) (nI (cnt (vld d) a)) (nI a) τ) _
    rw [f_X12_validOf_4]
    refine Wp.eq (M_rd (j := 1) (hM.of hs) i1 (by decide)) ?_
    refine Wp.f (nI_ge ha (by omega)) ?_
    refine Wp.t rfl ?_
    unfold f_X12_validOf_33
    refine Wp.bind (M_isValid hM hw hs ha) (fun q hq => ?_)
    rw [hq.1, nI_1 a]
    by_cases e2 : mso d a = 0
    · rw [if_pos e2]
      refine Wp.f o1n0 ?_
      exact kk _ _ ⟨by rw [nI_1, cnt]; simp [vld, e2], hq.2⟩
    · rw [if_neg e2]
      refine Wp.t rfl ?_
      exact kk _ _ ⟨by rw [add0, cnt]; simp [vld, e2], hq.2⟩
  · obtain ⟨rfl, hs⟩ := hI
    simp only [f_X12_validOf_4]
    refine Wp.eq (M_rd (j := 1) (hM.of hs) i1 (by decide)) ?_
    exact Wp.t (nI_le (Nat.le_refl _) (by omega)) (Wp.ret ⟨rfl, hs⟩)
theorem M_runnersOf (hM : MR d σ) (hw : WF d) (hs : Ms σ σ') (hc : c < 10000) : Wp (f_X12_runnersOf (nI c) σ') (fun r => r.1 = nI (cnt (ofc d c) (d 1)) ∧ Ms σ r.2) := by
  have hr := hw.2.1
  refine loop0 (F := fun f (x : Int32) a σ => f_X12_runnersOf_4 (nI c) f x (nI a) σ) (N := d 1) (I := fun a x τ => x = nI (cnt (ofc d c) a) ∧ Ms σ τ) (by omega)
    (fun f a x τ ha hI kk => ?_) (fun f x τ hI => ?_) (x := 0) (σ := σ') ⟨rfl, hs⟩
  · obtain ⟨rfl, hs⟩ := hI
    have b := hw.b (37 + a)
    simp only [f_X12_runnersOf_4]
    refine Wp.eq (M_rd (j := 1) (hM.of hs) i1 (by decide)) ?_
    refine Wp.f (nI_ge ha (by omega)) ?_
    refine Wp.eq (M_rd (j := 37 + a) (hM.of hs) (by rw [i37, nI_add]) (by omega)) ?_
    rw [nI_1 a]
    by_cases e : d (37 + a) = c
    · refine Wp.t (by rw [e]) ?_
      exact kk _ _ ⟨by rw [nI_1, cnt]; simp [ofc, e], hs⟩
    · refine Wp.f (nI_ne (by omega) (by omega) e) ?_
      exact kk _ _ ⟨by rw [add0, cnt]; simp [ofc, e], hs⟩
  · obtain ⟨rfl, hs⟩ := hI
    simp only [f_X12_runnersOf_4]
    refine Wp.eq (M_rd (j := 1) (hM.of hs) i1 (by decide)) ?_
    exact Wp.t (nI_le (Nat.le_refl _) (by omega)) (Wp.ret ⟨rfl, hs⟩)
theorem M_punchesOfAll (hM : MR d σ) (hw : WF d) (hs : Ms σ σ') : Wp (f_X12_punchesOfAll σ') (fun r => r.1 = nI (sm (fun a => d (67 + a)) (d 1)) ∧ Ms σ r.2) := by
  have hr := hw.2.1
  refine loop0 (F := fun f (x : Int32) a σ => f_X12_punchesOfAll_4 f x (nI a) σ) (N := d 1) (I := fun a x τ => x = nI (sm (fun a => d (67 + a)) a) ∧ Ms σ τ) (by omega)
    (fun f a x τ ha hI kk => ?_) (fun f x τ hI => ?_) (x := 0) (σ := σ') ⟨rfl, hs⟩
  · obtain ⟨rfl, hs⟩ := hI
    simp only [f_X12_punchesOfAll_4]
    refine Wp.eq (M_rd (j := 1) (hM.of hs) i1 (by decide)) ?_
    refine Wp.f (nI_ge ha (by omega)) ?_
    refine Wp.eq (M_rd (j := 67 + a) (hM.of hs) (by rw [i67, nI_add]) (by omega)) ?_
    rw [nI_1 a, nI_add]
    exact kk _ _ ⟨rfl, hs⟩
  · obtain ⟨rfl, hs⟩ := hI
    simp only [f_X12_punchesOfAll_4]
    refine Wp.eq (M_rd (j := 1) (hM.of hs) i1 (by decide)) ?_
    exact Wp.t (nI_le (Nat.le_refl _) (by omega)) (Wp.ret ⟨rfl, hs⟩)
/-- the total of a valid one of course c -/
def vt (d : Nat → Nat) (c a : Nat) : Option Nat := if d (37 + a) = c ∧ mso d a = 0 then some (tot d a) else none
theorem tot_b (hw : WF d) : tot d a < 10000 := by
  have := hw.b (57 + a)
  unfold tot
  omega
theorem vt_b (hw : WF d) {j u : Nat} (h : vt d c j = some u) : u < 10000 := by
  unfold vt at h
  split at h
  · cases h; exact tot_b hw
  · cases h
theorem X_leastTotal (h : XR d σ) (hw : WF d) (hc : c < 10000) : f_X4_leastTotal 1 (nI c) σ = some (mo (lst (vt d c) (d 1)), σ) := by
  have hr := hw.2.1
  have := loop0 (F := fun f (x : Int32) a σ => f_X4_leastTotal_5 1 (nI c) f x (nI a) σ) (N := d 1) (I := fun a x τ => x = mo (lst (vt d c) a) ∧ τ = σ) (Q := fun r => r = (mo (lst (vt d c) (d 1)), σ)) (by omega)
    (fun f a x τ ha hI kk => by
      obtain ⟨rfl, rfl⟩ := hI
      simp only [f_X4_leastTotal_5]
      rw [h.2.1]
      refine Wp.f (nI_ge ha (by omega)) ?_
      refine Wp.eq (X_isValidOf h hw ha hc) ?_
      rw [nI_1 a]
      have hb := tot_b hw (a := a)
      by_cases e : d (37 + a) = c ∧ mso d a = 0
      · have hv : vt d c a = some (tot d a) := by unfold vt; rw [if_pos e]
        rw [if_pos e]
        refine Wp.f o1n0 ?_
        cases hl : lst (vt d c) a with
        | none =>
          refine Wp.t rfl ?_
          refine Wp.eq (X_runnerAt (by omega)) ?_
          refine Wp.eq (X_total h hw ha) ?_
          exact kk _ _ ⟨by rw [lst, hl, hv]; rfl, rfl⟩
        | some v =>
          have hvb := lst_b (fun j u _ hu => vt_b hw hu) hl
          refine Wp.f (nI_nm2 (by omega)) ?_
          refine Wp.eq (X_runnerAt (by omega)) ?_
          refine Wp.eq (X_total h hw ha) ?_
          by_cases hle : v ≤ tot d a
          · refine Wp.t (nI_le hle (by omega)) ?_
            exact kk _ _ ⟨by rw [lst, hl, hv]; simp [show ¬ tot d a < v by omega], rfl⟩
          · refine Wp.f (nI_ge (by omega) (by omega)) ?_
            refine Wp.eq (X_runnerAt (by omega)) ?_
            refine Wp.eq (X_total h hw ha) ?_
            exact kk _ _ ⟨by rw [lst, hl, hv]; simp [show tot d a < v by omega, mo], rfl⟩
      · have hv : vt d c a = none := by unfold vt; rw [if_neg e]
        rw [if_neg e]
        refine Wp.t rfl ?_
        exact kk _ _ ⟨by rw [lst, hv]; cases lst (vt d c) a <;> rfl, rfl⟩)
    (fun f x τ hI => by
      obtain ⟨rfl, rfl⟩ := hI
      simp only [f_X4_leastTotal_5]
      rw [h.2.1]
      exact Wp.t (nI_le (Nat.le_refl _) (by omega)) (Wp.ret rfl)) (x := -2) (σ := σ) ⟨rfl, rfl⟩
  obtain ⟨r, hr1, rfl⟩ := this
  exact hr1
theorem M_leastTotal (hM : MR d σ) (hw : WF d) (hs : Ms σ σ') (hc : c < 10000) : Wp (f_X12_leastTotal (nI c) σ') (fun r => r.1 = mo (lst (vt d c) (d 1)) ∧ Ms σ r.2) := by
  have hr := hw.2.1
  refine loop0 (F := fun f (x : Int32) a σ => f_X12_leastTotal_5 (nI c) f x (nI a) σ) (N := d 1) (I := fun a x τ => x = mo (lst (vt d c) a) ∧ Ms σ τ) (by omega)
    (fun f a x τ ha hI kk => ?_) (fun f x τ hI => ?_) (x := -2) (σ := σ') ⟨rfl, hs⟩
  · obtain ⟨rfl, hs⟩ := hI
    have b := hw.b (37 + a)
    have hb := tot_b hw (a := a)
    simp only [f_X12_leastTotal_5]
    refine Wp.eq (M_rd (j := 1) (hM.of hs) i1 (by decide)) ?_
    refine Wp.f (nI_ge ha (by omega)) ?_
    refine Wp.eq (M_rd (j := 37 + a) (hM.of hs) (by rw [i37, nI_add]) (by omega)) ?_
    rw [nI_1 a]
    have no : ∀ τ, Ms σ τ → vt d c a = none → Wp (f_X12_leastTotal_5 (nI c) f (mo (lst (vt d c) a)) (nI (a + 1)) τ) (fun r => r.1 = mo (lst (vt d c) (d 1)) ∧ Ms σ r.2) := fun τ hs hv => kk _ _ ⟨by rw [lst, hv]; cases lst (vt d c) a <;> rfl, hs⟩
    by_cases e : d (37 + a) = c
    · refine Wp.t (by rw [e]) ?_
      refine Wp.bind (M_isValid hM hw hs ha) (fun q hq => ?_)
      rw [hq.1]
      by_cases e2 : mso d a = 0
      · have hv : vt d c a = some (tot d a) := by unfold vt; rw [if_pos ⟨e, e2⟩]
        rw [if_pos e2]
        refine Wp.f o1n0 ?_
        cases hl : lst (vt d c) a with
        | none =>
          refine Wp.t rfl ?_
          refine Wp.eq (M_totalOf (hM.of hq.2) hw ha) ?_
          exact kk _ _ ⟨by rw [lst, hl, hv]; rfl, hq.2⟩
        | some v =>
          have hvb := lst_b (fun j u _ hu => vt_b hw hu) hl
          refine Wp.f (nI_nm2 (by omega)) ?_
          refine Wp.eq (M_totalOf (hM.of hq.2) hw ha) ?_
          by_cases hle : v ≤ tot d a
          · refine Wp.t (nI_le hle (by omega)) ?_
            exact kk _ _ ⟨by rw [lst, hl, hv]; simp [show ¬ tot d a < v by omega], hq.2⟩
          · refine Wp.f (nI_ge (by omega) (by omega)) ?_
            refine Wp.eq (M_totalOf (hM.of hq.2) hw ha) ?_
            exact kk _ _ ⟨by rw [lst, hl, hv]; simp [show tot d a < v by omega, mo], hq.2⟩
      · rw [if_neg e2]
        refine Wp.t rfl ?_
        exact no _ hq.2 (by unfold vt; rw [if_neg (fun q => e2 q.2)])
    · refine Wp.f (nI_ne (by omega) (by omega) e) ?_
      exact no _ hs (by unfold vt; rw [if_neg (fun q => e q.1)])
  · obtain ⟨rfl, hs⟩ := hI
    simp only [f_X12_leastTotal_5]
    refine Wp.eq (M_rd (j := 1) (hM.of hs) i1 (by decide)) ?_
    exact Wp.t (nI_le (Nat.le_refl _) (by omega)) (Wp.ret ⟨rfl, hs⟩)
end LO
