/-! what both sides read: times at points, splits, legs -/
def xo (o : Option Nat) : Int32 := match o with
  | none => -1
  | some v => nI v
def mo (o : Option Nat) : Int32 := match o with
  | none => -2
  | some v => nI v
/-- the time of a at a point of his course; his split; his leg; his total -/
def tA (d : Nat → Nat) (a i : Nat) : Option Nat := if i = nown d a then some (d (57 + a)) else (Mo d a i).map (dT d a)
def sp (d : Nat → Nat) (a i : Nat) : Option Nat := (tA d a i).map (fun t => t - d (47 + a))
def tB (d : Nat → Nat) (a i : Nat) : Option Nat := if i = 0 then some (d (47 + a)) else tA d a (i - 1)
def lg (d : Nat → Nat) (a i : Nat) : Option Nat := match tB d a i, tA d a i with
  | some x, some y => some (y - x)
  | _, _ => none
def tot (d : Nat → Nat) (a : Nat) : Nat := d (57 + a) - d (47 + a)
def bG (x : Int32) (n : Nat) : Int32 := if gin x n = true then 1 else 0
theorem gin_f {x : Int32} {n : Nat} (h : x < 0) : ¬ gin x n = true := fun q => by
  have := gin_iff.mp q
  rw [Int32.lt_iff_toInt_lt] at h
  have h0 : (0 : Int32).toInt = 0 := by decide
  omega
theorem gin_nI_iff {j n : Nat} (hj : j < 2147483648) : gin (nI j) n = true ↔ j < n := by
  rw [gin_iff, nI_toInt (by omega)]
  omega
/-- a number is below 0, or one of ours -/
theorem x_cases (x : Int32) : x < 0 ∨ ∃ j : Nat, j < 2147483648 ∧ x = nI j := by
  by_cases h : x < 0
  · exact Or.inl h
  · obtain ⟨j, h1, h2⟩ := nI_of h
    exact Or.inr ⟨j, h1, h2⟩
theorem bG_f {x : Int32} {n : Nat} (h : ¬ gin x n = true) : bG x n = 0 := by unfold bG; rw [if_neg h]
theorem bG_t {x : Int32} {n : Nat} (h : gin x n = true) : bG x n = 1 := by unfold bG; rw [if_pos h]
theorem o1n0 : ¬ (1 : Int32) = 0 := by decide
theorem WF.b {d : Nat → Nat} (h : WF d) (j : Nat) : d j < 10000 := h.2.2.2.2.1 j
theorem WF.len {d : Nat → Nat} (h : WF d) {c : Nat} (hc : c < d 0) : 1 ≤ d (4 + c) ∧ d (4 + c) ≤ 10 := h.2.2.2.2.2.2.1 c hc
theorem WF.run {d : Nat → Nat} (h : WF d) {a : Nat} (ha : a < d 1) : d (37 + a) < d 0 ∧ d (47 + a) < d (57 + a) ∧ d (67 + a) ≤ 16 := ⟨(h.2.2.2.2.2.2.2 a ha).1, (h.2.2.2.2.2.2.2 a ha).2.1, (h.2.2.2.2.2.2.2 a ha).2.2.1⟩
theorem WF.own {d : Nat → Nat} (h : WF d) {a : Nat} (ha : a < d 1) : 1 ≤ nown d a ∧ nown d a ≤ 10 := h.len (h.run ha).1
theorem WF.t {d : Nat → Nat} (h : WF d) {a k : Nat} (ha : a < d 1) (hk : k < d (67 + a)) : d (47 + a) ≤ dT d a k ∧ dT d a k ≤ d (57 + a) := (h.2.2.2.2.2.2.2 a ha).2.2.2.1 k hk
theorem WF.ts {d : Nat → Nat} (h : WF d) {a : Nat} (ha : a < d 1) : ∀ {k k' : Nat}, k ≤ k' → k' < d (67 + a) → dT d a k ≤ dT d a k' := by
  intro k k' h1 h2
  obtain ⟨m, rfl⟩ : ∃ m, k' = k + m := ⟨k' - k, by omega⟩
  clear h1
  induction m with
  | zero => exact Nat.le_refl _
  | succ m ih => exact Nat.le_trans (ih (by omega)) ((h.2.2.2.2.2.2.2 a ha).2.2.2.2 (k + m) (by omega))
theorem Mo_lt {d : Nat → Nat} {a i k : Nat} (h : Mo d a i = some k) : k < d (67 + a) := (mt_fr h).2.1
/-- times lie between start and finish, and go up -/
theorem tA_b {d : Nat → Nat} (h : WF d) {a i t : Nat} (ha : a < d 1) (ht : tA d a i = some t) : d (47 + a) ≤ t ∧ t ≤ d (57 + a) := by
  unfold tA at ht
  split at ht
  · cases ht
    have := (h.run ha).2.1
    omega
  · obtain ⟨k, h1, h2⟩ := Option.map_eq_some_iff.mp ht
    rw [← h2]
    exact h.t ha (Mo_lt h1)
theorem tA_m {d : Nat → Nat} (h : WF d) {a i i' t t' : Nat} (ha : a < d 1) (hi : i < i') (hi' : i' ≤ nown d a) (ht : tA d a i = some t) (ht' : tA d a i' = some t') : t ≤ t' := by
  have hb := tA_b h ha ht
  unfold tA at ht ht'
  rw [if_neg (by omega)] at ht
  split at ht'
  · cases ht'; exact hb.2
  · obtain ⟨k, h1, h2⟩ := Option.map_eq_some_iff.mp ht
    obtain ⟨k', h3, h4⟩ := Option.map_eq_some_iff.mp ht'
    rw [← h2, ← h4]
    exact h.ts ha (Nat.le_of_lt (mt_lt hi h1 h3)) (Mo_lt h3)
theorem tB_b {d : Nat → Nat} (h : WF d) {a i t : Nat} (ha : a < d 1) (ht : tB d a i = some t) : d (47 + a) ≤ t ∧ t ≤ d (57 + a) := by
  unfold tB at ht
  split at ht
  · cases ht
    have := (h.run ha).2.1
    omega
  · exact tA_b h ha ht
theorem tBA {d : Nat → Nat} (h : WF d) {a i t t' : Nat} (ha : a < d 1) (hi : i ≤ nown d a) (ht : tB d a i = some t) (ht' : tA d a i = some t') : t ≤ t' := by
  unfold tB at ht
  split at ht
  · cases ht; exact (tA_b h ha ht').1
  · exact tA_m h ha (show i - 1 < i by omega) hi ht ht'
section XRD
variable {d : Nat → Nat} {σ : gSt} {a c i : Nat}
theorem X_hasRunner (h : XR d σ) (hw : WF d) (x : Int32) : f_X4_hasRunner 1 x σ = some (bG x (d 1), σ) := by
  unfold f_X4_hasRunner
  rw [h.2.1]
  have b := hw.b 1
  rcases x_cases x with q | ⟨j, q1, rfl⟩
  · rw [if_pos q, bG_f (gin_f q)]
  · rw [if_neg (nI_pos q1)]
    by_cases hj : j < d 1
    · rw [if_neg (nI_ge hj (by omega)), bG_t ((gin_nI_iff q1).mpr hj)]
    · rw [if_pos (nI_le (by omega) (by omega)), bG_f (fun z => hj ((gin_nI_iff q1).mp z))]
theorem X_hasCourse (h : XR d σ) (hw : WF d) (x : Int32) : f_X4_hasCourse 1 x σ = some (bG x (d 0), σ) := by
  unfold f_X4_hasCourse
  rw [h.1]
  have b := hw.b 0
  rcases x_cases x with q | ⟨j, q1, rfl⟩
  · rw [if_pos q, bG_f (gin_f q)]
  · rw [if_neg (nI_pos q1)]
    by_cases hj : j < d 0
    · rw [if_neg (nI_ge hj (by omega)), bG_t ((gin_nI_iff q1).mpr hj)]
    · rw [if_pos (nI_le (by omega) (by omega)), bG_f (fun z => hj ((gin_nI_iff q1).mp z))]
theorem X_isTold (h : XR d σ) (hw : WF d) : f_X4_isTold 1 σ = some (if d 0 = 0 then 0 else 1, σ) := by
  unfold f_X4_isTold
  have b := hw.b 0
  rw [h.1]
  by_cases h0 : d 0 = 0
  · rw [if_pos (by rw [h0]; decide), if_pos h0]
  · rw [if_neg (nI_nle (by omega) (by omega)), if_neg h0]
theorem X_runnerAt (ha : a < 10) : f_X4_runnerAt 1 (nI a) σ = some (10 + a, σ) := by
  unfold f_X4_runnerAt
  rw [if_neg (nI_pos (by omega)), i10, if_neg (nI_ge ha (by omega)), gox_n ha (by decide), bind_some']
  unfold grf
  rw [if_pos (by omega)]
theorem X_courseAt (hc : c < 3) : f_X4_courseAt 1 (nI c) σ = some (3 + c, σ) := by
  unfold f_X4_courseAt
  rw [if_neg (nI_pos (by omega)), i3, if_neg (nI_ge hc (by omega)), gox_n hc (by decide), bind_some']
  unfold grf
  rw [if_pos (by omega)]
theorem X_isOf (h : XR d σ) (hw : WF d) (ha : a < d 1) (hc : c < 10000) : f_X4_isOf 1 (nI a) (nI c) σ = some (if d (37 + a) = c then 1 else 0, σ) := by
  have hr := hw.2.1
  have b := hw.b (37 + a)
  unfold f_X4_isOf
  rw [X_hasRunner h hw, bG_t ((gin_nI_iff (by omega)).mpr ha), bind_some', if_neg o1n0, X_runnerAt (by omega), bind_some']
  show (if σ 10 (10 + a) 5 = nI c then _ else _) = _
  rw [(h.2.2.2.2.2 a ha).1]
  by_cases e : d (37 + a) = c
  · rw [if_pos (by rw [e]), if_pos e]
  · rw [if_neg (nI_ne (by omega) (by omega) e), if_neg e]
theorem X_isValid (h : XR d σ) (hw : WF d) (ha : a < d 1) : f_X9_isValid (10 + a) σ = some (if mso d a = 0 then 1 else 0, σ) := by
  obtain ⟨-, -, -, -, hk⟩ := h.2.2.2.2.2 a ha
  have ho := hw.own ha
  have hm := mc_le (C := dC d (d (37 + a))) (P := dP d a) (n := nown d a) (p := d (67 + a)) (nown d a)
  unfold f_X9_isValid
  rw [hk.1, hk.2.1]
  by_cases e : mso d a = 0
  · rw [if_pos e, if_pos]
    congr 1
    have : mc (dC d (d (37 + a))) (dP d a) (nown d a) (d (67 + a)) (nown d a) = 0 := e
    omega
  · rw [if_neg e, if_neg (nI_ne (by omega) (by omega) _)]
    have : mc (dC d (d (37 + a))) (dP d a) (nown d a) (d (67 + a)) (nown d a) ≠ 0 := e
    omega
theorem X_isValidOf (h : XR d σ) (hw : WF d) (ha : a < d 1) (hc : c < 10000) : f_X4_isValidOf 1 (nI a) (nI c) σ = some (if d (37 + a) = c ∧ mso d a = 0 then 1 else 0, σ) := by
  have hr := hw.2.1
  unfold f_X4_isValidOf
  rw [X_isOf h hw ha hc, bind_some']
  by_cases e : d (37 + a) = c
  · by_cases e2 : mso d a = 0
    · simp [e, e2, o1n0, X_runnerAt (σ := σ) (show a < 10 by omega), X_isValid h hw ha]
    · simp [e, e2, o1n0, X_runnerAt (σ := σ) (show a < 10 by omega), X_isValid h hw ha]
  · simp [e]
theorem X_total (h : XR d σ) (hw : WF d) (ha : a < d 1) : f_X9_total (10 + a) σ = some (nI (tot d a), σ) := by
  obtain ⟨-, h6, h7, -, -⟩ := h.2.2.2.2.2 a ha
  unfold f_X9_total
  rw [h6, h7, nI_sub (Nat.le_of_lt (hw.run ha).2.1)]
  rfl
theorem X_timeAt (h : XR d σ) (hw : WF d) (ha : a < d 1) (hi : i ≤ nown d a) : f_X9_timeAt (10 + a) (nI i) σ = some (xo (tA d a i), σ) := by
  obtain ⟨-, -, h7, -, hk⟩ := h.2.2.2.2.2 a ha
  have ho := hw.own ha
  unfold f_X9_timeAt tA
  rw [hk.1]
  by_cases e : i = nown d a
  · rw [if_pos (by rw [e]), if_pos e, h7]
    rfl
  · rw [if_neg (nI_ne (by omega) (by omega) e), if_neg (nI_pos (by omega)), if_neg (nI_ge (by omega) (by omega)), i10, if_neg (nI_ge (by omega) (by omega)), gld_n (by omega) (by decide), bind_some', if_neg e, (hk.2.2.1 i (by omega)).1 (by omega)]
    show some (tmx (dT d a) (Mo d a i), σ) = _
    cases Mo d a i <;> rfl
theorem X_splitAt (h : XR d σ) (hw : WF d) (ha : a < d 1) (hi : i ≤ nown d a) : f_X9_splitAt (10 + a) (nI i) σ = some (xo (sp d a i), σ) := by
  obtain ⟨-, h6, -, -, -⟩ := h.2.2.2.2.2 a ha
  unfold f_X9_splitAt sp
  rw [X_timeAt h hw ha hi, bind_some']
  cases e : tA d a i with
  | none => rfl
  | some t =>
    have hb := tA_b hw ha e
    have b := hw.b (57 + a)
    show (if nI t = -1 then _ else _) = _
    rw [if_neg (nI_nm1 (by omega))]
    show some (nI t - σ 10 (10 + a) 6, σ) = _
    rw [h6, nI_sub hb.1]
    rfl
theorem X_legTime (h : XR d σ) (hw : WF d) (ha : a < d 1) (hi : i ≤ nown d a) : f_X9_legTime (10 + a) (nI i) σ = some (xo (lg d a i), σ) := by
  obtain ⟨-, h6, -, -, -⟩ := h.2.2.2.2.2 a ha
  have ho := hw.own ha
  have b := hw.b (57 + a)
  have b2 := hw.b (47 + a)
  have tail : ∀ x y : Option Nat, tB d a i = x → tA d a i = y → f_X9_legTime_24 (xo y) (xo x) σ = some (xo (lg d a i), σ) := by
    intro x y hx hy
    unfold f_X9_legTime_24 lg
    rw [hx, hy]
    cases y with
    | none => cases x <;> rfl
    | some t =>
      have hb := tA_b hw ha hy
      show (if nI t = -1 then _ else _) = _
      rw [if_neg (nI_nm1 (by omega))]
      cases x with
      | none => rfl
      | some z =>
        have hz := tB_b hw ha hx
        have hzt := tBA hw ha hi hx hy
        show (if nI z = -1 then _ else _) = _
        rw [if_neg (nI_nm1 (by omega)), ]
        show some (nI t - nI z, σ) = _
        rw [nI_sub hzt]
        rfl
  unfold f_X9_legTime
  rw [X_timeAt h hw ha hi, bind_some']
  by_cases e : i = 0
  · rw [if_pos (by rw [e]; decide)]
    show f_X9_legTime_24 (xo (tA d a i)) (σ 10 (10 + a) 6) σ = _
    rw [h6]
    exact tail (some (d (47 + a))) _ (by unfold tB; rw [if_pos e]) rfl
  · rw [if_neg (by rw [i0]; exact nI_ne (by omega) (by omega) e), i1, nI_sub (by omega)]
    show ((f_X9_timeAt (10 + a) (nI (i - 1)) σ).bind _) = _
    rw [X_timeAt h hw ha (by omega), bind_some']
    exact tail (tA d a (i - 1)) _ (by unfold tB; rw [if_neg e]) rfl
end XRD
