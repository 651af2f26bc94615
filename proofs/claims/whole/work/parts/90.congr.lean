/-! a match hangs on what counts alone -/
section CG
variable {C C' P P' T T' : Nat → Nat} {n p i k : Nat}
theorem lcr_cg (hC : ∀ i, i < n → C i = C' i) (hP : ∀ k, k < p → P k = P' k) : ∀ (s a b : Nat), a + b ≤ s → a ≤ n → b ≤ p → lcr C P n p a b = lcr C' P' n p a b := by
  intro s
  induction s with
  | zero =>
    intro a b h _ _
    obtain ⟨rfl, rfl⟩ : a = 0 ∧ b = 0 := by omega
    rw [lcr_0, lcr_0]
  | succ s ih =>
    intro a b h ha hb
    cases a with
    | zero => rw [lcr_0, lcr_0]
    | succ a =>
      cases b with
      | zero => rw [lcr_b0, lcr_b0]
      | succ b =>
        have e1 := ih a b (by omega) (by omega) (by omega)
        have e2 := ih a (b + 1) (by omega) (by omega) hb
        have e3 := ih (a + 1) b (by omega) ha (by omega)
        have e4 := hC (n - (a + 1)) (by omega)
        have e5 := hP (p - (b + 1)) (by omega)
        conv => lhs; rw [lcr]
        conv => rhs; rw [lcr]
        rw [e1, e2, e3, e4, e5]
theorem lc_cg (hC : ∀ i, i < n → C i = C' i) (hP : ∀ k, k < p → P k = P' k) : lc C P n p i k = lc C' P' n p i k := lcr_cg hC hP _ _ _ (Nat.le_refl _) (Nat.sub_le _ _) (Nat.sub_le _ _)
theorem nx_cg {q q' : Nat → Bool} : ∀ m k, (∀ z, k ≤ z → z < k + m → q z = q' z) → nx q m k = nx q' m k := by
  intro m
  induction m with
  | zero => intro k _; rfl
  | succ m ih =>
    intro k h
    rw [nx, nx, h k (Nat.le_refl _) (by omega), ih (k + 1) (fun z h1 h2 => h z (by omega) (by omega))]
theorem tk_cg (hC : ∀ i, i < n → C i = C' i) (hP : ∀ k, k < p → P k = P' k) (hi : i < n) {f : Nat} : tk C P n p i f = tk C' P' n p i f := by
  unfold tk
  refine nx_cg _ _ (fun z h1 h2 => ?_)
  unfold tq
  rw [hC i hi, hP z (by omega), lc_cg hC hP (i := i + 1), lc_cg hC hP (i := i)]
theorem fr_cg (hC : ∀ i, i < n → C i = C' i) (hP : ∀ k, k < p → P k = P' k) : ∀ i, i ≤ n → fr C P n p i = fr C' P' n p i := by
  intro i
  induction i with
  | zero => intro _; rfl
  | succ i ih =>
    intro hi
    rw [fr, fr, ih (by omega), tk_cg hC hP (by omega)]
theorem mt_cg (hC : ∀ i, i < n → C i = C' i) (hP : ∀ k, k < p → P k = P' k) (hi : i < n) : mt C P n p i = mt C' P' n p i := by
  unfold mt
  rw [fr_cg hC hP i (by omega), tk_cg hC hP hi]
theorem mc_cg (hC : ∀ i, i < n → C i = C' i) (hP : ∀ k, k < p → P k = P' k) : ∀ m, m ≤ n → mc C P n p m = mc C' P' n p m := by
  intro m
  induction m with
  | zero => intro _; rfl
  | succ m ih =>
    intro hm
    rw [mc, mc, ih (by omega), mt_cg hC hP (by omega)]
theorem tmx_cg (hT : ∀ k, k < p → T k = T' k) {o : Option Nat} (ho : ∀ k, o = some k → k < p) : tmx T o = tmx T' o := by
  cases o with
  | none => rfl
  | some k => show nI (T k) = nI (T' k); rw [hT k (ho k rfl)]
theorem Xk_cg {r : Nat} {σ : gSt} (hC : ∀ i, i < n → C i = C' i) (hP : ∀ k, k < p → P k = P' k) (hT : ∀ k, k < p → T k = T' k) (h : Xk C P T n p n r σ) : Xk C' P' T' n p n r σ := by
  obtain ⟨h1, h2, h3, h4⟩ := h
  refine ⟨h1, by rw [← mc_cg hC hP n (Nat.le_refl _)]; exact h2, fun z hz => ⟨fun q => ?_, (h3 z hz).2⟩, fun k hk => ⟨fun i' q1 q2 => (h4 k hk).1 i' q1 (by rw [mt_cg hC hP q1]; exact q2), fun q => (h4 k hk).2 (fun i' q1 => by rw [mt_cg hC hP q1]; exact q i' q1)⟩⟩
  rw [(h3 z hz).1 q, mt_cg hC hP q]
  exact tmx_cg hT (fun k hk => (mt_fr hk).2.1)
end CG
/-- the class holds one runner of the meet -/
def RO (d : Nat → Nat) (σ : gSt) (a : Nat) : Prop := σ 10 (10 + a) 5 = nI (d (37 + a)) ∧ σ 10 (10 + a) 6 = nI (d (47 + a)) ∧ σ 10 (10 + a) 7 = nI (d (57 + a)) ∧ XP σ (10 + a) (d (67 + a)) (dP d a) (dT d a) ∧ Xk (dC d (d (37 + a))) (dP d a) (dT d a) (nown d a) (d (67 + a)) (nown d a) (10 + a) σ
/-- two rows are alike in one runner; in one course -/
def AgP (d e : Nat → Nat) (a : Nat) : Prop := e (37 + a) = d (37 + a) ∧ e (47 + a) = d (47 + a) ∧ e (57 + a) = d (57 + a) ∧ e (67 + a) = d (67 + a) ∧ ∀ k, k < d (67 + a) → e (77 + 16 * a + k) = d (77 + 16 * a + k) ∧ e (237 + 16 * a + k) = d (237 + 16 * a + k)
def AgC (d e : Nat → Nat) (c : Nat) : Prop := e (4 + c) = d (4 + c) ∧ ∀ i, i < d (4 + c) → e (7 + 10 * c + i) = d (7 + 10 * c + i)
section RR
variable {d e : Nat → Nat} {σ τ : gSt} {a r c : Nat}
theorem RO.cg (h : RO d σ a) (hp : AgP d e a) (hc : AgC d e (d (37 + a))) (h10 : ∀ s, s ≠ 4 → τ 10 (10 + a) s = σ 10 (10 + a) s) (h14 : ∀ k s, 11 ≤ k → k ≤ 14 → τ k (10 + a) s = σ k (10 + a) s) : RO e τ a := by
  obtain ⟨g1, g2, g3, g4, g5⟩ := h
  obtain ⟨p1, p2, p3, p4, p5⟩ := hp
  have hn : nown e a = nown d a := by unfold nown; rw [p1]; exact hc.1
  refine ⟨by rw [h10 5 (by decide), p1]; exact g1, by rw [h10 6 (by decide), p2]; exact g2, by rw [h10 7 (by decide), p3]; exact g3, ?_, ?_⟩
  · refine ⟨by rw [h10 8 (by decide), p4]; exact g4.1, fun k hk => ?_⟩
    rw [p4] at hk
    have := g4.2 k hk
    rw [h14 11 k (by omega) (by omega), h14 12 k (by omega) (by omega)]
    show σ 11 (10 + a) k = nI (e (77 + 16 * a + k)) ∧ σ 12 (10 + a) k = nI (e (237 + 16 * a + k))
    rw [(p5 k hk).1, (p5 k hk).2]
    exact this
  · rw [hn, p4, p1]
    refine Xk_cg (C := dC d (d (37 + a))) (P := dP d a) (T := dT d a) (fun i hi => (hc.2 i hi).symm) (fun k hk => (p5 k hk).1.symm) (fun k hk => (p5 k hk).2.symm) ?_
    exact g5.same (h10 9 (by decide)) (h10 10 (by decide)) (fun k => h14 13 k (by omega) (by omega)) (fun k => h14 14 k (by omega) (by omega))
/-- what a change of the meet may touch -/
def Fo (σ σ' : gSt) : Prop := ∀ k i s, k ≠ 7 → (k < 17 ∨ 25 < k) → ¬ (k = 3 ∧ (s = 5 ∨ s = 6)) → ¬ (k = 8 ∧ s = 2) → k ≠ 9 → ¬ (k = 10 ∧ s ≠ 4) → ¬ (11 ≤ k ∧ k ≤ 14) → σ' k i s = σ k i s
theorem Fo.rf : Fo σ σ := fun _ _ _ _ _ _ _ _ _ _ => rfl
theorem Fo.tr {σ' σ'' : gSt} (h : Fo σ σ') (h' : Fo σ' σ'') : Fo σ σ'' := fun k i s a1 a2 a3 a4 a5 a6 a7 => (h' k i s a1 a2 a3 a4 a5 a6 a7).trans (h k i s a1 a2 a3 a4 a5 a6 a7)
/-- only runner r changes -/
def Fr (r : Nat) (σ σ' : gSt) : Prop := ∀ k i s, k ≠ 7 → (k < 17 ∨ 25 < k) → ¬ (10 ≤ k ∧ k ≤ 14 ∧ i = r ∧ ¬ (k = 10 ∧ s = 4)) → σ' k i s = σ k i s
theorem Fr.rf : Fr r σ σ := fun _ _ _ _ _ _ => rfl
theorem Fr.tr {σ' σ'' : gSt} (h : Fr r σ σ') (h' : Fr r σ' σ'') : Fr r σ σ'' := fun k i s a1 a2 a3 => (h' k i s a1 a2 a3).trans (h k i s a1 a2 a3)
theorem Fr.fo (h : Fr r σ τ) : Fo σ τ := fun k i s a1 a2 a3 a4 a5 a6 a7 => h k i s a1 a2 (by omega)
theorem Fr.up {k s : Nat} {v : Int32} (hk : 10 ≤ k ∧ k ≤ 14 ∧ ¬ (k = 10 ∧ s = 4)) (h : Fr r σ τ) : Fr r σ (gup τ k r s v) := fun k' i' s' a1 a2 a3 => by
  have e : ¬ (k' = k ∧ i' = r ∧ s' = s) := fun q => a3 ⟨by omega, by omega, q.2.1, by omega⟩
  show (if k' = k ∧ i' = r ∧ s' = s then v else τ k' i' s') = _
  rw [if_neg e]
  exact h k' i' s' a1 a2 a3
theorem XR.run (h : XR d σ) (hw : WF d) (hf : Fr (10 + r) σ τ) (h0 : e 0 = d 0) (h1 : e 1 = d 1) (h2 : e 2 = d 2) (h3 : e 3 = d 3) (hc : ∀ c, c < d 0 → AgC d e c) (ha : ∀ a, a < d 1 → a ≠ r → AgP d e a) (hr : RO e τ r) : XR e τ := by
  obtain ⟨g1, g2, g3, g4, g5, g6⟩ := h
  refine ⟨by rw [hf 3 1 3 (by omega) (by omega) (by omega), h0]; exact g1, by rw [hf 3 1 4 (by omega) (by omega) (by omega), h1]; exact g2, fun q => by rw [hf 3 1 5 (by omega) (by omega) (by omega), h2]; exact g3 (by rw [h0] at q; exact q), fun q => by rw [hf 3 1 6 (by omega) (by omega) (by omega), h3]; exact g4 (by rw [h0] at q; exact q), fun c hcd => ?_, fun a had => ?_⟩
  · rw [h0] at hcd
    have g := g5 c hcd
    have ag := hc c hcd
    refine ⟨by rw [hf 8 (3 + c) 2 (by omega) (by omega) (by omega), ag.1]; exact g.1, fun i hi => ?_⟩
    rw [ag.1] at hi
    rw [hf 9 (3 + c) i (by omega) (by omega) (by omega), g.2 i hi]
    show nI (d (7 + 10 * c + i)) = nI (e (7 + 10 * c + i))
    rw [ag.2 i hi]
  · rw [h1] at had
    by_cases har : a = r
    · subst har; exact hr
    · exact RO.cg (g6 a had) (ha a had har) (hc _ (hw.run had).1) (fun s hs => hf 10 (10 + a) s (by omega) (by omega) (by omega)) (fun k s k1 k2 => hf k (10 + a) s (by omega) (by omega) (by omega))
theorem Xm.fr {σ' : gSt} (h : Xm r σ σ') : Fr r σ σ' := fun k i s a1 a2 a3 => h k i s a1 a2 (by omega) (by omega) (by omega)
theorem X_matchRunner (hb : ∀ j, e j < 10000) (hr : r < 10) (h5 : τ 10 (10 + r) 5 = nI (e (37 + r))) (hc : e (37 + r) < 3) (hC : XC τ (3 + e (37 + r)) (nown e r) (dC e (e (37 + r)))) (hP : XP τ (10 + r) (e (67 + r)) (dP e r) (dT e r)) (hn : nown e r ≤ 10) (hp : e (67 + r) ≤ 16) : Wp (f_X4_matchRunner 1 (nI r) τ) (fun τ' => Fr (10 + r) τ τ' ∧ (∀ s, ¬ (s = 9 ∨ s = 10) → τ' 10 (10 + r) s = τ 10 (10 + r) s) ∧ (∀ k s, k = 11 ∨ k = 12 → τ' k (10 + r) s = τ k (10 + r) s) ∧ Xk (dC e (e (37 + r))) (dP e r) (dT e r) (nown e r) (e (67 + r)) (nown e r) (10 + r) τ') := by
  unfold f_X4_matchRunner
  refine Wp.eq (X_runnerAt hr) ?_
  refine Wp.eq (a := (3 + e (37 + r), τ)) (by show f_X4_courseAt 1 (τ 10 (10 + r) 5) τ = _; rw [h5]; exact X_courseAt hc) ?_
  refine Wp.eq (X_runnerAt hr) ?_
  refine Wp.bind (X_match (m0 := 1) hC hP hn hp (fun i => hb _) (fun i => hb _)) (fun τ' hq => ?_)
  exact Wp.ret ⟨hq.1.fr, fun s hs => hq.1 10 (10 + r) s (by omega) (by omega) (by omega) (by omega) (by omega), fun k s hk => hq.1 k (10 + r) s (by omega) (by omega) (by omega) (by omega) (by omega), hq.2⟩
end RR
