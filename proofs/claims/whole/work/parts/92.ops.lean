/-! changes of the class's meet -/
section OP
variable {d e : Nat → Nat} {σ τ τ1 : gSt} {a r c i k t v : Nat}
theorem upd1_eq {j : Nat} : upd1 d j v j = v := if_pos rfl
theorem upd1_ne {j q : Nat} (h : q ≠ j) : upd1 d j v q = d q := if_neg h
theorem XP_cg {j p : Nat} {P T P' T' : Nat → Nat} (h : XP τ j p P T) (hc : ∀ z, z < p → P' z = P z ∧ T' z = T z) : XP τ j p P' T' := ⟨h.1, fun z hz => by rw [(hc z hz).1, (hc z hz).2]; exact h.2 z hz⟩
theorem XC_cg {j n : Nat} {C C' : Nat → Nat} (h : XC τ j n C) (hc : ∀ z, z < n → C' z = C z) : XC τ j n C' := ⟨h.1, fun z hz => by rw [hc z hz]; exact h.2 z hz⟩
theorem AgP.rf : AgP d d a := ⟨rfl, rfl, rfl, rfl, fun _ _ => ⟨rfl, rfl⟩⟩
theorem AgC.rf : AgC d d c := ⟨rfl, fun _ _ => rfl⟩
theorem RO.st (h : RO d σ r) (h6 : τ 10 (10 + r) 6 = nI (e (47 + r))) (h7 : τ 10 (10 + r) 7 = nI (e (57 + r))) (h37 : e (37 + r) = d (37 + r)) (h67 : e (67 + r) = d (67 + r)) (hk : ∀ k, k < d (67 + r) → e (77 + 16 * r + k) = d (77 + 16 * r + k) ∧ e (237 + 16 * r + k) = d (237 + 16 * r + k)) (hc : AgC d e (d (37 + r))) (h10 : ∀ s, s ≠ 4 → s ≠ 6 → s ≠ 7 → τ 10 (10 + r) s = σ 10 (10 + r) s) (h14 : ∀ k s, 11 ≤ k → k ≤ 14 → τ k (10 + r) s = σ k (10 + r) s) : RO e τ r := by
  obtain ⟨g1, g2, g3, g4, g5⟩ := h
  have hn : nown e r = nown d r := by unfold nown; rw [h37]; exact hc.1
  refine ⟨by rw [h10 5 (by decide) (by decide) (by decide), h37]; exact g1, h6, h7, ?_, ?_⟩
  · rw [h67]
    exact XP_cg (g4.same (h10 8 (by decide) (by decide) (by decide)) (fun k => h14 11 k (by omega) (by omega)) (fun k => h14 12 k (by omega) (by omega))) hk
  · rw [hn, h67, h37]
    refine Xk_cg (C := dC d (d (37 + r))) (P := dP d r) (T := dT d r) (fun i hi => (hc.2 i hi).symm) (fun k hk2 => (hk k hk2).1.symm) (fun k hk2 => (hk k hk2).2.symm) ?_
    exact g5.same (h10 9 (by decide) (by decide) (by decide)) (h10 10 (by decide) (by decide) (by decide)) (fun k => h14 13 k (by omega) (by omega)) (fun k => h14 14 k (by omega) (by omega))
theorem op_start (h : XR d σ) (hw : WF d) (hr : r < d 1) : XR (upd1 d (47 + r) t) (gup σ 10 (10 + r) 6 (nI t)) := by
  have h10 := hw.2.1
  have h3 := hw.1
  have hru := hw.run hr
  have agc : ∀ c, c < d 0 → AgC d (upd1 d (47 + r) t) c := fun c hc => by
    have hl := hw.len hc
    exact ⟨upd1_ne (by omega), fun i hi => upd1_ne (by omega)⟩
  refine h.run hw (Fr.up (by omega) Fr.rf) (upd1_ne (by omega)) (upd1_ne (by omega)) (upd1_ne (by omega)) (upd1_ne (by omega)) agc (fun a ha hne => ?_) ?_
  · have hra := hw.run ha
    exact ⟨upd1_ne (by omega), upd1_ne (by omega), upd1_ne (by omega), upd1_ne (by omega), fun k hk => ⟨upd1_ne (by omega), upd1_ne (by omega)⟩⟩
  · have g := h.2.2.2.2.2 r hr
    refine RO.st (d := d) (σ := σ) g (by rw [upd1_eq]; simp [gup]) (by rw [upd1_ne (by omega)]; simp [gup]; exact g.2.2.1) (upd1_ne (by omega)) (upd1_ne (by omega)) (fun k hk => ⟨upd1_ne (by omega), upd1_ne (by omega)⟩) (agc _ hru.1) (fun s h4 h6 h7 => by simp [gup, h6]) (fun k s k1 k2 => by rw [gup_kind (by omega)])
theorem op_finish (h : XR d σ) (hw : WF d) (hr : r < d 1) : XR (upd1 d (57 + r) t) (gup σ 10 (10 + r) 7 (nI t)) := by
  have h10 := hw.2.1
  have h3 := hw.1
  have hru := hw.run hr
  have agc : ∀ c, c < d 0 → AgC d (upd1 d (57 + r) t) c := fun c hc => by
    have hl := hw.len hc
    exact ⟨upd1_ne (by omega), fun i hi => upd1_ne (by omega)⟩
  refine h.run hw (Fr.up (by omega) Fr.rf) (upd1_ne (by omega)) (upd1_ne (by omega)) (upd1_ne (by omega)) (upd1_ne (by omega)) agc (fun a ha hne => ?_) ?_
  · have hra := hw.run ha
    exact ⟨upd1_ne (by omega), upd1_ne (by omega), upd1_ne (by omega), upd1_ne (by omega), fun k hk => ⟨upd1_ne (by omega), upd1_ne (by omega)⟩⟩
  · have g := h.2.2.2.2.2 r hr
    refine RO.st (d := d) (σ := σ) g (by rw [upd1_ne (by omega)]; simp [gup]; exact g.2.1) (by rw [upd1_eq]; simp [gup]) (upd1_ne (by omega)) (upd1_ne (by omega)) (fun k hk => ⟨upd1_ne (by omega), upd1_ne (by omega)⟩) (agc _ hru.1) (fun s h4 h6 h7 => by simp [gup, h7]) (fun k s k1 k2 => by rw [gup_kind (by omega)])
theorem op_move (h : XR d σ) (hw : WF d) (hr : r < d 1) (hc : c < d 0) : Wp (f_X4_assign 1 (nI r) (nI c) σ) (fun τ => Fr (10 + r) σ τ ∧ XR (upd1 d (37 + r) c) τ) := by
  have h10 := hw.2.1
  have h3 := hw.1
  have hru := hw.run hr
  have hl := hw.len hc
  have g := h.2.2.2.2.2 r hr
  have agc : ∀ c', c' < d 0 → AgC d (upd1 d (37 + r) c) c' := fun c' hc' => by
    have hl := hw.len hc'
    exact ⟨upd1_ne (by omega), fun i hi => upd1_ne (by omega)⟩
  have e37 : upd1 d (37 + r) c (37 + r) = c := upd1_eq
  have e67 : upd1 d (37 + r) c (67 + r) = d (67 + r) := upd1_ne (by omega)
  have hn : nown (upd1 d (37 + r) c) r = d (4 + c) := by unfold nown; rw [e37]; exact upd1_ne (by omega)
  have hb : ∀ j, upd1 d (37 + r) c j < 10000 := fun j => by
    have := hw.b j
    unfold upd1
    split <;> omega
  have hPT : ∀ z, z < d (67 + r) → dP (upd1 d (37 + r) c) r z = dP d r z ∧ dT (upd1 d (37 + r) c) r z = dT d r z := fun z hz => ⟨upd1_ne (by omega), upd1_ne (by omega)⟩
  unfold f_X4_assign
  refine Wp.eq (X_runnerAt (by omega)) ?_
  have hXP : XP (gup σ 10 (10 + r) 5 (nI c)) (10 + r) (upd1 d (37 + r) c (67 + r)) (dP (upd1 d (37 + r) c) r) (dT (upd1 d (37 + r) c) r) := by
    rw [e67]
    exact XP_cg (g.2.2.2.1.same (by simp [gup]) (fun k => by simp [gup]) (fun k => by simp [gup])) hPT
  refine Wp.bind (X_matchRunner (e := upd1 d (37 + r) c) hb (by omega) (by rw [e37]; simp [gup]) (by rw [e37]; omega) (by
    rw [hn, e37]
    exact XC_cg ((h.2.2.2.2.1 c hc).same (by simp [gup]) (fun i => by simp [gup])) (fun i hi => (agc c hc).2 i hi)) hXP (by rw [hn]; omega) (by rw [e67]; omega)) (fun τ hq => ?_)
  have hF : Fr (10 + r) σ τ := (Fr.up (k := 10) (s := 5) (by omega) Fr.rf).tr hq.1
  refine Wp.ret ⟨hF, h.run hw hF (upd1_ne (by omega)) (upd1_ne (by omega)) (upd1_ne (by omega)) (upd1_ne (by omega)) agc (fun a ha hne => ?_) ?_⟩
  · have hra := hw.run ha
    exact ⟨upd1_ne (by omega), upd1_ne (by omega), upd1_ne (by omega), upd1_ne (by omega), fun k hk => ⟨upd1_ne (by omega), upd1_ne (by omega)⟩⟩
  · refine ⟨by rw [hq.2.1 5 (by omega), e37]; simp [gup], by rw [hq.2.1 6 (by omega), upd1_ne (by omega)]; simp [gup]; exact g.2.1, by rw [hq.2.1 7 (by omega), upd1_ne (by omega)]; simp [gup]; exact g.2.2.1, hXP.same (hq.2.1 8 (by omega)) (fun k => hq.2.2.1 11 k (Or.inl rfl)) (fun k => hq.2.2.1 12 k (Or.inr rfl)), hq.2.2.2⟩
/-- a runner's punches change -/
theorem op_punch (h : XR d σ) (hw : WF d) (hr : r < d 1) {p' : Nat} {P' T' : Nat → Nat} (hF : Fr (10 + r) σ τ1) (hcell : ∀ s, s ≠ 8 → τ1 10 (10 + r) s = σ 10 (10 + r) s) (hXP : XP τ1 (10 + r) p' P' T') (hp' : p' ≤ 16) (hb : ∀ j, e j < 10000) (h0 : e 0 = d 0) (h1 : e 1 = d 1) (h2 : e 2 = d 2) (h3 : e 3 = d 3) (hc : ∀ c, c < d 0 → AgC d e c) (ha : ∀ a, a < d 1 → a ≠ r → AgP d e a) (h37 : e (37 + r) = d (37 + r)) (h47 : e (47 + r) = d (47 + r)) (h57 : e (57 + r) = d (57 + r)) (h67 : e (67 + r) = p') (hPT : ∀ z, z < p' → e (77 + 16 * r + z) = P' z ∧ e (237 + 16 * r + z) = T' z) : Wp (f_X4_matchRunner 1 (nI r) τ1) (fun τ => Fr (10 + r) σ τ ∧ XR e τ) := by
  have h10 := hw.2.1
  have hd3 := hw.1
  have hru := hw.run hr
  have ho := hw.own hr
  have g := h.2.2.2.2.2 r hr
  have agr := hc _ hru.1
  have hn : nown e r = nown d r := by unfold nown; rw [h37]; exact agr.1
  have hXP2 : XP τ1 (10 + r) (e (67 + r)) (dP e r) (dT e r) := by rw [h67]; exact XP_cg hXP hPT
  refine Wp.mono (X_matchRunner (e := e) hb (by omega) (by rw [hcell 5 (by decide), h37]; exact g.1) (by rw [h37]; omega) (by
    rw [hn, h37]
    exact XC_cg ((h.2.2.2.2.1 _ hru.1).same (hF 8 _ _ (by omega) (by omega) (by omega)) (fun i => hF 9 _ _ (by omega) (by omega) (by omega))) (fun i hi => agr.2 i hi)) hXP2 (by rw [hn]; exact ho.2) (by rw [h67]; exact hp')) (fun τ hq => ?_)
  have hF2 := hF.tr hq.1
  refine ⟨hF2, h.run hw hF2 h0 h1 h2 h3 hc ha ?_⟩
  exact ⟨by rw [hq.2.1 5 (by omega), hcell 5 (by decide), h37]; exact g.1, by rw [hq.2.1 6 (by omega), hcell 6 (by decide), h47]; exact g.2.1, by rw [hq.2.1 7 (by omega), hcell 7 (by decide), h57]; exact g.2.2.1, hXP2.same (hq.2.1 8 (by omega)) (fun k => hq.2.2.1 11 k (Or.inl rfl)) (fun k => hq.2.2.1 12 k (Or.inr rfl)), hq.2.2.2⟩
theorem op_insP (h : XR d σ) (hw : WF d) (hr : r < d 1) (hp : d (67 + r) < 16) (hk : k ≤ d (67 + r)) (hb : ∀ j, e j < 10000) (h0 : e 0 = d 0) (h1 : e 1 = d 1) (h2 : e 2 = d 2) (h3 : e 3 = d 3) (hc : ∀ c, c < d 0 → AgC d e c) (ha : ∀ a, a < d 1 → a ≠ r → AgP d e a) (h37 : e (37 + r) = d (37 + r)) (h47 : e (47 + r) = d (47 + r)) (h57 : e (57 + r) = d (57 + r)) (h67 : e (67 + r) = d (67 + r) + 1) (hPT : ∀ z, z < d (67 + r) + 1 → e (77 + 16 * r + z) = isr (dP d r) k c z ∧ e (237 + 16 * r + z) = isr (dT d r) k t z) : Wp (f_X4_insertPunch 1 (nI r) (nI k) (nI c) (nI t) σ) (fun τ => Fr (10 + r) σ τ ∧ XR e τ) := by
  have h10 := hw.2.1
  unfold f_X4_insertPunch
  refine Wp.eq (X_runnerAt (by omega)) ?_
  refine Wp.bind (X_insP (c := c) (t := t) hp hk (h.2.2.2.2.2 r hr).2.2.2.1) (fun τ1 hq => ?_)
  refine Wp.bind (op_punch (e := e) h hw hr hq.1 hq.2.1 hq.2.2.2 (by omega) hb h0 h1 h2 h3 hc ha h37 h47 h57 h67 hPT) (fun τ hq2 => Wp.ret hq2)
theorem op_remP (h : XR d σ) (hw : WF d) (hr : r < d 1) (hk : k < d (67 + r)) (hb : ∀ j, e j < 10000) (h0 : e 0 = d 0) (h1 : e 1 = d 1) (h2 : e 2 = d 2) (h3 : e 3 = d 3) (hc : ∀ c, c < d 0 → AgC d e c) (ha : ∀ a, a < d 1 → a ≠ r → AgP d e a) (h37 : e (37 + r) = d (37 + r)) (h47 : e (47 + r) = d (47 + r)) (h57 : e (57 + r) = d (57 + r)) (h67 : e (67 + r) = d (67 + r) - 1) (hPT : ∀ z, z < d (67 + r) - 1 → e (77 + 16 * r + z) = rmv (dP d r) k z ∧ e (237 + 16 * r + z) = rmv (dT d r) k z) : Wp (f_X4_removePunch 1 (nI r) (nI k) σ) (fun τ => Fr (10 + r) σ τ ∧ XR e τ) := by
  have h10 := hw.2.1
  have hru := hw.run hr
  unfold f_X4_removePunch
  refine Wp.eq (X_runnerAt (by omega)) ?_
  refine Wp.bind (X_remP hru.2.2 hk (h.2.2.2.2.2 r hr).2.2.2.1) (fun τ1 hq => ?_)
  refine Wp.bind (op_punch (e := e) h hw hr hq.1 hq.2.1 hq.2.2.2 (by omega) hb h0 h1 h2 h3 hc ha h37 h47 h57 h67 hPT) (fun τ hq2 => Wp.ret hq2)
theorem XR.all (hw : WF d) (h : XR d σ) (h3 : τ 3 1 3 = nI (e 0) ∧ τ 3 1 4 = nI (e 1) ∧ τ 3 1 5 = nI (e 2) ∧ τ 3 1 6 = nI (e 3)) (h0 : e 0 = d 0) (h1 : e 1 = d 1) (hc : ∀ c, c < d 0 → AgC d e c) (ha : ∀ a, a < d 1 → AgP d e a) (hs : ∀ k i s, 8 ≤ k → k ≤ 14 → τ k i s = σ k i s) : XR e τ := by
  obtain ⟨g1, g2, g3, g4, g5, g6⟩ := h
  refine ⟨h3.1, h3.2.1, fun _ => h3.2.2.1, fun _ => h3.2.2.2, fun c hcd => ?_, fun a had => ?_⟩
  · rw [h0] at hcd
    have ag := hc c hcd
    rw [ag.1]
    exact XC_cg ((g5 c hcd).same (hs 8 _ _ (by omega) (by omega)) (fun i => hs 9 _ _ (by omega) (by omega))) (fun i hi => ag.2 i hi)
  · rw [h1] at had
    exact RO.cg (g6 a had) (ha a had) (hc _ (hw.run had).1) (fun s _ => hs 10 _ s (by omega) (by omega)) (fun k s k1 k2 => hs k _ s (by omega) (by omega))
theorem op_widen (h : XR d σ) (hw : WF d) (h0 : 0 < d 0) {w : Nat} (hwd : w < 2) : Wp (f_X4_widen 1 (nI w) (nI v) σ) (fun τ => Fo σ τ ∧ XR (upd1 d (2 + w) v) τ) := by
  have h10 := hw.2.1
  have h3 := hw.1
  have agc : ∀ c, c < d 0 → AgC d (upd1 d (2 + w) v) c := fun c hc => ⟨upd1_ne (by omega), fun i hi => upd1_ne (by omega)⟩
  have agp : ∀ a, a < d 1 → AgP d (upd1 d (2 + w) v) a := fun a ha => ⟨upd1_ne (by omega), upd1_ne (by omega), upd1_ne (by omega), upd1_ne (by omega), fun k hk => ⟨upd1_ne (by omega), upd1_ne (by omega)⟩⟩
  have fo : ∀ s, s = 5 ∨ s = 6 → Fo σ (gup σ 3 1 s (nI v)) := fun s hs k i s' a1 a2 a3 a4 a5 a6 a7 => by
    show (if k = 3 ∧ i = 1 ∧ s' = s then nI v else σ k i s') = _
    rw [if_neg (fun q => a3 ⟨q.1, by omega⟩)]
  unfold f_X4_widen
  by_cases e : w = 0
  · subst e
    refine Wp.t rfl (Wp.ret ⟨fo 5 (Or.inl rfl), XR.all hw h ⟨?_, ?_, ?_, ?_⟩ (upd1_ne (by omega)) (upd1_ne (by omega)) agc agp (fun k i s k1 k2 => by rw [gup_kind (by omega)])⟩)
    · rw [upd1_ne (by omega)]; simp [gup]; exact h.1
    · rw [upd1_ne (by omega)]; simp [gup]; exact h.2.1
    · rw [show (2 : Nat) = 2 + 0 from rfl, upd1_eq]; simp [gup]
    · rw [upd1_ne (by omega)]; simp [gup]; exact h.2.2.2.1 h0
  · obtain rfl : w = 1 := by omega
    refine Wp.f (by decide) (Wp.ret ⟨fo 6 (Or.inr rfl), XR.all hw h ⟨?_, ?_, ?_, ?_⟩ (upd1_ne (by omega)) (upd1_ne (by omega)) agc agp (fun k i s k1 k2 => by rw [gup_kind (by omega)])⟩)
    · rw [upd1_ne (by omega)]; simp [gup]; exact h.1
    · rw [upd1_ne (by omega)]; simp [gup]; exact h.2.1
    · rw [upd1_ne (by omega)]; simp [gup]; exact h.2.2.1 h0
    · rw [show (3 : Nat) = 2 + 1 from rfl, upd1_eq]; simp [gup]
/-- a course changes: all of it are matched anew -/
theorem op_course (h : XR d σ) (hw : WF d) (hc : c < d 0) (hF : Fc (3 + c) σ τ1) (hXC : XC τ1 (3 + c) (e (4 + c)) (dC e c)) (hn : e (4 + c) ≤ 10) (hb : ∀ j, e j < 10000) (h0 : e 0 = d 0) (h1 : e 1 = d 1) (h2 : e 2 = d 2) (h3 : e 3 = d 3) (hcs : ∀ c', c' < d 0 → c' ≠ c → AgC d e c') (ha : ∀ a, a < d 1 → AgP d e a) : Wp (f_X4_matchCourse 1 (nI c) τ1) (fun τ => Fo σ τ ∧ XR e τ) := by
  have h10 := hw.2.1
  have hd3 := hw.1
  obtain ⟨g1, g2, g3, g4, g5, g6⟩ := h
  refine loop0 (F := fun f (_ : Unit) a τ => f_X4_matchCourse_2 1 (nI c) f (nI a) τ) (N := d 1) (I := fun a _ τ => (∀ k i s, k ≠ 7 → (k < 17 ∨ 25 < k) → ¬ (k = 10 ∧ (s = 9 ∨ s = 10)) → k ≠ 13 → k ≠ 14 → τ k i s = τ1 k i s) ∧ ∀ a', a' < d 1 → (a' < a ∨ d (37 + a') ≠ c) → RO e τ a') (by omega)
    (fun f a x τ had hI kk => ?_) (fun f x τ hI => ?_) (x := ()) (σ := τ1) ⟨fun _ _ _ _ _ _ _ _ => rfl, fun a' ha' q => ?_⟩
  · obtain ⟨hm, hR⟩ := hI
    have hra := hw.run had
    have bc := hw.b (37 + a)
    have p := ha a had
    have e34 : τ 3 1 4 = nI (d 1) := by rw [hm 3 1 4 (by omega) (by omega) (by omega) (by omega) (by omega), hF 3 1 4 (by omega) (by omega)]; exact g2
    have e5 : τ 10 (10 + a) 5 = nI (d (37 + a)) := by rw [hm 10 (10 + a) 5 (by omega) (by omega) (by omega) (by omega) (by omega), hF 10 (10 + a) 5 (by omega) (by omega)]; exact (g6 a had).1
    have hiso : f_X4_isOf 1 (nI a) (nI c) τ = some (if d (37 + a) = c then 1 else 0, τ) := by
      unfold f_X4_isOf f_X4_hasRunner
      rw [if_neg (nI_pos (by omega)), e34, if_neg (nI_ge had (by omega)), bind_some', if_neg o1n0, X_runnerAt (by omega), bind_some']
      show (if τ 10 (10 + a) 5 = nI c then _ else _) = _
      rw [e5]
      by_cases ee : d (37 + a) = c
      · rw [if_pos (by rw [ee]), if_pos ee]
      · rw [if_neg (nI_ne (by omega) (by omega) ee), if_neg ee]
    show Wp (f_X4_matchCourse_2 1 (nI c) (f + 1) (nI a) τ) _
    rw [f_X4_matchCourse_2, e34]
    refine Wp.f (nI_ge had (by omega)) ?_
    refine Wp.eq hiso ?_
    rw [nI_1 a]
    by_cases ee : d (37 + a) = c
    · rw [if_pos ee]
      refine Wp.f o1n0 ?_
      refine Wp.eq (X_courseAt (by omega)) ?_
      refine Wp.eq (X_runnerAt (by omega)) ?_
      have hC : XC τ (3 + c) (e (4 + c)) (dC e c) := hXC.same (hm 8 _ _ (by omega) (by omega) (by omega) (by omega) (by omega)) (fun i => hm 9 _ _ (by omega) (by omega) (by omega) (by omega) (by omega))
      have hP : XP τ (10 + a) (e (67 + a)) (dP e a) (dT e a) := by
        rw [p.2.2.2.1]
        refine XP_cg ((g6 a had).2.2.2.1.same ?_ (fun k => ?_) (fun k => ?_)) (fun k hk => p.2.2.2.2 k hk)
        · rw [hm 10 (10 + a) 8 (by omega) (by omega) (by omega) (by omega) (by omega), hF 10 (10 + a) 8 (by omega) (by omega)]
        · rw [hm 11 (10 + a) k (by omega) (by omega) (by omega) (by omega) (by omega), hF 11 (10 + a) k (by omega) (by omega)]
        · rw [hm 12 (10 + a) k (by omega) (by omega) (by omega) (by omega) (by omega), hF 12 (10 + a) k (by omega) (by omega)]
      refine Wp.bind (X_match (m0 := 1) hC hP hn (by rw [p.2.2.2.1]; exact hra.2.2) (fun i => hb _) (fun i => hb _)) (fun τ' hq => ?_)
      have hq1 : Xm (10 + a) τ τ' := hq.1
      have hc37 : e (37 + a) = c := by rw [p.1, ee]
      refine kk () τ' ⟨fun k i s a1 a2 a3 a4 a5 => (hq1 k i s a1 a2 (by omega) (by omega) (by omega)).trans (hm k i s a1 a2 a3 a4 a5), fun a' ha' q => ?_⟩
      by_cases ea : a' = a
      · subst ea
        refine ⟨?_, ?_, ?_, hP.same (hq1 10 _ 8 (by omega) (by omega) (by omega) (by omega) (by omega)) (fun k => hq1 11 _ k (by omega) (by omega) (by omega) (by omega) (by omega)) (fun k => hq1 12 _ k (by omega) (by omega) (by omega) (by omega) (by omega)), ?_⟩
        · rw [hq1 10 _ 5 (by omega) (by omega) (by omega) (by omega) (by omega), e5, p.1]
        · rw [hq1 10 _ 6 (by omega) (by omega) (by omega) (by omega) (by omega), hm 10 _ 6 (by omega) (by omega) (by omega) (by omega) (by omega), hF 10 _ 6 (by omega) (by omega), p.2.1]; exact (g6 a' had).2.1
        · rw [hq1 10 _ 7 (by omega) (by omega) (by omega) (by omega) (by omega), hm 10 _ 7 (by omega) (by omega) (by omega) (by omega) (by omega), hF 10 _ 7 (by omega) (by omega), p.2.2.1]; exact (g6 a' had).2.2.1
        · have hno : nown e a' = e (4 + c) := by unfold nown; rw [hc37]
          rw [hno, hc37]
          exact hq.2
      · exact RO.cg (hR a' ha' (by rcases q with z | z; exact Or.inl (by omega); exact Or.inr z)) AgP.rf AgC.rf (fun s _ => hq1 10 (10 + a') s (by omega) (by omega) (by omega) (by omega) (by omega)) (fun k s k1 k2 => hq1 k (10 + a') s (by omega) (by omega) (by omega) (by omega) (by omega))
    · rw [if_neg ee]
      refine Wp.t rfl ?_
      refine kk () τ ⟨hm, fun a' ha' q => hR a' ha' ?_⟩
      by_cases ea : a' = a
      · subst ea; exact Or.inr ee
      · rcases q with z | z
        · exact Or.inl (by omega)
        · exact Or.inr z
  · obtain ⟨hm, hR⟩ := hI
    have e34 : τ 3 1 4 = nI (d 1) := by rw [hm 3 1 4 (by omega) (by omega) (by omega) (by omega) (by omega), hF 3 1 4 (by omega) (by omega)]; exact g2
    show Wp (f_X4_matchCourse_2 1 (nI c) (f + 1) (nI (d 1)) τ) _
    rw [f_X4_matchCourse_2, e34]
    refine Wp.t (nI_le (Nat.le_refl _) (by omega)) ?_
    refine Wp.ret ⟨fun k i s a1 a2 a3 a4 a5 a6 a7 => (hm k i s a1 a2 (by omega) (by omega) (by omega)).trans (hF k i s (by omega) (by omega)), ?_, ?_, ?_, ?_, fun c' hc' => ?_, fun a had => hR a (by rw [h1] at had; exact had) (Or.inl (by rw [h1] at had; exact had))⟩
    · rw [hm 3 1 3 (by omega) (by omega) (by omega) (by omega) (by omega), hF 3 1 3 (by omega) (by omega), h0]; exact g1
    · rw [e34, h1]
    · intro q; rw [hm 3 1 5 (by omega) (by omega) (by omega) (by omega) (by omega), hF 3 1 5 (by omega) (by omega), h2]; exact g3 (by rw [h0] at q; exact q)
    · intro q; rw [hm 3 1 6 (by omega) (by omega) (by omega) (by omega) (by omega), hF 3 1 6 (by omega) (by omega), h3]; exact g4 (by rw [h0] at q; exact q)
    · rw [h0] at hc'
      have s8 : τ 8 (3 + c') 2 = τ1 8 (3 + c') 2 := hm 8 _ _ (by omega) (by omega) (by omega) (by omega) (by omega)
      have s9 : ∀ i, τ 9 (3 + c') i = τ1 9 (3 + c') i := fun i => hm 9 _ _ (by omega) (by omega) (by omega) (by omega) (by omega)
      by_cases ec : c' = c
      · subst ec; exact hXC.same s8 s9
      · have ag := hcs c' hc' ec
        rw [ag.1]
        exact XC_cg ((g5 c' hc').same (s8.trans (hF 8 _ _ (by omega) (by omega))) (fun i => (s9 i).trans (hF 9 _ _ (by omega) (by omega)))) (fun i hi => ag.2 i hi)
  · have qa : d (37 + a') ≠ c := by rcases q with z | z; omega; exact z
    exact RO.cg (g6 a' ha') (ha a' ha') (hcs _ (hw.run ha').1 qa) (fun s _ => hF 10 _ s (by omega) (by omega)) (fun k s k1 k2 => hF k _ s (by omega) (by omega))
end OP
