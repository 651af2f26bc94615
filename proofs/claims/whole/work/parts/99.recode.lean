/-! recode, cancel -/
def cnM (d : Nat → Nat) (c i : Nat) : Nat → Nat := fun q =>
  if q = 4 + c then d (4 + c) - 1
  else if 7 + 10 * c + i ≤ q ∧ q < 7 + 10 * c + (d (4 + c) - 1) then d (q + 1)
  else d q
section A7
variable {d e : Nat → Nat} {σ τ τ' : gSt} {m a b c i k t v z : Nat}
theorem X_isCode_o (h : XR d σ) (hw : WF d) (hc : c < d 0) {y u : Int32} (hy : ¬ gin y (d (4 + c)) = true) : f_X1_isCode (3 + c) y u σ = some (0, σ) := by
  unfold f_X1_isCode
  rw [X_has h hw hc, bG_f hy, bind_some', if_pos rfl]
theorem ag_c (hw : WF d) (hc : c < d 0) (hi : i < d (4 + c)) : (∀ c', c' < d 0 → c' ≠ c → AgC d (upd1 d (7 + 10 * c + i) v) c') ∧ (∀ a, a < d 1 → AgP d (upd1 d (7 + 10 * c + i) v) a) ∧ (∀ j, j < 7 → upd1 d (7 + 10 * c + i) v j = d j) := by
  have h10 := hw.2.1
  have h3 := hw.1
  have hl := hw.len hc
  refine ⟨fun c' hc' hne => ?_, fun a ha => ?_, fun j hj => upd1_ne (by omega)⟩
  · have hl' := hw.len hc'
    exact ⟨upd1_ne (by omega), fun i' hi' => upd1_ne (by omega)⟩
  · exact ⟨upd1_ne (by omega), upd1_ne (by omega), upd1_ne (by omega), upd1_ne (by omega), fun k hk => ⟨upd1_ne (by omega), upd1_ne (by omega)⟩⟩
theorem op_code (h : XR d σ) (hw : WF d) (hc : c < d 0) (hi : i < d (4 + c)) (hv : v < 10000) : Wp (f_X4_setCode 1 (nI c) (nI i) (nI v) σ) (fun τ => Fo σ τ ∧ XR (upd1 d (7 + 10 * c + i) v) τ) := by
  have h3 := hw.1
  have hl := hw.len hc
  obtain ⟨g1, g2, g3⟩ := ag_c (v := v) hw hc hi
  have hx := h.2.2.2.2.1 c hc
  have e4 : upd1 d (7 + 10 * c + i) v (4 + c) = d (4 + c) := g3 (4 + c) (by omega)
  unfold f_X4_setCode
  refine Wp.eq (X_courseAt (by omega)) ?_
  refine Wp.eq (X_setC (v := nI v) hx.1 hl.2 hi) ?_
  refine Wp.bind (op_course (e := upd1 d (7 + 10 * c + i) v) h hw hc (Fc.up9 Fc.rf) ?_ (by rw [e4]; exact hl.2) (upd1_b hw hv) (g3 0 (by omega)) (g3 1 (by omega)) (g3 2 (by omega)) (g3 3 (by omega)) g1 g2) (fun τ hq => Wp.ret hq)
  rw [e4]
  refine ⟨by rw [gup_kind (by decide)]; exact hx.1, fun z hz => ?_⟩
  by_cases ez : z = i
  · subst ez
    show gup σ 9 (3 + c) z (nI v) 9 (3 + c) z = nI (upd1 d (7 + 10 * c + z) v (7 + 10 * c + z))
    rw [upd1_eq, gup_same]
  · show gup σ 9 (3 + c) i (nI v) 9 (3 + c) z = nI (upd1 d (7 + 10 * c + i) v (7 + 10 * c + z))
    rw [upd1_ne (by omega), gup_slot ez]
    exact hx.2 z hz
/-- a code stands beside -/
def bes (d : Nat → Nat) (c i v : Nat) : Prop := (0 < i ∧ d (7 + 10 * c + (i - 1)) = v) ∨ (i + 1 < d (4 + c) ∧ d (7 + 10 * c + (i + 1)) = v)
theorem M_isBeside16 (hM : MR d σ) (hw : WF d) (hc : c < d 0) (hi : i < d (4 + c)) (hv : v < 10000) : f_X12_isBeside_16 (nI c) (nI i) (nI v) σ = some (if i + 1 < d (4 + c) ∧ d (7 + 10 * c + (i + 1)) = v then 1 else 0, σ) := by
  have h3 := hw.1
  have hl := hw.len hc
  have b1 := hw.b (7 + 10 * c + (i + 1))
  unfold f_X12_isBeside_16
  rw [M_rd (j := 4 + c) hM (by rw [i4, nI_add]) (by omega), bind_some', show nI (d (4 + c)) - 1 = nI (d (4 + c) - 1) by rw [i1, nI_sub (by omega)], nI_1]
  by_cases h : i + 1 < d (4 + c)
  · rw [if_neg (nI_ge (by omega) (by omega)), M_codeOf hM (by omega), bind_some']
    by_cases h2 : d (7 + 10 * c + (i + 1)) = v
    · rw [if_pos (by rw [h2]), if_pos ⟨h, h2⟩]
    · rw [if_neg (nI_ne (by omega) (by omega) h2), if_neg (fun q => h2 q.2)]
  · rw [if_pos (nI_le (by omega) (by omega)), if_neg (fun q => h q.1)]
theorem M_isBeside (hM : MR d σ) (hw : WF d) (hc : c < d 0) (hi : i < d (4 + c)) (hv : v < 10000) [Decidable (bes d c i v)] : f_X12_isBeside (nI c) (nI i) (nI v) σ = some (if bes d c i v then 1 else 0, σ) := by
  have h3 := hw.1
  have hl := hw.len hc
  have b1 := hw.b (7 + 10 * c + (i - 1))
  unfold f_X12_isBeside
  have h16 := M_isBeside16 hM hw hc hi hv
  by_cases h0 : i = 0
  · subst h0
    rw [if_pos (by decide), h16]
    by_cases h2 : 0 + 1 < d (4 + c) ∧ d (7 + 10 * c + (0 + 1)) = v
    · rw [if_pos h2, if_pos (show bes d c 0 v from Or.inr h2)]
    · rw [if_neg h2, if_neg (fun q => by rcases q with z | z; omega; exact h2 z)]
  · rw [if_neg (nI_nle (by omega) (by omega)), show nI i - 1 = nI (i - 1) by rw [i1, nI_sub (by omega)], M_codeOf hM (by omega), bind_some']
    by_cases h2 : d (7 + 10 * c + (i - 1)) = v
    · rw [if_pos (by rw [h2]), if_pos (show bes d c i v from Or.inl ⟨by omega, h2⟩)]
    · rw [if_neg (nI_ne (by omega) (by omega) h2)]
      refine h16.trans ?_
      by_cases h4 : i + 1 < d (4 + c) ∧ d (7 + 10 * c + (i + 1)) = v
      · rw [if_pos h4, if_pos (show bes d c i v from Or.inr h4)]
      · rw [if_neg h4, if_neg (fun q => by rcases q with z | z; exact h2 z.2; exact h4 z)]
theorem X_isC1 (h : XR d σ) (hw : WF d) (hc : c < d 0) (hi : i < d (4 + c)) (hv : v < 10000) : f_X1_isCode (3 + c) (nI i - 1) (nI v) σ = some (if 0 < i ∧ d (7 + 10 * c + (i - 1)) = v then 1 else 0, σ) := by
  have hl := hw.len hc
  by_cases h0 : i = 0
  · subst h0
    rw [show nI 0 - 1 = -1 by decide, X_isCode_o h hw hc (gin_f (by decide)), if_neg (by omega)]
  · rw [i1, nI_sub (by omega), X_isCode h hw hc (by omega) hv]
    by_cases h2 : d (7 + 10 * c + (i - 1)) = v
    · rw [if_pos h2, if_pos ⟨by omega, h2⟩]; rfl
    · rw [if_neg h2, if_neg (fun q => h2 q.2)]
theorem X_isC2 (h : XR d σ) (hw : WF d) (hc : c < d 0) (hi : i < d (4 + c)) (hv : v < 10000) : f_X1_isCode (3 + c) (nI i + 1) (nI v) σ = some (if i + 1 < d (4 + c) ∧ d (7 + 10 * c + (i + 1)) = v then 1 else 0, σ) := by
  have hl := hw.len hc
  rw [nI_1]
  by_cases h0 : i + 1 < d (4 + c)
  · rw [X_isCode h hw hc h0 hv]
    by_cases h2 : d (7 + 10 * c + (i + 1)) = v
    · rw [if_pos h2, if_pos ⟨h0, h2⟩]
    · rw [if_neg h2, if_neg (fun q => h2 q.2)]
  · rw [X_isCode_o h hw hc (fun q => h0 ((gin_nI_iff (by omega)).mp q)), if_neg (fun q => h0 q.1)]
theorem S_recode : SS3 Inv f_X11_recode f_X12_recode := by
  intro x y w
  refine AC.ss (fun σ d hI hw hM hX => ?_)
  have h3 := hw.1
  have no : f_X4_hasControl 1 x y σ = some (0, σ) → (∀ σ2, MR d σ2 → f_X12_isControl x y σ2 = some (0, σ2)) → QA d σ (f_X11_recode x y w) (f_X12_recode x y w) := fun g1 g2 => by
    refine QA.no 1 (by decide) ?_ (fun σ2 hM2 => ?_)
    · unfold f_X11_recode
      rw [g1, bind_some', if_pos rfl, X_refused]
      rfl
    · unfold f_X12_recode f_X12_recode_44
      rw [g2 σ2 hM2, bind_some']
      rcases code_cases w with ⟨-, c2⟩ | ⟨u, -, -, -, -, c2⟩
      · rw [c2, bind_some', une_0, bind_some', if_neg o1n0, ref_1, bind_some', if_neg o1n0]
      · rw [c2, bind_some', une_0, bind_some', if_neg o1n0, ref_1, bind_some', if_neg o1n0]
  by_cases hx : gin x (d 0) = true
  · obtain ⟨hxe, hc⟩ := gin_nI hx
    generalize x.toNatClampNeg = c at hxe hc
    subst hxe
    by_cases hy : gin y (d (4 + c)) = true
    · obtain ⟨hye, hi⟩ := gin_nI hy
      generalize y.toNatClampNeg = i at hye hi
      subst hye
      have hl := hw.len hc
      rcases code_cases w with ⟨c1, c2⟩ | ⟨v, hv1, hv2, rfl, c1, c2⟩
      · refine Or.inl (QA.no 2 (by decide) ?_ (fun σ2 hM2 => ?_))
        · unfold f_X11_recode
          rw [X_hasControl_t hX hw hc, bG_t hy, bind_some', if_neg o1n0, c1, bind_some', if_pos rfl, X_refused]
          rfl
        · unfold f_X12_recode f_X12_recode_44
          rw [M_isControl_t hM2 hw hc, bG_t hy, bind_some', c2, bind_some']
          dsimp only
          rw [une_2, bind_some', if_neg (show ¬ (2 : Int32) = 0 by decide), ref_2, bind_some', if_neg o1n0]
      · have hv : v < 10000 := by omega
        have xb : ¬ bes d c i v → f_X1_isCode (3 + c) (nI i - 1) (nI v) σ = some (0, σ) ∧ f_X1_isCode (3 + c) (nI i + 1) (nI v) σ = some (0, σ) := fun hn => ⟨by rw [X_isC1 hX hw hc hi hv, if_neg (fun q => hn (Or.inl q))], by rw [X_isC2 hX hw hc hi hv, if_neg (fun q => hn (Or.inr q))]⟩
        by_cases hb : bes d c i v
        · haveI : Decidable (bes d c i v) := isTrue hb
          refine Or.inl (QA.no 5 (by decide) ?_ (fun σ2 hM2 => ?_))
          · unfold f_X11_recode
            rw [X_hasControl_t hX hw hc, bG_t hy, bind_some', if_neg o1n0, c1, bind_some', if_neg o1n0, X_courseAt (by omega), bind_some']
            dsimp only
            rw [X_isC1 hX hw hc hi hv, bind_some']
            by_cases q1 : 0 < i ∧ d (7 + 10 * c + (i - 1)) = v
            · rw [if_pos q1, if_neg o1n0, X_refused]; rfl
            · have q2 : i + 1 < d (4 + c) ∧ d (7 + 10 * c + (i + 1)) = v := by
                rcases hb with z | z
                · exact absurd z q1
                · exact z
              rw [if_neg q1, if_pos rfl]
              dsimp only
              rw [X_isC2 hX hw hc hi hv, bind_some', if_pos q2, if_neg o1n0, X_refused]; rfl
          · unfold f_X12_recode f_X12_recode_44
            rw [M_isControl_t hM2 hw hc, bG_t hy, bind_some', c2, bind_some']
            dsimp only
            rw [une_1, bind_some', if_pos rfl, M_isBeside hM2 hw hc hi hv, if_pos hb, bind_some', if_neg o1n0, ref_e (by decide), bind_some', if_neg o1n0]
        · haveI : Decidable (bes d c i v) := isFalse hb
          refine Or.inr (fun ⟨m, hm, h26⟩ => ?_)
          obtain ⟨g1, g2, g3⟩ := ag_c (v := v) hw hc hi
          obtain ⟨τ0, hτ0, f0, x0⟩ := op_code hX hw hc hi hv
          obtain ⟨τ, hτ, k1, k2, k3⟩ := X_keepA f0 x0 6 c i (d (7 + 10 * c + i)) 0 hm h26
          refine ⟨upd1 d (7 + 10 * c + i) v, nI (d (7 + 10 * c + i)), τ, ?_, g3 0 (by omega), g3 1 (by omega), by omega, ?_, k1, k2, ⟨6, c, i, d (7 + 10 * c + i), 0, ⟨by omega, by omega, hw.b _, by decide⟩, ⟨by rw [g3 0 (by omega)]; exact hc, by rw [g3 (4 + c) (by omega)]; exact hi⟩, by show Eqv (upd1 (upd1 d (7 + 10 * c + i) v) (7 + 10 * c + i) (d (7 + 10 * c + i))) d; rw [upd1_back]; exact Eqv.rf, k3⟩, fun σ2 hM2 _ m2 hm2 h30 => ?_⟩
          · exact hw.mk2 (g3 0 (by omega)) (g3 1 (by omega)) (by rw [g3 2 (by omega)]; exact hw.2.2.1) (by rw [g3 3 (by omega)]; exact hw.2.2.2.1) (upd1_b hw hv) (fun c' hc' => by rw [g3 (4 + c') (by omega)]; exact hw.len hc') (fun a ha => RWf.ag hw ha (g3 0 (by omega)) (g2 a ha))
          · have hxb := xb hb
            unfold f_X11_recode
            rw [X_hasControl_t hX hw hc, bG_t hy, bind_some', if_neg o1n0, c1, bind_some', if_neg o1n0, X_courseAt (by omega), bind_some']
            dsimp only
            rw [hxb.1, bind_some', if_pos rfl]
            dsimp only
            rw [hxb.2, bind_some', if_pos rfl]
            dsimp only
            rw [X_codeAt (hX.2.2.2.2.1 c hc) hl.2 hi, bind_some']
            dsimp only
            rw [hτ0, bind_some', show (f_X0_keep 6 (nI c) (nI i) (nI (dC d c i)) 0 τ0) = some τ from hτ, bind_some', X_answered]
            rfl
          · unfold f_X12_recode
            refine Wp.eq (M_isControl_t hM2 hw hc _) ?_
            rw [bG_t hy]
            refine Wp.eq (c2 σ2) ?_
            refine Wp.eq une_1 ?_
            refine Wp.t rfl ?_
            refine Wp.eq (M_isBeside hM2 hw hc hi hv) ?_
            rw [if_neg hb]
            refine Wp.t rfl ?_
            unfold f_X12_recode_44
            refine Wp.eq ref_0 ?_
            refine Wp.t rfl ?_
            refine Wp.bind (M_comes (j := 7 + 10 * c + i) (v := v) hM2.mR hm2 (M_30 h30) (by rw [i7, i10, nI_mul, nI_add, nI_add]) (by omega)) (fun r hr => ?_)
            have hf := M_fin hr.2.2.1 hr.2.2.2
            exact Wp.ret ⟨hr.1, hr.2.1, hf.1, hf.2.1, hf.2.2.1, hf.2.2.2⟩
    · exact Or.inl (no (by rw [X_hasControl_t hX hw hc, bG_f hy]) (fun σ2 hM2 => by rw [M_isControl_t hM2 hw hc, bG_f hy]))
  · exact Or.inl (no (X_hasControl_f hX hw hx) (fun σ2 hM2 => M_isControl_f hM2 hw hx))
end A7
