/-! a line of a runner: its words -/
section TQ
variable {B N N' d e : Nat → Nat} {n s L u nc nr v S0 r k : Nat} {σ τ σ' τ' σ0 τ0 : gSt}
theorem CX.setR (h : CX σ0 B n L u nc nr d N σ) {q : Nat} {x : Int32} (h1 : d 1 ≤ r) (hr : r < 10) : CX σ0 B n L u nc nr d N (gup σ 10 r q x) :=
  h.mv (Fx.rf.up (by omega)) (fun s' => by rw [gup_kind (by decide)]) ⟨by rw [gup_kind (by decide)]; exact h.2.2.2.2.1.1, by rw [gup_kind (by decide)]; exact h.2.2.2.2.1.2.1, by rw [gup_kind (by decide)], by rw [gup_kind (by decide)]⟩ rfl rfl rfl rfl (fun _ _ => AgC.rf) (fun _ _ => AgP.rf) (fun _ _ => rfl) (fun c hc s' => ⟨by rw [gup_kind (by decide)], by rw [gup_kind (by decide)]⟩) (fun a ha k s' _ _ => by rw [gup_num (by omega)])
theorem CX.upd (h : CX σ0 B n L u nc nr d N σ) (hw : WF d) {j : Nat} (hi : irr d j) : CX σ0 B n L u nc nr (upd1 d j v) N σ := by
  have ag := hi.ag (v := v) hw
  have h4 := hi.1
  exact h.mv Fx.rf (fun _ => rfl) ⟨h.2.2.2.2.1.1, h.2.2.2.2.1.2.1, rfl, rfl⟩ (upd1_ne (by omega)) (upd1_ne (by omega)) (upd1_ne (by omega)) (upd1_ne (by omega)) ag.1 ag.2 (fun _ _ => rfl) (fun _ _ _ => ⟨rfl, rfl⟩) (fun _ _ _ _ _ _ => rfl)
theorem W2.wrap {x y : Option (Int32 × gSt)} {P : gSt → gSt → Prop} (h : W2 x y (R2 σ0 τ0 P)) : W2 (x.bind fun p => if p.1 = 0 then some (0, p.2) else some (1, p.2)) y (R2 σ0 τ0 P) := by
  obtain ⟨a, b, rfl, rfl, h3⟩ := h
  rcases h3 with q | ⟨q1, q2, q3⟩
  · refine W2.xt q.1 (W2.ret (Or.inl ⟨rfl, q.2.1, q.2.2⟩))
  · exact W2.xf (by rw [q1]; exact o1n0) (W2.ret (Or.inr ⟨rfl, q2, q3⟩))
theorem runner2 (hk : ∀ s, s ≤ n → tK B n s < 256) (hu : u < 4) (hw : WF d) (hX : CX σ0 B n L u (d 0) (d 1) d N σ) (hT : XT B n s σ) (hM : CM τ0 B n u d N τ) (hU : MT B n s τ) (hs : s ≤ n) : W2 (f_X8_readRunner σ) (f_X12_readRunner τ) (R2 σ0 τ0 (LnP σ0 τ0 B n L (tQ B n s))) := by
  unfold f_X8_readRunner f_X12_readRunner
  have h3 := hw.1
  have h10 := hw.2.1
  have tb := tQ_b (B := B) hs
  refine W2.ld 1 rfl (by decide) (by decide) (hM.2.2.2.1 1 (by decide)) ?_
  have p4 := hX.2.2.2.2.1.2.1
  by_cases c10 : d 1 = 10
  · refine W2.xf (by rw [p4, i10]; exact nI_nlt (by omega) (by omega)) ?_
    refine W2.yt (by rw [c10]; rfl) ?_
    exact er2 hX.1 hM.1 (pl2 hT hU)
  · refine W2.xt (by rw [p4, i10]; exact nI_lt (by omega) (by decide)) ?_
    refine W2.yf (by rw [i10]; exact nI_ne (by omega) (by decide) c10) ?_
    refine hX.adv (s := tQ B n s) tb.2.1 hT.1 (fun σ1 f1 hX1 hT1 => ?_)
    obtain ⟨s1, hs1⟩ : ∃ z, z = tQ B n s := ⟨_, rfl⟩
    have tb' := tb
    rw [← hs1] at tb' hT1 ⊢
    have hU1 : τ 28 0 13 = nI s1 := by rw [hs1]; exact hU.1
    have s1n : s1 ≤ n := tb'.2.1
    have tb1 := tQ_b (B := B) s1n
    have tp1 := tP_b (B := B) s1n
    obtain ⟨r, hr1⟩ : ∃ z, z = d 1 := ⟨_, rfl⟩
    have hr : r < 10 := by omega
    rw [← hr1]
    rw [show (3 : Int32) + nI r = nI (3 + r) from nI_add 3 r]
    rcases name2 (v := 3 + r) hX1 hT1 hM hU1 s1n hk rfl rfl h3 h10 (by omega) with ⟨a, b, q1, q2, q3⟩ | ⟨q1, q2, q3, τ1, q4, hM1, hV1⟩
    · refine W2.xe q1 ?_
      refine W2.ye q2 ?_
      exact W2.xt q3.1 (W2.yt q3.2.1 (W2.ret (Or.inl ⟨rfl, rfl, q3.2.2⟩)))
    · refine W2.xe q3 ?_
      refine W2.ye q4 ?_
      refine W2.xf o1n0 ?_
      refine W2.yf o1n0 ?_
      have ent : f_X4_enterRunner 0 (σ1 15 0 5) σ1 = some (r, gup (gup (gup σ1 10 r 4 (σ1 15 0 5)) 10 r 8 0) 3 0 4 (nI (r + 1))) := by
        unfold f_X4_enterRunner
        have e : f_X4_runnerAt 0 (σ1 3 0 4) σ1 = some (r, σ1) := by
          unfold f_X4_runnerAt
          rw [hX1.2.2.2.2.1.2.1, ← hr1, if_neg (nI_pos (by omega)), if_neg (by rw [i10]; exact nI_ge (by omega) (by decide)), gox_n (by omega) (by decide), bind_some']
          unfold grf
          rw [if_pos (by omega), show 10 * 0 + r = r by omega]
        rw [e, bind_some']
        unfold grf
        dsimp only
        rw [if_pos (by omega), gup_kind (by decide), gup_kind (by decide), hX1.2.2.2.2.1.2.1, ← hr1, nI_1]
      refine W2.xe ent ?_
      obtain ⟨nw1, nw2⟩ := nmN_w (N := N) (v := 3 + r) s1n q1
      have hN : ∀ j, (j < 6 * d 0 ∨ (18 ≤ j ∧ j < 18 + 6 * d 1)) → nmN N B (tP B n s1) (tQ B n s1) (3 + r) 6 j = N j := by
        intro j hj
        unfold nmN
        rw [if_neg (by omega)]
      have hX2 : CX σ0 B n L u (d 0) (r + 1) d (nmN N B (tP B n s1) (tQ B n s1) (3 + r) 6) (gup (gup (gup σ1 10 r 4 (σ1 15 0 5)) 10 r 8 0) 3 0 4 (nI (r + 1))) := by
        refine hX1.mv (((Fx.rf.up (by omega)).up (by omega)).up (by omega)) (fun s' => by rw [gup_kind (by decide), gup_kind (by decide), gup_kind (by decide)]) ⟨?_, gup_same, ?_, ?_⟩ rfl rfl rfl rfl (fun _ _ => AgC.rf) (fun _ _ => AgP.rf) hN (fun c hc s' => ⟨?_, ?_⟩) (fun a ha k s' k1 k2 => ?_)
        · rw [gup_slot (by decide), gup_kind (by decide), gup_kind (by decide)]; exact hX1.2.2.2.2.1.1
        · rw [gup_slot (by decide), gup_kind (by decide), gup_kind (by decide)]
        · rw [gup_slot (by decide), gup_kind (by decide), gup_kind (by decide)]
        · rw [gup_kind (by decide), gup_kind (by decide), gup_kind (by decide)]
        · rw [gup_kind (by decide), gup_kind (by decide), gup_kind (by decide)]
        · rw [gup_kind (by omega), gup_num (by omega), gup_num (by omega)]
      have n8 : (gup (gup (gup σ1 10 r 4 (σ1 15 0 5)) 10 r 8 0) 3 0 4 (nI (r + 1))) 10 r 8 = nI 0 := by rw [gup_kind (by decide), gup_same]; rfl
      have n4 : (gup (gup (gup σ1 10 r 4 (σ1 15 0 5)) 10 r 8 0) 3 0 4 (nI (r + 1))) 10 r 4 = nI (wval (fun q => nmN N B (tP B n s1) (tQ B n s1) (3 + r) 6 (6 * (3 + r) + q)) 6) := by rw [gup_kind (by decide), gup_slot (by decide), gup_same, q2, nw2]
      have n3 : (gup (gup (gup σ1 10 r 4 (σ1 15 0 5)) 10 r 8 0) 3 0 4 (nI (r + 1))) 15 0 3 = nI (tQ B n s1) := by rw [gup_kind (by decide), gup_kind (by decide), gup_kind (by decide)]; exact hT1.1
      generalize gup (gup (gup σ1 10 r 4 (σ1 15 0 5)) 10 r 8 0) 3 0 4 (nI (r + 1)) = σ2 at *
      generalize nmN N B (tP B n s1) (tQ B n s1) (3 + r) 6 = N' at *
      obtain ⟨s2, hs2⟩ : ∃ z, z = tQ B n s1 := ⟨_, rfl⟩
      rw [← hs2] at tb1 hV1 n3
      have s2n : s2 ≤ n := tb1.2.1
      have tb2 := tQ_b (B := B) s2n
      have tp2 := tP_b (B := B) s2n
      refine hX2.adv (s := s2) s2n n3 (fun σ3 f3 hX3 hT3 => ?_)
      have m8 : σ3 10 r 8 = nI 0 := (f3 10 r 8 (by omega)).trans n8
      have m4 : σ3 10 r 4 = nI (wval (fun q => N' (6 * (3 + r) + q)) 6) := (f3 10 r 4 (by omega)).trans n4
      refine W2.xe (X_isName hT3 s2n (hk s2 s2n)) ?_
      refine W2.ye (M_isName hM1.2.1 hV1 s2n (hk s2 s2n)) ?_
      by_cases cn : nmq B n s2
      · rw [if_pos cn, if_pos cn]
        refine W2.xf o1n0 ?_
        refine W2.yf o1n0 ?_
        refine W2.xe (X_lkC hX3.2.2.2.2 rfl h3 hT3 s2n cn.1) ?_
        refine W2.ld 0 rfl (by decide) (by decide) (hM1.2.2.2.1 0 (by decide)) ?_
        refine W2.ye (M_namedHere (base := 0) hM1 hV1 s2n (fun k hk => by simp only [Nat.zero_add]; exact (hX3.2.2.2.2.2.1 k hk).2.1) (by omega)) ?_
        refine W2.st (37 + r) (nI_add 37 r) (by omega) (by decide) ?_
        refine W2.ld (37 + r) (nI_add 37 r) (by omega) (by decide) gup_same ?_
        dsimp only
        cases hl : lk N' B n s2 0 (d 0) with
        | none =>
          refine W2.xt gup_same ?_
          refine W2.yt rfl ?_
          refine er2 (hX3.1.up (by omega)) (hM1.1.up (by omega)) ?_
          rw [gup_kind (by decide), gup_kind (by decide)]
          exact pl2 hT3 hV1
        | some c =>
          have hc := (nx_some hl)
          have hc0 : c < d 0 := by omega
          refine W2.xf (by rw [gup_same]; exact nI_nm1 (show c < 2147483648 by omega)) ?_
          refine W2.yf (nI_nm1 (show c < 2147483648 by omega)) ?_
          have ir1 : irr d (37 + r) := irr.r h3 hr1.symm hr (by omega)
          have hX4 : CX σ0 B n L u (d 0) (r + 1) (upd1 d (37 + r) c) N' (gup σ3 10 r 5 (xo (some c))) := (hX3.setR (by omega) hr).upd hw ir1
          have hM4 : CM τ0 B n u (upd1 d (37 + r) c) N' (gup τ1 31 0 (37 + r) (xo (some c))) := hM1.set rfl
          have hw1 := ir1.wf (v := c) hw (by omega)
          have k5 : gup σ3 10 r 5 (xo (some c)) 10 r 5 = nI c := gup_same
          have k8 : gup σ3 10 r 5 (xo (some c)) 10 r 8 = nI 0 := by rw [gup_slot (by decide)]; exact m8
          have k4 : gup σ3 10 r 5 (xo (some c)) 10 r 4 = nI (wval (fun q => N' (6 * (3 + r) + q)) 6) := by rw [gup_slot (by decide)]; exact m4
          have k3 : gup σ3 10 r 5 (xo (some c)) 15 0 3 = nI (tQ B n s2) := by rw [gup_kind (by decide)]; exact hT3.1
          have j3 : gup τ1 31 0 (37 + r) (xo (some c)) 28 0 13 = nI (tQ B n s2) := by rw [gup_kind (by decide)]; exact hV1.1
          have a0 : upd1 d (37 + r) c 0 = d 0 := upd1_ne (by omega)
          have a1 : upd1 d (37 + r) c 1 = r := (upd1_ne (by omega)).trans hr1.symm
          have a37 : upd1 d (37 + r) c (37 + r) = c := upd1_eq
          generalize gup σ3 10 r 5 (xo (some c)) = σ4 at *
          generalize gup τ1 31 0 (37 + r) (xo (some c)) = τ4 at *
          generalize upd1 d (37 + r) c = e1 at *
          refine hX4.adv (s := tQ B n s2) tb2.2.1 k3 (fun σ5 f5 hX5 hT5 => ?_)
          refine hM4.adv (s := tQ B n s2) tb2.2.1 j3 (fun τ5 g5 hM5 hU5 => ?_)
          obtain ⟨s3, hs3⟩ : ∃ z, z = tQ B n s2 := ⟨_, rfl⟩
          rw [← hs3] at tb2 hT5 hU5
          have s3n : s3 ≤ n := tb2.2.1
          have tb3 := tQ_b (B := B) s3n
          have tp3 := tP_b (B := B) s3n
          rcases take2 (j := 47 + r) (lo := 0) (hi := 9998) hX5 hT5 hM5 hU5 s3n (hk s3 s3n) (by decide) (by decide) (by omega) with ⟨a, b, z1, z2, z3⟩ | ⟨z1, z2, z3, z4, z5, z6, τ6, z7, hM6, hU6⟩
          · refine W2.xe z1 ?_
            refine W2.ye (show f_X12_takes (47 + nI r) 0 9998 τ5 = some b by rw [show (47 : Int32) + nI r = nI (47 + r) from nI_add 47 r]; exact z2) ?_
            exact W2.xt z3.1 (W2.yt z3.2.1 (W2.ret (Or.inl ⟨rfl, rfl, z3.2.2⟩)))
          · refine W2.xe z6 ?_
            refine W2.ye (show f_X12_takes (47 + nI r) 0 9998 τ5 = some (1, τ6) by rw [show (47 : Int32) + nI r = nI (47 + r) from nI_add 47 r]; exact z7) ?_
            refine W2.xf o1n0 ?_
            refine W2.yf o1n0 ?_
            have ir2 : irr e1 (47 + r) := irr.r (by omega) a1 hr (by omega)
            have hw2 := ir2.wf (v := tv B n s3) hw1 z4
            have hX6 : CX σ0 B n L u (d 0) (r + 1) (upd1 e1 (47 + r) (tv B n s3)) N' (gup σ5 10 r 6 (σ5 15 0 5)) := (hX5.setR (by omega) hr).upd hw1 ir2
            have l6 : gup σ5 10 r 6 (σ5 15 0 5) 10 r 6 = nI (tv B n s3) := by rw [gup_same]; exact z5
            have l5 : gup σ5 10 r 6 (σ5 15 0 5) 10 r 5 = nI c := by rw [gup_slot (by decide)]; exact (f5 10 r 5 (by omega)).trans k5
            have l8 : gup σ5 10 r 6 (σ5 15 0 5) 10 r 8 = nI 0 := by rw [gup_slot (by decide)]; exact (f5 10 r 8 (by omega)).trans k8
            have l4 : gup σ5 10 r 6 (σ5 15 0 5) 10 r 4 = nI (wval (fun q => N' (6 * (3 + r) + q)) 6) := by rw [gup_slot (by decide)]; exact (f5 10 r 4 (by omega)).trans k4
            have l3 : gup σ5 10 r 6 (σ5 15 0 5) 15 0 3 = nI (tQ B n s3) := by rw [gup_kind (by decide)]; exact hT5.1
            have b0 : upd1 e1 (47 + r) (tv B n s3) 0 = d 0 := (upd1_ne (by omega)).trans a0
            have b1 : upd1 e1 (47 + r) (tv B n s3) 1 = r := (upd1_ne (by omega)).trans a1
            have b37 : upd1 e1 (47 + r) (tv B n s3) (37 + r) = c := (upd1_ne (by omega)).trans a37
            have b47 : upd1 e1 (47 + r) (tv B n s3) (47 + r) = tv B n s3 := upd1_eq
            dsimp only
            generalize gup σ5 10 r 6 (σ5 15 0 5) = σ6 at *
            generalize upd1 e1 (47 + r) (tv B n s3) = e2 at *
            refine hX6.adv (s := tQ B n s3) tb3.2.1 l3 (fun σ7 f7 hX7 hT7 => ?_)
            obtain ⟨s4, hs4⟩ : ∃ z, z = tQ B n s3 := ⟨_, rfl⟩
            rw [← hs4] at tb3 hT7 hU6
            have s4n : s4 ≤ n := tb3.2.1
            have tb4 := tQ_b (B := B) s4n
            have tp4 := tP_b (B := B) s4n
            have y6 : σ7 10 r 6 = nI (tv B n s3) := (f7 10 r 6 (by omega)).trans l6
            refine W2.ld (47 + r) (nI_add 47 r) (by omega) (by decide) ((hM6.2.2.2.1 _ (by omega)).trans (by rw [b47])) ?_
            have lo1 : σ7 10 r 6 + 1 = nI (tv B n s3 + 1) := by rw [y6, nI_1]
            have lo2 : nI (tv B n s3) + 1 = nI (tv B n s3 + 1) := nI_1 _
            rw [lo1, lo2]
            rcases take2 (j := 57 + r) (lo := tv B n s3 + 1) (hi := 9999) hX7 hT7 hM6 hU6 s4n (hk s4 s4n) (by omega) (by decide) (by omega) with ⟨a, b, x1, x2, x3⟩ | ⟨x1, x2, x3, x4, x5, x6, τ8, x7, hM8, hU8⟩
            · refine W2.xe x1 ?_
              refine W2.ye (show f_X12_takes (57 + nI r) (nI (tv B n s3 + 1)) 9999 τ6 = some b by rw [show (57 : Int32) + nI r = nI (57 + r) from nI_add 57 r]; exact x2) ?_
              exact W2.xt x3.1 (W2.yt x3.2.1 (W2.ret (Or.inl ⟨rfl, rfl, x3.2.2⟩)))
            · refine W2.xe x6 ?_
              refine W2.ye (show f_X12_takes (57 + nI r) (nI (tv B n s3 + 1)) 9999 τ6 = some (1, τ8) by rw [show (57 : Int32) + nI r = nI (57 + r) from nI_add 57 r]; exact x7) ?_
              refine W2.xf o1n0 ?_
              refine W2.yf o1n0 ?_
              have ir3 : irr e2 (57 + r) := irr.r (by omega) b1 hr (by omega)
              have hw3 := ir3.wf (v := tv B n s4) hw2 x4
              have hX8 : CX σ0 B n L u (d 0) (r + 1) (upd1 e2 (57 + r) (tv B n s4)) N' (gup σ7 10 r 7 (σ7 15 0 5)) := (hX7.setR (by omega) hr).upd hw2 ir3
              have o7 : gup σ7 10 r 7 (σ7 15 0 5) 10 r 7 = nI (tv B n s4) := by rw [gup_same]; exact x5
              have o6 : gup σ7 10 r 7 (σ7 15 0 5) 10 r 6 = nI (tv B n s3) := by rw [gup_slot (by decide)]; exact y6
              have o5 : gup σ7 10 r 7 (σ7 15 0 5) 10 r 5 = nI c := by rw [gup_slot (by decide)]; exact (f7 10 r 5 (by omega)).trans l5
              have o8 : gup σ7 10 r 7 (σ7 15 0 5) 10 r 8 = nI 0 := by rw [gup_slot (by decide)]; exact (f7 10 r 8 (by omega)).trans l8
              have o4 : gup σ7 10 r 7 (σ7 15 0 5) 10 r 4 = nI (wval (fun q => N' (6 * (3 + r) + q)) 6) := by rw [gup_slot (by decide)]; exact (f7 10 r 4 (by omega)).trans l4
              have o3 : gup σ7 10 r 7 (σ7 15 0 5) 15 0 3 = nI (tQ B n s4) := by rw [gup_kind (by decide)]; exact hT7.1
              have c0 : upd1 e2 (57 + r) (tv B n s4) 0 = d 0 := (upd1_ne (by omega)).trans b0
              have c1 : upd1 e2 (57 + r) (tv B n s4) 1 = r := (upd1_ne (by omega)).trans b1
              have c37 : upd1 e2 (57 + r) (tv B n s4) (37 + r) = c := (upd1_ne (by omega)).trans b37
              have c47 : upd1 e2 (57 + r) (tv B n s4) (47 + r) = tv B n s3 := (upd1_ne (by omega)).trans b47
              have c57 : upd1 e2 (57 + r) (tv B n s4) (57 + r) = tv B n s4 := upd1_eq
              dsimp only
              generalize gup σ7 10 r 7 (σ7 15 0 5) = σ8 at *
              generalize upd1 e2 (57 + r) (tv B n s4) = e3 at *
              refine hX8.adv (s := tQ B n s4) tb4.2.1 o3 (fun σ9 f9 hX9 hT9 => ?_)
              refine W2.st (67 + r) (nI_add 67 r) (by omega) (by decide) ?_
              have ir4 : irr e3 (67 + r) := irr.r (by omega) c1 hr (by omega)
              have hw4 := ir4.wf (v := 0) hw3 (by decide)
              have hX10 : CX σ0 B n L u (d 0) (r + 1) (upd1 e3 (67 + r) 0) N' σ9 := hX9.upd hw3 ir4
              have hM10 : CM τ0 B n u (upd1 e3 (67 + r) 0) N' (gup τ8 31 0 (67 + r) 0) := hM8.set rfl
              have hU10 : MT B n (tQ B n s4) (gup τ8 31 0 (67 + r) 0) := hU8.set
              have d0 : upd1 e3 (67 + r) 0 0 = d 0 := (upd1_ne (by omega)).trans c0
              have d1 : upd1 e3 (67 + r) 0 1 = r := (upd1_ne (by omega)).trans c1
              have d37 : upd1 e3 (67 + r) 0 (37 + r) = c := (upd1_ne (by omega)).trans c37
              have d47 : upd1 e3 (67 + r) 0 (47 + r) = tv B n s3 := (upd1_ne (by omega)).trans c47
              have d57 : upd1 e3 (67 + r) 0 (57 + r) = tv B n s4 := (upd1_ne (by omega)).trans c57
              have d67 : upd1 e3 (67 + r) 0 (67 + r) = 0 := upd1_eq
              generalize gup τ8 31 0 (67 + r) 0 = τ10 at *
              generalize upd1 e3 (67 + r) 0 = E at *
              have hI : RI E r 0 := ⟨d1, hw4, by omega, by omega, d67, fun i hi => absurd hi (Nat.not_lt_zero _), fun i hi => absurd hi (Nat.not_lt_zero _)⟩
              have hR : RX E N' r 0 σ9 := ⟨by rw [d37]; exact (f9 10 r 5 (by omega)).trans o5, by rw [d47]; exact (f9 10 r 6 (by omega)).trans o6, by rw [d57]; exact (f9 10 r 7 (by omega)).trans o7, ⟨(f9 10 r 8 (by omega)).trans o8, fun z hz => absurd hz (Nat.not_lt_zero _)⟩, (f9 10 r 4 (by omega)).trans o4⟩
              rw [← d0] at hX10
              have tb5 := tQ_b (B := B) tb4.2.1
              have tp5 := tP_b (B := B) tb4.2.1
              rcases sg2 hT9 hU10 (hk _ tb4.2.1) (g := 58) (x := 58) rfl (by omega) with ⟨g1, g2, g3⟩ | ⟨g1, g2, g3⟩
              · refine W2.xt g2 ?_
                refine W2.yt g3 ?_
                refine W2.wrap ?_
                unfold f_X8_readPunches
                refine p7 hk hu hr nw1 17 0 gFuel gFuel (tQ B n (tQ B n s4)) σ9 τ10 E _ (by omega) (by omega) (Nat.lt_trans (by omega) gFuel_ge) (Nat.lt_trans (by omega) gFuel_ge) tb5.2.1 (by omega) hI hX10 hR hT9.1 ?_ hM10 hU10.1
                unfold prv
                rw [if_pos rfl]
                exact hR.2.1
              · refine W2.xf g2 ?_
                refine W2.yf g3 ?_
                show W2 _ (f_X12_readRunner_154 (nI r) (4999 + 1) 0 τ10) _
                rw [f_X12_readRunner_154]
                refine W2.yt rfl ?_
                refine W2.ld 1 rfl (by decide) (by decide) (hM10.2.2.2.1 1 (by decide)) ?_
                refine W2.st 1 rfl (by decide) (by decide) ?_
                have hM11 := hM10.set (j := 1) (v := r + 1) (x := nI (E 1) + 1) (by rw [d1, nI_1])
                have hend := r_end (E := upd1 E 1 (r + 1)) hr (by omega) hI hX10 hR nw1 upd1_eq (fun q hq => upd1_ne hq)
                exact W2.ret (Or.inr ⟨rfl, rfl, tQ B n s4, u, _, N', by omega, tb4.2.1, hu, hend.1, hend.2, hM11, hT9, hU10.set⟩)
      · rw [if_neg cn, if_neg cn]
        exact W2.ret (Or.inl (F2.mk hX3.1 hM1.1 (pl2 hT3 hV1)))
end TQ
