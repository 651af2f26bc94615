section MI
variable {l : Launch} {w : gWd}
theorem dX6_runnerBits_0 : decode cX6_runnerBits 0 = .ok (.iconst 0, 1) := by decide +kernel
theorem dX6_runnerBits_1 : decode cX6_runnerBits 1 = .ok (.istore_n 1, 1) := by decide +kernel
theorem dX6_runnerBits_2 : decode cX6_runnerBits 2 = .ok (.aload_n 0, 1) := by decide +kernel
theorem dX6_runnerBits_3 : decode cX6_runnerBits 3 = .ok (.getfield 22, 3) := by decide +kernel
theorem dX6_runnerBits_6 : decode cX6_runnerBits 6 = .ok (.istore_n 2, 1) := by decide +kernel
theorem dX6_runnerBits_7 : decode cX6_runnerBits 7 = .ok (.iload_n 2, 1) := by decide +kernel
theorem dX6_runnerBits_8 : decode cX6_runnerBits 8 = .ok (.aload_n 0, 1) := by decide +kernel
theorem dX6_runnerBits_9 : decode cX6_runnerBits 9 = .ok (.getfield 25, 3) := by decide +kernel
theorem dX6_runnerBits_12 : decode cX6_runnerBits 12 = .ok (.if_icmp .gt 34, 3) := by decide +kernel
theorem dX6_runnerBits_15 : decode cX6_runnerBits 15 = .ok (.iload_n 2, 1) := by decide +kernel
theorem dX6_runnerBits_16 : decode cX6_runnerBits 16 = .ok (.bipush 100, 2) := by decide +kernel
theorem dX6_runnerBits_18 : decode cX6_runnerBits 18 = .ok (.if_icmp .ge 28, 3) := by decide +kernel
theorem dX6_runnerBits_21 : decode cX6_runnerBits 21 = .ok (.iload_n 1, 1) := by decide +kernel
theorem dX6_runnerBits_22 : decode cX6_runnerBits 22 = .ok (.iload_n 2, 1) := by decide +kernel
theorem dX6_runnerBits_23 : decode cX6_runnerBits 23 = .ok (.ifCond .lt 14, 3) := by decide +kernel
theorem dX6_runnerBits_26 : decode cX6_runnerBits 26 = .ok (.iconst 1, 1) := by decide +kernel
theorem dX6_runnerBits_27 : decode cX6_runnerBits 27 = .ok (.aload_n 0, 1) := by decide +kernel
theorem dX6_runnerBits_28 : decode cX6_runnerBits 28 = .ok (.getfield 15, 3) := by decide +kernel
theorem dX6_runnerBits_31 : decode cX6_runnerBits 31 = .ok (.iload_n 2, 1) := by decide +kernel
theorem dX6_runnerBits_32 : decode cX6_runnerBits 32 = .ok (.iaload, 1) := by decide +kernel
theorem dX6_runnerBits_33 : decode cX6_runnerBits 33 = .ok (.ishl, 1) := by decide +kernel
theorem dX6_runnerBits_34 : decode cX6_runnerBits 34 = .ok (.goto 4, 3) := by decide +kernel
theorem dX6_runnerBits_37 : decode cX6_runnerBits 37 = .ok (.iconst 0, 1) := by decide +kernel
theorem dX6_runnerBits_38 : decode cX6_runnerBits 38 = .ok (.ior, 1) := by decide +kernel
theorem dX6_runnerBits_39 : decode cX6_runnerBits 39 = .ok (.istore_n 1, 1) := by decide +kernel
theorem dX6_runnerBits_40 : decode cX6_runnerBits 40 = .ok (.iinc 2 1, 3) := by decide +kernel
theorem dX6_runnerBits_43 : decode cX6_runnerBits 43 = .ok (.goto (-36), 3) := by decide +kernel
theorem dX6_runnerBits_46 : decode cX6_runnerBits 46 = .ok (.iload_n 1, 1) := by decide +kernel
theorem dX6_runnerBits_47 : decode cX6_runnerBits 47 = .ok (.ireturn, 1) := by decide +kernel
def f_X6_runnerBits_7  : Nat → Int32 → Int32 → gSt → Option (Int32 × gSt)
  | 0, _, _, _ => none
  | n + 1, v1, v2, σ =>
    if (σ 22 0 5) < v2 then
      some (v1, σ)
    else
      if 100 ≤ v2 then
        some (v1, σ)
      else
        if v2 < 0 then
          f_X6_runnerBits_7 n (v1 ||| 0) (v2 + 1) σ
        else
          (gld σ 24 0 100 v2).bind fun a32 =>
          f_X6_runnerBits_7 n (v1 ||| (1 <<< (a32 &&& 31))) (v2 + 1) σ
def f_X6_runnerBits (σ : gSt) : Option (Int32 × gSt) :=
  f_X6_runnerBits_7 gFuel 0 (σ 22 0 4) σ
theorem f_X6_runnerBits_7_ok  {r : (Int32 × gSt)}  : ∀ (n : Nat) {v1 : Int32} {v2 : Int32} {σ : gSt} , f_X6_runnerBits_7 n v1 v2 σ = some r → G l w 0 41 RX6 cX6_runnerBits 3 (some .int) 0 0 (gE (some (.int r.1)) r.2) 7 [some (.ref (w.2.1 22 0)), some (.int v1), some (.int v2)] [] σ := by
  intro n
  induction n with
  | zero => intro v1 v2 σ h; rw [f_X6_runnerBits_7] at h; cases h
  | succ n ih =>
    intro v1 v2 σ h
    rw [f_X6_runnerBits_7] at h
    refine g_iload_n dX6_runnerBits_7 rfl ?_
    refine g_aload_n dX6_runnerBits_8 rfl ?_
    refine gI_X6_25 ok_22 dX6_runnerBits_9 ?_
    refine g_icmp_gt 46 dX6_runnerBits_12 rfl (fun q => ?_) (fun q => ?_)
    · replace h := gif_t q h
      refine g_iload_n dX6_runnerBits_46 rfl ?_
      cases h
      exact g_iret dX6_runnerBits_47 rfl ⟨rfl, rfl⟩
    · replace h := gif_f q h
      refine g_iload_n dX6_runnerBits_15 rfl ?_
      refine g_bipush dX6_runnerBits_16 kb_100 ?_
      refine g_icmp_ge 46 dX6_runnerBits_18 rfl (fun q => ?_) (fun q => ?_)
      · replace h := gif_t q h
        refine g_iload_n dX6_runnerBits_46 rfl ?_
        cases h
        exact g_iret dX6_runnerBits_47 rfl ⟨rfl, rfl⟩
      · replace h := gif_f q h
        refine g_iload_n dX6_runnerBits_21 rfl ?_
        refine g_iload_n dX6_runnerBits_22 rfl ?_
        refine g_if_lt 37 dX6_runnerBits_23 rfl (fun q => ?_) (fun q => ?_)
        · replace h := gif_t q h
          refine g_iconst dX6_runnerBits_37 kc_0 ?_
          refine g_ior dX6_runnerBits_38 ?_
          refine g_istore1 dX6_runnerBits_39 ?_
          refine g_inc2 kc_1 dX6_runnerBits_40 ?_
          refine g_goto 7 dX6_runnerBits_43 rfl ?_
          exact ih h
        · replace h := gif_f q h
          refine g_iconst dX6_runnerBits_26 kc_1 ?_
          refine g_aload_n dX6_runnerBits_27 rfl ?_
          refine gR_X6_15 ok_22 dX6_runnerBits_28 ?_
          refine g_iload_n dX6_runnerBits_31 rfl ?_
          obtain ⟨a32, e32, h⟩ := obind h
          refine g_ldB e32 ok_24 rfl rfl (by decide) dX6_runnerBits_32 ?_
          refine g_ishl dX6_runnerBits_33 ?_
          refine g_goto 38 dX6_runnerBits_34 rfl ?_
          refine g_ior dX6_runnerBits_38 ?_
          refine g_istore1 dX6_runnerBits_39 ?_
          refine g_inc2 kc_1 dX6_runnerBits_40 ?_
          refine g_goto 7 dX6_runnerBits_43 rfl ?_
          exact ih h
theorem f_X6_runnerBits_ok   {σ : gSt} {r : (Int32 × gSt)} (h : f_X6_runnerBits σ = some r) : Mt l w 0 41 yX6_runnerBits cX6_runnerBits 3 (some .int) 0 0 [.ref (w.2.1 22 0)] σ (gE (some (.int r.1)) r.2) := by
  unfold f_X6_runnerBits at h
  refine g_start pn_X6 rfl rfl (Nat.le_of_ble_eq_true rfl) ?_
  show G l w 0 41 RX6 cX6_runnerBits 3 (some .int) 0 0 (gE (some (.int r.1)) r.2) 0 [some (.ref (w.2.1 22 0)), none, none] [] σ
  refine g_iconst dX6_runnerBits_0 kc_0 ?_
  refine g_istore1 dX6_runnerBits_1 ?_
  refine g_aload_n dX6_runnerBits_2 rfl ?_
  refine gI_X6_22 ok_22 dX6_runnerBits_3 ?_
  refine g_istore2 dX6_runnerBits_6 ?_
  exact f_X6_runnerBits_7_ok gFuel h
theorem dX7_bothAt_0 : decode cX7_bothAt 0 = .ok (.aload_n 1, 1) := by decide +kernel
theorem dX7_bothAt_1 : decode cX7_bothAt 1 = .ok (.iload_n 3, 1) := by decide +kernel
theorem dX7_bothAt_2 : decode cX7_bothAt 2 = .ok (.invokevirtual 22, 3) := by decide +kernel
theorem dX7_bothAt_5 : decode cX7_bothAt 5 = .ok (.iconst (-1), 1) := by decide +kernel
theorem dX7_bothAt_6 : decode cX7_bothAt 6 = .ok (.if_icmp .eq 16, 3) := by decide +kernel
theorem dX7_bothAt_9 : decode cX7_bothAt 9 = .ok (.aload_n 2, 1) := by decide +kernel
theorem dX7_bothAt_10 : decode cX7_bothAt 10 = .ok (.iload_n 3, 1) := by decide +kernel
theorem dX7_bothAt_11 : decode cX7_bothAt 11 = .ok (.invokevirtual 22, 3) := by decide +kernel
theorem dX7_bothAt_14 : decode cX7_bothAt 14 = .ok (.iconst (-1), 1) := by decide +kernel
theorem dX7_bothAt_15 : decode cX7_bothAt 15 = .ok (.if_icmp .eq 7, 3) := by decide +kernel
theorem dX7_bothAt_18 : decode cX7_bothAt 18 = .ok (.iconst 1, 1) := by decide +kernel
theorem dX7_bothAt_19 : decode cX7_bothAt 19 = .ok (.goto 4, 3) := by decide +kernel
theorem dX7_bothAt_22 : decode cX7_bothAt 22 = .ok (.iconst 0, 1) := by decide +kernel
theorem dX7_bothAt_23 : decode cX7_bothAt 23 = .ok (.ireturn, 1) := by decide +kernel
def f_X7_bothAt (i1 : Nat) (i2 : Nat) (v3 : Int32) (σ : gSt) : Option (Int32 × gSt) :=
  (f_X9_timeAt i1 v3 σ).bind fun p2 =>
  if p2.1 = (-1) then
    some (0, p2.2)
  else
    (f_X9_timeAt i2 v3 p2.2).bind fun p11 =>
    if p11.1 = (-1) then
      some (0, p11.2)
    else
      some (1, p11.2)
theorem f_X7_bothAt_ok {i1 : Nat} {i2 : Nat} {v3 : Int32} (hi1 : i1 < 20) (hi2 : i2 < 20) {σ : gSt} {r : (Int32 × gSt)} (h : f_X7_bothAt i1 i2 v3 σ = some r) : Mt l w 0 41 yX7_bothAt cX7_bothAt 4 (some .boolean) 1 21 [.ref (w.2.1 25 0), .ref (w.2.1 10 i1), .ref (w.2.1 10 i2), .int v3] σ (gE (some (.int r.1)) r.2) := by
  unfold f_X7_bothAt at h
  refine g_start pn_X7 rfl rfl (Nat.le_of_ble_eq_true rfl) ?_
  show G l w 0 41 RX7 cX7_bothAt 4 (some .boolean) 1 21 (gE (some (.int r.1)) r.2) 0 [some (.ref (w.2.1 25 0)), some (.ref (w.2.1 10 i1)), some (.ref (w.2.1 10 i2)), some (.int v3)] [] σ
  refine g_aload_n dX7_bothAt_0 rfl ?_
  refine g_iload_n dX7_bothAt_1 rfl ?_
  obtain ⟨p2, e2, h⟩ := obind h
  refine g_vP1 mv_X7_22 dX7_bothAt_2 (ok_10 hi1) ⟨by decide, by decide⟩ (Nat.le_of_ble_eq_true rfl) (f_X9_timeAt_ok hi1 e2) ?_
  refine g_iconst dX7_bothAt_5 kc_m1 ?_
  refine g_icmp_eq 22 dX7_bothAt_6 rfl (fun q => ?_) (fun q => ?_)
  · replace h := gif_t q h
    refine g_iconst dX7_bothAt_22 kc_0 ?_
    cases h
    exact g_zret0 dX7_bothAt_23 rfl
  · replace h := gif_f q h
    refine g_aload_n dX7_bothAt_9 rfl ?_
    refine g_iload_n dX7_bothAt_10 rfl ?_
    obtain ⟨p11, e11, h⟩ := obind h
    refine g_vP1 mv_X7_22 dX7_bothAt_11 (ok_10 hi2) ⟨by decide, by decide⟩ (Nat.le_of_ble_eq_true rfl) (f_X9_timeAt_ok hi2 e11) ?_
    refine g_iconst dX7_bothAt_14 kc_m1 ?_
    refine g_icmp_eq 22 dX7_bothAt_15 rfl (fun q => ?_) (fun q => ?_)
    · replace h := gif_t q h
      refine g_iconst dX7_bothAt_22 kc_0 ?_
      cases h
      exact g_zret0 dX7_bothAt_23 rfl
    · replace h := gif_f q h
      refine g_iconst dX7_bothAt_18 kc_1 ?_
      refine g_goto 23 dX7_bothAt_19 rfl ?_
      cases h
      exact g_zret1 dX7_bothAt_23 rfl
theorem dX7_nearAt_0 : decode cX7_nearAt 0 = .ok (.aload_n 0, 1) := by decide +kernel
theorem dX7_nearAt_1 : decode cX7_nearAt 1 = .ok (.aload_n 1, 1) := by decide +kernel
theorem dX7_nearAt_2 : decode cX7_nearAt 2 = .ok (.aload_n 2, 1) := by decide +kernel
theorem dX7_nearAt_3 : decode cX7_nearAt 3 = .ok (.iload_n 3, 1) := by decide +kernel
theorem dX7_nearAt_4 : decode cX7_nearAt 4 = .ok (.invokevirtual 28, 3) := by decide +kernel
theorem dX7_nearAt_7 : decode cX7_nearAt 7 = .ok (.ifCond .eq 31, 3) := by decide +kernel
theorem dX7_nearAt_10 : decode cX7_nearAt 10 = .ok (.aload_n 1, 1) := by decide +kernel
theorem dX7_nearAt_11 : decode cX7_nearAt 11 = .ok (.iload_n 3, 1) := by decide +kernel
theorem dX7_nearAt_12 : decode cX7_nearAt 12 = .ok (.invokevirtual 22, 3) := by decide +kernel
theorem dX7_nearAt_15 : decode cX7_nearAt 15 = .ok (.aload_n 2, 1) := by decide +kernel
theorem dX7_nearAt_16 : decode cX7_nearAt 16 = .ok (.iload_n 3, 1) := by decide +kernel
theorem dX7_nearAt_17 : decode cX7_nearAt 17 = .ok (.invokevirtual 22, 3) := by decide +kernel
theorem dX7_nearAt_20 : decode cX7_nearAt 20 = .ok (.isub, 1) := by decide +kernel
theorem dX7_nearAt_21 : decode cX7_nearAt 21 = .ok (.invokestatic 32, 3) := by decide +kernel
theorem dX7_nearAt_24 : decode cX7_nearAt 24 = .ok (.aload_n 0, 1) := by decide +kernel
theorem dX7_nearAt_25 : decode cX7_nearAt 25 = .ok (.getfield 18, 3) := by decide +kernel
theorem dX7_nearAt_28 : decode cX7_nearAt 28 = .ok (.getfield 37, 3) := by decide +kernel
theorem dX7_nearAt_31 : decode cX7_nearAt 31 = .ok (.if_icmp .gt 7, 3) := by decide +kernel
theorem dX7_nearAt_34 : decode cX7_nearAt 34 = .ok (.iconst 1, 1) := by decide +kernel
theorem dX7_nearAt_35 : decode cX7_nearAt 35 = .ok (.goto 4, 3) := by decide +kernel
theorem dX7_nearAt_38 : decode cX7_nearAt 38 = .ok (.iconst 0, 1) := by decide +kernel
theorem dX7_nearAt_39 : decode cX7_nearAt 39 = .ok (.ireturn, 1) := by decide +kernel
def f_X7_nearAt (i1 : Nat) (i2 : Nat) (v3 : Int32) (σ : gSt) : Option (Int32 × gSt) :=
  (f_X7_bothAt i1 i2 v3 σ).bind fun p4 =>
  if p4.1 = 0 then
    some (0, p4.2)
  else
    (f_X9_timeAt i1 v3 p4.2).bind fun p12 =>
    (f_X9_timeAt i2 v3 p12.2).bind fun p17 =>
    if (p17.2 3 1 5) < (gab (p12.1 - p17.1)) then
      some (0, p17.2)
    else
      some (1, p17.2)
theorem f_X7_nearAt_ok {i1 : Nat} {i2 : Nat} {v3 : Int32} (hi1 : i1 < 20) (hi2 : i2 < 20) {σ : gSt} {r : (Int32 × gSt)} (h : f_X7_nearAt i1 i2 v3 σ = some r) : Mt l w 0 41 yX7_nearAt cX7_nearAt 4 (some .boolean) 2 44 [.ref (w.2.1 25 0), .ref (w.2.1 10 i1), .ref (w.2.1 10 i2), .int v3] σ (gE (some (.int r.1)) r.2) := by
  unfold f_X7_nearAt at h
  refine g_start pn_X7 rfl rfl (Nat.le_of_ble_eq_true rfl) ?_
  show G l w 0 41 RX7 cX7_nearAt 4 (some .boolean) 2 44 (gE (some (.int r.1)) r.2) 0 [some (.ref (w.2.1 25 0)), some (.ref (w.2.1 10 i1)), some (.ref (w.2.1 10 i2)), some (.int v3)] [] σ
  refine g_aload_n dX7_nearAt_0 rfl ?_
  refine g_aload_n dX7_nearAt_1 rfl ?_
  refine g_aload_n dX7_nearAt_2 rfl ?_
  refine g_iload_n dX7_nearAt_3 rfl ?_
  obtain ⟨p4, e4, h⟩ := obind h
  refine g_vP3 mv_X7_28 dX7_nearAt_4 ok_25 ⟨by decide, by decide⟩ (Nat.le_of_ble_eq_true rfl) (f_X7_bothAt_ok hi1 hi2 e4) ?_
  refine g_if_eq 38 dX7_nearAt_7 rfl (fun q => ?_) (fun q => ?_)
  · replace h := gif_t q h
    refine g_iconst dX7_nearAt_38 kc_0 ?_
    cases h
    exact g_zret0 dX7_nearAt_39 rfl
  · replace h := gif_f q h
    refine g_aload_n dX7_nearAt_10 rfl ?_
    refine g_iload_n dX7_nearAt_11 rfl ?_
    obtain ⟨p12, e12, h⟩ := obind h
    refine g_vP1 mv_X7_22 dX7_nearAt_12 (ok_10 hi1) ⟨by decide, by decide⟩ (Nat.le_of_ble_eq_true rfl) (f_X9_timeAt_ok hi1 e12) ?_
    refine g_aload_n dX7_nearAt_15 rfl ?_
    refine g_iload_n dX7_nearAt_16 rfl ?_
    obtain ⟨p17, e17, h⟩ := obind h
    refine g_vP1 mv_X7_22 dX7_nearAt_17 (ok_10 hi2) ⟨by decide, by decide⟩ (Nat.le_of_ble_eq_true rfl) (f_X9_timeAt_ok hi2 e17) ?_
    refine g_isub dX7_nearAt_20 ?_
    refine g_mabs mm_X7_32 (by decide) (by decide) (Nat.le_of_ble_eq_true rfl) dX7_nearAt_21 ?_
    refine g_aload_n dX7_nearAt_24 rfl ?_
    refine gR_X7_18 ok_25 dX7_nearAt_25 ?_
    refine gI_X7_37 (ok_3 (by decide)) dX7_nearAt_28 ?_
    refine g_icmp_gt 38 dX7_nearAt_31 rfl (fun q => ?_) (fun q => ?_)
    · replace h := gif_t q h
      refine g_iconst dX7_nearAt_38 kc_0 ?_
      cases h
      exact g_zret0 dX7_nearAt_39 rfl
    · replace h := gif_f q h
      refine g_iconst dX7_nearAt_34 kc_1 ?_
      refine g_goto 39 dX7_nearAt_35 rfl ?_
      cases h
      exact g_zret1 dX7_nearAt_39 rfl
theorem dX7_nearBits_0 : decode cX7_nearBits 0 = .ok (.iconst 0, 1) := by decide +kernel
theorem dX7_nearBits_1 : decode cX7_nearBits 1 = .ok (.istore_n 3, 1) := by decide +kernel
theorem dX7_nearBits_2 : decode cX7_nearBits 2 = .ok (.iconst 0, 1) := by decide +kernel
theorem dX7_nearBits_3 : decode cX7_nearBits 3 = .ok (.istore 4, 2) := by decide +kernel
theorem dX7_nearBits_5 : decode cX7_nearBits 5 = .ok (.iload 4, 2) := by decide +kernel
theorem dX7_nearBits_7 : decode cX7_nearBits 7 = .ok (.aload_n 1, 1) := by decide +kernel
theorem dX7_nearBits_8 : decode cX7_nearBits 8 = .ok (.getfield 42, 3) := by decide +kernel
theorem dX7_nearBits_11 : decode cX7_nearBits 11 = .ok (.if_icmp .gt 31, 3) := by decide +kernel
theorem dX7_nearBits_14 : decode cX7_nearBits 14 = .ok (.iload_n 3, 1) := by decide +kernel
theorem dX7_nearBits_15 : decode cX7_nearBits 15 = .ok (.aload_n 0, 1) := by decide +kernel
theorem dX7_nearBits_16 : decode cX7_nearBits 16 = .ok (.aload_n 1, 1) := by decide +kernel
theorem dX7_nearBits_17 : decode cX7_nearBits 17 = .ok (.aload_n 2, 1) := by decide +kernel
theorem dX7_nearBits_18 : decode cX7_nearBits 18 = .ok (.iload 4, 2) := by decide +kernel
theorem dX7_nearBits_20 : decode cX7_nearBits 20 = .ok (.invokevirtual 45, 3) := by decide +kernel
theorem dX7_nearBits_23 : decode cX7_nearBits 23 = .ok (.ifCond .eq 10, 3) := by decide +kernel
theorem dX7_nearBits_26 : decode cX7_nearBits 26 = .ok (.iconst 1, 1) := by decide +kernel
theorem dX7_nearBits_27 : decode cX7_nearBits 27 = .ok (.iload 4, 2) := by decide +kernel
theorem dX7_nearBits_29 : decode cX7_nearBits 29 = .ok (.ishl, 1) := by decide +kernel
theorem dX7_nearBits_30 : decode cX7_nearBits 30 = .ok (.goto 4, 3) := by decide +kernel
theorem dX7_nearBits_33 : decode cX7_nearBits 33 = .ok (.iconst 0, 1) := by decide +kernel
theorem dX7_nearBits_34 : decode cX7_nearBits 34 = .ok (.ior, 1) := by decide +kernel
theorem dX7_nearBits_35 : decode cX7_nearBits 35 = .ok (.istore_n 3, 1) := by decide +kernel
theorem dX7_nearBits_36 : decode cX7_nearBits 36 = .ok (.iinc 4 1, 3) := by decide +kernel
theorem dX7_nearBits_39 : decode cX7_nearBits 39 = .ok (.goto (-34), 3) := by decide +kernel
theorem dX7_nearBits_42 : decode cX7_nearBits 42 = .ok (.iload_n 3, 1) := by decide +kernel
theorem dX7_nearBits_43 : decode cX7_nearBits 43 = .ok (.ireturn, 1) := by decide +kernel
def f_X7_nearBits_5 (i1 : Nat) (i2 : Nat) : Nat → Int32 → Int32 → gSt → Option (Int32 × gSt)
  | 0, _, _, _ => none
  | n + 1, v3, v4, σ =>
    if (σ 10 i1 9) < v4 then
      some (v3, σ)
    else
      (f_X7_nearAt i1 i2 v4 σ).bind fun p20 =>
      if p20.1 = 0 then
        f_X7_nearBits_5 i1 i2 n (v3 ||| 0) (v4 + 1) p20.2
      else
        f_X7_nearBits_5 i1 i2 n (v3 ||| (1 <<< (v4 &&& 31))) (v4 + 1) p20.2
def f_X7_nearBits (i1 : Nat) (i2 : Nat) (σ : gSt) : Option (Int32 × gSt) :=
  f_X7_nearBits_5 i1 i2 gFuel 0 0 σ
theorem f_X7_nearBits_5_ok {i1 : Nat} {i2 : Nat} {r : (Int32 × gSt)} (hi1 : i1 < 20) (hi2 : i2 < 20) : ∀ (n : Nat) {v3 : Int32} {v4 : Int32} {σ : gSt} , f_X7_nearBits_5 i1 i2 n v3 v4 σ = some r → G l w 0 41 RX7 cX7_nearBits 5 (some .int) 3 67 (gE (some (.int r.1)) r.2) 5 [some (.ref (w.2.1 25 0)), some (.ref (w.2.1 10 i1)), some (.ref (w.2.1 10 i2)), some (.int v3), some (.int v4)] [] σ := by
  intro n
  induction n with
  | zero => intro v3 v4 σ h; rw [f_X7_nearBits_5] at h; cases h
  | succ n ih =>
    intro v3 v4 σ h
    rw [f_X7_nearBits_5] at h
    refine g_iload dX7_nearBits_5 rfl ?_
    refine g_aload_n dX7_nearBits_7 rfl ?_
    refine gI_X7_42 (ok_10 hi1) dX7_nearBits_8 ?_
    refine g_icmp_gt 42 dX7_nearBits_11 rfl (fun q => ?_) (fun q => ?_)
    · replace h := gif_t q h
      refine g_iload_n dX7_nearBits_42 rfl ?_
      cases h
      exact g_iret dX7_nearBits_43 rfl ⟨rfl, rfl⟩
    · replace h := gif_f q h
      refine g_iload_n dX7_nearBits_14 rfl ?_
      refine g_aload_n dX7_nearBits_15 rfl ?_
      refine g_aload_n dX7_nearBits_16 rfl ?_
      refine g_aload_n dX7_nearBits_17 rfl ?_
      refine g_iload dX7_nearBits_18 rfl ?_
      obtain ⟨p20, e20, h⟩ := obind h
      refine g_vP3 mv_X7_45 dX7_nearBits_20 ok_25 ⟨by decide, by decide⟩ (Nat.le_of_ble_eq_true rfl) (f_X7_nearAt_ok hi1 hi2 e20) ?_
      refine g_if_eq 33 dX7_nearBits_23 rfl (fun q => ?_) (fun q => ?_)
      · replace h := gif_t q h
        refine g_iconst dX7_nearBits_33 kc_0 ?_
        refine g_ior dX7_nearBits_34 ?_
        refine g_istore3 dX7_nearBits_35 ?_
        refine g_inc4 kc_1 dX7_nearBits_36 ?_
        refine g_goto 5 dX7_nearBits_39 rfl ?_
        exact ih h
      · replace h := gif_f q h
        refine g_iconst dX7_nearBits_26 kc_1 ?_
        refine g_iload dX7_nearBits_27 rfl ?_
        refine g_ishl dX7_nearBits_29 ?_
        refine g_goto 34 dX7_nearBits_30 rfl ?_
        refine g_ior dX7_nearBits_34 ?_
        refine g_istore3 dX7_nearBits_35 ?_
        refine g_inc4 kc_1 dX7_nearBits_36 ?_
        refine g_goto 5 dX7_nearBits_39 rfl ?_
        exact ih h
theorem f_X7_nearBits_ok {i1 : Nat} {i2 : Nat} (hi1 : i1 < 20) (hi2 : i2 < 20) {σ : gSt} {r : (Int32 × gSt)} (h : f_X7_nearBits i1 i2 σ = some r) : Mt l w 0 41 yX7_nearBits cX7_nearBits 5 (some .int) 3 67 [.ref (w.2.1 25 0), .ref (w.2.1 10 i1), .ref (w.2.1 10 i2)] σ (gE (some (.int r.1)) r.2) := by
  unfold f_X7_nearBits at h
  refine g_start pn_X7 rfl rfl (Nat.le_of_ble_eq_true rfl) ?_
  show G l w 0 41 RX7 cX7_nearBits 5 (some .int) 3 67 (gE (some (.int r.1)) r.2) 0 [some (.ref (w.2.1 25 0)), some (.ref (w.2.1 10 i1)), some (.ref (w.2.1 10 i2)), none, none] [] σ
  refine g_iconst dX7_nearBits_0 kc_0 ?_
  refine g_istore3 dX7_nearBits_1 ?_
  refine g_iconst dX7_nearBits_2 kc_0 ?_
  refine g_istore4 dX7_nearBits_3 ?_
  exact f_X7_nearBits_5_ok hi1 hi2 gFuel h
theorem dX7_aloneBits_0 : decode cX7_aloneBits 0 = .ok (.aload_n 0, 1) := by decide +kernel
theorem dX7_aloneBits_1 : decode cX7_aloneBits 1 = .ok (.getfield 18, 3) := by decide +kernel
theorem dX7_aloneBits_4 : decode cX7_aloneBits 4 = .ok (.iload_n 1, 1) := by decide +kernel
theorem dX7_aloneBits_5 : decode cX7_aloneBits 5 = .ok (.invokevirtual 48, 3) := by decide +kernel
theorem dX7_aloneBits_8 : decode cX7_aloneBits 8 = .ok (.astore_n 2, 1) := by decide +kernel
theorem dX7_aloneBits_9 : decode cX7_aloneBits 9 = .ok (.aload_n 0, 1) := by decide +kernel
theorem dX7_aloneBits_10 : decode cX7_aloneBits 10 = .ok (.aload_n 2, 1) := by decide +kernel
theorem dX7_aloneBits_11 : decode cX7_aloneBits 11 = .ok (.aload_n 2, 1) := by decide +kernel
theorem dX7_aloneBits_12 : decode cX7_aloneBits 12 = .ok (.invokevirtual 52, 3) := by decide +kernel
theorem dX7_aloneBits_15 : decode cX7_aloneBits 15 = .ok (.istore_n 3, 1) := by decide +kernel
theorem dX7_aloneBits_16 : decode cX7_aloneBits 16 = .ok (.iconst 0, 1) := by decide +kernel
theorem dX7_aloneBits_17 : decode cX7_aloneBits 17 = .ok (.istore 4, 2) := by decide +kernel
theorem dX7_aloneBits_19 : decode cX7_aloneBits 19 = .ok (.iload 4, 2) := by decide +kernel
theorem dX7_aloneBits_21 : decode cX7_aloneBits 21 = .ok (.aload_n 0, 1) := by decide +kernel
theorem dX7_aloneBits_22 : decode cX7_aloneBits 22 = .ok (.getfield 18, 3) := by decide +kernel
theorem dX7_aloneBits_25 : decode cX7_aloneBits 25 = .ok (.getfield 56, 3) := by decide +kernel
theorem dX7_aloneBits_28 : decode cX7_aloneBits 28 = .ok (.if_icmp .ge 50, 3) := by decide +kernel
theorem dX7_aloneBits_31 : decode cX7_aloneBits 31 = .ok (.iload 4, 2) := by decide +kernel
theorem dX7_aloneBits_33 : decode cX7_aloneBits 33 = .ok (.iload_n 1, 1) := by decide +kernel
theorem dX7_aloneBits_34 : decode cX7_aloneBits 34 = .ok (.if_icmp .eq 38, 3) := by decide +kernel
theorem dX7_aloneBits_37 : decode cX7_aloneBits 37 = .ok (.aload_n 0, 1) := by decide +kernel
theorem dX7_aloneBits_38 : decode cX7_aloneBits 38 = .ok (.getfield 18, 3) := by decide +kernel
theorem dX7_aloneBits_41 : decode cX7_aloneBits 41 = .ok (.iload 4, 2) := by decide +kernel
theorem dX7_aloneBits_43 : decode cX7_aloneBits 43 = .ok (.aload_n 2, 1) := by decide +kernel
theorem dX7_aloneBits_44 : decode cX7_aloneBits 44 = .ok (.getfield 59, 3) := by decide +kernel
theorem dX7_aloneBits_47 : decode cX7_aloneBits 47 = .ok (.invokevirtual 62, 3) := by decide +kernel
theorem dX7_aloneBits_50 : decode cX7_aloneBits 50 = .ok (.ifCond .eq 22, 3) := by decide +kernel
theorem dX7_aloneBits_53 : decode cX7_aloneBits 53 = .ok (.iload_n 3, 1) := by decide +kernel
theorem dX7_aloneBits_54 : decode cX7_aloneBits 54 = .ok (.aload_n 0, 1) := by decide +kernel
theorem dX7_aloneBits_55 : decode cX7_aloneBits 55 = .ok (.aload_n 2, 1) := by decide +kernel
theorem dX7_aloneBits_56 : decode cX7_aloneBits 56 = .ok (.aload_n 0, 1) := by decide +kernel
theorem dX7_aloneBits_57 : decode cX7_aloneBits 57 = .ok (.getfield 18, 3) := by decide +kernel
theorem dX7_aloneBits_60 : decode cX7_aloneBits 60 = .ok (.iload 4, 2) := by decide +kernel
theorem dX7_aloneBits_62 : decode cX7_aloneBits 62 = .ok (.invokevirtual 48, 3) := by decide +kernel
theorem dX7_aloneBits_65 : decode cX7_aloneBits 65 = .ok (.invokevirtual 52, 3) := by decide +kernel
theorem dX7_aloneBits_68 : decode cX7_aloneBits 68 = .ok (.iconst (-1), 1) := by decide +kernel
theorem dX7_aloneBits_69 : decode cX7_aloneBits 69 = .ok (.ixor, 1) := by decide +kernel
theorem dX7_aloneBits_70 : decode cX7_aloneBits 70 = .ok (.iand, 1) := by decide +kernel
theorem dX7_aloneBits_71 : decode cX7_aloneBits 71 = .ok (.istore_n 3, 1) := by decide +kernel
theorem dX7_aloneBits_72 : decode cX7_aloneBits 72 = .ok (.iinc 4 1, 3) := by decide +kernel
theorem dX7_aloneBits_75 : decode cX7_aloneBits 75 = .ok (.goto (-56), 3) := by decide +kernel
theorem dX7_aloneBits_78 : decode cX7_aloneBits 78 = .ok (.iload_n 3, 1) := by decide +kernel
theorem dX7_aloneBits_79 : decode cX7_aloneBits 79 = .ok (.ireturn, 1) := by decide +kernel
def f_X7_aloneBits_19 (v1 : Int32) (i2 : Nat) : Nat → Int32 → Int32 → gSt → Option (Int32 × gSt)
  | 0, _, _, _ => none
  | n + 1, v3, v4, σ =>
    if (σ 3 1 4) ≤ v4 then
      some (v3, σ)
    else
      if v4 = v1 then
        f_X7_aloneBits_19 v1 i2 n v3 (v4 + 1) σ
      else
        (f_X4_isOf 1 v4 (σ 10 i2 5) σ).bind fun p47 =>
        if p47.1 = 0 then
          f_X7_aloneBits_19 v1 i2 n v3 (v4 + 1) p47.2
        else
          (f_X4_runnerAt 1 v4 p47.2).bind fun p62 =>
          (f_X7_nearBits i2 p62.1 p62.2).bind fun p65 =>
          f_X7_aloneBits_19 v1 i2 n (v3 &&& (p65.1 ^^^ (-1))) (v4 + 1) p65.2
def f_X7_aloneBits (v1 : Int32) (σ : gSt) : Option (Int32 × gSt) :=
  (f_X4_runnerAt 1 v1 σ).bind fun p5 =>
  (f_X7_nearBits p5.1 p5.1 p5.2).bind fun p12 =>
  f_X7_aloneBits_19 v1 p5.1 gFuel p12.1 0 p12.2
theorem f_X7_aloneBits_19_ok {v1 : Int32} {i2 : Nat} {r : (Int32 × gSt)} (hi2 : i2 < 20) : ∀ (n : Nat) {v3 : Int32} {v4 : Int32} {σ : gSt} , f_X7_aloneBits_19 v1 i2 n v3 v4 σ = some r → G l w 0 41 RX7 cX7_aloneBits 5 (some .int) 4 91 (gE (some (.int r.1)) r.2) 19 [some (.ref (w.2.1 25 0)), some (.int v1), some (.ref (w.2.1 10 i2)), some (.int v3), some (.int v4)] [] σ := by
  intro n
  induction n with
  | zero => intro v3 v4 σ h; rw [f_X7_aloneBits_19] at h; cases h
  | succ n ih =>
    intro v3 v4 σ h
    rw [f_X7_aloneBits_19] at h
    refine g_iload dX7_aloneBits_19 rfl ?_
    refine g_aload_n dX7_aloneBits_21 rfl ?_
    refine gR_X7_18 ok_25 dX7_aloneBits_22 ?_
    refine gI_X7_56 (ok_3 (by decide)) dX7_aloneBits_25 ?_
    refine g_icmp_ge 78 dX7_aloneBits_28 rfl (fun q => ?_) (fun q => ?_)
    · replace h := gif_t q h
      refine g_iload_n dX7_aloneBits_78 rfl ?_
      cases h
      exact g_iret dX7_aloneBits_79 rfl ⟨rfl, rfl⟩
    · replace h := gif_f q h
      refine g_iload dX7_aloneBits_31 rfl ?_
      refine g_iload_n dX7_aloneBits_33 rfl ?_
      refine g_icmp_eq 72 dX7_aloneBits_34 rfl (fun q => ?_) (fun q => ?_)
      · replace h := gif_t q h
        refine g_inc4 kc_1 dX7_aloneBits_72 ?_
        refine g_goto 19 dX7_aloneBits_75 rfl ?_
        exact ih h
      · replace h := gif_f q h
        refine g_aload_n dX7_aloneBits_37 rfl ?_
        refine gR_X7_18 ok_25 dX7_aloneBits_38 ?_
        refine g_iload dX7_aloneBits_41 rfl ?_
        refine g_aload_n dX7_aloneBits_43 rfl ?_
        refine gI_X7_59 (ok_10 hi2) dX7_aloneBits_44 ?_
        obtain ⟨p47, e47, h⟩ := obind h
        refine g_vP2 mv_X7_62 dX7_aloneBits_47 (ok_3 (by decide)) ⟨by decide, by decide⟩ (Nat.le_of_ble_eq_true rfl) (f_X4_isOf_ok (by decide) e47) ?_
        refine g_if_eq 72 dX7_aloneBits_50 rfl (fun q => ?_) (fun q => ?_)
        · replace h := gif_t q h
          refine g_inc4 kc_1 dX7_aloneBits_72 ?_
          refine g_goto 19 dX7_aloneBits_75 rfl ?_
          exact ih h
        · replace h := gif_f q h
          refine g_iload_n dX7_aloneBits_53 rfl ?_
          refine g_aload_n dX7_aloneBits_54 rfl ?_
          refine g_aload_n dX7_aloneBits_55 rfl ?_
          refine g_aload_n dX7_aloneBits_56 rfl ?_
          refine gR_X7_18 ok_25 dX7_aloneBits_57 ?_
          refine g_iload dX7_aloneBits_60 rfl ?_
          obtain ⟨p62, e62, h⟩ := obind h
          refine g_vR1 mv_X7_48 dX7_aloneBits_62 (ok_3 (by decide)) ⟨by decide, by decide⟩ (Nat.le_of_ble_eq_true rfl) (f_X4_runnerAt_ok (by decide) e62) (fun b62 => ?_)
          obtain ⟨p65, e65, h⟩ := obind h
          refine g_vP2 mv_X7_52 dX7_aloneBits_65 ok_25 ⟨by decide, by decide⟩ (Nat.le_of_ble_eq_true rfl) (f_X7_nearBits_ok hi2 b62 e65) ?_
          refine g_iconst dX7_aloneBits_68 kc_m1 ?_
          refine g_ixor dX7_aloneBits_69 ?_
          refine g_iand dX7_aloneBits_70 ?_
          refine g_istore3 dX7_aloneBits_71 ?_
          refine g_inc4 kc_1 dX7_aloneBits_72 ?_
          refine g_goto 19 dX7_aloneBits_75 rfl ?_
          exact ih h
theorem f_X7_aloneBits_ok {v1 : Int32}  {σ : gSt} {r : (Int32 × gSt)} (h : f_X7_aloneBits v1 σ = some r) : Mt l w 0 41 yX7_aloneBits cX7_aloneBits 5 (some .int) 4 91 [.ref (w.2.1 25 0), .int v1] σ (gE (some (.int r.1)) r.2) := by
  unfold f_X7_aloneBits at h
  refine g_start pn_X7 rfl rfl (Nat.le_of_ble_eq_true rfl) ?_
  show G l w 0 41 RX7 cX7_aloneBits 5 (some .int) 4 91 (gE (some (.int r.1)) r.2) 0 [some (.ref (w.2.1 25 0)), some (.int v1), none, none, none] [] σ
  refine g_aload_n dX7_aloneBits_0 rfl ?_
  refine gR_X7_18 ok_25 dX7_aloneBits_1 ?_
  refine g_iload_n dX7_aloneBits_4 rfl ?_
  obtain ⟨p5, e5, h⟩ := obind h
  refine g_vR1 mv_X7_48 dX7_aloneBits_5 (ok_3 (by decide)) ⟨by decide, by decide⟩ (Nat.le_of_ble_eq_true rfl) (f_X4_runnerAt_ok (by decide) e5) (fun b5 => ?_)
  refine g_astore2 dX7_aloneBits_8 ?_
  refine g_aload_n dX7_aloneBits_9 rfl ?_
  refine g_aload_n dX7_aloneBits_10 rfl ?_
  refine g_aload_n dX7_aloneBits_11 rfl ?_
  obtain ⟨p12, e12, h⟩ := obind h
  refine g_vP2 mv_X7_52 dX7_aloneBits_12 ok_25 ⟨by decide, by decide⟩ (Nat.le_of_ble_eq_true rfl) (f_X7_nearBits_ok b5 b5 e12) ?_
  refine g_istore3 dX7_aloneBits_15 ?_
  refine g_iconst dX7_aloneBits_16 kc_0 ?_
  refine g_istore4 dX7_aloneBits_17 ?_
  exact f_X7_aloneBits_19_ok b5 gFuel h
theorem dX7_findChase_0 : decode cX7_findChase 0 = .ok (.aload_n 0, 1) := by decide +kernel
theorem dX7_findChase_1 : decode cX7_findChase 1 = .ok (.iconst 0, 1) := by decide +kernel
theorem dX7_findChase_2 : decode cX7_findChase 2 = .ok (.putfield 9, 3) := by decide +kernel
theorem dX7_findChase_5 : decode cX7_findChase 5 = .ok (.aload_n 0, 1) := by decide +kernel
theorem dX7_findChase_6 : decode cX7_findChase 6 = .ok (.iconst 0, 1) := by decide +kernel
theorem dX7_findChase_7 : decode cX7_findChase 7 = .ok (.putfield 15, 3) := by decide +kernel
theorem dX7_findChase_10 : decode cX7_findChase 10 = .ok (.iconst 0, 1) := by decide +kernel
theorem dX7_findChase_11 : decode cX7_findChase 11 = .ok (.istore_n 3, 1) := by decide +kernel
theorem dX7_findChase_12 : decode cX7_findChase 12 = .ok (.iconst 0, 1) := by decide +kernel
theorem dX7_findChase_13 : decode cX7_findChase 13 = .ok (.istore 4, 2) := by decide +kernel
theorem dX7_findChase_15 : decode cX7_findChase 15 = .ok (.iload 4, 2) := by decide +kernel
theorem dX7_findChase_17 : decode cX7_findChase 17 = .ok (.aload_n 1, 1) := by decide +kernel
theorem dX7_findChase_18 : decode cX7_findChase 18 = .ok (.getfield 42, 3) := by decide +kernel
theorem dX7_findChase_21 : decode cX7_findChase 21 = .ok (.if_icmp .gt 51, 3) := by decide +kernel
theorem dX7_findChase_24 : decode cX7_findChase 24 = .ok (.aload_n 0, 1) := by decide +kernel
theorem dX7_findChase_25 : decode cX7_findChase 25 = .ok (.aload_n 1, 1) := by decide +kernel
theorem dX7_findChase_26 : decode cX7_findChase 26 = .ok (.aload_n 2, 1) := by decide +kernel
theorem dX7_findChase_27 : decode cX7_findChase 27 = .ok (.iload 4, 2) := by decide +kernel
theorem dX7_findChase_29 : decode cX7_findChase 29 = .ok (.invokevirtual 45, 3) := by decide +kernel
theorem dX7_findChase_32 : decode cX7_findChase 32 = .ok (.ifCond .eq 9, 3) := by decide +kernel
theorem dX7_findChase_35 : decode cX7_findChase 35 = .ok (.iload_n 3, 1) := by decide +kernel
theorem dX7_findChase_36 : decode cX7_findChase 36 = .ok (.iconst 1, 1) := by decide +kernel
theorem dX7_findChase_37 : decode cX7_findChase 37 = .ok (.iadd, 1) := by decide +kernel
theorem dX7_findChase_38 : decode cX7_findChase 38 = .ok (.goto 4, 3) := by decide +kernel
theorem dX7_findChase_41 : decode cX7_findChase 41 = .ok (.iconst 0, 1) := by decide +kernel
theorem dX7_findChase_42 : decode cX7_findChase 42 = .ok (.istore_n 3, 1) := by decide +kernel
theorem dX7_findChase_43 : decode cX7_findChase 43 = .ok (.iload_n 3, 1) := by decide +kernel
theorem dX7_findChase_44 : decode cX7_findChase 44 = .ok (.aload_n 0, 1) := by decide +kernel
theorem dX7_findChase_45 : decode cX7_findChase 45 = .ok (.getfield 15, 3) := by decide +kernel
theorem dX7_findChase_48 : decode cX7_findChase 48 = .ok (.if_icmp .le 18, 3) := by decide +kernel
theorem dX7_findChase_51 : decode cX7_findChase 51 = .ok (.aload_n 0, 1) := by decide +kernel
theorem dX7_findChase_52 : decode cX7_findChase 52 = .ok (.iload_n 3, 1) := by decide +kernel
theorem dX7_findChase_53 : decode cX7_findChase 53 = .ok (.putfield 15, 3) := by decide +kernel
theorem dX7_findChase_56 : decode cX7_findChase 56 = .ok (.aload_n 0, 1) := by decide +kernel
theorem dX7_findChase_57 : decode cX7_findChase 57 = .ok (.iload 4, 2) := by decide +kernel
theorem dX7_findChase_59 : decode cX7_findChase 59 = .ok (.iload_n 3, 1) := by decide +kernel
theorem dX7_findChase_60 : decode cX7_findChase 60 = .ok (.isub, 1) := by decide +kernel
theorem dX7_findChase_61 : decode cX7_findChase 61 = .ok (.iconst 1, 1) := by decide +kernel
theorem dX7_findChase_62 : decode cX7_findChase 62 = .ok (.iadd, 1) := by decide +kernel
theorem dX7_findChase_63 : decode cX7_findChase 63 = .ok (.putfield 9, 3) := by decide +kernel
theorem dX7_findChase_66 : decode cX7_findChase 66 = .ok (.iinc 4 1, 3) := by decide +kernel
theorem dX7_findChase_69 : decode cX7_findChase 69 = .ok (.goto (-54), 3) := by decide +kernel
theorem dX7_findChase_72 : decode cX7_findChase 72 = .ok (.return_, 1) := by decide +kernel
def f_X7_findChase_42 (i1 : Nat) (i2 : Nat) (v4 : Int32) (k15 : Int32 → Int32 → gSt → Option gSt) (vs0 : Int32) (σ : gSt) : Option gSt :=
  if vs0 ≤ (σ 25 0 2) then
    k15 vs0 (v4 + 1) σ
  else
    k15 vs0 (v4 + 1) (gup (gup σ 25 0 2 vs0) 25 0 1 ((v4 - vs0) + 1))
def f_X7_findChase_15 (i1 : Nat) (i2 : Nat) : Nat → Int32 → Int32 → gSt → Option gSt
  | 0, _, _, _ => none
  | n + 1, v3, v4, σ =>
    if (σ 10 i1 9) < v4 then
      some σ
    else
      (f_X7_nearAt i1 i2 v4 σ).bind fun p29 =>
      if p29.1 = 0 then
        f_X7_findChase_42 i1 i2 v4 (fun v3 v4 σ => f_X7_findChase_15 i1 i2 n v3 v4 σ) 0 p29.2
      else
        f_X7_findChase_42 i1 i2 v4 (fun v3 v4 σ => f_X7_findChase_15 i1 i2 n v3 v4 σ) (v3 + 1) p29.2
def f_X7_findChase (i1 : Nat) (i2 : Nat) (σ : gSt) : Option gSt :=
  f_X7_findChase_15 i1 i2 gFuel 0 0 (gup (gup σ 25 0 1 0) 25 0 2 0)
theorem f_X7_findChase_42_ok {i1 : Nat} {i2 : Nat} {v4 : Int32} {k15 : Int32 → Int32 → gSt → Option gSt} {vs0 : Int32} {r : gSt} (hi1 : i1 < 20) (hi2 : i2 < 20) (hk15 : ∀ {v3 : Int32} {v4 : Int32} {σ : gSt} , k15 v3 v4 σ = some r → G l w 0 41 RX7 cX7_findChase 5 none 3 67 (gE none r) 15 [some (.ref (w.2.1 25 0)), some (.ref (w.2.1 10 i1)), some (.ref (w.2.1 10 i2)), some (.int v3), some (.int v4)] [] σ) {σ : gSt} {x3 : Option Value} (h : f_X7_findChase_42 i1 i2 v4 k15 vs0 σ = some r) : G l w 0 41 RX7 cX7_findChase 5 none 3 67 (gE none r) 42 [some (.ref (w.2.1 25 0)), some (.ref (w.2.1 10 i1)), some (.ref (w.2.1 10 i2)), x3, some (.int v4)] [.int vs0] σ := by
  unfold f_X7_findChase_42 at h
  refine g_istore3 dX7_findChase_42 ?_
  refine g_iload_n dX7_findChase_43 rfl ?_
  refine g_aload_n dX7_findChase_44 rfl ?_
  refine gI_X7_15 ok_25 dX7_findChase_45 ?_
  refine g_icmp_le 66 dX7_findChase_48 rfl (fun q => ?_) (fun q => ?_)
  · replace h := gif_t q h
    refine g_inc4 kc_1 dX7_findChase_66 ?_
    refine g_goto 15 dX7_findChase_69 rfl ?_
    exact hk15 h
  · replace h := gif_f q h
    refine g_aload_n dX7_findChase_51 rfl ?_
    refine g_iload_n dX7_findChase_52 rfl ?_
    refine gP_X7_15 ok_25 dX7_findChase_53 ?_
    refine g_aload_n dX7_findChase_56 rfl ?_
    refine g_iload dX7_findChase_57 rfl ?_
    refine g_iload_n dX7_findChase_59 rfl ?_
    refine g_isub dX7_findChase_60 ?_
    refine g_iconst dX7_findChase_61 kc_1 ?_
    refine g_iadd dX7_findChase_62 ?_
    refine gP_X7_9 ok_25 dX7_findChase_63 ?_
    refine g_inc4 kc_1 dX7_findChase_66 ?_
    refine g_goto 15 dX7_findChase_69 rfl ?_
    exact hk15 h
theorem f_X7_findChase_15_ok {i1 : Nat} {i2 : Nat} {r : gSt} (hi1 : i1 < 20) (hi2 : i2 < 20) : ∀ (n : Nat) {v3 : Int32} {v4 : Int32} {σ : gSt} , f_X7_findChase_15 i1 i2 n v3 v4 σ = some r → G l w 0 41 RX7 cX7_findChase 5 none 3 67 (gE none r) 15 [some (.ref (w.2.1 25 0)), some (.ref (w.2.1 10 i1)), some (.ref (w.2.1 10 i2)), some (.int v3), some (.int v4)] [] σ := by
  intro n
  induction n with
  | zero => intro v3 v4 σ h; rw [f_X7_findChase_15] at h; cases h
  | succ n ih =>
    intro v3 v4 σ h
    rw [f_X7_findChase_15] at h
    refine g_iload dX7_findChase_15 rfl ?_
    refine g_aload_n dX7_findChase_17 rfl ?_
    refine gI_X7_42 (ok_10 hi1) dX7_findChase_18 ?_
    refine g_icmp_gt 72 dX7_findChase_21 rfl (fun q => ?_) (fun q => ?_)
    · replace h := gif_t q h
      cases h
      exact g_vret dX7_findChase_72 rfl ⟨rfl, rfl⟩
    · replace h := gif_f q h
      refine g_aload_n dX7_findChase_24 rfl ?_
      refine g_aload_n dX7_findChase_25 rfl ?_
      refine g_aload_n dX7_findChase_26 rfl ?_
      refine g_iload dX7_findChase_27 rfl ?_
      obtain ⟨p29, e29, h⟩ := obind h
      refine g_vP3 mv_X7_45 dX7_findChase_29 ok_25 ⟨by decide, by decide⟩ (Nat.le_of_ble_eq_true rfl) (f_X7_nearAt_ok hi1 hi2 e29) ?_
      refine g_if_eq 41 dX7_findChase_32 rfl (fun q => ?_) (fun q => ?_)
      · replace h := gif_t q h
        refine g_iconst dX7_findChase_41 kc_0 ?_
        exact f_X7_findChase_42_ok hi1 hi2 (fun h => ih h) h
      · replace h := gif_f q h
        refine g_iload_n dX7_findChase_35 rfl ?_
        refine g_iconst dX7_findChase_36 kc_1 ?_
        refine g_iadd dX7_findChase_37 ?_
        refine g_goto 42 dX7_findChase_38 rfl ?_
        exact f_X7_findChase_42_ok hi1 hi2 (fun h => ih h) h
theorem f_X7_findChase_ok {i1 : Nat} {i2 : Nat} (hi1 : i1 < 20) (hi2 : i2 < 20) {σ : gSt} {r : gSt} (h : f_X7_findChase i1 i2 σ = some r) : Mt l w 0 41 yX7_findChase cX7_findChase 5 none 3 67 [.ref (w.2.1 25 0), .ref (w.2.1 10 i1), .ref (w.2.1 10 i2)] σ (gE none r) := by
  unfold f_X7_findChase at h
  refine g_start pn_X7 rfl rfl (Nat.le_of_ble_eq_true rfl) ?_
  show G l w 0 41 RX7 cX7_findChase 5 none 3 67 (gE none r) 0 [some (.ref (w.2.1 25 0)), some (.ref (w.2.1 10 i1)), some (.ref (w.2.1 10 i2)), none, none] [] σ
  refine g_aload_n dX7_findChase_0 rfl ?_
  refine g_iconst dX7_findChase_1 kc_0 ?_
  refine gP_X7_9 ok_25 dX7_findChase_2 ?_
  refine g_aload_n dX7_findChase_5 rfl ?_
  refine g_iconst dX7_findChase_6 kc_0 ?_
  refine gP_X7_15 ok_25 dX7_findChase_7 ?_
  refine g_iconst dX7_findChase_10 kc_0 ?_
  refine g_istore3 dX7_findChase_11 ?_
  refine g_iconst dX7_findChase_12 kc_0 ?_
  refine g_istore4 dX7_findChase_13 ?_
  exact f_X7_findChase_15_ok hi1 hi2 gFuel h
theorem dX7_aheadAt_0 : decode cX7_aheadAt 0 = .ok (.aload_n 0, 1) := by decide +kernel
theorem dX7_aheadAt_1 : decode cX7_aheadAt 1 = .ok (.getfield 18, 3) := by decide +kernel
theorem dX7_aheadAt_4 : decode cX7_aheadAt 4 = .ok (.iload_n 1, 1) := by decide +kernel
theorem dX7_aheadAt_5 : decode cX7_aheadAt 5 = .ok (.invokevirtual 48, 3) := by decide +kernel
theorem dX7_aheadAt_8 : decode cX7_aheadAt 8 = .ok (.iload_n 3, 1) := by decide +kernel
theorem dX7_aheadAt_9 : decode cX7_aheadAt 9 = .ok (.invokevirtual 22, 3) := by decide +kernel
theorem dX7_aheadAt_12 : decode cX7_aheadAt 12 = .ok (.aload_n 0, 1) := by decide +kernel
theorem dX7_aheadAt_13 : decode cX7_aheadAt 13 = .ok (.getfield 18, 3) := by decide +kernel
theorem dX7_aheadAt_16 : decode cX7_aheadAt 16 = .ok (.iload_n 2, 1) := by decide +kernel
theorem dX7_aheadAt_17 : decode cX7_aheadAt 17 = .ok (.invokevirtual 48, 3) := by decide +kernel
theorem dX7_aheadAt_20 : decode cX7_aheadAt 20 = .ok (.iload_n 3, 1) := by decide +kernel
theorem dX7_aheadAt_21 : decode cX7_aheadAt 21 = .ok (.invokevirtual 22, 3) := by decide +kernel
theorem dX7_aheadAt_24 : decode cX7_aheadAt 24 = .ok (.isub, 1) := by decide +kernel
theorem dX7_aheadAt_25 : decode cX7_aheadAt 25 = .ok (.istore 4, 2) := by decide +kernel
theorem dX7_aheadAt_27 : decode cX7_aheadAt 27 = .ok (.iload 4, 2) := by decide +kernel
theorem dX7_aheadAt_29 : decode cX7_aheadAt 29 = .ok (.ifCond .ne 9, 3) := by decide +kernel
theorem dX7_aheadAt_32 : decode cX7_aheadAt 32 = .ok (.iload_n 1, 1) := by decide +kernel
theorem dX7_aheadAt_33 : decode cX7_aheadAt 33 = .ok (.iload_n 2, 1) := by decide +kernel
theorem dX7_aheadAt_34 : decode cX7_aheadAt 34 = .ok (.invokestatic 66, 3) := by decide +kernel
theorem dX7_aheadAt_37 : decode cX7_aheadAt 37 = .ok (.ireturn, 1) := by decide +kernel
theorem dX7_aheadAt_38 : decode cX7_aheadAt 38 = .ok (.iload 4, 2) := by decide +kernel
theorem dX7_aheadAt_40 : decode cX7_aheadAt 40 = .ok (.ifCond .ge 7, 3) := by decide +kernel
theorem dX7_aheadAt_43 : decode cX7_aheadAt 43 = .ok (.iload_n 1, 1) := by decide +kernel
theorem dX7_aheadAt_44 : decode cX7_aheadAt 44 = .ok (.goto 4, 3) := by decide +kernel
theorem dX7_aheadAt_47 : decode cX7_aheadAt 47 = .ok (.iload_n 2, 1) := by decide +kernel
theorem dX7_aheadAt_48 : decode cX7_aheadAt 48 = .ok (.ireturn, 1) := by decide +kernel
def f_X7_aheadAt (v1 : Int32) (v2 : Int32) (v3 : Int32) (σ : gSt) : Option (Int32 × gSt) :=
  (f_X4_runnerAt 1 v1 σ).bind fun p5 =>
  (f_X9_timeAt p5.1 v3 p5.2).bind fun p9 =>
  (f_X4_runnerAt 1 v2 p9.2).bind fun p17 =>
  (f_X9_timeAt p17.1 v3 p17.2).bind fun p21 =>
  if (p9.1 - p21.1) = 0 then
    some ((gmn v1 v2), p21.2)
  else
    if 0 ≤ (p9.1 - p21.1) then
      some (v2, p21.2)
    else
      some (v1, p21.2)
theorem f_X7_aheadAt_ok {v1 : Int32} {v2 : Int32} {v3 : Int32}  {σ : gSt} {r : (Int32 × gSt)} (h : f_X7_aheadAt v1 v2 v3 σ = some r) : Mt l w 0 41 yX7_aheadAt cX7_aheadAt 5 (some .int) 1 24 [.ref (w.2.1 25 0), .int v1, .int v2, .int v3] σ (gE (some (.int r.1)) r.2) := by
  unfold f_X7_aheadAt at h
  refine g_start pn_X7 rfl rfl (Nat.le_of_ble_eq_true rfl) ?_
  show G l w 0 41 RX7 cX7_aheadAt 5 (some .int) 1 24 (gE (some (.int r.1)) r.2) 0 [some (.ref (w.2.1 25 0)), some (.int v1), some (.int v2), some (.int v3), none] [] σ
  refine g_aload_n dX7_aheadAt_0 rfl ?_
  refine gR_X7_18 ok_25 dX7_aheadAt_1 ?_
  refine g_iload_n dX7_aheadAt_4 rfl ?_
  obtain ⟨p5, e5, h⟩ := obind h
  refine g_vR1 mv_X7_48 dX7_aheadAt_5 (ok_3 (by decide)) ⟨by decide, by decide⟩ (Nat.le_of_ble_eq_true rfl) (f_X4_runnerAt_ok (by decide) e5) (fun b5 => ?_)
  refine g_iload_n dX7_aheadAt_8 rfl ?_
  obtain ⟨p9, e9, h⟩ := obind h
  refine g_vP1 mv_X7_22 dX7_aheadAt_9 (ok_10 b5) ⟨by decide, by decide⟩ (Nat.le_of_ble_eq_true rfl) (f_X9_timeAt_ok b5 e9) ?_
  refine g_aload_n dX7_aheadAt_12 rfl ?_
  refine gR_X7_18 ok_25 dX7_aheadAt_13 ?_
  refine g_iload_n dX7_aheadAt_16 rfl ?_
  obtain ⟨p17, e17, h⟩ := obind h
  refine g_vR1 mv_X7_48 dX7_aheadAt_17 (ok_3 (by decide)) ⟨by decide, by decide⟩ (Nat.le_of_ble_eq_true rfl) (f_X4_runnerAt_ok (by decide) e17) (fun b17 => ?_)
  refine g_iload_n dX7_aheadAt_20 rfl ?_
  obtain ⟨p21, e21, h⟩ := obind h
  refine g_vP1 mv_X7_22 dX7_aheadAt_21 (ok_10 b17) ⟨by decide, by decide⟩ (Nat.le_of_ble_eq_true rfl) (f_X9_timeAt_ok b17 e21) ?_
  refine g_isub dX7_aheadAt_24 ?_
  refine g_istore4 dX7_aheadAt_25 ?_
  refine g_iload dX7_aheadAt_27 rfl ?_
  refine g_if_ne 38 dX7_aheadAt_29 rfl (fun q => ?_) (fun q => ?_)
  · replace h := gif_f q h
    refine g_iload dX7_aheadAt_38 rfl ?_
    refine g_if_ge 47 dX7_aheadAt_40 rfl (fun q => ?_) (fun q => ?_)
    · replace h := gif_t q h
      refine g_iload_n dX7_aheadAt_47 rfl ?_
      cases h
      exact g_iret dX7_aheadAt_48 rfl ⟨rfl, rfl⟩
    · replace h := gif_f q h
      refine g_iload_n dX7_aheadAt_43 rfl ?_
      refine g_goto 48 dX7_aheadAt_44 rfl ?_
      cases h
      exact g_iret dX7_aheadAt_48 rfl ⟨rfl, rfl⟩
  · replace h := gif_t q h
    refine g_iload_n dX7_aheadAt_32 rfl ?_
    refine g_iload_n dX7_aheadAt_33 rfl ?_
    refine g_mmin mm_X7_66 (by decide) (by decide) (Nat.le_of_ble_eq_true rfl) dX7_aheadAt_34 ?_
    cases h
    exact g_iret dX7_aheadAt_37 rfl ⟨rfl, rfl⟩
theorem dX7_lesser_0 : decode cX7_lesser 0 = .ok (.iload_n 0, 1) := by decide +kernel
theorem dX7_lesser_1 : decode cX7_lesser 1 = .ok (.iconst (-1), 1) := by decide +kernel
theorem dX7_lesser_2 : decode cX7_lesser 2 = .ok (.if_icmp .eq 8, 3) := by decide +kernel
theorem dX7_lesser_5 : decode cX7_lesser 5 = .ok (.iload_n 1, 1) := by decide +kernel
theorem dX7_lesser_6 : decode cX7_lesser 6 = .ok (.iconst (-1), 1) := by decide +kernel
theorem dX7_lesser_7 : decode cX7_lesser 7 = .ok (.if_icmp .ne 9, 3) := by decide +kernel
theorem dX7_lesser_10 : decode cX7_lesser 10 = .ok (.iload_n 0, 1) := by decide +kernel
theorem dX7_lesser_11 : decode cX7_lesser 11 = .ok (.iload_n 1, 1) := by decide +kernel
theorem dX7_lesser_12 : decode cX7_lesser 12 = .ok (.invokestatic 76, 3) := by decide +kernel
theorem dX7_lesser_15 : decode cX7_lesser 15 = .ok (.ireturn, 1) := by decide +kernel
theorem dX7_lesser_16 : decode cX7_lesser 16 = .ok (.iload_n 0, 1) := by decide +kernel
theorem dX7_lesser_17 : decode cX7_lesser 17 = .ok (.iload_n 1, 1) := by decide +kernel
theorem dX7_lesser_18 : decode cX7_lesser 18 = .ok (.invokestatic 66, 3) := by decide +kernel
theorem dX7_lesser_21 : decode cX7_lesser 21 = .ok (.ireturn, 1) := by decide +kernel
def f_X7_lesser (v0 : Int32) (v1 : Int32) (σ : gSt) : Option (Int32 × gSt) :=
  if v0 = (-1) then
    some ((gmx v0 v1), σ)
  else
    if v1 = (-1) then
      some ((gmx v0 v1), σ)
    else
      some ((gmn v0 v1), σ)
theorem f_X7_lesser_ok {v0 : Int32} {v1 : Int32}  {σ : gSt} {r : (Int32 × gSt)} (h : f_X7_lesser v0 v1 σ = some r) : Mt l w 0 41 yX7_lesser cX7_lesser 2 (some .int) 1 24 [.int v0, .int v1] σ (gE (some (.int r.1)) r.2) := by
  unfold f_X7_lesser at h
  refine g_start pn_X7 rfl rfl (Nat.le_of_ble_eq_true rfl) ?_
  show G l w 0 41 RX7 cX7_lesser 2 (some .int) 1 24 (gE (some (.int r.1)) r.2) 0 [some (.int v0), some (.int v1)] [] σ
  refine g_iload_n dX7_lesser_0 rfl ?_
  refine g_iconst dX7_lesser_1 kc_m1 ?_
  refine g_icmp_eq 10 dX7_lesser_2 rfl (fun q => ?_) (fun q => ?_)
  · replace h := gif_t q h
    refine g_iload_n dX7_lesser_10 rfl ?_
    refine g_iload_n dX7_lesser_11 rfl ?_
    refine g_mmax mm_X7_76 (by decide) (by decide) (Nat.le_of_ble_eq_true rfl) dX7_lesser_12 ?_
    cases h
    exact g_iret dX7_lesser_15 rfl ⟨rfl, rfl⟩
  · replace h := gif_f q h
    refine g_iload_n dX7_lesser_5 rfl ?_
    refine g_iconst dX7_lesser_6 kc_m1 ?_
    refine g_icmp_ne 16 dX7_lesser_7 rfl (fun q => ?_) (fun q => ?_)
    · replace h := gif_f q h
      refine g_iload_n dX7_lesser_16 rfl ?_
      refine g_iload_n dX7_lesser_17 rfl ?_
      refine g_mmin mm_X7_66 (by decide) (by decide) (Nat.le_of_ble_eq_true rfl) dX7_lesser_18 ?_
      cases h
      exact g_iret dX7_lesser_21 rfl ⟨rfl, rfl⟩
    · replace h := gif_t q h
      refine g_iload_n dX7_lesser_10 rfl ?_
      refine g_iload_n dX7_lesser_11 rfl ?_
      refine g_mmax mm_X7_76 (by decide) (by decide) (Nat.le_of_ble_eq_true rfl) dX7_lesser_12 ?_
      cases h
      exact g_iret dX7_lesser_15 rfl ⟨rfl, rfl⟩
theorem dX7_teamTime_0 : decode cX7_teamTime 0 = .ok (.iconst 0, 1) := by decide +kernel
theorem dX7_teamTime_1 : decode cX7_teamTime 1 = .ok (.istore_n 3, 1) := by decide +kernel
theorem dX7_teamTime_2 : decode cX7_teamTime 2 = .ok (.iconst 0, 1) := by decide +kernel
theorem dX7_teamTime_3 : decode cX7_teamTime 3 = .ok (.istore 4, 2) := by decide +kernel
theorem dX7_teamTime_5 : decode cX7_teamTime 5 = .ok (.iload 4, 2) := by decide +kernel
theorem dX7_teamTime_7 : decode cX7_teamTime 7 = .ok (.aload_n 1, 1) := by decide +kernel
theorem dX7_teamTime_8 : decode cX7_teamTime 8 = .ok (.getfield 42, 3) := by decide +kernel
theorem dX7_teamTime_11 : decode cX7_teamTime 11 = .ok (.if_icmp .gt 39, 3) := by decide +kernel
theorem dX7_teamTime_14 : decode cX7_teamTime 14 = .ok (.aload_n 1, 1) := by decide +kernel
theorem dX7_teamTime_15 : decode cX7_teamTime 15 = .ok (.iload 4, 2) := by decide +kernel
theorem dX7_teamTime_17 : decode cX7_teamTime 17 = .ok (.invokevirtual 70, 3) := by decide +kernel
theorem dX7_teamTime_20 : decode cX7_teamTime 20 = .ok (.aload_n 2, 1) := by decide +kernel
theorem dX7_teamTime_21 : decode cX7_teamTime 21 = .ok (.iload 4, 2) := by decide +kernel
theorem dX7_teamTime_23 : decode cX7_teamTime 23 = .ok (.invokevirtual 70, 3) := by decide +kernel
theorem dX7_teamTime_26 : decode cX7_teamTime 26 = .ok (.invokestatic 73, 3) := by decide +kernel
theorem dX7_teamTime_29 : decode cX7_teamTime 29 = .ok (.istore 5, 2) := by decide +kernel
theorem dX7_teamTime_31 : decode cX7_teamTime 31 = .ok (.iload 5, 2) := by decide +kernel
theorem dX7_teamTime_33 : decode cX7_teamTime 33 = .ok (.iconst (-1), 1) := by decide +kernel
theorem dX7_teamTime_34 : decode cX7_teamTime 34 = .ok (.if_icmp .ne 5, 3) := by decide +kernel
theorem dX7_teamTime_37 : decode cX7_teamTime 37 = .ok (.iconst (-1), 1) := by decide +kernel
theorem dX7_teamTime_38 : decode cX7_teamTime 38 = .ok (.ireturn, 1) := by decide +kernel
theorem dX7_teamTime_39 : decode cX7_teamTime 39 = .ok (.iload_n 3, 1) := by decide +kernel
theorem dX7_teamTime_40 : decode cX7_teamTime 40 = .ok (.iload 5, 2) := by decide +kernel
theorem dX7_teamTime_42 : decode cX7_teamTime 42 = .ok (.iadd, 1) := by decide +kernel
theorem dX7_teamTime_43 : decode cX7_teamTime 43 = .ok (.istore_n 3, 1) := by decide +kernel
theorem dX7_teamTime_44 : decode cX7_teamTime 44 = .ok (.iinc 4 1, 3) := by decide +kernel
theorem dX7_teamTime_47 : decode cX7_teamTime 47 = .ok (.goto (-42), 3) := by decide +kernel
theorem dX7_teamTime_50 : decode cX7_teamTime 50 = .ok (.iload_n 3, 1) := by decide +kernel
theorem dX7_teamTime_51 : decode cX7_teamTime 51 = .ok (.ireturn, 1) := by decide +kernel
def f_X7_teamTime_5 (i1 : Nat) (i2 : Nat) : Nat → Int32 → Int32 → gSt → Option (Int32 × gSt)
  | 0, _, _, _ => none
  | n + 1, v3, v4, σ =>
    if (σ 10 i1 9) < v4 then
      some (v3, σ)
    else
      (f_X9_legTime i1 v4 σ).bind fun p17 =>
      (f_X9_legTime i2 v4 p17.2).bind fun p23 =>
      (f_X7_lesser p17.1 p23.1 p23.2).bind fun p26 =>
      if p26.1 = (-1) then
        some ((-1), p26.2)
      else
        f_X7_teamTime_5 i1 i2 n (v3 + p26.1) (v4 + 1) p26.2
def f_X7_teamTime (i1 : Nat) (i2 : Nat) (σ : gSt) : Option (Int32 × gSt) :=
  f_X7_teamTime_5 i1 i2 gFuel 0 0 σ
theorem f_X7_teamTime_5_ok {i1 : Nat} {i2 : Nat} {r : (Int32 × gSt)} (hi1 : i1 < 20) (hi2 : i2 < 20) : ∀ (n : Nat) {v3 : Int32} {v4 : Int32} {σ : gSt} {x0 x5 : Option Value}, f_X7_teamTime_5 i1 i2 n v3 v4 σ = some r → G l w 0 41 RX7 cX7_teamTime 6 (some .int) 2 45 (gE (some (.int r.1)) r.2) 5 [x0, some (.ref (w.2.1 10 i1)), some (.ref (w.2.1 10 i2)), some (.int v3), some (.int v4), x5] [] σ := by
  intro n
  induction n with
  | zero => intro v3 v4 σ x0 x5 h; rw [f_X7_teamTime_5] at h; cases h
  | succ n ih =>
    intro v3 v4 σ x0 x5 h
    rw [f_X7_teamTime_5] at h
    refine g_iload dX7_teamTime_5 rfl ?_
    refine g_aload_n dX7_teamTime_7 rfl ?_
    refine gI_X7_42 (ok_10 hi1) dX7_teamTime_8 ?_
    refine g_icmp_gt 50 dX7_teamTime_11 rfl (fun q => ?_) (fun q => ?_)
    · replace h := gif_t q h
      refine g_iload_n dX7_teamTime_50 rfl ?_
      cases h
      exact g_iret dX7_teamTime_51 rfl ⟨rfl, rfl⟩
    · replace h := gif_f q h
      refine g_aload_n dX7_teamTime_14 rfl ?_
      refine g_iload dX7_teamTime_15 rfl ?_
      obtain ⟨p17, e17, h⟩ := obind h
      refine g_vP1 mv_X7_70 dX7_teamTime_17 (ok_10 hi1) ⟨by decide, by decide⟩ (Nat.le_of_ble_eq_true rfl) (f_X9_legTime_ok hi1 e17) ?_
      refine g_aload_n dX7_teamTime_20 rfl ?_
      refine g_iload dX7_teamTime_21 rfl ?_
      obtain ⟨p23, e23, h⟩ := obind h
      refine g_vP1 mv_X7_70 dX7_teamTime_23 (ok_10 hi2) ⟨by decide, by decide⟩ (Nat.le_of_ble_eq_true rfl) (f_X9_legTime_ok hi2 e23) ?_
      obtain ⟨p26, e26, h⟩ := obind h
      refine g_sP2 ms_X7_73 dX7_teamTime_26 ⟨by decide, by decide⟩ (Nat.le_of_ble_eq_true rfl) (f_X7_lesser_ok e26) ?_
      refine g_istore5 dX7_teamTime_29 ?_
      refine g_iload dX7_teamTime_31 rfl ?_
      refine g_iconst dX7_teamTime_33 kc_m1 ?_
      refine g_icmp_ne 39 dX7_teamTime_34 rfl (fun q => ?_) (fun q => ?_)
      · replace h := gif_f q h
        refine g_iload_n dX7_teamTime_39 rfl ?_
        refine g_iload dX7_teamTime_40 rfl ?_
        refine g_iadd dX7_teamTime_42 ?_
        refine g_istore3 dX7_teamTime_43 ?_
        refine g_inc4 kc_1 dX7_teamTime_44 ?_
        refine g_goto 5 dX7_teamTime_47 rfl ?_
        exact ih h
      · replace h := gif_t q h
        refine g_iconst dX7_teamTime_37 kc_m1 ?_
        cases h
        exact g_iret dX7_teamTime_38 rfl ⟨rfl, rfl⟩
theorem f_X7_teamTime_ok {i1 : Nat} {i2 : Nat} (hi1 : i1 < 20) (hi2 : i2 < 20) {σ : gSt} {r : (Int32 × gSt)} (h : f_X7_teamTime i1 i2 σ = some r) : Mt l w 0 41 yX7_teamTime cX7_teamTime 6 (some .int) 2 45 [.ref (w.2.1 25 0), .ref (w.2.1 10 i1), .ref (w.2.1 10 i2)] σ (gE (some (.int r.1)) r.2) := by
  unfold f_X7_teamTime at h
  refine g_start pn_X7 rfl rfl (Nat.le_of_ble_eq_true rfl) ?_
  show G l w 0 41 RX7 cX7_teamTime 6 (some .int) 2 45 (gE (some (.int r.1)) r.2) 0 [some (.ref (w.2.1 25 0)), some (.ref (w.2.1 10 i1)), some (.ref (w.2.1 10 i2)), none, none, none] [] σ
  refine g_iconst dX7_teamTime_0 kc_0 ?_
  refine g_istore3 dX7_teamTime_1 ?_
  refine g_iconst dX7_teamTime_2 kc_0 ?_
  refine g_istore4 dX7_teamTime_3 ?_
  exact f_X7_teamTime_5_ok hi1 hi2 gFuel h
theorem dX7_bestMate_0 : decode cX7_bestMate 0 = .ok (.aload_n 0, 1) := by decide +kernel
theorem dX7_bestMate_1 : decode cX7_bestMate 1 = .ok (.getfield 18, 3) := by decide +kernel
theorem dX7_bestMate_4 : decode cX7_bestMate 4 = .ok (.iload_n 1, 1) := by decide +kernel
theorem dX7_bestMate_5 : decode cX7_bestMate 5 = .ok (.invokevirtual 48, 3) := by decide +kernel
theorem dX7_bestMate_8 : decode cX7_bestMate 8 = .ok (.astore_n 2, 1) := by decide +kernel
theorem dX7_bestMate_9 : decode cX7_bestMate 9 = .ok (.iconst (-1), 1) := by decide +kernel
theorem dX7_bestMate_10 : decode cX7_bestMate 10 = .ok (.istore_n 3, 1) := by decide +kernel
theorem dX7_bestMate_11 : decode cX7_bestMate 11 = .ok (.iconst (-1), 1) := by decide +kernel
theorem dX7_bestMate_12 : decode cX7_bestMate 12 = .ok (.istore 4, 2) := by decide +kernel
theorem dX7_bestMate_14 : decode cX7_bestMate 14 = .ok (.iconst 0, 1) := by decide +kernel
theorem dX7_bestMate_15 : decode cX7_bestMate 15 = .ok (.istore 5, 2) := by decide +kernel
theorem dX7_bestMate_17 : decode cX7_bestMate 17 = .ok (.iload 5, 2) := by decide +kernel
theorem dX7_bestMate_19 : decode cX7_bestMate 19 = .ok (.aload_n 0, 1) := by decide +kernel
theorem dX7_bestMate_20 : decode cX7_bestMate 20 = .ok (.getfield 18, 3) := by decide +kernel
theorem dX7_bestMate_23 : decode cX7_bestMate 23 = .ok (.getfield 56, 3) := by decide +kernel
theorem dX7_bestMate_26 : decode cX7_bestMate 26 = .ok (.if_icmp .ge 76, 3) := by decide +kernel
theorem dX7_bestMate_29 : decode cX7_bestMate 29 = .ok (.iload 5, 2) := by decide +kernel
theorem dX7_bestMate_31 : decode cX7_bestMate 31 = .ok (.iload_n 1, 1) := by decide +kernel
theorem dX7_bestMate_32 : decode cX7_bestMate 32 = .ok (.if_icmp .eq 36, 3) := by decide +kernel
theorem dX7_bestMate_35 : decode cX7_bestMate 35 = .ok (.aload_n 0, 1) := by decide +kernel
theorem dX7_bestMate_36 : decode cX7_bestMate 36 = .ok (.getfield 18, 3) := by decide +kernel
theorem dX7_bestMate_39 : decode cX7_bestMate 39 = .ok (.iload 5, 2) := by decide +kernel
theorem dX7_bestMate_41 : decode cX7_bestMate 41 = .ok (.aload_n 2, 1) := by decide +kernel
theorem dX7_bestMate_42 : decode cX7_bestMate 42 = .ok (.getfield 59, 3) := by decide +kernel
theorem dX7_bestMate_45 : decode cX7_bestMate 45 = .ok (.invokevirtual 62, 3) := by decide +kernel
theorem dX7_bestMate_48 : decode cX7_bestMate 48 = .ok (.ifCond .eq 20, 3) := by decide +kernel
theorem dX7_bestMate_51 : decode cX7_bestMate 51 = .ok (.aload_n 0, 1) := by decide +kernel
theorem dX7_bestMate_52 : decode cX7_bestMate 52 = .ok (.aload_n 2, 1) := by decide +kernel
theorem dX7_bestMate_53 : decode cX7_bestMate 53 = .ok (.aload_n 0, 1) := by decide +kernel
theorem dX7_bestMate_54 : decode cX7_bestMate 54 = .ok (.getfield 18, 3) := by decide +kernel
theorem dX7_bestMate_57 : decode cX7_bestMate 57 = .ok (.iload 5, 2) := by decide +kernel
theorem dX7_bestMate_59 : decode cX7_bestMate 59 = .ok (.invokevirtual 48, 3) := by decide +kernel
theorem dX7_bestMate_62 : decode cX7_bestMate 62 = .ok (.invokevirtual 79, 3) := by decide +kernel
theorem dX7_bestMate_65 : decode cX7_bestMate 65 = .ok (.goto 4, 3) := by decide +kernel
theorem dX7_bestMate_68 : decode cX7_bestMate 68 = .ok (.iconst (-1), 1) := by decide +kernel
theorem dX7_bestMate_69 : decode cX7_bestMate 69 = .ok (.istore 6, 2) := by decide +kernel
theorem dX7_bestMate_71 : decode cX7_bestMate 71 = .ok (.iload 6, 2) := by decide +kernel
theorem dX7_bestMate_73 : decode cX7_bestMate 73 = .ok (.iconst (-1), 1) := by decide +kernel
theorem dX7_bestMate_74 : decode cX7_bestMate 74 = .ok (.if_icmp .eq 22, 3) := by decide +kernel
theorem dX7_bestMate_77 : decode cX7_bestMate 77 = .ok (.iload_n 3, 1) := by decide +kernel
theorem dX7_bestMate_78 : decode cX7_bestMate 78 = .ok (.iconst (-1), 1) := by decide +kernel
theorem dX7_bestMate_79 : decode cX7_bestMate 79 = .ok (.if_icmp .eq 10, 3) := by decide +kernel
theorem dX7_bestMate_82 : decode cX7_bestMate 82 = .ok (.iload 6, 2) := by decide +kernel
theorem dX7_bestMate_84 : decode cX7_bestMate 84 = .ok (.iload 4, 2) := by decide +kernel
theorem dX7_bestMate_86 : decode cX7_bestMate 86 = .ok (.if_icmp .ge 10, 3) := by decide +kernel
theorem dX7_bestMate_89 : decode cX7_bestMate 89 = .ok (.iload 5, 2) := by decide +kernel
theorem dX7_bestMate_91 : decode cX7_bestMate 91 = .ok (.istore_n 3, 1) := by decide +kernel
theorem dX7_bestMate_92 : decode cX7_bestMate 92 = .ok (.iload 6, 2) := by decide +kernel
theorem dX7_bestMate_94 : decode cX7_bestMate 94 = .ok (.istore 4, 2) := by decide +kernel
theorem dX7_bestMate_96 : decode cX7_bestMate 96 = .ok (.iinc 5 1, 3) := by decide +kernel
theorem dX7_bestMate_99 : decode cX7_bestMate 99 = .ok (.goto (-82), 3) := by decide +kernel
theorem dX7_bestMate_102 : decode cX7_bestMate 102 = .ok (.iload_n 3, 1) := by decide +kernel
theorem dX7_bestMate_103 : decode cX7_bestMate 103 = .ok (.ireturn, 1) := by decide +kernel
def f_X7_bestMate_69 (v1 : Int32) (i2 : Nat) (v3 : Int32) (v4 : Int32) (v5 : Int32) (k17 : Int32 → Int32 → Int32 → gSt → Option (Int32 × gSt)) (vs0 : Int32) (σ : gSt) : Option (Int32 × gSt) :=
  if vs0 = (-1) then
    k17 v3 v4 (v5 + 1) σ
  else
    if v3 = (-1) then
      k17 v5 vs0 (v5 + 1) σ
    else
      if v4 ≤ vs0 then
        k17 v3 v4 (v5 + 1) σ
      else
        k17 v5 vs0 (v5 + 1) σ
def f_X7_bestMate_68 (v1 : Int32) (i2 : Nat) (v3 : Int32) (v4 : Int32) (v5 : Int32) (k17 : Int32 → Int32 → Int32 → gSt → Option (Int32 × gSt)) (σ : gSt) : Option (Int32 × gSt) :=
  f_X7_bestMate_69 v1 i2 v3 v4 v5 k17 (-1) σ
def f_X7_bestMate_17 (v1 : Int32) (i2 : Nat) : Nat → Int32 → Int32 → Int32 → gSt → Option (Int32 × gSt)
  | 0, _, _, _, _ => none
  | n + 1, v3, v4, v5, σ =>
    if (σ 3 1 4) ≤ v5 then
      some (v3, σ)
    else
      if v5 = v1 then
        f_X7_bestMate_68 v1 i2 v3 v4 v5 (fun v3 v4 v5 σ => f_X7_bestMate_17 v1 i2 n v3 v4 v5 σ) σ
      else
        (f_X4_isOf 1 v5 (σ 10 i2 5) σ).bind fun p45 =>
        if p45.1 = 0 then
          f_X7_bestMate_68 v1 i2 v3 v4 v5 (fun v3 v4 v5 σ => f_X7_bestMate_17 v1 i2 n v3 v4 v5 σ) p45.2
        else
          (f_X4_runnerAt 1 v5 p45.2).bind fun p59 =>
          (f_X7_teamTime i2 p59.1 p59.2).bind fun p62 =>
          f_X7_bestMate_69 v1 i2 v3 v4 v5 (fun v3 v4 v5 σ => f_X7_bestMate_17 v1 i2 n v3 v4 v5 σ) p62.1 p62.2
def f_X7_bestMate (v1 : Int32) (σ : gSt) : Option (Int32 × gSt) :=
  (f_X4_runnerAt 1 v1 σ).bind fun p5 =>
  f_X7_bestMate_17 v1 p5.1 gFuel (-1) (-1) 0 p5.2
theorem f_X7_bestMate_69_ok {v1 : Int32} {i2 : Nat} {v3 : Int32} {v4 : Int32} {v5 : Int32} {k17 : Int32 → Int32 → Int32 → gSt → Option (Int32 × gSt)} {vs0 : Int32} {r : (Int32 × gSt)} (hi2 : i2 < 20) (hk17 : ∀ {v3 : Int32} {v4 : Int32} {v5 : Int32} {σ : gSt} {x6 : Option Value}, k17 v3 v4 v5 σ = some r → G l w 0 41 RX7 cX7_bestMate 7 (some .int) 3 70 (gE (some (.int r.1)) r.2) 17 [some (.ref (w.2.1 25 0)), some (.int v1), some (.ref (w.2.1 10 i2)), some (.int v3), some (.int v4), some (.int v5), x6] [] σ) {σ : gSt} {x6 : Option Value} (h : f_X7_bestMate_69 v1 i2 v3 v4 v5 k17 vs0 σ = some r) : G l w 0 41 RX7 cX7_bestMate 7 (some .int) 3 70 (gE (some (.int r.1)) r.2) 69 [some (.ref (w.2.1 25 0)), some (.int v1), some (.ref (w.2.1 10 i2)), some (.int v3), some (.int v4), some (.int v5), x6] [.int vs0] σ := by
  unfold f_X7_bestMate_69 at h
  refine g_istore6 dX7_bestMate_69 ?_
  refine g_iload dX7_bestMate_71 rfl ?_
  refine g_iconst dX7_bestMate_73 kc_m1 ?_
  refine g_icmp_eq 96 dX7_bestMate_74 rfl (fun q => ?_) (fun q => ?_)
  · replace h := gif_t q h
    refine g_inc5 kc_1 dX7_bestMate_96 ?_
    refine g_goto 17 dX7_bestMate_99 rfl ?_
    exact hk17 h
  · replace h := gif_f q h
    refine g_iload_n dX7_bestMate_77 rfl ?_
    refine g_iconst dX7_bestMate_78 kc_m1 ?_
    refine g_icmp_eq 89 dX7_bestMate_79 rfl (fun q => ?_) (fun q => ?_)
    · replace h := gif_t q h
      refine g_iload dX7_bestMate_89 rfl ?_
      refine g_istore3 dX7_bestMate_91 ?_
      refine g_iload dX7_bestMate_92 rfl ?_
      refine g_istore4 dX7_bestMate_94 ?_
      refine g_inc5 kc_1 dX7_bestMate_96 ?_
      refine g_goto 17 dX7_bestMate_99 rfl ?_
      exact hk17 h
    · replace h := gif_f q h
      refine g_iload dX7_bestMate_82 rfl ?_
      refine g_iload dX7_bestMate_84 rfl ?_
      refine g_icmp_ge 96 dX7_bestMate_86 rfl (fun q => ?_) (fun q => ?_)
      · replace h := gif_t q h
        refine g_inc5 kc_1 dX7_bestMate_96 ?_
        refine g_goto 17 dX7_bestMate_99 rfl ?_
        exact hk17 h
      · replace h := gif_f q h
        refine g_iload dX7_bestMate_89 rfl ?_
        refine g_istore3 dX7_bestMate_91 ?_
        refine g_iload dX7_bestMate_92 rfl ?_
        refine g_istore4 dX7_bestMate_94 ?_
        refine g_inc5 kc_1 dX7_bestMate_96 ?_
        refine g_goto 17 dX7_bestMate_99 rfl ?_
        exact hk17 h
theorem f_X7_bestMate_68_ok {v1 : Int32} {i2 : Nat} {v3 : Int32} {v4 : Int32} {v5 : Int32} {k17 : Int32 → Int32 → Int32 → gSt → Option (Int32 × gSt)} {r : (Int32 × gSt)} (hi2 : i2 < 20) (hk17 : ∀ {v3 : Int32} {v4 : Int32} {v5 : Int32} {σ : gSt} {x6 : Option Value}, k17 v3 v4 v5 σ = some r → G l w 0 41 RX7 cX7_bestMate 7 (some .int) 3 70 (gE (some (.int r.1)) r.2) 17 [some (.ref (w.2.1 25 0)), some (.int v1), some (.ref (w.2.1 10 i2)), some (.int v3), some (.int v4), some (.int v5), x6] [] σ) {σ : gSt} {x6 : Option Value} (h : f_X7_bestMate_68 v1 i2 v3 v4 v5 k17 σ = some r) : G l w 0 41 RX7 cX7_bestMate 7 (some .int) 3 70 (gE (some (.int r.1)) r.2) 68 [some (.ref (w.2.1 25 0)), some (.int v1), some (.ref (w.2.1 10 i2)), some (.int v3), some (.int v4), some (.int v5), x6] [] σ := by
  unfold f_X7_bestMate_68 at h
  refine g_iconst dX7_bestMate_68 kc_m1 ?_
  exact f_X7_bestMate_69_ok hi2 hk17 h
theorem f_X7_bestMate_17_ok {v1 : Int32} {i2 : Nat} {r : (Int32 × gSt)} (hi2 : i2 < 20) : ∀ (n : Nat) {v3 : Int32} {v4 : Int32} {v5 : Int32} {σ : gSt} {x6 : Option Value}, f_X7_bestMate_17 v1 i2 n v3 v4 v5 σ = some r → G l w 0 41 RX7 cX7_bestMate 7 (some .int) 3 70 (gE (some (.int r.1)) r.2) 17 [some (.ref (w.2.1 25 0)), some (.int v1), some (.ref (w.2.1 10 i2)), some (.int v3), some (.int v4), some (.int v5), x6] [] σ := by
  intro n
  induction n with
  | zero => intro v3 v4 v5 σ x6 h; rw [f_X7_bestMate_17] at h; cases h
  | succ n ih =>
    intro v3 v4 v5 σ x6 h
    rw [f_X7_bestMate_17] at h
    refine g_iload dX7_bestMate_17 rfl ?_
    refine g_aload_n dX7_bestMate_19 rfl ?_
    refine gR_X7_18 ok_25 dX7_bestMate_20 ?_
    refine gI_X7_56 (ok_3 (by decide)) dX7_bestMate_23 ?_
    refine g_icmp_ge 102 dX7_bestMate_26 rfl (fun q => ?_) (fun q => ?_)
    · replace h := gif_t q h
      refine g_iload_n dX7_bestMate_102 rfl ?_
      cases h
      exact g_iret dX7_bestMate_103 rfl ⟨rfl, rfl⟩
    · replace h := gif_f q h
      refine g_iload dX7_bestMate_29 rfl ?_
      refine g_iload_n dX7_bestMate_31 rfl ?_
      refine g_icmp_eq 68 dX7_bestMate_32 rfl (fun q => ?_) (fun q => ?_)
      · replace h := gif_t q h
        exact f_X7_bestMate_68_ok hi2 (fun h => ih h) h
      · replace h := gif_f q h
        refine g_aload_n dX7_bestMate_35 rfl ?_
        refine gR_X7_18 ok_25 dX7_bestMate_36 ?_
        refine g_iload dX7_bestMate_39 rfl ?_
        refine g_aload_n dX7_bestMate_41 rfl ?_
        refine gI_X7_59 (ok_10 hi2) dX7_bestMate_42 ?_
        obtain ⟨p45, e45, h⟩ := obind h
        refine g_vP2 mv_X7_62 dX7_bestMate_45 (ok_3 (by decide)) ⟨by decide, by decide⟩ (Nat.le_of_ble_eq_true rfl) (f_X4_isOf_ok (by decide) e45) ?_
        refine g_if_eq 68 dX7_bestMate_48 rfl (fun q => ?_) (fun q => ?_)
        · replace h := gif_t q h
          exact f_X7_bestMate_68_ok hi2 (fun h => ih h) h
        · replace h := gif_f q h
          refine g_aload_n dX7_bestMate_51 rfl ?_
          refine g_aload_n dX7_bestMate_52 rfl ?_
          refine g_aload_n dX7_bestMate_53 rfl ?_
          refine gR_X7_18 ok_25 dX7_bestMate_54 ?_
          refine g_iload dX7_bestMate_57 rfl ?_
          obtain ⟨p59, e59, h⟩ := obind h
          refine g_vR1 mv_X7_48 dX7_bestMate_59 (ok_3 (by decide)) ⟨by decide, by decide⟩ (Nat.le_of_ble_eq_true rfl) (f_X4_runnerAt_ok (by decide) e59) (fun b59 => ?_)
          obtain ⟨p62, e62, h⟩ := obind h
          refine g_vP2 mv_X7_79 dX7_bestMate_62 ok_25 ⟨by decide, by decide⟩ (Nat.le_of_ble_eq_true rfl) (f_X7_teamTime_ok hi2 b59 e62) ?_
          refine g_goto 69 dX7_bestMate_65 rfl ?_
          exact f_X7_bestMate_69_ok hi2 (fun h => ih h) h
theorem f_X7_bestMate_ok {v1 : Int32}  {σ : gSt} {r : (Int32 × gSt)} (h : f_X7_bestMate v1 σ = some r) : Mt l w 0 41 yX7_bestMate cX7_bestMate 7 (some .int) 3 70 [.ref (w.2.1 25 0), .int v1] σ (gE (some (.int r.1)) r.2) := by
  unfold f_X7_bestMate at h
  refine g_start pn_X7 rfl rfl (Nat.le_of_ble_eq_true rfl) ?_
  show G l w 0 41 RX7 cX7_bestMate 7 (some .int) 3 70 (gE (some (.int r.1)) r.2) 0 [some (.ref (w.2.1 25 0)), some (.int v1), none, none, none, none, none] [] σ
  refine g_aload_n dX7_bestMate_0 rfl ?_
  refine gR_X7_18 ok_25 dX7_bestMate_1 ?_
  refine g_iload_n dX7_bestMate_4 rfl ?_
  obtain ⟨p5, e5, h⟩ := obind h
  refine g_vR1 mv_X7_48 dX7_bestMate_5 (ok_3 (by decide)) ⟨by decide, by decide⟩ (Nat.le_of_ble_eq_true rfl) (f_X4_runnerAt_ok (by decide) e5) (fun b5 => ?_)
  refine g_astore2 dX7_bestMate_8 ?_
  refine g_iconst dX7_bestMate_9 kc_m1 ?_
  refine g_istore3 dX7_bestMate_10 ?_
  refine g_iconst dX7_bestMate_11 kc_m1 ?_
  refine g_istore4 dX7_bestMate_12 ?_
  refine g_iconst dX7_bestMate_14 kc_0 ?_
  refine g_istore5 dX7_bestMate_15 ?_
  exact f_X7_bestMate_17_ok b5 gFuel h
theorem dX7_passings_0 : decode cX7_passings 0 = .ok (.iconst 0, 1) := by decide +kernel
theorem dX7_passings_1 : decode cX7_passings 1 = .ok (.istore_n 3, 1) := by decide +kernel
theorem dX7_passings_2 : decode cX7_passings 2 = .ok (.iconst 0, 1) := by decide +kernel
theorem dX7_passings_3 : decode cX7_passings 3 = .ok (.istore 4, 2) := by decide +kernel
theorem dX7_passings_5 : decode cX7_passings 5 = .ok (.iload 4, 2) := by decide +kernel
theorem dX7_passings_7 : decode cX7_passings 7 = .ok (.aload_n 1, 1) := by decide +kernel
theorem dX7_passings_8 : decode cX7_passings 8 = .ok (.getfield 42, 3) := by decide +kernel
theorem dX7_passings_11 : decode cX7_passings 11 = .ok (.if_icmp .ge 111, 3) := by decide +kernel
theorem dX7_passings_14 : decode cX7_passings 14 = .ok (.aload_n 0, 1) := by decide +kernel
theorem dX7_passings_15 : decode cX7_passings 15 = .ok (.aload_n 1, 1) := by decide +kernel
theorem dX7_passings_16 : decode cX7_passings 16 = .ok (.aload_n 2, 1) := by decide +kernel
theorem dX7_passings_17 : decode cX7_passings 17 = .ok (.iload 4, 2) := by decide +kernel
theorem dX7_passings_19 : decode cX7_passings 19 = .ok (.invokevirtual 28, 3) := by decide +kernel
theorem dX7_passings_22 : decode cX7_passings 22 = .ok (.ifCond .eq 20, 3) := by decide +kernel
theorem dX7_passings_25 : decode cX7_passings 25 = .ok (.aload_n 0, 1) := by decide +kernel
theorem dX7_passings_26 : decode cX7_passings 26 = .ok (.aload_n 1, 1) := by decide +kernel
theorem dX7_passings_27 : decode cX7_passings 27 = .ok (.aload_n 2, 1) := by decide +kernel
theorem dX7_passings_28 : decode cX7_passings 28 = .ok (.iload 4, 2) := by decide +kernel
theorem dX7_passings_30 : decode cX7_passings 30 = .ok (.iconst 1, 1) := by decide +kernel
theorem dX7_passings_31 : decode cX7_passings 31 = .ok (.iadd, 1) := by decide +kernel
theorem dX7_passings_32 : decode cX7_passings 32 = .ok (.invokevirtual 28, 3) := by decide +kernel
theorem dX7_passings_35 : decode cX7_passings 35 = .ok (.ifCond .eq 7, 3) := by decide +kernel
theorem dX7_passings_38 : decode cX7_passings 38 = .ok (.iconst 1, 1) := by decide +kernel
theorem dX7_passings_39 : decode cX7_passings 39 = .ok (.goto 4, 3) := by decide +kernel
theorem dX7_passings_42 : decode cX7_passings 42 = .ok (.iconst 0, 1) := by decide +kernel
theorem dX7_passings_43 : decode cX7_passings 43 = .ok (.istore 5, 2) := by decide +kernel
theorem dX7_passings_45 : decode cX7_passings 45 = .ok (.aload_n 1, 1) := by decide +kernel
theorem dX7_passings_46 : decode cX7_passings 46 = .ok (.iload 4, 2) := by decide +kernel
theorem dX7_passings_48 : decode cX7_passings 48 = .ok (.invokevirtual 22, 3) := by decide +kernel
theorem dX7_passings_51 : decode cX7_passings 51 = .ok (.aload_n 2, 1) := by decide +kernel
theorem dX7_passings_52 : decode cX7_passings 52 = .ok (.iload 4, 2) := by decide +kernel
theorem dX7_passings_54 : decode cX7_passings 54 = .ok (.invokevirtual 22, 3) := by decide +kernel
theorem dX7_passings_57 : decode cX7_passings 57 = .ok (.if_icmp .le 7, 3) := by decide +kernel
theorem dX7_passings_60 : decode cX7_passings 60 = .ok (.iconst 1, 1) := by decide +kernel
theorem dX7_passings_61 : decode cX7_passings 61 = .ok (.goto 4, 3) := by decide +kernel
theorem dX7_passings_64 : decode cX7_passings 64 = .ok (.iconst 0, 1) := by decide +kernel
theorem dX7_passings_65 : decode cX7_passings 65 = .ok (.istore 6, 2) := by decide +kernel
theorem dX7_passings_67 : decode cX7_passings 67 = .ok (.aload_n 1, 1) := by decide +kernel
theorem dX7_passings_68 : decode cX7_passings 68 = .ok (.iload 4, 2) := by decide +kernel
theorem dX7_passings_70 : decode cX7_passings 70 = .ok (.iconst 1, 1) := by decide +kernel
theorem dX7_passings_71 : decode cX7_passings 71 = .ok (.iadd, 1) := by decide +kernel
theorem dX7_passings_72 : decode cX7_passings 72 = .ok (.invokevirtual 22, 3) := by decide +kernel
theorem dX7_passings_75 : decode cX7_passings 75 = .ok (.aload_n 2, 1) := by decide +kernel
theorem dX7_passings_76 : decode cX7_passings 76 = .ok (.iload 4, 2) := by decide +kernel
theorem dX7_passings_78 : decode cX7_passings 78 = .ok (.iconst 1, 1) := by decide +kernel
theorem dX7_passings_79 : decode cX7_passings 79 = .ok (.iadd, 1) := by decide +kernel
theorem dX7_passings_80 : decode cX7_passings 80 = .ok (.invokevirtual 22, 3) := by decide +kernel
theorem dX7_passings_83 : decode cX7_passings 83 = .ok (.if_icmp .ge 7, 3) := by decide +kernel
theorem dX7_passings_86 : decode cX7_passings 86 = .ok (.iconst 1, 1) := by decide +kernel
theorem dX7_passings_87 : decode cX7_passings 87 = .ok (.goto 4, 3) := by decide +kernel
theorem dX7_passings_90 : decode cX7_passings 90 = .ok (.iconst 0, 1) := by decide +kernel
theorem dX7_passings_91 : decode cX7_passings 91 = .ok (.istore 7, 2) := by decide +kernel
theorem dX7_passings_93 : decode cX7_passings 93 = .ok (.iload_n 3, 1) := by decide +kernel
theorem dX7_passings_94 : decode cX7_passings 94 = .ok (.iload 5, 2) := by decide +kernel
theorem dX7_passings_96 : decode cX7_passings 96 = .ok (.ifCond .eq 17, 3) := by decide +kernel
theorem dX7_passings_99 : decode cX7_passings 99 = .ok (.iload 6, 2) := by decide +kernel
theorem dX7_passings_101 : decode cX7_passings 101 = .ok (.ifCond .eq 12, 3) := by decide +kernel
theorem dX7_passings_104 : decode cX7_passings 104 = .ok (.iload 7, 2) := by decide +kernel
theorem dX7_passings_106 : decode cX7_passings 106 = .ok (.ifCond .eq 7, 3) := by decide +kernel
theorem dX7_passings_109 : decode cX7_passings 109 = .ok (.iconst 1, 1) := by decide +kernel
theorem dX7_passings_110 : decode cX7_passings 110 = .ok (.goto 4, 3) := by decide +kernel
theorem dX7_passings_113 : decode cX7_passings 113 = .ok (.iconst 0, 1) := by decide +kernel
theorem dX7_passings_114 : decode cX7_passings 114 = .ok (.iadd, 1) := by decide +kernel
theorem dX7_passings_115 : decode cX7_passings 115 = .ok (.istore_n 3, 1) := by decide +kernel
theorem dX7_passings_116 : decode cX7_passings 116 = .ok (.iinc 4 1, 3) := by decide +kernel
theorem dX7_passings_119 : decode cX7_passings 119 = .ok (.goto (-114), 3) := by decide +kernel
theorem dX7_passings_122 : decode cX7_passings 122 = .ok (.iload_n 3, 1) := by decide +kernel
theorem dX7_passings_123 : decode cX7_passings 123 = .ok (.ireturn, 1) := by decide +kernel
def f_X7_passings_91 (i1 : Nat) (i2 : Nat) (v3 : Int32) (v4 : Int32) (v5 : Int32) (v6 : Int32) (k5 : Int32 → Int32 → gSt → Option (Int32 × gSt)) (vs0 : Int32) (σ : gSt) : Option (Int32 × gSt) :=
  if v5 = 0 then
    k5 (v3 + 0) (v4 + 1) σ
  else
    if v6 = 0 then
      k5 (v3 + 0) (v4 + 1) σ
    else
      if vs0 = 0 then
        k5 (v3 + 0) (v4 + 1) σ
      else
        k5 (v3 + 1) (v4 + 1) σ
def f_X7_passings_65 (i1 : Nat) (i2 : Nat) (v3 : Int32) (v4 : Int32) (v5 : Int32) (k5 : Int32 → Int32 → gSt → Option (Int32 × gSt)) (vs0 : Int32) (σ : gSt) : Option (Int32 × gSt) :=
  (f_X9_timeAt i1 (v4 + 1) σ).bind fun p72 =>
  (f_X9_timeAt i2 (v4 + 1) p72.2).bind fun p80 =>
  if p80.1 ≤ p72.1 then
    f_X7_passings_91 i1 i2 v3 v4 v5 vs0 k5 0 p80.2
  else
    f_X7_passings_91 i1 i2 v3 v4 v5 vs0 k5 1 p80.2
def f_X7_passings_43 (i1 : Nat) (i2 : Nat) (v3 : Int32) (v4 : Int32) (k5 : Int32 → Int32 → gSt → Option (Int32 × gSt)) (vs0 : Int32) (σ : gSt) : Option (Int32 × gSt) :=
  (f_X9_timeAt i1 v4 σ).bind fun p48 =>
  (f_X9_timeAt i2 v4 p48.2).bind fun p54 =>
  if p48.1 ≤ p54.1 then
    f_X7_passings_65 i1 i2 v3 v4 vs0 k5 0 p54.2
  else
    f_X7_passings_65 i1 i2 v3 v4 vs0 k5 1 p54.2
def f_X7_passings_42 (i1 : Nat) (i2 : Nat) (v3 : Int32) (v4 : Int32) (k5 : Int32 → Int32 → gSt → Option (Int32 × gSt)) (σ : gSt) : Option (Int32 × gSt) :=
  f_X7_passings_43 i1 i2 v3 v4 k5 0 σ
def f_X7_passings_5 (i1 : Nat) (i2 : Nat) : Nat → Int32 → Int32 → gSt → Option (Int32 × gSt)
  | 0, _, _, _ => none
  | n + 1, v3, v4, σ =>
    if (σ 10 i1 9) ≤ v4 then
      some (v3, σ)
    else
      (f_X7_bothAt i1 i2 v4 σ).bind fun p19 =>
      if p19.1 = 0 then
        f_X7_passings_42 i1 i2 v3 v4 (fun v3 v4 σ => f_X7_passings_5 i1 i2 n v3 v4 σ) p19.2
      else
        (f_X7_bothAt i1 i2 (v4 + 1) p19.2).bind fun p32 =>
        if p32.1 = 0 then
          f_X7_passings_42 i1 i2 v3 v4 (fun v3 v4 σ => f_X7_passings_5 i1 i2 n v3 v4 σ) p32.2
        else
          f_X7_passings_43 i1 i2 v3 v4 (fun v3 v4 σ => f_X7_passings_5 i1 i2 n v3 v4 σ) 1 p32.2
def f_X7_passings (i1 : Nat) (i2 : Nat) (σ : gSt) : Option (Int32 × gSt) :=
  f_X7_passings_5 i1 i2 gFuel 0 0 σ
theorem f_X7_passings_91_ok {i1 : Nat} {i2 : Nat} {v3 : Int32} {v4 : Int32} {v5 : Int32} {v6 : Int32} {k5 : Int32 → Int32 → gSt → Option (Int32 × gSt)} {vs0 : Int32} {r : (Int32 × gSt)} (hi1 : i1 < 20) (hi2 : i2 < 20) (hk5 : ∀ {v3 : Int32} {v4 : Int32} {σ : gSt} {x5 x6 x7 : Option Value}, k5 v3 v4 σ = some r → G l w 0 41 RX7 cX7_passings 8 (some .int) 2 44 (gE (some (.int r.1)) r.2) 5 [some (.ref (w.2.1 25 0)), some (.ref (w.2.1 10 i1)), some (.ref (w.2.1 10 i2)), some (.int v3), some (.int v4), x5, x6, x7] [] σ) {σ : gSt} {x7 : Option Value} (h : f_X7_passings_91 i1 i2 v3 v4 v5 v6 k5 vs0 σ = some r) : G l w 0 41 RX7 cX7_passings 8 (some .int) 2 44 (gE (some (.int r.1)) r.2) 91 [some (.ref (w.2.1 25 0)), some (.ref (w.2.1 10 i1)), some (.ref (w.2.1 10 i2)), some (.int v3), some (.int v4), some (.int v5), some (.int v6), x7] [.int vs0] σ := by
  unfold f_X7_passings_91 at h
  refine g_istore7 dX7_passings_91 ?_
  refine g_iload_n dX7_passings_93 rfl ?_
  refine g_iload dX7_passings_94 rfl ?_
  refine g_if_eq 113 dX7_passings_96 rfl (fun q => ?_) (fun q => ?_)
  · replace h := gif_t q h
    refine g_iconst dX7_passings_113 kc_0 ?_
    refine g_iadd dX7_passings_114 ?_
    refine g_istore3 dX7_passings_115 ?_
    refine g_inc4 kc_1 dX7_passings_116 ?_
    refine g_goto 5 dX7_passings_119 rfl ?_
    exact hk5 h
  · replace h := gif_f q h
    refine g_iload dX7_passings_99 rfl ?_
    refine g_if_eq 113 dX7_passings_101 rfl (fun q => ?_) (fun q => ?_)
    · replace h := gif_t q h
      refine g_iconst dX7_passings_113 kc_0 ?_
      refine g_iadd dX7_passings_114 ?_
      refine g_istore3 dX7_passings_115 ?_
      refine g_inc4 kc_1 dX7_passings_116 ?_
      refine g_goto 5 dX7_passings_119 rfl ?_
      exact hk5 h
    · replace h := gif_f q h
      refine g_iload dX7_passings_104 rfl ?_
      refine g_if_eq 113 dX7_passings_106 rfl (fun q => ?_) (fun q => ?_)
      · replace h := gif_t q h
        refine g_iconst dX7_passings_113 kc_0 ?_
        refine g_iadd dX7_passings_114 ?_
        refine g_istore3 dX7_passings_115 ?_
        refine g_inc4 kc_1 dX7_passings_116 ?_
        refine g_goto 5 dX7_passings_119 rfl ?_
        exact hk5 h
      · replace h := gif_f q h
        refine g_iconst dX7_passings_109 kc_1 ?_
        refine g_goto 114 dX7_passings_110 rfl ?_
        refine g_iadd dX7_passings_114 ?_
        refine g_istore3 dX7_passings_115 ?_
        refine g_inc4 kc_1 dX7_passings_116 ?_
        refine g_goto 5 dX7_passings_119 rfl ?_
        exact hk5 h
theorem f_X7_passings_65_ok {i1 : Nat} {i2 : Nat} {v3 : Int32} {v4 : Int32} {v5 : Int32} {k5 : Int32 → Int32 → gSt → Option (Int32 × gSt)} {vs0 : Int32} {r : (Int32 × gSt)} (hi1 : i1 < 20) (hi2 : i2 < 20) (hk5 : ∀ {v3 : Int32} {v4 : Int32} {σ : gSt} {x5 x6 x7 : Option Value}, k5 v3 v4 σ = some r → G l w 0 41 RX7 cX7_passings 8 (some .int) 2 44 (gE (some (.int r.1)) r.2) 5 [some (.ref (w.2.1 25 0)), some (.ref (w.2.1 10 i1)), some (.ref (w.2.1 10 i2)), some (.int v3), some (.int v4), x5, x6, x7] [] σ) {σ : gSt} {x6 x7 : Option Value} (h : f_X7_passings_65 i1 i2 v3 v4 v5 k5 vs0 σ = some r) : G l w 0 41 RX7 cX7_passings 8 (some .int) 2 44 (gE (some (.int r.1)) r.2) 65 [some (.ref (w.2.1 25 0)), some (.ref (w.2.1 10 i1)), some (.ref (w.2.1 10 i2)), some (.int v3), some (.int v4), some (.int v5), x6, x7] [.int vs0] σ := by
  unfold f_X7_passings_65 at h
  refine g_istore6 dX7_passings_65 ?_
  refine g_aload_n dX7_passings_67 rfl ?_
  refine g_iload dX7_passings_68 rfl ?_
  refine g_iconst dX7_passings_70 kc_1 ?_
  refine g_iadd dX7_passings_71 ?_
  obtain ⟨p72, e72, h⟩ := obind h
  refine g_vP1 mv_X7_22 dX7_passings_72 (ok_10 hi1) ⟨by decide, by decide⟩ (Nat.le_of_ble_eq_true rfl) (f_X9_timeAt_ok hi1 e72) ?_
  refine g_aload_n dX7_passings_75 rfl ?_
  refine g_iload dX7_passings_76 rfl ?_
  refine g_iconst dX7_passings_78 kc_1 ?_
  refine g_iadd dX7_passings_79 ?_
  obtain ⟨p80, e80, h⟩ := obind h
  refine g_vP1 mv_X7_22 dX7_passings_80 (ok_10 hi2) ⟨by decide, by decide⟩ (Nat.le_of_ble_eq_true rfl) (f_X9_timeAt_ok hi2 e80) ?_
  refine g_icmp_ge 90 dX7_passings_83 rfl (fun q => ?_) (fun q => ?_)
  · replace h := gif_t q h
    refine g_iconst dX7_passings_90 kc_0 ?_
    exact f_X7_passings_91_ok hi1 hi2 hk5 h
  · replace h := gif_f q h
    refine g_iconst dX7_passings_86 kc_1 ?_
    refine g_goto 91 dX7_passings_87 rfl ?_
    exact f_X7_passings_91_ok hi1 hi2 hk5 h
theorem f_X7_passings_43_ok {i1 : Nat} {i2 : Nat} {v3 : Int32} {v4 : Int32} {k5 : Int32 → Int32 → gSt → Option (Int32 × gSt)} {vs0 : Int32} {r : (Int32 × gSt)} (hi1 : i1 < 20) (hi2 : i2 < 20) (hk5 : ∀ {v3 : Int32} {v4 : Int32} {σ : gSt} {x5 x6 x7 : Option Value}, k5 v3 v4 σ = some r → G l w 0 41 RX7 cX7_passings 8 (some .int) 2 44 (gE (some (.int r.1)) r.2) 5 [some (.ref (w.2.1 25 0)), some (.ref (w.2.1 10 i1)), some (.ref (w.2.1 10 i2)), some (.int v3), some (.int v4), x5, x6, x7] [] σ) {σ : gSt} {x5 x6 x7 : Option Value} (h : f_X7_passings_43 i1 i2 v3 v4 k5 vs0 σ = some r) : G l w 0 41 RX7 cX7_passings 8 (some .int) 2 44 (gE (some (.int r.1)) r.2) 43 [some (.ref (w.2.1 25 0)), some (.ref (w.2.1 10 i1)), some (.ref (w.2.1 10 i2)), some (.int v3), some (.int v4), x5, x6, x7] [.int vs0] σ := by
  unfold f_X7_passings_43 at h
  refine g_istore5 dX7_passings_43 ?_
  refine g_aload_n dX7_passings_45 rfl ?_
  refine g_iload dX7_passings_46 rfl ?_
  obtain ⟨p48, e48, h⟩ := obind h
  refine g_vP1 mv_X7_22 dX7_passings_48 (ok_10 hi1) ⟨by decide, by decide⟩ (Nat.le_of_ble_eq_true rfl) (f_X9_timeAt_ok hi1 e48) ?_
  refine g_aload_n dX7_passings_51 rfl ?_
  refine g_iload dX7_passings_52 rfl ?_
  obtain ⟨p54, e54, h⟩ := obind h
  refine g_vP1 mv_X7_22 dX7_passings_54 (ok_10 hi2) ⟨by decide, by decide⟩ (Nat.le_of_ble_eq_true rfl) (f_X9_timeAt_ok hi2 e54) ?_
  refine g_icmp_le 64 dX7_passings_57 rfl (fun q => ?_) (fun q => ?_)
  · replace h := gif_t q h
    refine g_iconst dX7_passings_64 kc_0 ?_
    exact f_X7_passings_65_ok hi1 hi2 hk5 h
  · replace h := gif_f q h
    refine g_iconst dX7_passings_60 kc_1 ?_
    refine g_goto 65 dX7_passings_61 rfl ?_
    exact f_X7_passings_65_ok hi1 hi2 hk5 h
theorem f_X7_passings_42_ok {i1 : Nat} {i2 : Nat} {v3 : Int32} {v4 : Int32} {k5 : Int32 → Int32 → gSt → Option (Int32 × gSt)} {r : (Int32 × gSt)} (hi1 : i1 < 20) (hi2 : i2 < 20) (hk5 : ∀ {v3 : Int32} {v4 : Int32} {σ : gSt} {x5 x6 x7 : Option Value}, k5 v3 v4 σ = some r → G l w 0 41 RX7 cX7_passings 8 (some .int) 2 44 (gE (some (.int r.1)) r.2) 5 [some (.ref (w.2.1 25 0)), some (.ref (w.2.1 10 i1)), some (.ref (w.2.1 10 i2)), some (.int v3), some (.int v4), x5, x6, x7] [] σ) {σ : gSt} {x5 x6 x7 : Option Value} (h : f_X7_passings_42 i1 i2 v3 v4 k5 σ = some r) : G l w 0 41 RX7 cX7_passings 8 (some .int) 2 44 (gE (some (.int r.1)) r.2) 42 [some (.ref (w.2.1 25 0)), some (.ref (w.2.1 10 i1)), some (.ref (w.2.1 10 i2)), some (.int v3), some (.int v4), x5, x6, x7] [] σ := by
  unfold f_X7_passings_42 at h
  refine g_iconst dX7_passings_42 kc_0 ?_
  exact f_X7_passings_43_ok hi1 hi2 hk5 h
theorem f_X7_passings_5_ok {i1 : Nat} {i2 : Nat} {r : (Int32 × gSt)} (hi1 : i1 < 20) (hi2 : i2 < 20) : ∀ (n : Nat) {v3 : Int32} {v4 : Int32} {σ : gSt} {x5 x6 x7 : Option Value}, f_X7_passings_5 i1 i2 n v3 v4 σ = some r → G l w 0 41 RX7 cX7_passings 8 (some .int) 2 44 (gE (some (.int r.1)) r.2) 5 [some (.ref (w.2.1 25 0)), some (.ref (w.2.1 10 i1)), some (.ref (w.2.1 10 i2)), some (.int v3), some (.int v4), x5, x6, x7] [] σ := by
  intro n
  induction n with
  | zero => intro v3 v4 σ x5 x6 x7 h; rw [f_X7_passings_5] at h; cases h
  | succ n ih =>
    intro v3 v4 σ x5 x6 x7 h
    rw [f_X7_passings_5] at h
    refine g_iload dX7_passings_5 rfl ?_
    refine g_aload_n dX7_passings_7 rfl ?_
    refine gI_X7_42 (ok_10 hi1) dX7_passings_8 ?_
    refine g_icmp_ge 122 dX7_passings_11 rfl (fun q => ?_) (fun q => ?_)
    · replace h := gif_t q h
      refine g_iload_n dX7_passings_122 rfl ?_
      cases h
      exact g_iret dX7_passings_123 rfl ⟨rfl, rfl⟩
    · replace h := gif_f q h
      refine g_aload_n dX7_passings_14 rfl ?_
      refine g_aload_n dX7_passings_15 rfl ?_
      refine g_aload_n dX7_passings_16 rfl ?_
      refine g_iload dX7_passings_17 rfl ?_
      obtain ⟨p19, e19, h⟩ := obind h
      refine g_vP3 mv_X7_28 dX7_passings_19 ok_25 ⟨by decide, by decide⟩ (Nat.le_of_ble_eq_true rfl) (f_X7_bothAt_ok hi1 hi2 e19) ?_
      refine g_if_eq 42 dX7_passings_22 rfl (fun q => ?_) (fun q => ?_)
      · replace h := gif_t q h
        exact f_X7_passings_42_ok hi1 hi2 (fun h => ih h) h
      · replace h := gif_f q h
        refine g_aload_n dX7_passings_25 rfl ?_
        refine g_aload_n dX7_passings_26 rfl ?_
        refine g_aload_n dX7_passings_27 rfl ?_
        refine g_iload dX7_passings_28 rfl ?_
        refine g_iconst dX7_passings_30 kc_1 ?_
        refine g_iadd dX7_passings_31 ?_
        obtain ⟨p32, e32, h⟩ := obind h
        refine g_vP3 mv_X7_28 dX7_passings_32 ok_25 ⟨by decide, by decide⟩ (Nat.le_of_ble_eq_true rfl) (f_X7_bothAt_ok hi1 hi2 e32) ?_
        refine g_if_eq 42 dX7_passings_35 rfl (fun q => ?_) (fun q => ?_)
        · replace h := gif_t q h
          exact f_X7_passings_42_ok hi1 hi2 (fun h => ih h) h
        · replace h := gif_f q h
          refine g_iconst dX7_passings_38 kc_1 ?_
          refine g_goto 43 dX7_passings_39 rfl ?_
          exact f_X7_passings_43_ok hi1 hi2 (fun h => ih h) h
theorem f_X7_passings_ok {i1 : Nat} {i2 : Nat} (hi1 : i1 < 20) (hi2 : i2 < 20) {σ : gSt} {r : (Int32 × gSt)} (h : f_X7_passings i1 i2 σ = some r) : Mt l w 0 41 yX7_passings cX7_passings 8 (some .int) 2 44 [.ref (w.2.1 25 0), .ref (w.2.1 10 i1), .ref (w.2.1 10 i2)] σ (gE (some (.int r.1)) r.2) := by
  unfold f_X7_passings at h
  refine g_start pn_X7 rfl rfl (Nat.le_of_ble_eq_true rfl) ?_
  show G l w 0 41 RX7 cX7_passings 8 (some .int) 2 44 (gE (some (.int r.1)) r.2) 0 [some (.ref (w.2.1 25 0)), some (.ref (w.2.1 10 i1)), some (.ref (w.2.1 10 i2)), none, none, none, none, none] [] σ
  refine g_iconst dX7_passings_0 kc_0 ?_
  refine g_istore3 dX7_passings_1 ?_
  refine g_iconst dX7_passings_2 kc_0 ?_
  refine g_istore4 dX7_passings_3 ?_
  exact f_X7_passings_5_ok hi1 hi2 gFuel h
theorem dX8_failed_0 : decode cX8_failed 0 = .ok (.aload_n 0, 1) := by decide +kernel
theorem dX8_failed_1 : decode cX8_failed 1 = .ok (.iload_n 1, 1) := by decide +kernel
theorem dX8_failed_2 : decode cX8_failed 2 = .ok (.putfield 27, 3) := by decide +kernel
theorem dX8_failed_5 : decode cX8_failed 5 = .ok (.iconst 0, 1) := by decide +kernel
theorem dX8_failed_6 : decode cX8_failed 6 = .ok (.ireturn, 1) := by decide +kernel
def f_X8_failed (v1 : Int32) (σ : gSt) : Option (Int32 × gSt) :=
  some (0, (gup σ 15 0 7 v1))
theorem f_X8_failed_ok {v1 : Int32}  {σ : gSt} {r : (Int32 × gSt)} (h : f_X8_failed v1 σ = some r) : Mt l w 0 41 yX8_failed cX8_failed 2 (some .boolean) 0 0 [.ref (w.2.1 15 0), .int v1] σ (gE (some (.int r.1)) r.2) := by
  unfold f_X8_failed at h
  refine g_start pn_X8 rfl rfl (Nat.le_of_ble_eq_true rfl) ?_
  show G l w 0 41 RX8 cX8_failed 2 (some .boolean) 0 0 (gE (some (.int r.1)) r.2) 0 [some (.ref (w.2.1 15 0)), some (.int v1)] [] σ
  refine g_aload_n dX8_failed_0 rfl ?_
  refine g_iload_n dX8_failed_1 rfl ?_
  refine gP_X8_27 ok_15 dX8_failed_2 ?_
  refine g_iconst dX8_failed_5 kc_0 ?_
  cases h
  exact g_zret0 dX8_failed_6 rfl
theorem dX10_byteAt_0 : decode cX10_byteAt 0 = .ok (.iload_n 1, 1) := by decide +kernel
theorem dX10_byteAt_1 : decode cX10_byteAt 1 = .ok (.ifCond .lt 29, 3) := by decide +kernel
theorem dX10_byteAt_4 : decode cX10_byteAt 4 = .ok (.iload_n 1, 1) := by decide +kernel
theorem dX10_byteAt_5 : decode cX10_byteAt 5 = .ok (.aload_n 0, 1) := by decide +kernel
theorem dX10_byteAt_6 : decode cX10_byteAt 6 = .ok (.getfield 15, 3) := by decide +kernel
theorem dX10_byteAt_9 : decode cX10_byteAt 9 = .ok (.if_icmp .ge 21, 3) := by decide +kernel
theorem dX10_byteAt_12 : decode cX10_byteAt 12 = .ok (.iload_n 1, 1) := by decide +kernel
theorem dX10_byteAt_13 : decode cX10_byteAt 13 = .ok (.aload_n 0, 1) := by decide +kernel
theorem dX10_byteAt_14 : decode cX10_byteAt 14 = .ok (.getfield 9, 3) := by decide +kernel
theorem dX10_byteAt_17 : decode cX10_byteAt 17 = .ok (.arraylength, 1) := by decide +kernel
theorem dX10_byteAt_18 : decode cX10_byteAt 18 = .ok (.if_icmp .ge 12, 3) := by decide +kernel
theorem dX10_byteAt_21 : decode cX10_byteAt 21 = .ok (.aload_n 0, 1) := by decide +kernel
theorem dX10_byteAt_22 : decode cX10_byteAt 22 = .ok (.getfield 9, 3) := by decide +kernel
theorem dX10_byteAt_25 : decode cX10_byteAt 25 = .ok (.iload_n 1, 1) := by decide +kernel
theorem dX10_byteAt_26 : decode cX10_byteAt 26 = .ok (.iaload, 1) := by decide +kernel
theorem dX10_byteAt_27 : decode cX10_byteAt 27 = .ok (.goto 4, 3) := by decide +kernel
theorem dX10_byteAt_30 : decode cX10_byteAt 30 = .ok (.iconst 0, 1) := by decide +kernel
theorem dX10_byteAt_31 : decode cX10_byteAt 31 = .ok (.ireturn, 1) := by decide +kernel
def f_X10_byteAt (v1 : Int32) (σ : gSt) : Option (Int32 × gSt) :=
  if v1 < 0 then
    some (0, σ)
  else
    if (σ 1 0 1) ≤ v1 then
      some (0, σ)
    else
      if 900 ≤ v1 then
        some (0, σ)
      else
        (gld σ 2 0 900 v1).bind fun a26 =>
        some (a26, σ)
theorem f_X10_byteAt_ok {v1 : Int32}  {σ : gSt} {r : (Int32 × gSt)} (h : f_X10_byteAt v1 σ = some r) : Mt l w 0 41 yX10_byteAt cX10_byteAt 2 (some .int) 0 0 [.ref (w.2.1 1 0), .int v1] σ (gE (some (.int r.1)) r.2) := by
  unfold f_X10_byteAt at h
  refine g_start pn_X10 rfl rfl (Nat.le_of_ble_eq_true rfl) ?_
  show G l w 0 41 RX10 cX10_byteAt 2 (some .int) 0 0 (gE (some (.int r.1)) r.2) 0 [some (.ref (w.2.1 1 0)), some (.int v1)] [] σ
  refine g_iload_n dX10_byteAt_0 rfl ?_
  refine g_if_lt 30 dX10_byteAt_1 rfl (fun q => ?_) (fun q => ?_)
  · replace h := gif_t q h
    refine g_iconst dX10_byteAt_30 kc_0 ?_
    cases h
    exact g_iret dX10_byteAt_31 rfl ⟨rfl, rfl⟩
  · replace h := gif_f q h
    refine g_iload_n dX10_byteAt_4 rfl ?_
    refine g_aload_n dX10_byteAt_5 rfl ?_
    refine gI_X10_15 ok_1 dX10_byteAt_6 ?_
    refine g_icmp_ge 30 dX10_byteAt_9 rfl (fun q => ?_) (fun q => ?_)
    · replace h := gif_t q h
      refine g_iconst dX10_byteAt_30 kc_0 ?_
      cases h
      exact g_iret dX10_byteAt_31 rfl ⟨rfl, rfl⟩
    · replace h := gif_f q h
      refine g_iload_n dX10_byteAt_12 rfl ?_
      refine g_aload_n dX10_byteAt_13 rfl ?_
      refine gR_X10_9 ok_1 dX10_byteAt_14 ?_
      refine g_alenL nc_900 rfl rfl ok_2 dX10_byteAt_17 ?_
      refine g_icmp_ge 30 dX10_byteAt_18 rfl (fun q => ?_) (fun q => ?_)
      · replace h := gif_t q h
        refine g_iconst dX10_byteAt_30 kc_0 ?_
        cases h
        exact g_iret dX10_byteAt_31 rfl ⟨rfl, rfl⟩
      · replace h := gif_f q h
        refine g_aload_n dX10_byteAt_21 rfl ?_
        refine gR_X10_9 ok_1 dX10_byteAt_22 ?_
        refine g_iload_n dX10_byteAt_25 rfl ?_
        obtain ⟨a26, e26, h⟩ := obind h
        refine g_ldB e26 ok_2 rfl rfl (by decide) dX10_byteAt_26 ?_
        refine g_goto 31 dX10_byteAt_27 rfl ?_
        cases h
        exact g_iret dX10_byteAt_31 rfl ⟨rfl, rfl⟩
theorem dX10_isLetter_0 : decode cX10_isLetter 0 = .ok (.iload_n 0, 1) := by decide +kernel
theorem dX10_isLetter_1 : decode cX10_isLetter 1 = .ok (.bipush 97, 2) := by decide +kernel
theorem dX10_isLetter_3 : decode cX10_isLetter 3 = .ok (.if_icmp .lt 13, 3) := by decide +kernel
theorem dX10_isLetter_6 : decode cX10_isLetter 6 = .ok (.iload_n 0, 1) := by decide +kernel
theorem dX10_isLetter_7 : decode cX10_isLetter 7 = .ok (.bipush 122, 2) := by decide +kernel
theorem dX10_isLetter_9 : decode cX10_isLetter 9 = .ok (.if_icmp .gt 7, 3) := by decide +kernel
theorem dX10_isLetter_12 : decode cX10_isLetter 12 = .ok (.iconst 1, 1) := by decide +kernel
theorem dX10_isLetter_13 : decode cX10_isLetter 13 = .ok (.goto 4, 3) := by decide +kernel
theorem dX10_isLetter_16 : decode cX10_isLetter 16 = .ok (.iconst 0, 1) := by decide +kernel
theorem dX10_isLetter_17 : decode cX10_isLetter 17 = .ok (.ireturn, 1) := by decide +kernel
def f_X10_isLetter (v0 : Int32) (σ : gSt) : Option (Int32 × gSt) :=
  if v0 < 97 then
    some (0, σ)
  else
    if 122 < v0 then
      some (0, σ)
    else
      some (1, σ)
theorem f_X10_isLetter_ok {v0 : Int32}  {σ : gSt} {r : (Int32 × gSt)} (h : f_X10_isLetter v0 σ = some r) : Mt l w 0 41 yX10_isLetter cX10_isLetter 1 (some .boolean) 0 0 [.int v0] σ (gE (some (.int r.1)) r.2) := by
  unfold f_X10_isLetter at h
  refine g_start pn_X10 rfl rfl (Nat.le_of_ble_eq_true rfl) ?_
  show G l w 0 41 RX10 cX10_isLetter 1 (some .boolean) 0 0 (gE (some (.int r.1)) r.2) 0 [some (.int v0)] [] σ
  refine g_iload_n dX10_isLetter_0 rfl ?_
  refine g_bipush dX10_isLetter_1 kb_97 ?_
  refine g_icmp_lt 16 dX10_isLetter_3 rfl (fun q => ?_) (fun q => ?_)
  · replace h := gif_t q h
    refine g_iconst dX10_isLetter_16 kc_0 ?_
    cases h
    exact g_zret0 dX10_isLetter_17 rfl
  · replace h := gif_f q h
    refine g_iload_n dX10_isLetter_6 rfl ?_
    refine g_bipush dX10_isLetter_7 kb_122 ?_
    refine g_icmp_gt 16 dX10_isLetter_9 rfl (fun q => ?_) (fun q => ?_)
    · replace h := gif_t q h
      refine g_iconst dX10_isLetter_16 kc_0 ?_
      cases h
      exact g_zret0 dX10_isLetter_17 rfl
    · replace h := gif_f q h
      refine g_iconst dX10_isLetter_12 kc_1 ?_
      refine g_goto 17 dX10_isLetter_13 rfl ?_
      cases h
      exact g_zret1 dX10_isLetter_17 rfl
theorem dX8_isDigit_0 : decode cX8_isDigit 0 = .ok (.iload_n 0, 1) := by decide +kernel
theorem dX8_isDigit_1 : decode cX8_isDigit 1 = .ok (.bipush 48, 2) := by decide +kernel
theorem dX8_isDigit_3 : decode cX8_isDigit 3 = .ok (.if_icmp .lt 13, 3) := by decide +kernel
theorem dX8_isDigit_6 : decode cX8_isDigit 6 = .ok (.iload_n 0, 1) := by decide +kernel
theorem dX8_isDigit_7 : decode cX8_isDigit 7 = .ok (.bipush 57, 2) := by decide +kernel
theorem dX8_isDigit_9 : decode cX8_isDigit 9 = .ok (.if_icmp .gt 7, 3) := by decide +kernel
theorem dX8_isDigit_12 : decode cX8_isDigit 12 = .ok (.iconst 1, 1) := by decide +kernel
theorem dX8_isDigit_13 : decode cX8_isDigit 13 = .ok (.goto 4, 3) := by decide +kernel
theorem dX8_isDigit_16 : decode cX8_isDigit 16 = .ok (.iconst 0, 1) := by decide +kernel
theorem dX8_isDigit_17 : decode cX8_isDigit 17 = .ok (.ireturn, 1) := by decide +kernel
def f_X8_isDigit (v0 : Int32) (σ : gSt) : Option (Int32 × gSt) :=
  if v0 < 48 then
    some (0, σ)
  else
    if 57 < v0 then
      some (0, σ)
    else
      some (1, σ)
theorem f_X8_isDigit_ok {v0 : Int32}  {σ : gSt} {r : (Int32 × gSt)} (h : f_X8_isDigit v0 σ = some r) : Mt l w 0 41 yX8_isDigit cX8_isDigit 1 (some .boolean) 0 0 [.int v0] σ (gE (some (.int r.1)) r.2) := by
  unfold f_X8_isDigit at h
  refine g_start pn_X8 rfl rfl (Nat.le_of_ble_eq_true rfl) ?_
  show G l w 0 41 RX8 cX8_isDigit 1 (some .boolean) 0 0 (gE (some (.int r.1)) r.2) 0 [some (.int v0)] [] σ
  refine g_iload_n dX8_isDigit_0 rfl ?_
  refine g_bipush dX8_isDigit_1 kb_48 ?_
  refine g_icmp_lt 16 dX8_isDigit_3 rfl (fun q => ?_) (fun q => ?_)
  · replace h := gif_t q h
    refine g_iconst dX8_isDigit_16 kc_0 ?_
    cases h
    exact g_zret0 dX8_isDigit_17 rfl
  · replace h := gif_f q h
    refine g_iload_n dX8_isDigit_6 rfl ?_
    refine g_bipush dX8_isDigit_7 kb_57 ?_
    refine g_icmp_gt 16 dX8_isDigit_9 rfl (fun q => ?_) (fun q => ?_)
    · replace h := gif_t q h
      refine g_iconst dX8_isDigit_16 kc_0 ?_
      cases h
      exact g_zret0 dX8_isDigit_17 rfl
    · replace h := gif_f q h
      refine g_iconst dX8_isDigit_12 kc_1 ?_
      refine g_goto 17 dX8_isDigit_13 rfl ?_
      cases h
      exact g_zret1 dX8_isDigit_17 rfl
theorem dX8_readWhole_0 : decode cX8_readWhole 0 = .ok (.aload_n 0, 1) := by decide +kernel
theorem dX8_readWhole_1 : decode cX8_readWhole 1 = .ok (.iconst 0, 1) := by decide +kernel
theorem dX8_readWhole_2 : decode cX8_readWhole 2 = .ok (.putfield 21, 3) := by decide +kernel
theorem dX8_readWhole_5 : decode cX8_readWhole 5 = .ok (.aload_n 0, 1) := by decide +kernel
theorem dX8_readWhole_6 : decode cX8_readWhole 6 = .ok (.getfield 15, 3) := by decide +kernel
theorem dX8_readWhole_9 : decode cX8_readWhole 9 = .ok (.aload_n 0, 1) := by decide +kernel
theorem dX8_readWhole_10 : decode cX8_readWhole 10 = .ok (.getfield 9, 3) := by decide +kernel
theorem dX8_readWhole_13 : decode cX8_readWhole 13 = .ok (.if_icmp .ge 59, 3) := by decide +kernel
theorem dX8_readWhole_16 : decode cX8_readWhole 16 = .ok (.aload_n 0, 1) := by decide +kernel
theorem dX8_readWhole_17 : decode cX8_readWhole 17 = .ok (.getfield 33, 3) := by decide +kernel
theorem dX8_readWhole_20 : decode cX8_readWhole 20 = .ok (.aload_n 0, 1) := by decide +kernel
theorem dX8_readWhole_21 : decode cX8_readWhole 21 = .ok (.getfield 15, 3) := by decide +kernel
theorem dX8_readWhole_24 : decode cX8_readWhole 24 = .ok (.invokevirtual 76, 3) := by decide +kernel
theorem dX8_readWhole_27 : decode cX8_readWhole 27 = .ok (.invokestatic 88, 3) := by decide +kernel
theorem dX8_readWhole_30 : decode cX8_readWhole 30 = .ok (.ifCond .eq 42, 3) := by decide +kernel
theorem dX8_readWhole_33 : decode cX8_readWhole 33 = .ok (.aload_n 0, 1) := by decide +kernel
theorem dX8_readWhole_34 : decode cX8_readWhole 34 = .ok (.aload_n 0, 1) := by decide +kernel
theorem dX8_readWhole_35 : decode cX8_readWhole 35 = .ok (.getfield 21, 3) := by decide +kernel
theorem dX8_readWhole_38 : decode cX8_readWhole 38 = .ok (.bipush 10, 2) := by decide +kernel
theorem dX8_readWhole_40 : decode cX8_readWhole 40 = .ok (.imul, 1) := by decide +kernel
theorem dX8_readWhole_41 : decode cX8_readWhole 41 = .ok (.aload_n 0, 1) := by decide +kernel
theorem dX8_readWhole_42 : decode cX8_readWhole 42 = .ok (.getfield 33, 3) := by decide +kernel
theorem dX8_readWhole_45 : decode cX8_readWhole 45 = .ok (.aload_n 0, 1) := by decide +kernel
theorem dX8_readWhole_46 : decode cX8_readWhole 46 = .ok (.getfield 15, 3) := by decide +kernel
theorem dX8_readWhole_49 : decode cX8_readWhole 49 = .ok (.invokevirtual 76, 3) := by decide +kernel
theorem dX8_readWhole_52 : decode cX8_readWhole 52 = .ok (.bipush 48, 2) := by decide +kernel
theorem dX8_readWhole_54 : decode cX8_readWhole 54 = .ok (.isub, 1) := by decide +kernel
theorem dX8_readWhole_55 : decode cX8_readWhole 55 = .ok (.iadd, 1) := by decide +kernel
theorem dX8_readWhole_56 : decode cX8_readWhole 56 = .ok (.putfield 21, 3) := by decide +kernel
theorem dX8_readWhole_59 : decode cX8_readWhole 59 = .ok (.aload_n 0, 1) := by decide +kernel
theorem dX8_readWhole_60 : decode cX8_readWhole 60 = .ok (.dup, 1) := by decide +kernel
theorem dX8_readWhole_61 : decode cX8_readWhole 61 = .ok (.getfield 15, 3) := by decide +kernel
theorem dX8_readWhole_64 : decode cX8_readWhole 64 = .ok (.iconst 1, 1) := by decide +kernel
theorem dX8_readWhole_65 : decode cX8_readWhole 65 = .ok (.iadd, 1) := by decide +kernel
theorem dX8_readWhole_66 : decode cX8_readWhole 66 = .ok (.putfield 15, 3) := by decide +kernel
theorem dX8_readWhole_69 : decode cX8_readWhole 69 = .ok (.goto (-64), 3) := by decide +kernel
theorem dX8_readWhole_72 : decode cX8_readWhole 72 = .ok (.aload_n 0, 1) := by decide +kernel
theorem dX8_readWhole_73 : decode cX8_readWhole 73 = .ok (.aload_n 0, 1) := by decide +kernel
theorem dX8_readWhole_74 : decode cX8_readWhole 74 = .ok (.getfield 15, 3) := by decide +kernel
theorem dX8_readWhole_77 : decode cX8_readWhole 77 = .ok (.aload_n 0, 1) := by decide +kernel
theorem dX8_readWhole_78 : decode cX8_readWhole 78 = .ok (.getfield 30, 3) := by decide +kernel
theorem dX8_readWhole_81 : decode cX8_readWhole 81 = .ok (.isub, 1) := by decide +kernel
theorem dX8_readWhole_82 : decode cX8_readWhole 82 = .ok (.iconst 4, 1) := by decide +kernel
theorem dX8_readWhole_83 : decode cX8_readWhole 83 = .ok (.if_icmp .gt 7, 3) := by decide +kernel
theorem dX8_readWhole_86 : decode cX8_readWhole 86 = .ok (.iconst 2, 1) := by decide +kernel
theorem dX8_readWhole_87 : decode cX8_readWhole 87 = .ok (.goto 4, 3) := by decide +kernel
theorem dX8_readWhole_90 : decode cX8_readWhole 90 = .ok (.iconst 3, 1) := by decide +kernel
theorem dX8_readWhole_91 : decode cX8_readWhole 91 = .ok (.putfield 18, 3) := by decide +kernel
theorem dX8_readWhole_94 : decode cX8_readWhole 94 = .ok (.return_, 1) := by decide +kernel
def f_X8_readWhole_72  (σ : gSt) : Option gSt :=
  if 4 < ((σ 15 0 3) - (σ 15 0 8)) then
    some (gup σ 15 0 4 3)
  else
    some (gup σ 15 0 4 2)
def f_X8_readWhole_5  : Nat → gSt → Option gSt
  | 0, _ => none
  | n + 1, σ =>
    if (σ 15 0 2) ≤ (σ 15 0 3) then
      f_X8_readWhole_72 σ
    else
      (f_X10_byteAt (σ 15 0 3) σ).bind fun p24 =>
      (f_X8_isDigit p24.1 p24.2).bind fun p27 =>
      if p27.1 = 0 then
        f_X8_readWhole_72 p27.2
      else
        (f_X10_byteAt (p27.2 15 0 3) p27.2).bind fun p49 =>
        f_X8_readWhole_5 n (gup (gup p49.2 15 0 5 (((p27.2 15 0 5) * 10) + (p49.1 - 48))) 15 0 3 (((gup p49.2 15 0 5 (((p27.2 15 0 5) * 10) + (p49.1 - 48))) 15 0 3) + 1))
def f_X8_readWhole (σ : gSt) : Option gSt :=
  f_X8_readWhole_5 gFuel (gup σ 15 0 5 0)
theorem f_X8_readWhole_72_ok  {r : gSt}  {σ : gSt}  (h : f_X8_readWhole_72 σ = some r) : G l w 0 41 RX8 cX8_readWhole 1 none 1 21 (gE none r) 72 [some (.ref (w.2.1 15 0))] [] σ := by
  unfold f_X8_readWhole_72 at h
  refine g_aload_n dX8_readWhole_72 rfl ?_
  refine g_aload_n dX8_readWhole_73 rfl ?_
  refine gI_X8_15 ok_15 dX8_readWhole_74 ?_
  refine g_aload_n dX8_readWhole_77 rfl ?_
  refine gI_X8_30 ok_15 dX8_readWhole_78 ?_
  refine g_isub dX8_readWhole_81 ?_
  refine g_iconst dX8_readWhole_82 kc_4 ?_
  refine g_icmp_gt 90 dX8_readWhole_83 rfl (fun q => ?_) (fun q => ?_)
  · replace h := gif_t q h
    refine g_iconst dX8_readWhole_90 kc_3 ?_
    refine gP_X8_18 ok_15 dX8_readWhole_91 ?_
    cases h
    exact g_vret dX8_readWhole_94 rfl ⟨rfl, rfl⟩
  · replace h := gif_f q h
    refine g_iconst dX8_readWhole_86 kc_2 ?_
    refine g_goto 91 dX8_readWhole_87 rfl ?_
    refine gP_X8_18 ok_15 dX8_readWhole_91 ?_
    cases h
    exact g_vret dX8_readWhole_94 rfl ⟨rfl, rfl⟩
theorem f_X8_readWhole_5_ok  {r : gSt}  : ∀ (n : Nat)  {σ : gSt} , f_X8_readWhole_5 n σ = some r → G l w 0 41 RX8 cX8_readWhole 1 none 1 21 (gE none r) 5 [some (.ref (w.2.1 15 0))] [] σ := by
  intro n
  induction n with
  | zero => intro σ h; rw [f_X8_readWhole_5] at h; cases h
  | succ n ih =>
    intro σ h
    rw [f_X8_readWhole_5] at h
    refine g_aload_n dX8_readWhole_5 rfl ?_
    refine gI_X8_15 ok_15 dX8_readWhole_6 ?_
    refine g_aload_n dX8_readWhole_9 rfl ?_
    refine gI_X8_9 ok_15 dX8_readWhole_10 ?_
    refine g_icmp_ge 72 dX8_readWhole_13 rfl (fun q => ?_) (fun q => ?_)
    · replace h := gif_t q h
      exact f_X8_readWhole_72_ok h
    · replace h := gif_f q h
      refine g_aload_n dX8_readWhole_16 rfl ?_
      refine gR_X8_33 ok_15 dX8_readWhole_17 ?_
      refine g_aload_n dX8_readWhole_20 rfl ?_
      refine gI_X8_15 ok_15 dX8_readWhole_21 ?_
      obtain ⟨p24, e24, h⟩ := obind h
      refine g_vP1 mv_X8_76 dX8_readWhole_24 ok_1 ⟨by decide, by decide⟩ (Nat.le_of_ble_eq_true rfl) (f_X10_byteAt_ok e24) ?_
      obtain ⟨p27, e27, h⟩ := obind h
      refine g_sP1 ms_X8_88 dX8_readWhole_27 ⟨by decide, by decide⟩ (Nat.le_of_ble_eq_true rfl) (f_X8_isDigit_ok e27) ?_
      refine g_if_eq 72 dX8_readWhole_30 rfl (fun q => ?_) (fun q => ?_)
      · replace h := gif_t q h
        exact f_X8_readWhole_72_ok h
      · replace h := gif_f q h
        refine g_aload_n dX8_readWhole_33 rfl ?_
        refine g_aload_n dX8_readWhole_34 rfl ?_
        refine gI_X8_21 ok_15 dX8_readWhole_35 ?_
        refine g_bipush dX8_readWhole_38 kb_10 ?_
        refine g_imul dX8_readWhole_40 ?_
        refine g_aload_n dX8_readWhole_41 rfl ?_
        refine gR_X8_33 ok_15 dX8_readWhole_42 ?_
        refine g_aload_n dX8_readWhole_45 rfl ?_
        refine gI_X8_15 ok_15 dX8_readWhole_46 ?_
        obtain ⟨p49, e49, h⟩ := obind h
        refine g_vP1 mv_X8_76 dX8_readWhole_49 ok_1 ⟨by decide, by decide⟩ (Nat.le_of_ble_eq_true rfl) (f_X10_byteAt_ok e49) ?_
        refine g_bipush dX8_readWhole_52 kb_48 ?_
        refine g_isub dX8_readWhole_54 ?_
        refine g_iadd dX8_readWhole_55 ?_
        refine gP_X8_21 ok_15 dX8_readWhole_56 ?_
        refine g_aload_n dX8_readWhole_59 rfl ?_
        refine g_dup dX8_readWhole_60 rfl ?_
        refine gI_X8_15 ok_15 dX8_readWhole_61 ?_
        refine g_iconst dX8_readWhole_64 kc_1 ?_
        refine g_iadd dX8_readWhole_65 ?_
        refine gP_X8_15 ok_15 dX8_readWhole_66 ?_
        refine g_goto 5 dX8_readWhole_69 rfl ?_
        exact ih h
theorem f_X8_readWhole_ok   {σ : gSt} {r : gSt} (h : f_X8_readWhole σ = some r) : Mt l w 0 41 yX8_readWhole cX8_readWhole 1 none 1 21 [.ref (w.2.1 15 0)] σ (gE none r) := by
  unfold f_X8_readWhole at h
  refine g_start pn_X8 rfl rfl (Nat.le_of_ble_eq_true rfl) ?_
  show G l w 0 41 RX8 cX8_readWhole 1 none 1 21 (gE none r) 0 [some (.ref (w.2.1 15 0))] [] σ
  refine g_aload_n dX8_readWhole_0 rfl ?_
  refine g_iconst dX8_readWhole_1 kc_0 ?_
  refine gP_X8_21 ok_15 dX8_readWhole_2 ?_
  exact f_X8_readWhole_5_ok gFuel h
theorem dX10_longer_0 : decode cX10_longer 0 = .ok (.iload_n 0, 1) := by decide +kernel
theorem dX10_longer_1 : decode cX10_longer 1 = .ok (.iconst 5, 1) := by decide +kernel
theorem dX10_longer_2 : decode cX10_longer 2 = .ok (.ishl, 1) := by decide +kernel
theorem dX10_longer_3 : decode cX10_longer 3 = .ok (.iload_n 1, 1) := by decide +kernel
theorem dX10_longer_4 : decode cX10_longer 4 = .ok (.bipush 31, 2) := by decide +kernel
theorem dX10_longer_6 : decode cX10_longer 6 = .ok (.iand, 1) := by decide +kernel
theorem dX10_longer_7 : decode cX10_longer 7 = .ok (.ior, 1) := by decide +kernel
theorem dX10_longer_8 : decode cX10_longer 8 = .ok (.ireturn, 1) := by decide +kernel
def f_X10_longer (v0 : Int32) (v1 : Int32) (σ : gSt) : Option (Int32 × gSt) :=
  some (((v0 <<< (5 &&& 31)) ||| (v1 &&& 31)), σ)
theorem f_X10_longer_ok {v0 : Int32} {v1 : Int32}  {σ : gSt} {r : (Int32 × gSt)} (h : f_X10_longer v0 v1 σ = some r) : Mt l w 0 41 yX10_longer cX10_longer 2 (some .int) 0 0 [.int v0, .int v1] σ (gE (some (.int r.1)) r.2) := by
  unfold f_X10_longer at h
  refine g_start pn_X10 rfl rfl (Nat.le_of_ble_eq_true rfl) ?_
  show G l w 0 41 RX10 cX10_longer 2 (some .int) 0 0 (gE (some (.int r.1)) r.2) 0 [some (.int v0), some (.int v1)] [] σ
  refine g_iload_n dX10_longer_0 rfl ?_
  refine g_iconst dX10_longer_1 kc_5 ?_
  refine g_ishl dX10_longer_2 ?_
  refine g_iload_n dX10_longer_3 rfl ?_
  refine g_bipush dX10_longer_4 kb_31 ?_
  refine g_iand dX10_longer_6 ?_
  refine g_ior dX10_longer_7 ?_
  cases h
  exact g_iret dX10_longer_8 rfl ⟨rfl, rfl⟩
theorem dX8_readWord_0 : decode cX8_readWord 0 = .ok (.aload_n 0, 1) := by decide +kernel
theorem dX8_readWord_1 : decode cX8_readWord 1 = .ok (.iconst 0, 1) := by decide +kernel
theorem dX8_readWord_2 : decode cX8_readWord 2 = .ok (.putfield 21, 3) := by decide +kernel
theorem dX8_readWord_5 : decode cX8_readWord 5 = .ok (.aload_n 0, 1) := by decide +kernel
theorem dX8_readWord_6 : decode cX8_readWord 6 = .ok (.getfield 15, 3) := by decide +kernel
theorem dX8_readWord_9 : decode cX8_readWord 9 = .ok (.aload_n 0, 1) := by decide +kernel
theorem dX8_readWord_10 : decode cX8_readWord 10 = .ok (.getfield 9, 3) := by decide +kernel
theorem dX8_readWord_13 : decode cX8_readWord 13 = .ok (.if_icmp .ge 55, 3) := by decide +kernel
theorem dX8_readWord_16 : decode cX8_readWord 16 = .ok (.aload_n 0, 1) := by decide +kernel
theorem dX8_readWord_17 : decode cX8_readWord 17 = .ok (.getfield 33, 3) := by decide +kernel
theorem dX8_readWord_20 : decode cX8_readWord 20 = .ok (.aload_n 0, 1) := by decide +kernel
theorem dX8_readWord_21 : decode cX8_readWord 21 = .ok (.getfield 15, 3) := by decide +kernel
theorem dX8_readWord_24 : decode cX8_readWord 24 = .ok (.invokevirtual 76, 3) := by decide +kernel
theorem dX8_readWord_27 : decode cX8_readWord 27 = .ok (.invokestatic 82, 3) := by decide +kernel
theorem dX8_readWord_30 : decode cX8_readWord 30 = .ok (.ifCond .eq 38, 3) := by decide +kernel
theorem dX8_readWord_33 : decode cX8_readWord 33 = .ok (.aload_n 0, 1) := by decide +kernel
theorem dX8_readWord_34 : decode cX8_readWord 34 = .ok (.aload_n 0, 1) := by decide +kernel
theorem dX8_readWord_35 : decode cX8_readWord 35 = .ok (.getfield 21, 3) := by decide +kernel
theorem dX8_readWord_38 : decode cX8_readWord 38 = .ok (.aload_n 0, 1) := by decide +kernel
theorem dX8_readWord_39 : decode cX8_readWord 39 = .ok (.getfield 33, 3) := by decide +kernel
theorem dX8_readWord_42 : decode cX8_readWord 42 = .ok (.aload_n 0, 1) := by decide +kernel
theorem dX8_readWord_43 : decode cX8_readWord 43 = .ok (.getfield 15, 3) := by decide +kernel
theorem dX8_readWord_46 : decode cX8_readWord 46 = .ok (.invokevirtual 76, 3) := by decide +kernel
theorem dX8_readWord_49 : decode cX8_readWord 49 = .ok (.invokestatic 94, 3) := by decide +kernel
theorem dX8_readWord_52 : decode cX8_readWord 52 = .ok (.putfield 21, 3) := by decide +kernel
theorem dX8_readWord_55 : decode cX8_readWord 55 = .ok (.aload_n 0, 1) := by decide +kernel
theorem dX8_readWord_56 : decode cX8_readWord 56 = .ok (.dup, 1) := by decide +kernel
theorem dX8_readWord_57 : decode cX8_readWord 57 = .ok (.getfield 15, 3) := by decide +kernel
theorem dX8_readWord_60 : decode cX8_readWord 60 = .ok (.iconst 1, 1) := by decide +kernel
theorem dX8_readWord_61 : decode cX8_readWord 61 = .ok (.iadd, 1) := by decide +kernel
theorem dX8_readWord_62 : decode cX8_readWord 62 = .ok (.putfield 15, 3) := by decide +kernel
theorem dX8_readWord_65 : decode cX8_readWord 65 = .ok (.goto (-60), 3) := by decide +kernel
theorem dX8_readWord_68 : decode cX8_readWord 68 = .ok (.aload_n 0, 1) := by decide +kernel
theorem dX8_readWord_69 : decode cX8_readWord 69 = .ok (.aload_n 0, 1) := by decide +kernel
theorem dX8_readWord_70 : decode cX8_readWord 70 = .ok (.getfield 15, 3) := by decide +kernel
theorem dX8_readWord_73 : decode cX8_readWord 73 = .ok (.aload_n 0, 1) := by decide +kernel
theorem dX8_readWord_74 : decode cX8_readWord 74 = .ok (.getfield 30, 3) := by decide +kernel
theorem dX8_readWord_77 : decode cX8_readWord 77 = .ok (.isub, 1) := by decide +kernel
theorem dX8_readWord_78 : decode cX8_readWord 78 = .ok (.bipush 6, 2) := by decide +kernel
theorem dX8_readWord_80 : decode cX8_readWord 80 = .ok (.if_icmp .gt 7, 3) := by decide +kernel
theorem dX8_readWord_83 : decode cX8_readWord 83 = .ok (.iconst 1, 1) := by decide +kernel
theorem dX8_readWord_84 : decode cX8_readWord 84 = .ok (.goto 4, 3) := by decide +kernel
theorem dX8_readWord_87 : decode cX8_readWord 87 = .ok (.iconst 3, 1) := by decide +kernel
theorem dX8_readWord_88 : decode cX8_readWord 88 = .ok (.putfield 18, 3) := by decide +kernel
theorem dX8_readWord_91 : decode cX8_readWord 91 = .ok (.return_, 1) := by decide +kernel
def f_X8_readWord_68  (σ : gSt) : Option gSt :=
  if 6 < ((σ 15 0 3) - (σ 15 0 8)) then
    some (gup σ 15 0 4 3)
  else
    some (gup σ 15 0 4 1)
def f_X8_readWord_5  : Nat → gSt → Option gSt
  | 0, _ => none
  | n + 1, σ =>
    if (σ 15 0 2) ≤ (σ 15 0 3) then
      f_X8_readWord_68 σ
    else
      (f_X10_byteAt (σ 15 0 3) σ).bind fun p24 =>
      (f_X10_isLetter p24.1 p24.2).bind fun p27 =>
      if p27.1 = 0 then
        f_X8_readWord_68 p27.2
      else
        (f_X10_byteAt (p27.2 15 0 3) p27.2).bind fun p46 =>
        (f_X10_longer (p27.2 15 0 5) p46.1 p46.2).bind fun p49 =>
        f_X8_readWord_5 n (gup (gup p49.2 15 0 5 p49.1) 15 0 3 (((gup p49.2 15 0 5 p49.1) 15 0 3) + 1))
def f_X8_readWord (σ : gSt) : Option gSt :=
  f_X8_readWord_5 gFuel (gup σ 15 0 5 0)
theorem f_X8_readWord_68_ok  {r : gSt}  {σ : gSt}  (h : f_X8_readWord_68 σ = some r) : G l w 0 41 RX8 cX8_readWord 1 none 1 21 (gE none r) 68 [some (.ref (w.2.1 15 0))] [] σ := by
  unfold f_X8_readWord_68 at h
  refine g_aload_n dX8_readWord_68 rfl ?_
  refine g_aload_n dX8_readWord_69 rfl ?_
  refine gI_X8_15 ok_15 dX8_readWord_70 ?_
  refine g_aload_n dX8_readWord_73 rfl ?_
  refine gI_X8_30 ok_15 dX8_readWord_74 ?_
  refine g_isub dX8_readWord_77 ?_
  refine g_bipush dX8_readWord_78 kb_6 ?_
  refine g_icmp_gt 87 dX8_readWord_80 rfl (fun q => ?_) (fun q => ?_)
  · replace h := gif_t q h
    refine g_iconst dX8_readWord_87 kc_3 ?_
    refine gP_X8_18 ok_15 dX8_readWord_88 ?_
    cases h
    exact g_vret dX8_readWord_91 rfl ⟨rfl, rfl⟩
  · replace h := gif_f q h
    refine g_iconst dX8_readWord_83 kc_1 ?_
    refine g_goto 88 dX8_readWord_84 rfl ?_
    refine gP_X8_18 ok_15 dX8_readWord_88 ?_
    cases h
    exact g_vret dX8_readWord_91 rfl ⟨rfl, rfl⟩
theorem f_X8_readWord_5_ok  {r : gSt}  : ∀ (n : Nat)  {σ : gSt} , f_X8_readWord_5 n σ = some r → G l w 0 41 RX8 cX8_readWord 1 none 1 21 (gE none r) 5 [some (.ref (w.2.1 15 0))] [] σ := by
  intro n
  induction n with
  | zero => intro σ h; rw [f_X8_readWord_5] at h; cases h
  | succ n ih =>
    intro σ h
    rw [f_X8_readWord_5] at h
    refine g_aload_n dX8_readWord_5 rfl ?_
    refine gI_X8_15 ok_15 dX8_readWord_6 ?_
    refine g_aload_n dX8_readWord_9 rfl ?_
    refine gI_X8_9 ok_15 dX8_readWord_10 ?_
    refine g_icmp_ge 68 dX8_readWord_13 rfl (fun q => ?_) (fun q => ?_)
    · replace h := gif_t q h
      exact f_X8_readWord_68_ok h
    · replace h := gif_f q h
      refine g_aload_n dX8_readWord_16 rfl ?_
      refine gR_X8_33 ok_15 dX8_readWord_17 ?_
      refine g_aload_n dX8_readWord_20 rfl ?_
      refine gI_X8_15 ok_15 dX8_readWord_21 ?_
      obtain ⟨p24, e24, h⟩ := obind h
      refine g_vP1 mv_X8_76 dX8_readWord_24 ok_1 ⟨by decide, by decide⟩ (Nat.le_of_ble_eq_true rfl) (f_X10_byteAt_ok e24) ?_
      obtain ⟨p27, e27, h⟩ := obind h
      refine g_sP1 ms_X8_82 dX8_readWord_27 ⟨by decide, by decide⟩ (Nat.le_of_ble_eq_true rfl) (f_X10_isLetter_ok e27) ?_
      refine g_if_eq 68 dX8_readWord_30 rfl (fun q => ?_) (fun q => ?_)
      · replace h := gif_t q h
        exact f_X8_readWord_68_ok h
      · replace h := gif_f q h
        refine g_aload_n dX8_readWord_33 rfl ?_
        refine g_aload_n dX8_readWord_34 rfl ?_
        refine gI_X8_21 ok_15 dX8_readWord_35 ?_
        refine g_aload_n dX8_readWord_38 rfl ?_
        refine gR_X8_33 ok_15 dX8_readWord_39 ?_
        refine g_aload_n dX8_readWord_42 rfl ?_
        refine gI_X8_15 ok_15 dX8_readWord_43 ?_
        obtain ⟨p46, e46, h⟩ := obind h
        refine g_vP1 mv_X8_76 dX8_readWord_46 ok_1 ⟨by decide, by decide⟩ (Nat.le_of_ble_eq_true rfl) (f_X10_byteAt_ok e46) ?_
        obtain ⟨p49, e49, h⟩ := obind h
        refine g_sP2 ms_X8_94 dX8_readWord_49 ⟨by decide, by decide⟩ (Nat.le_of_ble_eq_true rfl) (f_X10_longer_ok e49) ?_
        refine gP_X8_21 ok_15 dX8_readWord_52 ?_
        refine g_aload_n dX8_readWord_55 rfl ?_
        refine g_dup dX8_readWord_56 rfl ?_
        refine gI_X8_15 ok_15 dX8_readWord_57 ?_
        refine g_iconst dX8_readWord_60 kc_1 ?_
        refine g_iadd dX8_readWord_61 ?_
        refine gP_X8_15 ok_15 dX8_readWord_62 ?_
        refine g_goto 5 dX8_readWord_65 rfl ?_
        exact ih h
theorem f_X8_readWord_ok   {σ : gSt} {r : gSt} (h : f_X8_readWord σ = some r) : Mt l w 0 41 yX8_readWord cX8_readWord 1 none 1 21 [.ref (w.2.1 15 0)] σ (gE none r) := by
  unfold f_X8_readWord at h
  refine g_start pn_X8 rfl rfl (Nat.le_of_ble_eq_true rfl) ?_
  show G l w 0 41 RX8 cX8_readWord 1 none 1 21 (gE none r) 0 [some (.ref (w.2.1 15 0))] [] σ
  refine g_aload_n dX8_readWord_0 rfl ?_
  refine g_iconst dX8_readWord_1 kc_0 ?_
  refine gP_X8_21 ok_15 dX8_readWord_2 ?_
  exact f_X8_readWord_5_ok gFuel h
theorem dX8_advance_0 : decode cX8_advance 0 = .ok (.aload_n 0, 1) := by decide +kernel
theorem dX8_advance_1 : decode cX8_advance 1 = .ok (.getfield 15, 3) := by decide +kernel
theorem dX8_advance_4 : decode cX8_advance 4 = .ok (.aload_n 0, 1) := by decide +kernel
theorem dX8_advance_5 : decode cX8_advance 5 = .ok (.getfield 9, 3) := by decide +kernel
theorem dX8_advance_8 : decode cX8_advance 8 = .ok (.if_icmp .ge 32, 3) := by decide +kernel
theorem dX8_advance_11 : decode cX8_advance 11 = .ok (.aload_n 0, 1) := by decide +kernel
theorem dX8_advance_12 : decode cX8_advance 12 = .ok (.getfield 33, 3) := by decide +kernel
theorem dX8_advance_15 : decode cX8_advance 15 = .ok (.aload_n 0, 1) := by decide +kernel
theorem dX8_advance_16 : decode cX8_advance 16 = .ok (.getfield 15, 3) := by decide +kernel
theorem dX8_advance_19 : decode cX8_advance 19 = .ok (.invokevirtual 76, 3) := by decide +kernel
theorem dX8_advance_22 : decode cX8_advance 22 = .ok (.bipush 32, 2) := by decide +kernel
theorem dX8_advance_24 : decode cX8_advance 24 = .ok (.if_icmp .ne 16, 3) := by decide +kernel
theorem dX8_advance_27 : decode cX8_advance 27 = .ok (.aload_n 0, 1) := by decide +kernel
theorem dX8_advance_28 : decode cX8_advance 28 = .ok (.dup, 1) := by decide +kernel
theorem dX8_advance_29 : decode cX8_advance 29 = .ok (.getfield 15, 3) := by decide +kernel
theorem dX8_advance_32 : decode cX8_advance 32 = .ok (.iconst 1, 1) := by decide +kernel
theorem dX8_advance_33 : decode cX8_advance 33 = .ok (.iadd, 1) := by decide +kernel
theorem dX8_advance_34 : decode cX8_advance 34 = .ok (.putfield 15, 3) := by decide +kernel
theorem dX8_advance_37 : decode cX8_advance 37 = .ok (.goto (-37), 3) := by decide +kernel
theorem dX8_advance_40 : decode cX8_advance 40 = .ok (.aload_n 0, 1) := by decide +kernel
theorem dX8_advance_41 : decode cX8_advance 41 = .ok (.aload_n 0, 1) := by decide +kernel
theorem dX8_advance_42 : decode cX8_advance 42 = .ok (.getfield 15, 3) := by decide +kernel
theorem dX8_advance_45 : decode cX8_advance 45 = .ok (.putfield 30, 3) := by decide +kernel
theorem dX8_advance_48 : decode cX8_advance 48 = .ok (.aload_n 0, 1) := by decide +kernel
theorem dX8_advance_49 : decode cX8_advance 49 = .ok (.getfield 33, 3) := by decide +kernel
theorem dX8_advance_52 : decode cX8_advance 52 = .ok (.aload_n 0, 1) := by decide +kernel
theorem dX8_advance_53 : decode cX8_advance 53 = .ok (.getfield 15, 3) := by decide +kernel
theorem dX8_advance_56 : decode cX8_advance 56 = .ok (.invokevirtual 76, 3) := by decide +kernel
theorem dX8_advance_59 : decode cX8_advance 59 = .ok (.istore_n 1, 1) := by decide +kernel
theorem dX8_advance_60 : decode cX8_advance 60 = .ok (.aload_n 0, 1) := by decide +kernel
theorem dX8_advance_61 : decode cX8_advance 61 = .ok (.getfield 15, 3) := by decide +kernel
theorem dX8_advance_64 : decode cX8_advance 64 = .ok (.aload_n 0, 1) := by decide +kernel
theorem dX8_advance_65 : decode cX8_advance 65 = .ok (.getfield 9, 3) := by decide +kernel
theorem dX8_advance_68 : decode cX8_advance 68 = .ok (.if_icmp .lt 11, 3) := by decide +kernel
theorem dX8_advance_71 : decode cX8_advance 71 = .ok (.aload_n 0, 1) := by decide +kernel
theorem dX8_advance_72 : decode cX8_advance 72 = .ok (.iconst 0, 1) := by decide +kernel
theorem dX8_advance_73 : decode cX8_advance 73 = .ok (.putfield 18, 3) := by decide +kernel
theorem dX8_advance_76 : decode cX8_advance 76 = .ok (.goto 68, 3) := by decide +kernel
theorem dX8_advance_79 : decode cX8_advance 79 = .ok (.iload_n 1, 1) := by decide +kernel
theorem dX8_advance_80 : decode cX8_advance 80 = .ok (.invokestatic 82, 3) := by decide +kernel
theorem dX8_advance_83 : decode cX8_advance 83 = .ok (.ifCond .eq 10, 3) := by decide +kernel
theorem dX8_advance_86 : decode cX8_advance 86 = .ok (.aload_n 0, 1) := by decide +kernel
theorem dX8_advance_87 : decode cX8_advance 87 = .ok (.invokevirtual 85, 3) := by decide +kernel
theorem dX8_advance_90 : decode cX8_advance 90 = .ok (.goto 54, 3) := by decide +kernel
theorem dX8_advance_93 : decode cX8_advance 93 = .ok (.iload_n 1, 1) := by decide +kernel
theorem dX8_advance_94 : decode cX8_advance 94 = .ok (.invokestatic 88, 3) := by decide +kernel
theorem dX8_advance_97 : decode cX8_advance 97 = .ok (.ifCond .eq 10, 3) := by decide +kernel
theorem dX8_advance_100 : decode cX8_advance 100 = .ok (.aload_n 0, 1) := by decide +kernel
theorem dX8_advance_101 : decode cX8_advance 101 = .ok (.invokevirtual 91, 3) := by decide +kernel
theorem dX8_advance_104 : decode cX8_advance 104 = .ok (.goto 40, 3) := by decide +kernel
theorem dX8_advance_107 : decode cX8_advance 107 = .ok (.aload_n 0, 1) := by decide +kernel
theorem dX8_advance_108 : decode cX8_advance 108 = .ok (.iload_n 1, 1) := by decide +kernel
theorem dX8_advance_109 : decode cX8_advance 109 = .ok (.bipush 59, 2) := by decide +kernel
theorem dX8_advance_111 : decode cX8_advance 111 = .ok (.if_icmp .eq 15, 3) := by decide +kernel
theorem dX8_advance_114 : decode cX8_advance 114 = .ok (.iload_n 1, 1) := by decide +kernel
theorem dX8_advance_115 : decode cX8_advance 115 = .ok (.bipush 44, 2) := by decide +kernel
theorem dX8_advance_117 : decode cX8_advance 117 = .ok (.if_icmp .eq 9, 3) := by decide +kernel
theorem dX8_advance_120 : decode cX8_advance 120 = .ok (.iload_n 1, 1) := by decide +kernel
theorem dX8_advance_121 : decode cX8_advance 121 = .ok (.bipush 58, 2) := by decide +kernel
theorem dX8_advance_123 : decode cX8_advance 123 = .ok (.if_icmp .ne 7, 3) := by decide +kernel
theorem dX8_advance_126 : decode cX8_advance 126 = .ok (.iload_n 1, 1) := by decide +kernel
theorem dX8_advance_127 : decode cX8_advance 127 = .ok (.goto 4, 3) := by decide +kernel
theorem dX8_advance_130 : decode cX8_advance 130 = .ok (.iconst 3, 1) := by decide +kernel
theorem dX8_advance_131 : decode cX8_advance 131 = .ok (.putfield 18, 3) := by decide +kernel
theorem dX8_advance_134 : decode cX8_advance 134 = .ok (.aload_n 0, 1) := by decide +kernel
theorem dX8_advance_135 : decode cX8_advance 135 = .ok (.dup, 1) := by decide +kernel
theorem dX8_advance_136 : decode cX8_advance 136 = .ok (.getfield 15, 3) := by decide +kernel
theorem dX8_advance_139 : decode cX8_advance 139 = .ok (.iconst 1, 1) := by decide +kernel
theorem dX8_advance_140 : decode cX8_advance 140 = .ok (.iadd, 1) := by decide +kernel
theorem dX8_advance_141 : decode cX8_advance 141 = .ok (.putfield 15, 3) := by decide +kernel
theorem dX8_advance_144 : decode cX8_advance 144 = .ok (.return_, 1) := by decide +kernel
def f_X8_advance_40  (σ : gSt) : Option gSt :=
  (f_X10_byteAt ((gup σ 15 0 8 (σ 15 0 3)) 15 0 3) (gup σ 15 0 8 (σ 15 0 3))).bind fun p56 =>
  if (p56.2 15 0 3) < (p56.2 15 0 2) then
    (f_X10_isLetter p56.1 p56.2).bind fun p80 =>
    if p80.1 = 0 then
      (f_X8_isDigit p56.1 p80.2).bind fun p94 =>
      if p94.1 = 0 then
        if p56.1 = 59 then
          some (gup (gup p94.2 15 0 4 p56.1) 15 0 3 (((gup p94.2 15 0 4 p56.1) 15 0 3) + 1))
        else
          if p56.1 = 44 then
            some (gup (gup p94.2 15 0 4 p56.1) 15 0 3 (((gup p94.2 15 0 4 p56.1) 15 0 3) + 1))
          else
            if p56.1 = 58 then
              some (gup (gup p94.2 15 0 4 p56.1) 15 0 3 (((gup p94.2 15 0 4 p56.1) 15 0 3) + 1))
            else
              some (gup (gup p94.2 15 0 4 3) 15 0 3 (((gup p94.2 15 0 4 3) 15 0 3) + 1))
      else
        (f_X8_readWhole p94.2).bind fun z101 =>
        some z101
    else
      (f_X8_readWord p80.2).bind fun z87 =>
      some z87
  else
    some (gup p56.2 15 0 4 0)
def f_X8_advance_0  : Nat → gSt → Option gSt
  | 0, _ => none
  | n + 1, σ =>
    if (σ 15 0 2) ≤ (σ 15 0 3) then
      f_X8_advance_40 σ
    else
      (f_X10_byteAt (σ 15 0 3) σ).bind fun p19 =>
      if p19.1 = 32 then
        f_X8_advance_0 n (gup p19.2 15 0 3 ((p19.2 15 0 3) + 1))
      else
        f_X8_advance_40 p19.2
def f_X8_advance (σ : gSt) : Option gSt :=
  f_X8_advance_0 gFuel σ
theorem f_X8_advance_40_ok  {r : gSt}  {σ : gSt} {x1 : Option Value} (h : f_X8_advance_40 σ = some r) : G l w 0 41 RX8 cX8_advance 2 none 2 41 (gE none r) 40 [some (.ref (w.2.1 15 0)), x1] [] σ := by
  unfold f_X8_advance_40 at h
  refine g_aload_n dX8_advance_40 rfl ?_
  refine g_aload_n dX8_advance_41 rfl ?_
  refine gI_X8_15 ok_15 dX8_advance_42 ?_
  refine gP_X8_30 ok_15 dX8_advance_45 ?_
  refine g_aload_n dX8_advance_48 rfl ?_
  refine gR_X8_33 ok_15 dX8_advance_49 ?_
  refine g_aload_n dX8_advance_52 rfl ?_
  refine gI_X8_15 ok_15 dX8_advance_53 ?_
  obtain ⟨p56, e56, h⟩ := obind h
  refine g_vP1 mv_X8_76 dX8_advance_56 ok_1 ⟨by decide, by decide⟩ (Nat.le_of_ble_eq_true rfl) (f_X10_byteAt_ok e56) ?_
  refine g_istore1 dX8_advance_59 ?_
  refine g_aload_n dX8_advance_60 rfl ?_
  refine gI_X8_15 ok_15 dX8_advance_61 ?_
  refine g_aload_n dX8_advance_64 rfl ?_
  refine gI_X8_9 ok_15 dX8_advance_65 ?_
  refine g_icmp_lt 79 dX8_advance_68 rfl (fun q => ?_) (fun q => ?_)
  · replace h := gif_t q h
    refine g_iload_n dX8_advance_79 rfl ?_
    obtain ⟨p80, e80, h⟩ := obind h
    refine g_sP1 ms_X8_82 dX8_advance_80 ⟨by decide, by decide⟩ (Nat.le_of_ble_eq_true rfl) (f_X10_isLetter_ok e80) ?_
    refine g_if_eq 93 dX8_advance_83 rfl (fun q => ?_) (fun q => ?_)
    · replace h := gif_t q h
      refine g_iload_n dX8_advance_93 rfl ?_
      obtain ⟨p94, e94, h⟩ := obind h
      refine g_sP1 ms_X8_88 dX8_advance_94 ⟨by decide, by decide⟩ (Nat.le_of_ble_eq_true rfl) (f_X8_isDigit_ok e94) ?_
      refine g_if_eq 107 dX8_advance_97 rfl (fun q => ?_) (fun q => ?_)
      · replace h := gif_t q h
        refine g_aload_n dX8_advance_107 rfl ?_
        refine g_iload_n dX8_advance_108 rfl ?_
        refine g_bipush dX8_advance_109 kb_59 ?_
        refine g_icmp_eq 126 dX8_advance_111 rfl (fun q => ?_) (fun q => ?_)
        · replace h := gif_t q h
          refine g_iload_n dX8_advance_126 rfl ?_
          refine g_goto 131 dX8_advance_127 rfl ?_
          refine gP_X8_18 ok_15 dX8_advance_131 ?_
          refine g_aload_n dX8_advance_134 rfl ?_
          refine g_dup dX8_advance_135 rfl ?_
          refine gI_X8_15 ok_15 dX8_advance_136 ?_
          refine g_iconst dX8_advance_139 kc_1 ?_
          refine g_iadd dX8_advance_140 ?_
          refine gP_X8_15 ok_15 dX8_advance_141 ?_
          cases h
          exact g_vret dX8_advance_144 rfl ⟨rfl, rfl⟩
        · replace h := gif_f q h
          refine g_iload_n dX8_advance_114 rfl ?_
          refine g_bipush dX8_advance_115 kb_44 ?_
          refine g_icmp_eq 126 dX8_advance_117 rfl (fun q => ?_) (fun q => ?_)
          · replace h := gif_t q h
            refine g_iload_n dX8_advance_126 rfl ?_
            refine g_goto 131 dX8_advance_127 rfl ?_
            refine gP_X8_18 ok_15 dX8_advance_131 ?_
            refine g_aload_n dX8_advance_134 rfl ?_
            refine g_dup dX8_advance_135 rfl ?_
            refine gI_X8_15 ok_15 dX8_advance_136 ?_
            refine g_iconst dX8_advance_139 kc_1 ?_
            refine g_iadd dX8_advance_140 ?_
            refine gP_X8_15 ok_15 dX8_advance_141 ?_
            cases h
            exact g_vret dX8_advance_144 rfl ⟨rfl, rfl⟩
          · replace h := gif_f q h
            refine g_iload_n dX8_advance_120 rfl ?_
            refine g_bipush dX8_advance_121 kb_58 ?_
            refine g_icmp_ne 130 dX8_advance_123 rfl (fun q => ?_) (fun q => ?_)
            · replace h := gif_f q h
              refine g_iconst dX8_advance_130 kc_3 ?_
              refine gP_X8_18 ok_15 dX8_advance_131 ?_
              refine g_aload_n dX8_advance_134 rfl ?_
              refine g_dup dX8_advance_135 rfl ?_
              refine gI_X8_15 ok_15 dX8_advance_136 ?_
              refine g_iconst dX8_advance_139 kc_1 ?_
              refine g_iadd dX8_advance_140 ?_
              refine gP_X8_15 ok_15 dX8_advance_141 ?_
              cases h
              exact g_vret dX8_advance_144 rfl ⟨rfl, rfl⟩
            · replace h := gif_t q h
              refine g_iload_n dX8_advance_126 rfl ?_
              refine g_goto 131 dX8_advance_127 rfl ?_
              refine gP_X8_18 ok_15 dX8_advance_131 ?_
              refine g_aload_n dX8_advance_134 rfl ?_
              refine g_dup dX8_advance_135 rfl ?_
              refine gI_X8_15 ok_15 dX8_advance_136 ?_
              refine g_iconst dX8_advance_139 kc_1 ?_
              refine g_iadd dX8_advance_140 ?_
              refine gP_X8_15 ok_15 dX8_advance_141 ?_
              cases h
              exact g_vret dX8_advance_144 rfl ⟨rfl, rfl⟩
      · replace h := gif_f q h
        refine g_aload_n dX8_advance_100 rfl ?_
        obtain ⟨z101, e101, h⟩ := obind h
        refine g_vU0 mv_X8_91 dX8_advance_101 ok_15 ⟨by decide, by decide⟩ (Nat.le_of_ble_eq_true rfl) (f_X8_readWhole_ok e101) ?_
        refine g_goto 144 dX8_advance_104 rfl ?_
        cases h
        exact g_vret dX8_advance_144 rfl ⟨rfl, rfl⟩
    · replace h := gif_f q h
      refine g_aload_n dX8_advance_86 rfl ?_
      obtain ⟨z87, e87, h⟩ := obind h
      refine g_vU0 mv_X8_85 dX8_advance_87 ok_15 ⟨by decide, by decide⟩ (Nat.le_of_ble_eq_true rfl) (f_X8_readWord_ok e87) ?_
      refine g_goto 144 dX8_advance_90 rfl ?_
      cases h
      exact g_vret dX8_advance_144 rfl ⟨rfl, rfl⟩
  · replace h := gif_f q h
    refine g_aload_n dX8_advance_71 rfl ?_
    refine g_iconst dX8_advance_72 kc_0 ?_
    refine gP_X8_18 ok_15 dX8_advance_73 ?_
    refine g_goto 144 dX8_advance_76 rfl ?_
    cases h
    exact g_vret dX8_advance_144 rfl ⟨rfl, rfl⟩
theorem f_X8_advance_0_ok  {r : gSt}  : ∀ (n : Nat)  {σ : gSt} {x1 : Option Value}, f_X8_advance_0 n σ = some r → G l w 0 41 RX8 cX8_advance 2 none 2 41 (gE none r) 0 [some (.ref (w.2.1 15 0)), x1] [] σ := by
  intro n
  induction n with
  | zero => intro σ x1 h; rw [f_X8_advance_0] at h; cases h
  | succ n ih =>
    intro σ x1 h
    rw [f_X8_advance_0] at h
    refine g_aload_n dX8_advance_0 rfl ?_
    refine gI_X8_15 ok_15 dX8_advance_1 ?_
    refine g_aload_n dX8_advance_4 rfl ?_
    refine gI_X8_9 ok_15 dX8_advance_5 ?_
    refine g_icmp_ge 40 dX8_advance_8 rfl (fun q => ?_) (fun q => ?_)
    · replace h := gif_t q h
      exact f_X8_advance_40_ok h
    · replace h := gif_f q h
      refine g_aload_n dX8_advance_11 rfl ?_
      refine gR_X8_33 ok_15 dX8_advance_12 ?_
      refine g_aload_n dX8_advance_15 rfl ?_
      refine gI_X8_15 ok_15 dX8_advance_16 ?_
      obtain ⟨p19, e19, h⟩ := obind h
      refine g_vP1 mv_X8_76 dX8_advance_19 ok_1 ⟨by decide, by decide⟩ (Nat.le_of_ble_eq_true rfl) (f_X10_byteAt_ok e19) ?_
      refine g_bipush dX8_advance_22 kb_32 ?_
      refine g_icmp_ne 40 dX8_advance_24 rfl (fun q => ?_) (fun q => ?_)
      · replace h := gif_f q h
        exact f_X8_advance_40_ok h
      · replace h := gif_t q h
        refine g_aload_n dX8_advance_27 rfl ?_
        refine g_dup dX8_advance_28 rfl ?_
        refine gI_X8_15 ok_15 dX8_advance_29 ?_
        refine g_iconst dX8_advance_32 kc_1 ?_
        refine g_iadd dX8_advance_33 ?_
        refine gP_X8_15 ok_15 dX8_advance_34 ?_
        refine g_goto 0 dX8_advance_37 rfl ?_
        exact ih h
theorem f_X8_advance_ok   {σ : gSt} {r : gSt} (h : f_X8_advance σ = some r) : Mt l w 0 41 yX8_advance cX8_advance 2 none 2 41 [.ref (w.2.1 15 0)] σ (gE none r) := by
  unfold f_X8_advance at h
  refine g_start pn_X8 rfl rfl (Nat.le_of_ble_eq_true rfl) ?_
  show G l w 0 41 RX8 cX8_advance 2 none 2 41 (gE none r) 0 [some (.ref (w.2.1 15 0)), none] [] σ
  exact f_X8_advance_0_ok gFuel h
theorem dX8_isWord_0 : decode cX8_isWord 0 = .ok (.aload_n 0, 1) := by decide +kernel
theorem dX8_isWord_1 : decode cX8_isWord 1 = .ok (.getfield 18, 3) := by decide +kernel
theorem dX8_isWord_4 : decode cX8_isWord 4 = .ok (.iconst 1, 1) := by decide +kernel
theorem dX8_isWord_5 : decode cX8_isWord 5 = .ok (.if_icmp .ne 15, 3) := by decide +kernel
theorem dX8_isWord_8 : decode cX8_isWord 8 = .ok (.aload_n 0, 1) := by decide +kernel
theorem dX8_isWord_9 : decode cX8_isWord 9 = .ok (.getfield 21, 3) := by decide +kernel
theorem dX8_isWord_12 : decode cX8_isWord 12 = .ok (.iload_n 1, 1) := by decide +kernel
theorem dX8_isWord_13 : decode cX8_isWord 13 = .ok (.if_icmp .ne 7, 3) := by decide +kernel
theorem dX8_isWord_16 : decode cX8_isWord 16 = .ok (.iconst 1, 1) := by decide +kernel
theorem dX8_isWord_17 : decode cX8_isWord 17 = .ok (.goto 4, 3) := by decide +kernel
theorem dX8_isWord_20 : decode cX8_isWord 20 = .ok (.iconst 0, 1) := by decide +kernel
theorem dX8_isWord_21 : decode cX8_isWord 21 = .ok (.ireturn, 1) := by decide +kernel
def f_X8_isWord (v1 : Int32) (σ : gSt) : Option (Int32 × gSt) :=
  if (σ 15 0 4) = 1 then
    if (σ 15 0 5) = v1 then
      some (1, σ)
    else
      some (0, σ)
  else
    some (0, σ)
theorem f_X8_isWord_ok {v1 : Int32}  {σ : gSt} {r : (Int32 × gSt)} (h : f_X8_isWord v1 σ = some r) : Mt l w 0 41 yX8_isWord cX8_isWord 2 (some .boolean) 0 0 [.ref (w.2.1 15 0), .int v1] σ (gE (some (.int r.1)) r.2) := by
  unfold f_X8_isWord at h
  refine g_start pn_X8 rfl rfl (Nat.le_of_ble_eq_true rfl) ?_
  show G l w 0 41 RX8 cX8_isWord 2 (some .boolean) 0 0 (gE (some (.int r.1)) r.2) 0 [some (.ref (w.2.1 15 0)), some (.int v1)] [] σ
  refine g_aload_n dX8_isWord_0 rfl ?_
  refine gI_X8_18 ok_15 dX8_isWord_1 ?_
  refine g_iconst dX8_isWord_4 kc_1 ?_
  refine g_icmp_ne 20 dX8_isWord_5 rfl (fun q => ?_) (fun q => ?_)
  · replace h := gif_f q h
    refine g_iconst dX8_isWord_20 kc_0 ?_
    cases h
    exact g_zret0 dX8_isWord_21 rfl
  · replace h := gif_t q h
    refine g_aload_n dX8_isWord_8 rfl ?_
    refine gI_X8_21 ok_15 dX8_isWord_9 ?_
    refine g_iload_n dX8_isWord_12 rfl ?_
    refine g_icmp_ne 20 dX8_isWord_13 rfl (fun q => ?_) (fun q => ?_)
    · replace h := gif_f q h
      refine g_iconst dX8_isWord_20 kc_0 ?_
      cases h
      exact g_zret0 dX8_isWord_21 rfl
    · replace h := gif_t q h
      refine g_iconst dX8_isWord_16 kc_1 ?_
      refine g_goto 21 dX8_isWord_17 rfl ?_
      cases h
      exact g_zret1 dX8_isWord_21 rfl
theorem dX8_isWhole_0 : decode cX8_isWhole 0 = .ok (.aload_n 0, 1) := by decide +kernel
theorem dX8_isWhole_1 : decode cX8_isWhole 1 = .ok (.getfield 18, 3) := by decide +kernel
theorem dX8_isWhole_4 : decode cX8_isWhole 4 = .ok (.iconst 2, 1) := by decide +kernel
theorem dX8_isWhole_5 : decode cX8_isWhole 5 = .ok (.if_icmp .eq 9, 3) := by decide +kernel
theorem dX8_isWhole_8 : decode cX8_isWhole 8 = .ok (.aload_n 0, 1) := by decide +kernel
theorem dX8_isWhole_9 : decode cX8_isWhole 9 = .ok (.iconst 1, 1) := by decide +kernel
theorem dX8_isWhole_10 : decode cX8_isWhole 10 = .ok (.invokevirtual 65, 3) := by decide +kernel
theorem dX8_isWhole_13 : decode cX8_isWhole 13 = .ok (.ireturn, 1) := by decide +kernel
theorem dX8_isWhole_14 : decode cX8_isWhole 14 = .ok (.aload_n 0, 1) := by decide +kernel
theorem dX8_isWhole_15 : decode cX8_isWhole 15 = .ok (.getfield 21, 3) := by decide +kernel
theorem dX8_isWhole_18 : decode cX8_isWhole 18 = .ok (.iload_n 1, 1) := by decide +kernel
theorem dX8_isWhole_19 : decode cX8_isWhole 19 = .ok (.if_icmp .lt 11, 3) := by decide +kernel
theorem dX8_isWhole_22 : decode cX8_isWhole 22 = .ok (.aload_n 0, 1) := by decide +kernel
theorem dX8_isWhole_23 : decode cX8_isWhole 23 = .ok (.getfield 21, 3) := by decide +kernel
theorem dX8_isWhole_26 : decode cX8_isWhole 26 = .ok (.iload_n 2, 1) := by decide +kernel
theorem dX8_isWhole_27 : decode cX8_isWhole 27 = .ok (.if_icmp .le 11, 3) := by decide +kernel
theorem dX8_isWhole_30 : decode cX8_isWhole 30 = .ok (.aload_n 0, 1) := by decide +kernel
theorem dX8_isWhole_31 : decode cX8_isWhole 31 = .ok (.iconst 2, 1) := by decide +kernel
theorem dX8_isWhole_32 : decode cX8_isWhole 32 = .ok (.invokevirtual 65, 3) := by decide +kernel
theorem dX8_isWhole_35 : decode cX8_isWhole 35 = .ok (.ifCond .eq 7, 3) := by decide +kernel
theorem dX8_isWhole_38 : decode cX8_isWhole 38 = .ok (.iconst 1, 1) := by decide +kernel
theorem dX8_isWhole_39 : decode cX8_isWhole 39 = .ok (.goto 4, 3) := by decide +kernel
theorem dX8_isWhole_42 : decode cX8_isWhole 42 = .ok (.iconst 0, 1) := by decide +kernel
theorem dX8_isWhole_43 : decode cX8_isWhole 43 = .ok (.ireturn, 1) := by decide +kernel
def f_X8_isWhole_30  (σ : gSt) : Option (Int32 × gSt) :=
  (f_X8_failed 2 σ).bind fun p32 =>
  if p32.1 = 0 then
    some (0, p32.2)
  else
    some (1, p32.2)
def f_X8_isWhole (v1 : Int32) (v2 : Int32) (σ : gSt) : Option (Int32 × gSt) :=
  if (σ 15 0 4) = 2 then
    if (σ 15 0 5) < v1 then
      f_X8_isWhole_30 σ
    else
      if (σ 15 0 5) ≤ v2 then
        some (1, σ)
      else
        f_X8_isWhole_30 σ
  else
    (f_X8_failed 1 σ).bind fun p10 =>
    gzr p10.1 p10.2
theorem f_X8_isWhole_30_ok  {r : (Int32 × gSt)}  {σ : gSt} {x1 x2 : Option Value} (h : f_X8_isWhole_30 σ = some r) : G l w 0 41 RX8 cX8_isWhole 3 (some .boolean) 1 21 (gE (some (.int r.1)) r.2) 30 [some (.ref (w.2.1 15 0)), x1, x2] [] σ := by
  unfold f_X8_isWhole_30 at h
  refine g_aload_n dX8_isWhole_30 rfl ?_
  refine g_iconst dX8_isWhole_31 kc_2 ?_
  obtain ⟨p32, e32, h⟩ := obind h
  refine g_vP1 mv_X8_65 dX8_isWhole_32 ok_15 ⟨by decide, by decide⟩ (Nat.le_of_ble_eq_true rfl) (f_X8_failed_ok e32) ?_
  refine g_if_eq 42 dX8_isWhole_35 rfl (fun q => ?_) (fun q => ?_)
  · replace h := gif_t q h
    refine g_iconst dX8_isWhole_42 kc_0 ?_
    cases h
    exact g_zret0 dX8_isWhole_43 rfl
  · replace h := gif_f q h
    refine g_iconst dX8_isWhole_38 kc_1 ?_
    refine g_goto 43 dX8_isWhole_39 rfl ?_
    cases h
    exact g_zret1 dX8_isWhole_43 rfl
theorem f_X8_isWhole_ok {v1 : Int32} {v2 : Int32}  {σ : gSt} {r : (Int32 × gSt)} (h : f_X8_isWhole v1 v2 σ = some r) : Mt l w 0 41 yX8_isWhole cX8_isWhole 3 (some .boolean) 1 21 [.ref (w.2.1 15 0), .int v1, .int v2] σ (gE (some (.int r.1)) r.2) := by
  unfold f_X8_isWhole at h
  refine g_start pn_X8 rfl rfl (Nat.le_of_ble_eq_true rfl) ?_
  show G l w 0 41 RX8 cX8_isWhole 3 (some .boolean) 1 21 (gE (some (.int r.1)) r.2) 0 [some (.ref (w.2.1 15 0)), some (.int v1), some (.int v2)] [] σ
  refine g_aload_n dX8_isWhole_0 rfl ?_
  refine gI_X8_18 ok_15 dX8_isWhole_1 ?_
  refine g_iconst dX8_isWhole_4 kc_2 ?_
  refine g_icmp_eq 14 dX8_isWhole_5 rfl (fun q => ?_) (fun q => ?_)
  · replace h := gif_t q h
    refine g_aload_n dX8_isWhole_14 rfl ?_
    refine gI_X8_21 ok_15 dX8_isWhole_15 ?_
    refine g_iload_n dX8_isWhole_18 rfl ?_
    refine g_icmp_lt 30 dX8_isWhole_19 rfl (fun q => ?_) (fun q => ?_)
    · replace h := gif_t q h
      exact f_X8_isWhole_30_ok h
    · replace h := gif_f q h
      refine g_aload_n dX8_isWhole_22 rfl ?_
      refine gI_X8_21 ok_15 dX8_isWhole_23 ?_
      refine g_iload_n dX8_isWhole_26 rfl ?_
      refine g_icmp_le 38 dX8_isWhole_27 rfl (fun q => ?_) (fun q => ?_)
      · replace h := gif_t q h
        refine g_iconst dX8_isWhole_38 kc_1 ?_
        refine g_goto 43 dX8_isWhole_39 rfl ?_
        cases h
        exact g_zret1 dX8_isWhole_43 rfl
      · replace h := gif_f q h
        exact f_X8_isWhole_30_ok h
  · replace h := gif_f q h
    refine g_aload_n dX8_isWhole_8 rfl ?_
    refine g_iconst dX8_isWhole_9 kc_1 ?_
    obtain ⟨p10, e10, h⟩ := obind h
    refine g_vP1 mv_X8_65 dX8_isWhole_10 ok_15 ⟨by decide, by decide⟩ (Nat.le_of_ble_eq_true rfl) (f_X8_failed_ok e10) ?_
    exact g_zretG h dX8_isWhole_13 rfl
theorem dX8_readWidth_0 : decode cX8_readWidth 0 = .ok (.iconst 1, 1) := by decide +kernel
theorem dX8_readWidth_1 : decode cX8_readWidth 1 = .ok (.iload_n 1, 1) := by decide +kernel
theorem dX8_readWidth_2 : decode cX8_readWidth 2 = .ok (.ishl, 1) := by decide +kernel
theorem dX8_readWidth_3 : decode cX8_readWidth 3 = .ok (.istore_n 2, 1) := by decide +kernel
theorem dX8_readWidth_4 : decode cX8_readWidth 4 = .ok (.aload_n 0, 1) := by decide +kernel
theorem dX8_readWidth_5 : decode cX8_readWidth 5 = .ok (.getfield 24, 3) := by decide +kernel
theorem dX8_readWidth_8 : decode cX8_readWidth 8 = .ok (.iload_n 2, 1) := by decide +kernel
theorem dX8_readWidth_9 : decode cX8_readWidth 9 = .ok (.iand, 1) := by decide +kernel
theorem dX8_readWidth_10 : decode cX8_readWidth 10 = .ok (.ifCond .eq 9, 3) := by decide +kernel
theorem dX8_readWidth_13 : decode cX8_readWidth 13 = .ok (.aload_n 0, 1) := by decide +kernel
theorem dX8_readWidth_14 : decode cX8_readWidth 14 = .ok (.iconst 3, 1) := by decide +kernel
theorem dX8_readWidth_15 : decode cX8_readWidth 15 = .ok (.invokevirtual 65, 3) := by decide +kernel
theorem dX8_readWidth_18 : decode cX8_readWidth 18 = .ok (.ireturn, 1) := by decide +kernel
theorem dX8_readWidth_19 : decode cX8_readWidth 19 = .ok (.aload_n 0, 1) := by decide +kernel
theorem dX8_readWidth_20 : decode cX8_readWidth 20 = .ok (.dup, 1) := by decide +kernel
theorem dX8_readWidth_21 : decode cX8_readWidth 21 = .ok (.getfield 24, 3) := by decide +kernel
theorem dX8_readWidth_24 : decode cX8_readWidth 24 = .ok (.iload_n 2, 1) := by decide +kernel
theorem dX8_readWidth_25 : decode cX8_readWidth 25 = .ok (.ior, 1) := by decide +kernel
theorem dX8_readWidth_26 : decode cX8_readWidth 26 = .ok (.putfield 24, 3) := by decide +kernel
theorem dX8_readWidth_29 : decode cX8_readWidth 29 = .ok (.aload_n 0, 1) := by decide +kernel
theorem dX8_readWidth_30 : decode cX8_readWidth 30 = .ok (.invokevirtual 45, 3) := by decide +kernel
theorem dX8_readWidth_33 : decode cX8_readWidth 33 = .ok (.aload_n 0, 1) := by decide +kernel
theorem dX8_readWidth_34 : decode cX8_readWidth 34 = .ok (.iconst 0, 1) := by decide +kernel
theorem dX8_readWidth_35 : decode cX8_readWidth 35 = .ok (.sipush 600, 3) := by decide +kernel
theorem dX8_readWidth_38 : decode cX8_readWidth 38 = .ok (.invokevirtual 105, 3) := by decide +kernel
theorem dX8_readWidth_41 : decode cX8_readWidth 41 = .ok (.ifCond .ne 5, 3) := by decide +kernel
theorem dX8_readWidth_44 : decode cX8_readWidth 44 = .ok (.iconst 0, 1) := by decide +kernel
theorem dX8_readWidth_45 : decode cX8_readWidth 45 = .ok (.ireturn, 1) := by decide +kernel
theorem dX8_readWidth_46 : decode cX8_readWidth 46 = .ok (.aload_n 0, 1) := by decide +kernel
theorem dX8_readWidth_47 : decode cX8_readWidth 47 = .ok (.getfield 37, 3) := by decide +kernel
theorem dX8_readWidth_50 : decode cX8_readWidth 50 = .ok (.iload_n 1, 1) := by decide +kernel
theorem dX8_readWidth_51 : decode cX8_readWidth 51 = .ok (.aload_n 0, 1) := by decide +kernel
theorem dX8_readWidth_52 : decode cX8_readWidth 52 = .ok (.getfield 21, 3) := by decide +kernel
theorem dX8_readWidth_55 : decode cX8_readWidth 55 = .ok (.invokevirtual 149, 3) := by decide +kernel
theorem dX8_readWidth_58 : decode cX8_readWidth 58 = .ok (.aload_n 0, 1) := by decide +kernel
theorem dX8_readWidth_59 : decode cX8_readWidth 59 = .ok (.invokevirtual 45, 3) := by decide +kernel
theorem dX8_readWidth_62 : decode cX8_readWidth 62 = .ok (.iconst 1, 1) := by decide +kernel
theorem dX8_readWidth_63 : decode cX8_readWidth 63 = .ok (.ireturn, 1) := by decide +kernel
def f_X8_readWidth (v1 : Int32) (σ : gSt) : Option (Int32 × gSt) :=
  if ((σ 15 0 6) &&& (1 <<< (v1 &&& 31))) = 0 then
    (f_X8_advance (gup σ 15 0 6 ((σ 15 0 6) ||| (1 <<< (v1 &&& 31))))).bind fun z30 =>
    (f_X8_isWhole 0 600 z30).bind fun p38 =>
    if p38.1 = 0 then
      some (0, p38.2)
    else
      (f_X4_widen 0 v1 (p38.2 15 0 5) p38.2).bind fun z55 =>
      (f_X8_advance z55).bind fun z59 =>
      some (1, z59)
  else
    (f_X8_failed 3 σ).bind fun p15 =>
    gzr p15.1 p15.2
theorem f_X8_readWidth_ok {v1 : Int32}  {σ : gSt} {r : (Int32 × gSt)} (h : f_X8_readWidth v1 σ = some r) : Mt l w 0 41 yX8_readWidth cX8_readWidth 3 (some .boolean) 3 62 [.ref (w.2.1 15 0), .int v1] σ (gE (some (.int r.1)) r.2) := by
  unfold f_X8_readWidth at h
  refine g_start pn_X8 rfl rfl (Nat.le_of_ble_eq_true rfl) ?_
  show G l w 0 41 RX8 cX8_readWidth 3 (some .boolean) 3 62 (gE (some (.int r.1)) r.2) 0 [some (.ref (w.2.1 15 0)), some (.int v1), none] [] σ
  refine g_iconst dX8_readWidth_0 kc_1 ?_
  refine g_iload_n dX8_readWidth_1 rfl ?_
  refine g_ishl dX8_readWidth_2 ?_
  refine g_istore2 dX8_readWidth_3 ?_
  refine g_aload_n dX8_readWidth_4 rfl ?_
  refine gI_X8_24 ok_15 dX8_readWidth_5 ?_
  refine g_iload_n dX8_readWidth_8 rfl ?_
  refine g_iand dX8_readWidth_9 ?_
  refine g_if_eq 19 dX8_readWidth_10 rfl (fun q => ?_) (fun q => ?_)
  · replace h := gif_t q h
    refine g_aload_n dX8_readWidth_19 rfl ?_
    refine g_dup dX8_readWidth_20 rfl ?_
    refine gI_X8_24 ok_15 dX8_readWidth_21 ?_
    refine g_iload_n dX8_readWidth_24 rfl ?_
    refine g_ior dX8_readWidth_25 ?_
    refine gP_X8_24 ok_15 dX8_readWidth_26 ?_
    refine g_aload_n dX8_readWidth_29 rfl ?_
    obtain ⟨z30, e30, h⟩ := obind h
    refine g_vU0 mv_X8_45 dX8_readWidth_30 ok_15 ⟨by decide, by decide⟩ (Nat.le_of_ble_eq_true rfl) (f_X8_advance_ok e30) ?_
    refine g_aload_n dX8_readWidth_33 rfl ?_
    refine g_iconst dX8_readWidth_34 kc_0 ?_
    refine g_sipush dX8_readWidth_35 ks_600 ?_
    obtain ⟨p38, e38, h⟩ := obind h
    refine g_vP2 mv_X8_105 dX8_readWidth_38 ok_15 ⟨by decide, by decide⟩ (Nat.le_of_ble_eq_true rfl) (f_X8_isWhole_ok e38) ?_
    refine g_if_ne 46 dX8_readWidth_41 rfl (fun q => ?_) (fun q => ?_)
    · replace h := gif_f q h
      refine g_aload_n dX8_readWidth_46 rfl ?_
      refine gR_X8_37 ok_15 dX8_readWidth_47 ?_
      refine g_iload_n dX8_readWidth_50 rfl ?_
      refine g_aload_n dX8_readWidth_51 rfl ?_
      refine gI_X8_21 ok_15 dX8_readWidth_52 ?_
      obtain ⟨z55, e55, h⟩ := obind h
      refine g_vU2 mv_X8_149 dX8_readWidth_55 (ok_3 (by decide)) ⟨by decide, by decide⟩ (Nat.le_of_ble_eq_true rfl) (f_X4_widen_ok (by decide) e55) ?_
      refine g_aload_n dX8_readWidth_58 rfl ?_
      obtain ⟨z59, e59, h⟩ := obind h
      refine g_vU0 mv_X8_45 dX8_readWidth_59 ok_15 ⟨by decide, by decide⟩ (Nat.le_of_ble_eq_true rfl) (f_X8_advance_ok e59) ?_
      refine g_iconst dX8_readWidth_62 kc_1 ?_
      cases h
      exact g_zret1 dX8_readWidth_63 rfl
    · replace h := gif_t q h
      refine g_iconst dX8_readWidth_44 kc_0 ?_
      cases h
      exact g_zret0 dX8_readWidth_45 rfl
  · replace h := gif_f q h
    refine g_aload_n dX8_readWidth_13 rfl ?_
    refine g_iconst dX8_readWidth_14 kc_3 ?_
    obtain ⟨p15, e15, h⟩ := obind h
    refine g_vP1 mv_X8_65 dX8_readWidth_15 ok_15 ⟨by decide, by decide⟩ (Nat.le_of_ble_eq_true rfl) (f_X8_failed_ok e15) ?_
    exact g_zretG h dX8_readWidth_18 rfl
theorem dX8_isName_0 : decode cX8_isName 0 = .ok (.aload_n 0, 1) := by decide +kernel
theorem dX8_isName_1 : decode cX8_isName 1 = .ok (.ldc 48, 2) := by decide +kernel
theorem dX8_isName_3 : decode cX8_isName 3 = .ok (.invokevirtual 49, 3) := by decide +kernel
theorem dX8_isName_6 : decode cX8_isName 6 = .ok (.ifCond .ne 31, 3) := by decide +kernel
theorem dX8_isName_9 : decode cX8_isName 9 = .ok (.aload_n 0, 1) := by decide +kernel
theorem dX8_isName_10 : decode cX8_isName 10 = .ok (.ldc 57, 2) := by decide +kernel
theorem dX8_isName_12 : decode cX8_isName 12 = .ok (.invokevirtual 49, 3) := by decide +kernel
theorem dX8_isName_15 : decode cX8_isName 15 = .ok (.ifCond .ne 22, 3) := by decide +kernel
theorem dX8_isName_18 : decode cX8_isName 18 = .ok (.aload_n 0, 1) := by decide +kernel
theorem dX8_isName_19 : decode cX8_isName 19 = .ok (.sipush 7216, 3) := by decide +kernel
theorem dX8_isName_22 : decode cX8_isName 22 = .ok (.invokevirtual 49, 3) := by decide +kernel
theorem dX8_isName_25 : decode cX8_isName 25 = .ok (.ifCond .ne 12, 3) := by decide +kernel
theorem dX8_isName_28 : decode cX8_isName 28 = .ok (.aload_n 0, 1) := by decide +kernel
theorem dX8_isName_29 : decode cX8_isName 29 = .ok (.ldc 64, 2) := by decide +kernel
theorem dX8_isName_31 : decode cX8_isName 31 = .ok (.invokevirtual 49, 3) := by decide +kernel
theorem dX8_isName_34 : decode cX8_isName 34 = .ok (.ifCond .eq 7, 3) := by decide +kernel
theorem dX8_isName_37 : decode cX8_isName 37 = .ok (.iconst 1, 1) := by decide +kernel
theorem dX8_isName_38 : decode cX8_isName 38 = .ok (.goto 4, 3) := by decide +kernel
theorem dX8_isName_41 : decode cX8_isName 41 = .ok (.iconst 0, 1) := by decide +kernel
theorem dX8_isName_42 : decode cX8_isName 42 = .ok (.istore_n 1, 1) := by decide +kernel
theorem dX8_isName_43 : decode cX8_isName 43 = .ok (.aload_n 0, 1) := by decide +kernel
theorem dX8_isName_44 : decode cX8_isName 44 = .ok (.getfield 18, 3) := by decide +kernel
theorem dX8_isName_47 : decode cX8_isName 47 = .ok (.iconst 1, 1) := by decide +kernel
theorem dX8_isName_48 : decode cX8_isName 48 = .ok (.if_icmp .ne 7, 3) := by decide +kernel
theorem dX8_isName_51 : decode cX8_isName 51 = .ok (.iload_n 1, 1) := by decide +kernel
theorem dX8_isName_52 : decode cX8_isName 52 = .ok (.ifCond .eq 11, 3) := by decide +kernel
theorem dX8_isName_55 : decode cX8_isName 55 = .ok (.aload_n 0, 1) := by decide +kernel
theorem dX8_isName_56 : decode cX8_isName 56 = .ok (.iconst 1, 1) := by decide +kernel
theorem dX8_isName_57 : decode cX8_isName 57 = .ok (.invokevirtual 65, 3) := by decide +kernel
theorem dX8_isName_60 : decode cX8_isName 60 = .ok (.ifCond .eq 7, 3) := by decide +kernel
theorem dX8_isName_63 : decode cX8_isName 63 = .ok (.iconst 1, 1) := by decide +kernel
theorem dX8_isName_64 : decode cX8_isName 64 = .ok (.goto 4, 3) := by decide +kernel
theorem dX8_isName_67 : decode cX8_isName 67 = .ok (.iconst 0, 1) := by decide +kernel
theorem dX8_isName_68 : decode cX8_isName 68 = .ok (.ireturn, 1) := by decide +kernel
def f_X8_isName_55  (σ : gSt) : Option (Int32 × gSt) :=
  (f_X8_failed 1 σ).bind fun p57 =>
  if p57.1 = 0 then
    some (0, p57.2)
  else
    some (1, p57.2)
def f_X8_isName_42 (vs0 : Int32) (σ : gSt) : Option (Int32 × gSt) :=
  if (σ 15 0 4) = 1 then
    if vs0 = 0 then
      some (1, σ)
    else
      f_X8_isName_55 σ
  else
    f_X8_isName_55 σ
def f_X8_isName_37  (σ : gSt) : Option (Int32 × gSt) :=
  f_X8_isName_42 1 σ
def f_X8_isName (σ : gSt) : Option (Int32 × gSt) :=
  (f_X8_isWord 117099109 σ).bind fun p3 =>
  if p3.1 = 0 then
    (f_X8_isWord 626473138 p3.2).bind fun p12 =>
    if p12.1 = 0 then
      (f_X8_isWord 7216 p12.2).bind fun p22 =>
      if p22.1 = 0 then
        (f_X8_isWord 20317291 p22.2).bind fun p31 =>
        if p31.1 = 0 then
          f_X8_isName_42 0 p31.2
        else
          f_X8_isName_37 p31.2
      else
        f_X8_isName_37 p22.2
    else
      f_X8_isName_37 p12.2
  else
    f_X8_isName_37 p3.2
theorem f_X8_isName_55_ok  {r : (Int32 × gSt)}  {σ : gSt} {x1 : Option Value} (h : f_X8_isName_55 σ = some r) : G l w 0 41 RX8 cX8_isName 2 (some .boolean) 1 21 (gE (some (.int r.1)) r.2) 55 [some (.ref (w.2.1 15 0)), x1] [] σ := by
  unfold f_X8_isName_55 at h
  refine g_aload_n dX8_isName_55 rfl ?_
  refine g_iconst dX8_isName_56 kc_1 ?_
  obtain ⟨p57, e57, h⟩ := obind h
  refine g_vP1 mv_X8_65 dX8_isName_57 ok_15 ⟨by decide, by decide⟩ (Nat.le_of_ble_eq_true rfl) (f_X8_failed_ok e57) ?_
  refine g_if_eq 67 dX8_isName_60 rfl (fun q => ?_) (fun q => ?_)
  · replace h := gif_t q h
    refine g_iconst dX8_isName_67 kc_0 ?_
    cases h
    exact g_zret0 dX8_isName_68 rfl
  · replace h := gif_f q h
    refine g_iconst dX8_isName_63 kc_1 ?_
    refine g_goto 68 dX8_isName_64 rfl ?_
    cases h
    exact g_zret1 dX8_isName_68 rfl
theorem f_X8_isName_42_ok {vs0 : Int32} {r : (Int32 × gSt)}  {σ : gSt} {x1 : Option Value} (h : f_X8_isName_42 vs0 σ = some r) : G l w 0 41 RX8 cX8_isName 2 (some .boolean) 1 21 (gE (some (.int r.1)) r.2) 42 [some (.ref (w.2.1 15 0)), x1] [.int vs0] σ := by
  unfold f_X8_isName_42 at h
  refine g_istore1 dX8_isName_42 ?_
  refine g_aload_n dX8_isName_43 rfl ?_
  refine gI_X8_18 ok_15 dX8_isName_44 ?_
  refine g_iconst dX8_isName_47 kc_1 ?_
  refine g_icmp_ne 55 dX8_isName_48 rfl (fun q => ?_) (fun q => ?_)
  · replace h := gif_f q h
    exact f_X8_isName_55_ok h
  · replace h := gif_t q h
    refine g_iload_n dX8_isName_51 rfl ?_
    refine g_if_eq 63 dX8_isName_52 rfl (fun q => ?_) (fun q => ?_)
    · replace h := gif_t q h
      refine g_iconst dX8_isName_63 kc_1 ?_
      refine g_goto 68 dX8_isName_64 rfl ?_
      cases h
      exact g_zret1 dX8_isName_68 rfl
    · replace h := gif_f q h
      exact f_X8_isName_55_ok h
theorem f_X8_isName_37_ok  {r : (Int32 × gSt)}  {σ : gSt} {x1 : Option Value} (h : f_X8_isName_37 σ = some r) : G l w 0 41 RX8 cX8_isName 2 (some .boolean) 1 21 (gE (some (.int r.1)) r.2) 37 [some (.ref (w.2.1 15 0)), x1] [] σ := by
  unfold f_X8_isName_37 at h
  refine g_iconst dX8_isName_37 kc_1 ?_
  refine g_goto 42 dX8_isName_38 rfl ?_
  exact f_X8_isName_42_ok h
theorem f_X8_isName_ok   {σ : gSt} {r : (Int32 × gSt)} (h : f_X8_isName σ = some r) : Mt l w 0 41 yX8_isName cX8_isName 2 (some .boolean) 1 21 [.ref (w.2.1 15 0)] σ (gE (some (.int r.1)) r.2) := by
  unfold f_X8_isName at h
  refine g_start pn_X8 rfl rfl (Nat.le_of_ble_eq_true rfl) ?_
  show G l w 0 41 RX8 cX8_isName 2 (some .boolean) 1 21 (gE (some (.int r.1)) r.2) 0 [some (.ref (w.2.1 15 0)), none] [] σ
  refine g_aload_n dX8_isName_0 rfl ?_
  refine g_ldc kn_X8_48 dX8_isName_1 ?_
  obtain ⟨p3, e3, h⟩ := obind h
  refine g_vP1 mv_X8_49 dX8_isName_3 ok_15 ⟨by decide, by decide⟩ (Nat.le_of_ble_eq_true rfl) (f_X8_isWord_ok e3) ?_
  refine g_if_ne 37 dX8_isName_6 rfl (fun q => ?_) (fun q => ?_)
  · replace h := gif_f q h
    exact f_X8_isName_37_ok h
  · replace h := gif_t q h
    refine g_aload_n dX8_isName_9 rfl ?_
    refine g_ldc kn_X8_57 dX8_isName_10 ?_
    obtain ⟨p12, e12, h⟩ := obind h
    refine g_vP1 mv_X8_49 dX8_isName_12 ok_15 ⟨by decide, by decide⟩ (Nat.le_of_ble_eq_true rfl) (f_X8_isWord_ok e12) ?_
    refine g_if_ne 37 dX8_isName_15 rfl (fun q => ?_) (fun q => ?_)
    · replace h := gif_f q h
      exact f_X8_isName_37_ok h
    · replace h := gif_t q h
      refine g_aload_n dX8_isName_18 rfl ?_
      refine g_sipush dX8_isName_19 ks_7216 ?_
      obtain ⟨p22, e22, h⟩ := obind h
      refine g_vP1 mv_X8_49 dX8_isName_22 ok_15 ⟨by decide, by decide⟩ (Nat.le_of_ble_eq_true rfl) (f_X8_isWord_ok e22) ?_
      refine g_if_ne 37 dX8_isName_25 rfl (fun q => ?_) (fun q => ?_)
      · replace h := gif_f q h
        exact f_X8_isName_37_ok h
      · replace h := gif_t q h
        refine g_aload_n dX8_isName_28 rfl ?_
        refine g_ldc kn_X8_64 dX8_isName_29 ?_
        obtain ⟨p31, e31, h⟩ := obind h
        refine g_vP1 mv_X8_49 dX8_isName_31 ok_15 ⟨by decide, by decide⟩ (Nat.le_of_ble_eq_true rfl) (f_X8_isWord_ok e31) ?_
        refine g_if_eq 41 dX8_isName_34 rfl (fun q => ?_) (fun q => ?_)
        · replace h := gif_t q h
          refine g_iconst dX8_isName_41 kc_0 ?_
          exact f_X8_isName_42_ok h
        · replace h := gif_f q h
          exact f_X8_isName_37_ok h
theorem dX8_isNewName_0 : decode cX8_isNewName 0 = .ok (.aload_n 0, 1) := by decide +kernel
theorem dX8_isNewName_1 : decode cX8_isNewName 1 = .ok (.invokevirtual 125, 3) := by decide +kernel
theorem dX8_isNewName_4 : decode cX8_isNewName 4 = .ok (.ifCond .ne 5, 3) := by decide +kernel
theorem dX8_isNewName_7 : decode cX8_isNewName 7 = .ok (.iconst 0, 1) := by decide +kernel
theorem dX8_isNewName_8 : decode cX8_isNewName 8 = .ok (.ireturn, 1) := by decide +kernel
theorem dX8_isNewName_9 : decode cX8_isNewName 9 = .ok (.aload_n 0, 1) := by decide +kernel
theorem dX8_isNewName_10 : decode cX8_isNewName 10 = .ok (.getfield 37, 3) := by decide +kernel
theorem dX8_isNewName_13 : decode cX8_isNewName 13 = .ok (.aload_n 0, 1) := by decide +kernel
theorem dX8_isNewName_14 : decode cX8_isNewName 14 = .ok (.getfield 21, 3) := by decide +kernel
theorem dX8_isNewName_17 : decode cX8_isNewName 17 = .ok (.invokevirtual 128, 3) := by decide +kernel
theorem dX8_isNewName_20 : decode cX8_isNewName 20 = .ok (.iconst (-1), 1) := by decide +kernel
theorem dX8_isNewName_21 : decode cX8_isNewName 21 = .ok (.if_icmp .ne 18, 3) := by decide +kernel
theorem dX8_isNewName_24 : decode cX8_isNewName 24 = .ok (.aload_n 0, 1) := by decide +kernel
theorem dX8_isNewName_25 : decode cX8_isNewName 25 = .ok (.getfield 37, 3) := by decide +kernel
theorem dX8_isNewName_28 : decode cX8_isNewName 28 = .ok (.aload_n 0, 1) := by decide +kernel
theorem dX8_isNewName_29 : decode cX8_isNewName 29 = .ok (.getfield 21, 3) := by decide +kernel
theorem dX8_isNewName_32 : decode cX8_isNewName 32 = .ok (.invokevirtual 152, 3) := by decide +kernel
theorem dX8_isNewName_35 : decode cX8_isNewName 35 = .ok (.iconst (-1), 1) := by decide +kernel
theorem dX8_isNewName_36 : decode cX8_isNewName 36 = .ok (.if_icmp .eq 7, 3) := by decide +kernel
theorem dX8_isNewName_39 : decode cX8_isNewName 39 = .ok (.iconst 1, 1) := by decide +kernel
theorem dX8_isNewName_40 : decode cX8_isNewName 40 = .ok (.goto 4, 3) := by decide +kernel
theorem dX8_isNewName_43 : decode cX8_isNewName 43 = .ok (.iconst 0, 1) := by decide +kernel
theorem dX8_isNewName_44 : decode cX8_isNewName 44 = .ok (.istore_n 1, 1) := by decide +kernel
theorem dX8_isNewName_45 : decode cX8_isNewName 45 = .ok (.iload_n 1, 1) := by decide +kernel
theorem dX8_isNewName_46 : decode cX8_isNewName 46 = .ok (.ifCond .eq 11, 3) := by decide +kernel
theorem dX8_isNewName_49 : decode cX8_isNewName 49 = .ok (.aload_n 0, 1) := by decide +kernel
theorem dX8_isNewName_50 : decode cX8_isNewName 50 = .ok (.iconst 3, 1) := by decide +kernel
theorem dX8_isNewName_51 : decode cX8_isNewName 51 = .ok (.invokevirtual 65, 3) := by decide +kernel
theorem dX8_isNewName_54 : decode cX8_isNewName 54 = .ok (.ifCond .eq 7, 3) := by decide +kernel
theorem dX8_isNewName_57 : decode cX8_isNewName 57 = .ok (.iconst 1, 1) := by decide +kernel
theorem dX8_isNewName_58 : decode cX8_isNewName 58 = .ok (.goto 4, 3) := by decide +kernel
theorem dX8_isNewName_61 : decode cX8_isNewName 61 = .ok (.iconst 0, 1) := by decide +kernel
theorem dX8_isNewName_62 : decode cX8_isNewName 62 = .ok (.ireturn, 1) := by decide +kernel
def f_X8_isNewName_44 (vs0 : Int32) (σ : gSt) : Option (Int32 × gSt) :=
  if vs0 = 0 then
    some (1, σ)
  else
    (f_X8_failed 3 σ).bind fun p51 =>
    if p51.1 = 0 then
      some (0, p51.2)
    else
      some (1, p51.2)
def f_X8_isNewName_39  (σ : gSt) : Option (Int32 × gSt) :=
  f_X8_isNewName_44 1 σ
def f_X8_isNewName (σ : gSt) : Option (Int32 × gSt) :=
  (f_X8_isName σ).bind fun p1 =>
  if p1.1 = 0 then
    some (0, p1.2)
  else
    (f_X4_courseNamed 0 (p1.2 15 0 5) p1.2).bind fun p17 =>
    if p17.1 = (-1) then
      (f_X4_runnerNamed 0 (p17.2 15 0 5) p17.2).bind fun p32 =>
      if p32.1 = (-1) then
        f_X8_isNewName_44 0 p32.2
      else
        f_X8_isNewName_39 p32.2
    else
      f_X8_isNewName_39 p17.2
theorem f_X8_isNewName_44_ok {vs0 : Int32} {r : (Int32 × gSt)}  {σ : gSt} {x1 : Option Value} (h : f_X8_isNewName_44 vs0 σ = some r) : G l w 0 41 RX8 cX8_isNewName 2 (some .boolean) 2 43 (gE (some (.int r.1)) r.2) 44 [some (.ref (w.2.1 15 0)), x1] [.int vs0] σ := by
  unfold f_X8_isNewName_44 at h
  refine g_istore1 dX8_isNewName_44 ?_
  refine g_iload_n dX8_isNewName_45 rfl ?_
  refine g_if_eq 57 dX8_isNewName_46 rfl (fun q => ?_) (fun q => ?_)
  · replace h := gif_t q h
    refine g_iconst dX8_isNewName_57 kc_1 ?_
    refine g_goto 62 dX8_isNewName_58 rfl ?_
    cases h
    exact g_zret1 dX8_isNewName_62 rfl
  · replace h := gif_f q h
    refine g_aload_n dX8_isNewName_49 rfl ?_
    refine g_iconst dX8_isNewName_50 kc_3 ?_
    obtain ⟨p51, e51, h⟩ := obind h
    refine g_vP1 mv_X8_65 dX8_isNewName_51 ok_15 ⟨by decide, by decide⟩ (Nat.le_of_ble_eq_true rfl) (f_X8_failed_ok e51) ?_
    refine g_if_eq 61 dX8_isNewName_54 rfl (fun q => ?_) (fun q => ?_)
    · replace h := gif_t q h
      refine g_iconst dX8_isNewName_61 kc_0 ?_
      cases h
      exact g_zret0 dX8_isNewName_62 rfl
    · replace h := gif_f q h
      refine g_iconst dX8_isNewName_57 kc_1 ?_
      refine g_goto 62 dX8_isNewName_58 rfl ?_
      cases h
      exact g_zret1 dX8_isNewName_62 rfl
theorem f_X8_isNewName_39_ok  {r : (Int32 × gSt)}  {σ : gSt} {x1 : Option Value} (h : f_X8_isNewName_39 σ = some r) : G l w 0 41 RX8 cX8_isNewName 2 (some .boolean) 2 43 (gE (some (.int r.1)) r.2) 39 [some (.ref (w.2.1 15 0)), x1] [] σ := by
  unfold f_X8_isNewName_39 at h
  refine g_iconst dX8_isNewName_39 kc_1 ?_
  refine g_goto 44 dX8_isNewName_40 rfl ?_
  exact f_X8_isNewName_44_ok h
theorem f_X8_isNewName_ok   {σ : gSt} {r : (Int32 × gSt)} (h : f_X8_isNewName σ = some r) : Mt l w 0 41 yX8_isNewName cX8_isNewName 2 (some .boolean) 2 43 [.ref (w.2.1 15 0)] σ (gE (some (.int r.1)) r.2) := by
  unfold f_X8_isNewName at h
  refine g_start pn_X8 rfl rfl (Nat.le_of_ble_eq_true rfl) ?_
  show G l w 0 41 RX8 cX8_isNewName 2 (some .boolean) 2 43 (gE (some (.int r.1)) r.2) 0 [some (.ref (w.2.1 15 0)), none] [] σ
  refine g_aload_n dX8_isNewName_0 rfl ?_
  obtain ⟨p1, e1, h⟩ := obind h
  refine g_vP0 mv_X8_125 dX8_isNewName_1 ok_15 ⟨by decide, by decide⟩ (Nat.le_of_ble_eq_true rfl) (f_X8_isName_ok e1) ?_
  refine g_if_ne 9 dX8_isNewName_4 rfl (fun q => ?_) (fun q => ?_)
  · replace h := gif_f q h
    refine g_aload_n dX8_isNewName_9 rfl ?_
    refine gR_X8_37 ok_15 dX8_isNewName_10 ?_
    refine g_aload_n dX8_isNewName_13 rfl ?_
    refine gI_X8_21 ok_15 dX8_isNewName_14 ?_
    obtain ⟨p17, e17, h⟩ := obind h
    refine g_vP1 mv_X8_128 dX8_isNewName_17 (ok_3 (by decide)) ⟨by decide, by decide⟩ (Nat.le_of_ble_eq_true rfl) (f_X4_courseNamed_ok (by decide) e17) ?_
    refine g_iconst dX8_isNewName_20 kc_m1 ?_
    refine g_icmp_ne 39 dX8_isNewName_21 rfl (fun q => ?_) (fun q => ?_)
    · replace h := gif_f q h
      exact f_X8_isNewName_39_ok h
    · replace h := gif_t q h
      refine g_aload_n dX8_isNewName_24 rfl ?_
      refine gR_X8_37 ok_15 dX8_isNewName_25 ?_
      refine g_aload_n dX8_isNewName_28 rfl ?_
      refine gI_X8_21 ok_15 dX8_isNewName_29 ?_
      obtain ⟨p32, e32, h⟩ := obind h
      refine g_vP1 mv_X8_152 dX8_isNewName_32 (ok_3 (by decide)) ⟨by decide, by decide⟩ (Nat.le_of_ble_eq_true rfl) (f_X4_runnerNamed_ok (by decide) e32) ?_
      refine g_iconst dX8_isNewName_35 kc_m1 ?_
      refine g_icmp_eq 43 dX8_isNewName_36 rfl (fun q => ?_) (fun q => ?_)
      · replace h := gif_t q h
        refine g_iconst dX8_isNewName_43 kc_0 ?_
        exact f_X8_isNewName_44_ok h
      · replace h := gif_f q h
        exact f_X8_isNewName_39_ok h
  · replace h := gif_t q h
    refine g_iconst dX8_isNewName_7 kc_0 ?_
    cases h
    exact g_zret0 dX8_isNewName_8 rfl
theorem dX8_readPunches_0 : decode cX8_readPunches 0 = .ok (.aload_n 1, 1) := by decide +kernel
theorem dX8_readPunches_1 : decode cX8_readPunches 1 = .ok (.getfield 136, 3) := by decide +kernel
theorem dX8_readPunches_4 : decode cX8_readPunches 4 = .ok (.istore_n 2, 1) := by decide +kernel
theorem dX8_readPunches_5 : decode cX8_readPunches 5 = .ok (.iconst 0, 1) := by decide +kernel
theorem dX8_readPunches_6 : decode cX8_readPunches 6 = .ok (.istore_n 3, 1) := by decide +kernel
theorem dX8_readPunches_7 : decode cX8_readPunches 7 = .ok (.iload_n 3, 1) := by decide +kernel
theorem dX8_readPunches_8 : decode cX8_readPunches 8 = .ok (.bipush 16, 2) := by decide +kernel
theorem dX8_readPunches_10 : decode cX8_readPunches 10 = .ok (.if_icmp .gt 92, 3) := by decide +kernel
theorem dX8_readPunches_13 : decode cX8_readPunches 13 = .ok (.aload_n 0, 1) := by decide +kernel
theorem dX8_readPunches_14 : decode cX8_readPunches 14 = .ok (.invokevirtual 45, 3) := by decide +kernel
theorem dX8_readPunches_17 : decode cX8_readPunches 17 = .ok (.aload_n 0, 1) := by decide +kernel
theorem dX8_readPunches_18 : decode cX8_readPunches 18 = .ok (.iconst 1, 1) := by decide +kernel
theorem dX8_readPunches_19 : decode cX8_readPunches 19 = .ok (.bipush 99, 2) := by decide +kernel
theorem dX8_readPunches_21 : decode cX8_readPunches 21 = .ok (.invokevirtual 105, 3) := by decide +kernel
theorem dX8_readPunches_24 : decode cX8_readPunches 24 = .ok (.ifCond .ne 5, 3) := by decide +kernel
theorem dX8_readPunches_27 : decode cX8_readPunches 27 = .ok (.iconst 0, 1) := by decide +kernel
theorem dX8_readPunches_28 : decode cX8_readPunches 28 = .ok (.ireturn, 1) := by decide +kernel
theorem dX8_readPunches_29 : decode cX8_readPunches 29 = .ok (.iload_n 3, 1) := by decide +kernel
theorem dX8_readPunches_30 : decode cX8_readPunches 30 = .ok (.bipush 16, 2) := by decide +kernel
theorem dX8_readPunches_32 : decode cX8_readPunches 32 = .ok (.if_icmp .ne 9, 3) := by decide +kernel
theorem dX8_readPunches_35 : decode cX8_readPunches 35 = .ok (.aload_n 0, 1) := by decide +kernel
theorem dX8_readPunches_36 : decode cX8_readPunches 36 = .ok (.iconst 4, 1) := by decide +kernel
theorem dX8_readPunches_37 : decode cX8_readPunches 37 = .ok (.invokevirtual 65, 3) := by decide +kernel
theorem dX8_readPunches_40 : decode cX8_readPunches 40 = .ok (.ireturn, 1) := by decide +kernel
theorem dX8_readPunches_41 : decode cX8_readPunches 41 = .ok (.aload_n 0, 1) := by decide +kernel
theorem dX8_readPunches_42 : decode cX8_readPunches 42 = .ok (.getfield 21, 3) := by decide +kernel
theorem dX8_readPunches_45 : decode cX8_readPunches 45 = .ok (.istore 4, 2) := by decide +kernel
theorem dX8_readPunches_47 : decode cX8_readPunches 47 = .ok (.aload_n 0, 1) := by decide +kernel
theorem dX8_readPunches_48 : decode cX8_readPunches 48 = .ok (.invokevirtual 45, 3) := by decide +kernel
theorem dX8_readPunches_51 : decode cX8_readPunches 51 = .ok (.aload_n 0, 1) := by decide +kernel
theorem dX8_readPunches_52 : decode cX8_readPunches 52 = .ok (.iload_n 2, 1) := by decide +kernel
theorem dX8_readPunches_53 : decode cX8_readPunches 53 = .ok (.aload_n 1, 1) := by decide +kernel
theorem dX8_readPunches_54 : decode cX8_readPunches 54 = .ok (.getfield 139, 3) := by decide +kernel
theorem dX8_readPunches_57 : decode cX8_readPunches 57 = .ok (.invokevirtual 105, 3) := by decide +kernel
theorem dX8_readPunches_60 : decode cX8_readPunches 60 = .ok (.ifCond .ne 5, 3) := by decide +kernel
theorem dX8_readPunches_63 : decode cX8_readPunches 63 = .ok (.iconst 0, 1) := by decide +kernel
theorem dX8_readPunches_64 : decode cX8_readPunches 64 = .ok (.ireturn, 1) := by decide +kernel
theorem dX8_readPunches_65 : decode cX8_readPunches 65 = .ok (.aload_n 0, 1) := by decide +kernel
theorem dX8_readPunches_66 : decode cX8_readPunches 66 = .ok (.getfield 21, 3) := by decide +kernel
theorem dX8_readPunches_69 : decode cX8_readPunches 69 = .ok (.istore_n 2, 1) := by decide +kernel
theorem dX8_readPunches_70 : decode cX8_readPunches 70 = .ok (.aload_n 1, 1) := by decide +kernel
theorem dX8_readPunches_71 : decode cX8_readPunches 71 = .ok (.iload_n 3, 1) := by decide +kernel
theorem dX8_readPunches_72 : decode cX8_readPunches 72 = .ok (.iload 4, 2) := by decide +kernel
theorem dX8_readPunches_74 : decode cX8_readPunches 74 = .ok (.aload_n 0, 1) := by decide +kernel
theorem dX8_readPunches_75 : decode cX8_readPunches 75 = .ok (.getfield 21, 3) := by decide +kernel
theorem dX8_readPunches_78 : decode cX8_readPunches 78 = .ok (.invokevirtual 146, 3) := by decide +kernel
theorem dX8_readPunches_81 : decode cX8_readPunches 81 = .ok (.aload_n 0, 1) := by decide +kernel
theorem dX8_readPunches_82 : decode cX8_readPunches 82 = .ok (.invokevirtual 45, 3) := by decide +kernel
theorem dX8_readPunches_85 : decode cX8_readPunches 85 = .ok (.aload_n 0, 1) := by decide +kernel
theorem dX8_readPunches_86 : decode cX8_readPunches 86 = .ok (.getfield 18, 3) := by decide +kernel
theorem dX8_readPunches_89 : decode cX8_readPunches 89 = .ok (.bipush 44, 2) := by decide +kernel
theorem dX8_readPunches_91 : decode cX8_readPunches 91 = .ok (.if_icmp .eq 5, 3) := by decide +kernel
theorem dX8_readPunches_94 : decode cX8_readPunches 94 = .ok (.iconst 1, 1) := by decide +kernel
theorem dX8_readPunches_95 : decode cX8_readPunches 95 = .ok (.ireturn, 1) := by decide +kernel
theorem dX8_readPunches_96 : decode cX8_readPunches 96 = .ok (.iinc 3 1, 3) := by decide +kernel
theorem dX8_readPunches_99 : decode cX8_readPunches 99 = .ok (.goto (-92), 3) := by decide +kernel
theorem dX8_readPunches_102 : decode cX8_readPunches 102 = .ok (.aload_n 0, 1) := by decide +kernel
theorem dX8_readPunches_103 : decode cX8_readPunches 103 = .ok (.iconst 4, 1) := by decide +kernel
theorem dX8_readPunches_104 : decode cX8_readPunches 104 = .ok (.invokevirtual 65, 3) := by decide +kernel
theorem dX8_readPunches_107 : decode cX8_readPunches 107 = .ok (.ireturn, 1) := by decide +kernel
def f_X8_readPunches_7 (i1 : Nat) : Nat → Int32 → Int32 → gSt → Option (Int32 × gSt)
  | 0, _, _, _ => none
  | n + 1, v2, v3, σ =>
    if 16 < v3 then
      (f_X8_failed 4 σ).bind fun p104 =>
      gzr p104.1 p104.2
    else
      (f_X8_advance σ).bind fun z14 =>
      (f_X8_isWhole 1 99 z14).bind fun p21 =>
      if p21.1 = 0 then
        some (0, p21.2)
      else
        if v3 = 16 then
          (f_X8_failed 4 p21.2).bind fun p37 =>
          gzr p37.1 p37.2
        else
          (f_X8_advance p21.2).bind fun z48 =>
          (f_X8_isWhole v2 (z48 10 i1 7) z48).bind fun p57 =>
          if p57.1 = 0 then
            some (0, p57.2)
          else
            (f_X9_insert i1 v3 (p21.2 15 0 5) (p57.2 15 0 5) p57.2).bind fun z78 =>
            (f_X8_advance z78).bind fun z82 =>
            if (z82 15 0 4) = 44 then
              f_X8_readPunches_7 i1 n (p57.2 15 0 5) (v3 + 1) z82
            else
              some (1, z82)
def f_X8_readPunches (i1 : Nat) (σ : gSt) : Option (Int32 × gSt) :=
  f_X8_readPunches_7 i1 gFuel (σ 10 i1 6) 0 σ
theorem f_X8_readPunches_7_ok {i1 : Nat} {r : (Int32 × gSt)} (hi1 : i1 < 20) : ∀ (n : Nat) {v2 : Int32} {v3 : Int32} {σ : gSt} {x4 : Option Value}, f_X8_readPunches_7 i1 n v2 v3 σ = some r → G l w 0 41 RX8 cX8_readPunches 5 (some .boolean) 3 62 (gE (some (.int r.1)) r.2) 7 [some (.ref (w.2.1 15 0)), some (.ref (w.2.1 10 i1)), some (.int v2), some (.int v3), x4] [] σ := by
  intro n
  induction n with
  | zero => intro v2 v3 σ x4 h; rw [f_X8_readPunches_7] at h; cases h
  | succ n ih =>
    intro v2 v3 σ x4 h
    rw [f_X8_readPunches_7] at h
    refine g_iload_n dX8_readPunches_7 rfl ?_
    refine g_bipush dX8_readPunches_8 kb_16 ?_
    refine g_icmp_gt 102 dX8_readPunches_10 rfl (fun q => ?_) (fun q => ?_)
    · replace h := gif_t q h
      refine g_aload_n dX8_readPunches_102 rfl ?_
      refine g_iconst dX8_readPunches_103 kc_4 ?_
      obtain ⟨p104, e104, h⟩ := obind h
      refine g_vP1 mv_X8_65 dX8_readPunches_104 ok_15 ⟨by decide, by decide⟩ (Nat.le_of_ble_eq_true rfl) (f_X8_failed_ok e104) ?_
      exact g_zretG h dX8_readPunches_107 rfl
    · replace h := gif_f q h
      refine g_aload_n dX8_readPunches_13 rfl ?_
      obtain ⟨z14, e14, h⟩ := obind h
      refine g_vU0 mv_X8_45 dX8_readPunches_14 ok_15 ⟨by decide, by decide⟩ (Nat.le_of_ble_eq_true rfl) (f_X8_advance_ok e14) ?_
      refine g_aload_n dX8_readPunches_17 rfl ?_
      refine g_iconst dX8_readPunches_18 kc_1 ?_
      refine g_bipush dX8_readPunches_19 kb_99 ?_
      obtain ⟨p21, e21, h⟩ := obind h
      refine g_vP2 mv_X8_105 dX8_readPunches_21 ok_15 ⟨by decide, by decide⟩ (Nat.le_of_ble_eq_true rfl) (f_X8_isWhole_ok e21) ?_
      refine g_if_ne 29 dX8_readPunches_24 rfl (fun q => ?_) (fun q => ?_)
      · replace h := gif_f q h
        refine g_iload_n dX8_readPunches_29 rfl ?_
        refine g_bipush dX8_readPunches_30 kb_16 ?_
        refine g_icmp_ne 41 dX8_readPunches_32 rfl (fun q => ?_) (fun q => ?_)
        · replace h := gif_f q h
          refine g_aload_n dX8_readPunches_41 rfl ?_
          refine gI_X8_21 ok_15 dX8_readPunches_42 ?_
          refine g_istore4 dX8_readPunches_45 ?_
          refine g_aload_n dX8_readPunches_47 rfl ?_
          obtain ⟨z48, e48, h⟩ := obind h
          refine g_vU0 mv_X8_45 dX8_readPunches_48 ok_15 ⟨by decide, by decide⟩ (Nat.le_of_ble_eq_true rfl) (f_X8_advance_ok e48) ?_
          refine g_aload_n dX8_readPunches_51 rfl ?_
          refine g_iload_n dX8_readPunches_52 rfl ?_
          refine g_aload_n dX8_readPunches_53 rfl ?_
          refine gI_X8_139 (ok_10 hi1) dX8_readPunches_54 ?_
          obtain ⟨p57, e57, h⟩ := obind h
          refine g_vP2 mv_X8_105 dX8_readPunches_57 ok_15 ⟨by decide, by decide⟩ (Nat.le_of_ble_eq_true rfl) (f_X8_isWhole_ok e57) ?_
          refine g_if_ne 65 dX8_readPunches_60 rfl (fun q => ?_) (fun q => ?_)
          · replace h := gif_f q h
            refine g_aload_n dX8_readPunches_65 rfl ?_
            refine gI_X8_21 ok_15 dX8_readPunches_66 ?_
            refine g_istore2 dX8_readPunches_69 ?_
            refine g_aload_n dX8_readPunches_70 rfl ?_
            refine g_iload_n dX8_readPunches_71 rfl ?_
            refine g_iload dX8_readPunches_72 rfl ?_
            refine g_aload_n dX8_readPunches_74 rfl ?_
            refine gI_X8_21 ok_15 dX8_readPunches_75 ?_
            obtain ⟨z78, e78, h⟩ := obind h
            refine g_vU3 mv_X8_146 dX8_readPunches_78 (ok_10 hi1) ⟨by decide, by decide⟩ (Nat.le_of_ble_eq_true rfl) (f_X9_insert_ok hi1 e78) ?_
            refine g_aload_n dX8_readPunches_81 rfl ?_
            obtain ⟨z82, e82, h⟩ := obind h
            refine g_vU0 mv_X8_45 dX8_readPunches_82 ok_15 ⟨by decide, by decide⟩ (Nat.le_of_ble_eq_true rfl) (f_X8_advance_ok e82) ?_
            refine g_aload_n dX8_readPunches_85 rfl ?_
            refine gI_X8_18 ok_15 dX8_readPunches_86 ?_
            refine g_bipush dX8_readPunches_89 kb_44 ?_
            refine g_icmp_eq 96 dX8_readPunches_91 rfl (fun q => ?_) (fun q => ?_)
            · replace h := gif_t q h
              refine g_inc3 kc_1 dX8_readPunches_96 ?_
              refine g_goto 7 dX8_readPunches_99 rfl ?_
              exact ih h
            · replace h := gif_f q h
              refine g_iconst dX8_readPunches_94 kc_1 ?_
              cases h
              exact g_zret1 dX8_readPunches_95 rfl
          · replace h := gif_t q h
            refine g_iconst dX8_readPunches_63 kc_0 ?_
            cases h
            exact g_zret0 dX8_readPunches_64 rfl
        · replace h := gif_t q h
          refine g_aload_n dX8_readPunches_35 rfl ?_
          refine g_iconst dX8_readPunches_36 kc_4 ?_
          obtain ⟨p37, e37, h⟩ := obind h
          refine g_vP1 mv_X8_65 dX8_readPunches_37 ok_15 ⟨by decide, by decide⟩ (Nat.le_of_ble_eq_true rfl) (f_X8_failed_ok e37) ?_
          exact g_zretG h dX8_readPunches_40 rfl
      · replace h := gif_t q h
        refine g_iconst dX8_readPunches_27 kc_0 ?_
        cases h
        exact g_zret0 dX8_readPunches_28 rfl
theorem f_X8_readPunches_ok {i1 : Nat} (hi1 : i1 < 20) {σ : gSt} {r : (Int32 × gSt)} (h : f_X8_readPunches i1 σ = some r) : Mt l w 0 41 yX8_readPunches cX8_readPunches 5 (some .boolean) 3 62 [.ref (w.2.1 15 0), .ref (w.2.1 10 i1)] σ (gE (some (.int r.1)) r.2) := by
  unfold f_X8_readPunches at h
  refine g_start pn_X8 rfl rfl (Nat.le_of_ble_eq_true rfl) ?_
  show G l w 0 41 RX8 cX8_readPunches 5 (some .boolean) 3 62 (gE (some (.int r.1)) r.2) 0 [some (.ref (w.2.1 15 0)), some (.ref (w.2.1 10 i1)), none, none, none] [] σ
  refine g_aload_n dX8_readPunches_0 rfl ?_
  refine gI_X8_136 (ok_10 hi1) dX8_readPunches_1 ?_
  refine g_istore2 dX8_readPunches_4 ?_
  refine g_iconst dX8_readPunches_5 kc_0 ?_
  refine g_istore3 dX8_readPunches_6 ?_
  exact f_X8_readPunches_7_ok hi1 gFuel h
theorem dX8_readRunner_0 : decode cX8_readRunner 0 = .ok (.aload_n 0, 1) := by decide +kernel
theorem dX8_readRunner_1 : decode cX8_readRunner 1 = .ok (.getfield 37, 3) := by decide +kernel
theorem dX8_readRunner_4 : decode cX8_readRunner 4 = .ok (.getfield 118, 3) := by decide +kernel
theorem dX8_readRunner_7 : decode cX8_readRunner 7 = .ok (.bipush 10, 2) := by decide +kernel
theorem dX8_readRunner_9 : decode cX8_readRunner 9 = .ok (.if_icmp .lt 9, 3) := by decide +kernel
theorem dX8_readRunner_12 : decode cX8_readRunner 12 = .ok (.aload_n 0, 1) := by decide +kernel
theorem dX8_readRunner_13 : decode cX8_readRunner 13 = .ok (.iconst 4, 1) := by decide +kernel
theorem dX8_readRunner_14 : decode cX8_readRunner 14 = .ok (.invokevirtual 65, 3) := by decide +kernel
theorem dX8_readRunner_17 : decode cX8_readRunner 17 = .ok (.ireturn, 1) := by decide +kernel
theorem dX8_readRunner_18 : decode cX8_readRunner 18 = .ok (.aload_n 0, 1) := by decide +kernel
theorem dX8_readRunner_19 : decode cX8_readRunner 19 = .ok (.invokevirtual 45, 3) := by decide +kernel
theorem dX8_readRunner_22 : decode cX8_readRunner 22 = .ok (.aload_n 0, 1) := by decide +kernel
theorem dX8_readRunner_23 : decode cX8_readRunner 23 = .ok (.invokevirtual 98, 3) := by decide +kernel
theorem dX8_readRunner_26 : decode cX8_readRunner 26 = .ok (.ifCond .ne 5, 3) := by decide +kernel
theorem dX8_readRunner_29 : decode cX8_readRunner 29 = .ok (.iconst 0, 1) := by decide +kernel
theorem dX8_readRunner_30 : decode cX8_readRunner 30 = .ok (.ireturn, 1) := by decide +kernel
theorem dX8_readRunner_31 : decode cX8_readRunner 31 = .ok (.aload_n 0, 1) := by decide +kernel
theorem dX8_readRunner_32 : decode cX8_readRunner 32 = .ok (.getfield 37, 3) := by decide +kernel
theorem dX8_readRunner_35 : decode cX8_readRunner 35 = .ok (.aload_n 0, 1) := by decide +kernel
theorem dX8_readRunner_36 : decode cX8_readRunner 36 = .ok (.getfield 21, 3) := by decide +kernel
theorem dX8_readRunner_39 : decode cX8_readRunner 39 = .ok (.invokevirtual 121, 3) := by decide +kernel
theorem dX8_readRunner_42 : decode cX8_readRunner 42 = .ok (.astore_n 1, 1) := by decide +kernel
theorem dX8_readRunner_43 : decode cX8_readRunner 43 = .ok (.aload_n 0, 1) := by decide +kernel
theorem dX8_readRunner_44 : decode cX8_readRunner 44 = .ok (.invokevirtual 45, 3) := by decide +kernel
theorem dX8_readRunner_47 : decode cX8_readRunner 47 = .ok (.aload_n 0, 1) := by decide +kernel
theorem dX8_readRunner_48 : decode cX8_readRunner 48 = .ok (.invokevirtual 125, 3) := by decide +kernel
theorem dX8_readRunner_51 : decode cX8_readRunner 51 = .ok (.ifCond .ne 5, 3) := by decide +kernel
theorem dX8_readRunner_54 : decode cX8_readRunner 54 = .ok (.iconst 0, 1) := by decide +kernel
theorem dX8_readRunner_55 : decode cX8_readRunner 55 = .ok (.ireturn, 1) := by decide +kernel
theorem dX8_readRunner_56 : decode cX8_readRunner 56 = .ok (.aload_n 1, 1) := by decide +kernel
theorem dX8_readRunner_57 : decode cX8_readRunner 57 = .ok (.aload_n 0, 1) := by decide +kernel
theorem dX8_readRunner_58 : decode cX8_readRunner 58 = .ok (.getfield 37, 3) := by decide +kernel
theorem dX8_readRunner_61 : decode cX8_readRunner 61 = .ok (.aload_n 0, 1) := by decide +kernel
theorem dX8_readRunner_62 : decode cX8_readRunner 62 = .ok (.getfield 21, 3) := by decide +kernel
theorem dX8_readRunner_65 : decode cX8_readRunner 65 = .ok (.invokevirtual 128, 3) := by decide +kernel
theorem dX8_readRunner_68 : decode cX8_readRunner 68 = .ok (.putfield 131, 3) := by decide +kernel
theorem dX8_readRunner_71 : decode cX8_readRunner 71 = .ok (.aload_n 1, 1) := by decide +kernel
theorem dX8_readRunner_72 : decode cX8_readRunner 72 = .ok (.getfield 131, 3) := by decide +kernel
theorem dX8_readRunner_75 : decode cX8_readRunner 75 = .ok (.iconst (-1), 1) := by decide +kernel
theorem dX8_readRunner_76 : decode cX8_readRunner 76 = .ok (.if_icmp .ne 9, 3) := by decide +kernel
theorem dX8_readRunner_79 : decode cX8_readRunner 79 = .ok (.aload_n 0, 1) := by decide +kernel
theorem dX8_readRunner_80 : decode cX8_readRunner 80 = .ok (.iconst 3, 1) := by decide +kernel
theorem dX8_readRunner_81 : decode cX8_readRunner 81 = .ok (.invokevirtual 65, 3) := by decide +kernel
theorem dX8_readRunner_84 : decode cX8_readRunner 84 = .ok (.ireturn, 1) := by decide +kernel
theorem dX8_readRunner_85 : decode cX8_readRunner 85 = .ok (.aload_n 0, 1) := by decide +kernel
theorem dX8_readRunner_86 : decode cX8_readRunner 86 = .ok (.invokevirtual 45, 3) := by decide +kernel
theorem dX8_readRunner_89 : decode cX8_readRunner 89 = .ok (.aload_n 0, 1) := by decide +kernel
theorem dX8_readRunner_90 : decode cX8_readRunner 90 = .ok (.iconst 0, 1) := by decide +kernel
theorem dX8_readRunner_91 : decode cX8_readRunner 91 = .ok (.sipush 9998, 3) := by decide +kernel
theorem dX8_readRunner_94 : decode cX8_readRunner 94 = .ok (.invokevirtual 105, 3) := by decide +kernel
theorem dX8_readRunner_97 : decode cX8_readRunner 97 = .ok (.ifCond .ne 5, 3) := by decide +kernel
theorem dX8_readRunner_100 : decode cX8_readRunner 100 = .ok (.iconst 0, 1) := by decide +kernel
theorem dX8_readRunner_101 : decode cX8_readRunner 101 = .ok (.ireturn, 1) := by decide +kernel
theorem dX8_readRunner_102 : decode cX8_readRunner 102 = .ok (.aload_n 1, 1) := by decide +kernel
theorem dX8_readRunner_103 : decode cX8_readRunner 103 = .ok (.aload_n 0, 1) := by decide +kernel
theorem dX8_readRunner_104 : decode cX8_readRunner 104 = .ok (.getfield 21, 3) := by decide +kernel
theorem dX8_readRunner_107 : decode cX8_readRunner 107 = .ok (.putfield 136, 3) := by decide +kernel
theorem dX8_readRunner_110 : decode cX8_readRunner 110 = .ok (.aload_n 0, 1) := by decide +kernel
theorem dX8_readRunner_111 : decode cX8_readRunner 111 = .ok (.invokevirtual 45, 3) := by decide +kernel
theorem dX8_readRunner_114 : decode cX8_readRunner 114 = .ok (.aload_n 0, 1) := by decide +kernel
theorem dX8_readRunner_115 : decode cX8_readRunner 115 = .ok (.aload_n 1, 1) := by decide +kernel
theorem dX8_readRunner_116 : decode cX8_readRunner 116 = .ok (.getfield 136, 3) := by decide +kernel
theorem dX8_readRunner_119 : decode cX8_readRunner 119 = .ok (.iconst 1, 1) := by decide +kernel
theorem dX8_readRunner_120 : decode cX8_readRunner 120 = .ok (.iadd, 1) := by decide +kernel
theorem dX8_readRunner_121 : decode cX8_readRunner 121 = .ok (.sipush 9999, 3) := by decide +kernel
theorem dX8_readRunner_124 : decode cX8_readRunner 124 = .ok (.invokevirtual 105, 3) := by decide +kernel
theorem dX8_readRunner_127 : decode cX8_readRunner 127 = .ok (.ifCond .ne 5, 3) := by decide +kernel
theorem dX8_readRunner_130 : decode cX8_readRunner 130 = .ok (.iconst 0, 1) := by decide +kernel
theorem dX8_readRunner_131 : decode cX8_readRunner 131 = .ok (.ireturn, 1) := by decide +kernel
theorem dX8_readRunner_132 : decode cX8_readRunner 132 = .ok (.aload_n 1, 1) := by decide +kernel
theorem dX8_readRunner_133 : decode cX8_readRunner 133 = .ok (.aload_n 0, 1) := by decide +kernel
theorem dX8_readRunner_134 : decode cX8_readRunner 134 = .ok (.getfield 21, 3) := by decide +kernel
theorem dX8_readRunner_137 : decode cX8_readRunner 137 = .ok (.putfield 139, 3) := by decide +kernel
theorem dX8_readRunner_140 : decode cX8_readRunner 140 = .ok (.aload_n 0, 1) := by decide +kernel
theorem dX8_readRunner_141 : decode cX8_readRunner 141 = .ok (.invokevirtual 45, 3) := by decide +kernel
theorem dX8_readRunner_144 : decode cX8_readRunner 144 = .ok (.aload_n 0, 1) := by decide +kernel
theorem dX8_readRunner_145 : decode cX8_readRunner 145 = .ok (.getfield 18, 3) := by decide +kernel
theorem dX8_readRunner_148 : decode cX8_readRunner 148 = .ok (.bipush 58, 2) := by decide +kernel
theorem dX8_readRunner_150 : decode cX8_readRunner 150 = .ok (.if_icmp .ne 11, 3) := by decide +kernel
theorem dX8_readRunner_153 : decode cX8_readRunner 153 = .ok (.aload_n 0, 1) := by decide +kernel
theorem dX8_readRunner_154 : decode cX8_readRunner 154 = .ok (.aload_n 1, 1) := by decide +kernel
theorem dX8_readRunner_155 : decode cX8_readRunner 155 = .ok (.invokevirtual 142, 3) := by decide +kernel
theorem dX8_readRunner_158 : decode cX8_readRunner 158 = .ok (.ifCond .eq 7, 3) := by decide +kernel
theorem dX8_readRunner_161 : decode cX8_readRunner 161 = .ok (.iconst 1, 1) := by decide +kernel
theorem dX8_readRunner_162 : decode cX8_readRunner 162 = .ok (.goto 4, 3) := by decide +kernel
theorem dX8_readRunner_165 : decode cX8_readRunner 165 = .ok (.iconst 0, 1) := by decide +kernel
theorem dX8_readRunner_166 : decode cX8_readRunner 166 = .ok (.ireturn, 1) := by decide +kernel
def f_X8_readRunner (σ : gSt) : Option (Int32 × gSt) :=
  if (σ 3 0 4) < 10 then
    (f_X8_advance σ).bind fun z19 =>
    (f_X8_isNewName z19).bind fun p23 =>
    if p23.1 = 0 then
      some (0, p23.2)
    else
      (f_X4_enterRunner 0 (p23.2 15 0 5) p23.2).bind fun p39 =>
      (f_X8_advance p39.2).bind fun z44 =>
      (f_X8_isName z44).bind fun p48 =>
      if p48.1 = 0 then
        some (0, p48.2)
      else
        (f_X4_courseNamed 0 (p48.2 15 0 5) p48.2).bind fun p65 =>
        if ((gup p65.2 10 p39.1 5 p65.1) 10 p39.1 5) = (-1) then
          (f_X8_failed 3 (gup p65.2 10 p39.1 5 p65.1)).bind fun p81 =>
          gzr p81.1 p81.2
        else
          (f_X8_advance (gup p65.2 10 p39.1 5 p65.1)).bind fun z86 =>
          (f_X8_isWhole 0 9998 z86).bind fun p94 =>
          if p94.1 = 0 then
            some (0, p94.2)
          else
            (f_X8_advance (gup p94.2 10 p39.1 6 (p94.2 15 0 5))).bind fun z111 =>
            (f_X8_isWhole ((z111 10 p39.1 6) + 1) 9999 z111).bind fun p124 =>
            if p124.1 = 0 then
              some (0, p124.2)
            else
              (f_X8_advance (gup p124.2 10 p39.1 7 (p124.2 15 0 5))).bind fun z141 =>
              if (z141 15 0 4) = 58 then
                (f_X8_readPunches p39.1 z141).bind fun p155 =>
                if p155.1 = 0 then
                  some (0, p155.2)
                else
                  some (1, p155.2)
              else
                some (1, z141)
  else
    (f_X8_failed 4 σ).bind fun p14 =>
    gzr p14.1 p14.2
theorem f_X8_readRunner_ok   {σ : gSt} {r : (Int32 × gSt)} (h : f_X8_readRunner σ = some r) : Mt l w 0 41 yX8_readRunner cX8_readRunner 2 (some .boolean) 4 86 [.ref (w.2.1 15 0)] σ (gE (some (.int r.1)) r.2) := by
  unfold f_X8_readRunner at h
  refine g_start pn_X8 rfl rfl (Nat.le_of_ble_eq_true rfl) ?_
  show G l w 0 41 RX8 cX8_readRunner 2 (some .boolean) 4 86 (gE (some (.int r.1)) r.2) 0 [some (.ref (w.2.1 15 0)), none] [] σ
  refine g_aload_n dX8_readRunner_0 rfl ?_
  refine gR_X8_37 ok_15 dX8_readRunner_1 ?_
  refine gI_X8_118 (ok_3 (by decide)) dX8_readRunner_4 ?_
  refine g_bipush dX8_readRunner_7 kb_10 ?_
  refine g_icmp_lt 18 dX8_readRunner_9 rfl (fun q => ?_) (fun q => ?_)
  · replace h := gif_t q h
    refine g_aload_n dX8_readRunner_18 rfl ?_
    obtain ⟨z19, e19, h⟩ := obind h
    refine g_vU0 mv_X8_45 dX8_readRunner_19 ok_15 ⟨by decide, by decide⟩ (Nat.le_of_ble_eq_true rfl) (f_X8_advance_ok e19) ?_
    refine g_aload_n dX8_readRunner_22 rfl ?_
    obtain ⟨p23, e23, h⟩ := obind h
    refine g_vP0 mv_X8_98 dX8_readRunner_23 ok_15 ⟨by decide, by decide⟩ (Nat.le_of_ble_eq_true rfl) (f_X8_isNewName_ok e23) ?_
    refine g_if_ne 31 dX8_readRunner_26 rfl (fun q => ?_) (fun q => ?_)
    · replace h := gif_f q h
      refine g_aload_n dX8_readRunner_31 rfl ?_
      refine gR_X8_37 ok_15 dX8_readRunner_32 ?_
      refine g_aload_n dX8_readRunner_35 rfl ?_
      refine gI_X8_21 ok_15 dX8_readRunner_36 ?_
      obtain ⟨p39, e39, h⟩ := obind h
      refine g_vR1 mv_X8_121 dX8_readRunner_39 (ok_3 (by decide)) ⟨by decide, by decide⟩ (Nat.le_of_ble_eq_true rfl) (f_X4_enterRunner_ok (by decide) e39) (fun b39 => ?_)
      refine g_astore1 dX8_readRunner_42 ?_
      refine g_aload_n dX8_readRunner_43 rfl ?_
      obtain ⟨z44, e44, h⟩ := obind h
      refine g_vU0 mv_X8_45 dX8_readRunner_44 ok_15 ⟨by decide, by decide⟩ (Nat.le_of_ble_eq_true rfl) (f_X8_advance_ok e44) ?_
      refine g_aload_n dX8_readRunner_47 rfl ?_
      obtain ⟨p48, e48, h⟩ := obind h
      refine g_vP0 mv_X8_125 dX8_readRunner_48 ok_15 ⟨by decide, by decide⟩ (Nat.le_of_ble_eq_true rfl) (f_X8_isName_ok e48) ?_
      refine g_if_ne 56 dX8_readRunner_51 rfl (fun q => ?_) (fun q => ?_)
      · replace h := gif_f q h
        refine g_aload_n dX8_readRunner_56 rfl ?_
        refine g_aload_n dX8_readRunner_57 rfl ?_
        refine gR_X8_37 ok_15 dX8_readRunner_58 ?_
        refine g_aload_n dX8_readRunner_61 rfl ?_
        refine gI_X8_21 ok_15 dX8_readRunner_62 ?_
        obtain ⟨p65, e65, h⟩ := obind h
        refine g_vP1 mv_X8_128 dX8_readRunner_65 (ok_3 (by decide)) ⟨by decide, by decide⟩ (Nat.le_of_ble_eq_true rfl) (f_X4_courseNamed_ok (by decide) e65) ?_
        refine gP_X8_131 (ok_10 b39) dX8_readRunner_68 ?_
        refine g_aload_n dX8_readRunner_71 rfl ?_
        refine gI_X8_131 (ok_10 b39) dX8_readRunner_72 ?_
        refine g_iconst dX8_readRunner_75 kc_m1 ?_
        refine g_icmp_ne 85 dX8_readRunner_76 rfl (fun q => ?_) (fun q => ?_)
        · replace h := gif_f q h
          refine g_aload_n dX8_readRunner_85 rfl ?_
          obtain ⟨z86, e86, h⟩ := obind h
          refine g_vU0 mv_X8_45 dX8_readRunner_86 ok_15 ⟨by decide, by decide⟩ (Nat.le_of_ble_eq_true rfl) (f_X8_advance_ok e86) ?_
          refine g_aload_n dX8_readRunner_89 rfl ?_
          refine g_iconst dX8_readRunner_90 kc_0 ?_
          refine g_sipush dX8_readRunner_91 ks_9998 ?_
          obtain ⟨p94, e94, h⟩ := obind h
          refine g_vP2 mv_X8_105 dX8_readRunner_94 ok_15 ⟨by decide, by decide⟩ (Nat.le_of_ble_eq_true rfl) (f_X8_isWhole_ok e94) ?_
          refine g_if_ne 102 dX8_readRunner_97 rfl (fun q => ?_) (fun q => ?_)
          · replace h := gif_f q h
            refine g_aload_n dX8_readRunner_102 rfl ?_
            refine g_aload_n dX8_readRunner_103 rfl ?_
            refine gI_X8_21 ok_15 dX8_readRunner_104 ?_
            refine gP_X8_136 (ok_10 b39) dX8_readRunner_107 ?_
            refine g_aload_n dX8_readRunner_110 rfl ?_
            obtain ⟨z111, e111, h⟩ := obind h
            refine g_vU0 mv_X8_45 dX8_readRunner_111 ok_15 ⟨by decide, by decide⟩ (Nat.le_of_ble_eq_true rfl) (f_X8_advance_ok e111) ?_
            refine g_aload_n dX8_readRunner_114 rfl ?_
            refine g_aload_n dX8_readRunner_115 rfl ?_
            refine gI_X8_136 (ok_10 b39) dX8_readRunner_116 ?_
            refine g_iconst dX8_readRunner_119 kc_1 ?_
            refine g_iadd dX8_readRunner_120 ?_
            refine g_sipush dX8_readRunner_121 ks_9999 ?_
            obtain ⟨p124, e124, h⟩ := obind h
            refine g_vP2 mv_X8_105 dX8_readRunner_124 ok_15 ⟨by decide, by decide⟩ (Nat.le_of_ble_eq_true rfl) (f_X8_isWhole_ok e124) ?_
            refine g_if_ne 132 dX8_readRunner_127 rfl (fun q => ?_) (fun q => ?_)
            · replace h := gif_f q h
              refine g_aload_n dX8_readRunner_132 rfl ?_
              refine g_aload_n dX8_readRunner_133 rfl ?_
              refine gI_X8_21 ok_15 dX8_readRunner_134 ?_
              refine gP_X8_139 (ok_10 b39) dX8_readRunner_137 ?_
              refine g_aload_n dX8_readRunner_140 rfl ?_
              obtain ⟨z141, e141, h⟩ := obind h
              refine g_vU0 mv_X8_45 dX8_readRunner_141 ok_15 ⟨by decide, by decide⟩ (Nat.le_of_ble_eq_true rfl) (f_X8_advance_ok e141) ?_
              refine g_aload_n dX8_readRunner_144 rfl ?_
              refine gI_X8_18 ok_15 dX8_readRunner_145 ?_
              refine g_bipush dX8_readRunner_148 kb_58 ?_
              refine g_icmp_ne 161 dX8_readRunner_150 rfl (fun q => ?_) (fun q => ?_)
              · replace h := gif_f q h
                refine g_iconst dX8_readRunner_161 kc_1 ?_
                refine g_goto 166 dX8_readRunner_162 rfl ?_
                cases h
                exact g_zret1 dX8_readRunner_166 rfl
              · replace h := gif_t q h
                refine g_aload_n dX8_readRunner_153 rfl ?_
                refine g_aload_n dX8_readRunner_154 rfl ?_
                obtain ⟨p155, e155, h⟩ := obind h
                refine g_vP1 mv_X8_142 dX8_readRunner_155 ok_15 ⟨by decide, by decide⟩ (Nat.le_of_ble_eq_true rfl) (f_X8_readPunches_ok b39 e155) ?_
                refine g_if_eq 165 dX8_readRunner_158 rfl (fun q => ?_) (fun q => ?_)
                · replace h := gif_t q h
                  refine g_iconst dX8_readRunner_165 kc_0 ?_
                  cases h
                  exact g_zret0 dX8_readRunner_166 rfl
                · replace h := gif_f q h
                  refine g_iconst dX8_readRunner_161 kc_1 ?_
                  refine g_goto 166 dX8_readRunner_162 rfl ?_
                  cases h
                  exact g_zret1 dX8_readRunner_166 rfl
            · replace h := gif_t q h
              refine g_iconst dX8_readRunner_130 kc_0 ?_
              cases h
              exact g_zret0 dX8_readRunner_131 rfl
          · replace h := gif_t q h
            refine g_iconst dX8_readRunner_100 kc_0 ?_
            cases h
            exact g_zret0 dX8_readRunner_101 rfl
        · replace h := gif_t q h
          refine g_aload_n dX8_readRunner_79 rfl ?_
          refine g_iconst dX8_readRunner_80 kc_3 ?_
          obtain ⟨p81, e81, h⟩ := obind h
          refine g_vP1 mv_X8_65 dX8_readRunner_81 ok_15 ⟨by decide, by decide⟩ (Nat.le_of_ble_eq_true rfl) (f_X8_failed_ok e81) ?_
          exact g_zretG h dX8_readRunner_84 rfl
      · replace h := gif_t q h
        refine g_iconst dX8_readRunner_54 kc_0 ?_
        cases h
        exact g_zret0 dX8_readRunner_55 rfl
    · replace h := gif_t q h
      refine g_iconst dX8_readRunner_29 kc_0 ?_
      cases h
      exact g_zret0 dX8_readRunner_30 rfl
  · replace h := gif_f q h
    refine g_aload_n dX8_readRunner_12 rfl ?_
    refine g_iconst dX8_readRunner_13 kc_4 ?_
    obtain ⟨p14, e14, h⟩ := obind h
    refine g_vP1 mv_X8_65 dX8_readRunner_14 ok_15 ⟨by decide, by decide⟩ (Nat.le_of_ble_eq_true rfl) (f_X8_failed_ok e14) ?_
    exact g_zretG h dX8_readRunner_17 rfl
theorem dX8_readCourse_0 : decode cX8_readCourse 0 = .ok (.aload_n 0, 1) := by decide +kernel
theorem dX8_readCourse_1 : decode cX8_readCourse 1 = .ok (.getfield 37, 3) := by decide +kernel
theorem dX8_readCourse_4 : decode cX8_readCourse 4 = .ok (.getfield 68, 3) := by decide +kernel
theorem dX8_readCourse_7 : decode cX8_readCourse 7 = .ok (.iconst 3, 1) := by decide +kernel
theorem dX8_readCourse_8 : decode cX8_readCourse 8 = .ok (.if_icmp .lt 9, 3) := by decide +kernel
theorem dX8_readCourse_11 : decode cX8_readCourse 11 = .ok (.aload_n 0, 1) := by decide +kernel
theorem dX8_readCourse_12 : decode cX8_readCourse 12 = .ok (.iconst 4, 1) := by decide +kernel
theorem dX8_readCourse_13 : decode cX8_readCourse 13 = .ok (.invokevirtual 65, 3) := by decide +kernel
theorem dX8_readCourse_16 : decode cX8_readCourse 16 = .ok (.ireturn, 1) := by decide +kernel
theorem dX8_readCourse_17 : decode cX8_readCourse 17 = .ok (.aload_n 0, 1) := by decide +kernel
theorem dX8_readCourse_18 : decode cX8_readCourse 18 = .ok (.invokevirtual 45, 3) := by decide +kernel
theorem dX8_readCourse_21 : decode cX8_readCourse 21 = .ok (.aload_n 0, 1) := by decide +kernel
theorem dX8_readCourse_22 : decode cX8_readCourse 22 = .ok (.invokevirtual 98, 3) := by decide +kernel
theorem dX8_readCourse_25 : decode cX8_readCourse 25 = .ok (.ifCond .ne 5, 3) := by decide +kernel
theorem dX8_readCourse_28 : decode cX8_readCourse 28 = .ok (.iconst 0, 1) := by decide +kernel
theorem dX8_readCourse_29 : decode cX8_readCourse 29 = .ok (.ireturn, 1) := by decide +kernel
theorem dX8_readCourse_30 : decode cX8_readCourse 30 = .ok (.aload_n 0, 1) := by decide +kernel
theorem dX8_readCourse_31 : decode cX8_readCourse 31 = .ok (.getfield 37, 3) := by decide +kernel
theorem dX8_readCourse_34 : decode cX8_readCourse 34 = .ok (.aload_n 0, 1) := by decide +kernel
theorem dX8_readCourse_35 : decode cX8_readCourse 35 = .ok (.getfield 21, 3) := by decide +kernel
theorem dX8_readCourse_38 : decode cX8_readCourse 38 = .ok (.invokevirtual 101, 3) := by decide +kernel
theorem dX8_readCourse_41 : decode cX8_readCourse 41 = .ok (.astore_n 1, 1) := by decide +kernel
theorem dX8_readCourse_42 : decode cX8_readCourse 42 = .ok (.iconst 0, 1) := by decide +kernel
theorem dX8_readCourse_43 : decode cX8_readCourse 43 = .ok (.istore_n 2, 1) := by decide +kernel
theorem dX8_readCourse_44 : decode cX8_readCourse 44 = .ok (.iload_n 2, 1) := by decide +kernel
theorem dX8_readCourse_45 : decode cX8_readCourse 45 = .ok (.bipush 10, 2) := by decide +kernel
theorem dX8_readCourse_47 : decode cX8_readCourse 47 = .ok (.if_icmp .gt 81, 3) := by decide +kernel
theorem dX8_readCourse_50 : decode cX8_readCourse 50 = .ok (.aload_n 0, 1) := by decide +kernel
theorem dX8_readCourse_51 : decode cX8_readCourse 51 = .ok (.invokevirtual 45, 3) := by decide +kernel
theorem dX8_readCourse_54 : decode cX8_readCourse 54 = .ok (.aload_n 0, 1) := by decide +kernel
theorem dX8_readCourse_55 : decode cX8_readCourse 55 = .ok (.iconst 1, 1) := by decide +kernel
theorem dX8_readCourse_56 : decode cX8_readCourse 56 = .ok (.bipush 99, 2) := by decide +kernel
theorem dX8_readCourse_58 : decode cX8_readCourse 58 = .ok (.invokevirtual 105, 3) := by decide +kernel
theorem dX8_readCourse_61 : decode cX8_readCourse 61 = .ok (.ifCond .ne 5, 3) := by decide +kernel
theorem dX8_readCourse_64 : decode cX8_readCourse 64 = .ok (.iconst 0, 1) := by decide +kernel
theorem dX8_readCourse_65 : decode cX8_readCourse 65 = .ok (.ireturn, 1) := by decide +kernel
theorem dX8_readCourse_66 : decode cX8_readCourse 66 = .ok (.aload_n 1, 1) := by decide +kernel
theorem dX8_readCourse_67 : decode cX8_readCourse 67 = .ok (.iload_n 2, 1) := by decide +kernel
theorem dX8_readCourse_68 : decode cX8_readCourse 68 = .ok (.iconst 1, 1) := by decide +kernel
theorem dX8_readCourse_69 : decode cX8_readCourse 69 = .ok (.isub, 1) := by decide +kernel
theorem dX8_readCourse_70 : decode cX8_readCourse 70 = .ok (.aload_n 0, 1) := by decide +kernel
theorem dX8_readCourse_71 : decode cX8_readCourse 71 = .ok (.getfield 21, 3) := by decide +kernel
theorem dX8_readCourse_74 : decode cX8_readCourse 74 = .ok (.invokevirtual 109, 3) := by decide +kernel
theorem dX8_readCourse_77 : decode cX8_readCourse 77 = .ok (.ifCond .eq 9, 3) := by decide +kernel
theorem dX8_readCourse_80 : decode cX8_readCourse 80 = .ok (.aload_n 0, 1) := by decide +kernel
theorem dX8_readCourse_81 : decode cX8_readCourse 81 = .ok (.iconst 2, 1) := by decide +kernel
theorem dX8_readCourse_82 : decode cX8_readCourse 82 = .ok (.invokevirtual 65, 3) := by decide +kernel
theorem dX8_readCourse_85 : decode cX8_readCourse 85 = .ok (.ireturn, 1) := by decide +kernel
theorem dX8_readCourse_86 : decode cX8_readCourse 86 = .ok (.iload_n 2, 1) := by decide +kernel
theorem dX8_readCourse_87 : decode cX8_readCourse 87 = .ok (.bipush 10, 2) := by decide +kernel
theorem dX8_readCourse_89 : decode cX8_readCourse 89 = .ok (.if_icmp .ne 9, 3) := by decide +kernel
theorem dX8_readCourse_92 : decode cX8_readCourse 92 = .ok (.aload_n 0, 1) := by decide +kernel
theorem dX8_readCourse_93 : decode cX8_readCourse 93 = .ok (.iconst 4, 1) := by decide +kernel
theorem dX8_readCourse_94 : decode cX8_readCourse 94 = .ok (.invokevirtual 65, 3) := by decide +kernel
theorem dX8_readCourse_97 : decode cX8_readCourse 97 = .ok (.ireturn, 1) := by decide +kernel
theorem dX8_readCourse_98 : decode cX8_readCourse 98 = .ok (.aload_n 1, 1) := by decide +kernel
theorem dX8_readCourse_99 : decode cX8_readCourse 99 = .ok (.iload_n 2, 1) := by decide +kernel
theorem dX8_readCourse_100 : decode cX8_readCourse 100 = .ok (.aload_n 0, 1) := by decide +kernel
theorem dX8_readCourse_101 : decode cX8_readCourse 101 = .ok (.getfield 21, 3) := by decide +kernel
theorem dX8_readCourse_104 : decode cX8_readCourse 104 = .ok (.invokevirtual 114, 3) := by decide +kernel
theorem dX8_readCourse_107 : decode cX8_readCourse 107 = .ok (.aload_n 0, 1) := by decide +kernel
theorem dX8_readCourse_108 : decode cX8_readCourse 108 = .ok (.invokevirtual 45, 3) := by decide +kernel
theorem dX8_readCourse_111 : decode cX8_readCourse 111 = .ok (.aload_n 0, 1) := by decide +kernel
theorem dX8_readCourse_112 : decode cX8_readCourse 112 = .ok (.getfield 18, 3) := by decide +kernel
theorem dX8_readCourse_115 : decode cX8_readCourse 115 = .ok (.bipush 44, 2) := by decide +kernel
theorem dX8_readCourse_117 : decode cX8_readCourse 117 = .ok (.if_icmp .eq 5, 3) := by decide +kernel
theorem dX8_readCourse_120 : decode cX8_readCourse 120 = .ok (.iconst 1, 1) := by decide +kernel
theorem dX8_readCourse_121 : decode cX8_readCourse 121 = .ok (.ireturn, 1) := by decide +kernel
theorem dX8_readCourse_122 : decode cX8_readCourse 122 = .ok (.iinc 2 1, 3) := by decide +kernel
theorem dX8_readCourse_125 : decode cX8_readCourse 125 = .ok (.goto (-81), 3) := by decide +kernel
theorem dX8_readCourse_128 : decode cX8_readCourse 128 = .ok (.aload_n 0, 1) := by decide +kernel
theorem dX8_readCourse_129 : decode cX8_readCourse 129 = .ok (.iconst 4, 1) := by decide +kernel
theorem dX8_readCourse_130 : decode cX8_readCourse 130 = .ok (.invokevirtual 65, 3) := by decide +kernel
theorem dX8_readCourse_133 : decode cX8_readCourse 133 = .ok (.ireturn, 1) := by decide +kernel
def f_X8_readCourse_44 (i1 : Nat) : Nat → Int32 → gSt → Option (Int32 × gSt)
  | 0, _, _ => none
  | n + 1, v2, σ =>
    if 10 < v2 then
      (f_X8_failed 4 σ).bind fun p130 =>
      gzr p130.1 p130.2
    else
      (f_X8_advance σ).bind fun z51 =>
      (f_X8_isWhole 1 99 z51).bind fun p58 =>
      if p58.1 = 0 then
        some (0, p58.2)
      else
        (f_X1_isCode i1 (v2 - 1) (p58.2 15 0 5) p58.2).bind fun p74 =>
        if p74.1 = 0 then
          if v2 = 10 then
            (f_X8_failed 4 p74.2).bind fun p94 =>
            gzr p94.1 p94.2
          else
            (f_X1_insert i1 v2 (p74.2 15 0 5) p74.2).bind fun z104 =>
            (f_X8_advance z104).bind fun z108 =>
            if (z108 15 0 4) = 44 then
              f_X8_readCourse_44 i1 n (v2 + 1) z108
            else
              some (1, z108)
        else
          (f_X8_failed 2 p74.2).bind fun p82 =>
          gzr p82.1 p82.2
def f_X8_readCourse (σ : gSt) : Option (Int32 × gSt) :=
  if (σ 3 0 3) < 3 then
    (f_X8_advance σ).bind fun z18 =>
    (f_X8_isNewName z18).bind fun p22 =>
    if p22.1 = 0 then
      some (0, p22.2)
    else
      (f_X4_enterCourse 0 (p22.2 15 0 5) p22.2).bind fun p38 =>
      f_X8_readCourse_44 p38.1 gFuel 0 p38.2
  else
    (f_X8_failed 4 σ).bind fun p13 =>
    gzr p13.1 p13.2
theorem f_X8_readCourse_44_ok {i1 : Nat} {r : (Int32 × gSt)} (hi1 : i1 < 6) : ∀ (n : Nat) {v2 : Int32} {σ : gSt} , f_X8_readCourse_44 i1 n v2 σ = some r → G l w 0 41 RX8 cX8_readCourse 3 (some .boolean) 3 66 (gE (some (.int r.1)) r.2) 44 [some (.ref (w.2.1 15 0)), some (.ref (w.2.1 8 i1)), some (.int v2)] [] σ := by
  intro n
  induction n with
  | zero => intro v2 σ h; rw [f_X8_readCourse_44] at h; cases h
  | succ n ih =>
    intro v2 σ h
    rw [f_X8_readCourse_44] at h
    refine g_iload_n dX8_readCourse_44 rfl ?_
    refine g_bipush dX8_readCourse_45 kb_10 ?_
    refine g_icmp_gt 128 dX8_readCourse_47 rfl (fun q => ?_) (fun q => ?_)
    · replace h := gif_t q h
      refine g_aload_n dX8_readCourse_128 rfl ?_
      refine g_iconst dX8_readCourse_129 kc_4 ?_
      obtain ⟨p130, e130, h⟩ := obind h
      refine g_vP1 mv_X8_65 dX8_readCourse_130 ok_15 ⟨by decide, by decide⟩ (Nat.le_of_ble_eq_true rfl) (f_X8_failed_ok e130) ?_
      exact g_zretG h dX8_readCourse_133 rfl
    · replace h := gif_f q h
      refine g_aload_n dX8_readCourse_50 rfl ?_
      obtain ⟨z51, e51, h⟩ := obind h
      refine g_vU0 mv_X8_45 dX8_readCourse_51 ok_15 ⟨by decide, by decide⟩ (Nat.le_of_ble_eq_true rfl) (f_X8_advance_ok e51) ?_
      refine g_aload_n dX8_readCourse_54 rfl ?_
      refine g_iconst dX8_readCourse_55 kc_1 ?_
      refine g_bipush dX8_readCourse_56 kb_99 ?_
      obtain ⟨p58, e58, h⟩ := obind h
      refine g_vP2 mv_X8_105 dX8_readCourse_58 ok_15 ⟨by decide, by decide⟩ (Nat.le_of_ble_eq_true rfl) (f_X8_isWhole_ok e58) ?_
      refine g_if_ne 66 dX8_readCourse_61 rfl (fun q => ?_) (fun q => ?_)
      · replace h := gif_f q h
        refine g_aload_n dX8_readCourse_66 rfl ?_
        refine g_iload_n dX8_readCourse_67 rfl ?_
        refine g_iconst dX8_readCourse_68 kc_1 ?_
        refine g_isub dX8_readCourse_69 ?_
        refine g_aload_n dX8_readCourse_70 rfl ?_
        refine gI_X8_21 ok_15 dX8_readCourse_71 ?_
        obtain ⟨p74, e74, h⟩ := obind h
        refine g_vP2 mv_X8_109 dX8_readCourse_74 (ok_8 hi1) ⟨by decide, by decide⟩ (Nat.le_of_ble_eq_true rfl) (f_X1_isCode_ok hi1 e74) ?_
        refine g_if_eq 86 dX8_readCourse_77 rfl (fun q => ?_) (fun q => ?_)
        · replace h := gif_t q h
          refine g_iload_n dX8_readCourse_86 rfl ?_
          refine g_bipush dX8_readCourse_87 kb_10 ?_
          refine g_icmp_ne 98 dX8_readCourse_89 rfl (fun q => ?_) (fun q => ?_)
          · replace h := gif_f q h
            refine g_aload_n dX8_readCourse_98 rfl ?_
            refine g_iload_n dX8_readCourse_99 rfl ?_
            refine g_aload_n dX8_readCourse_100 rfl ?_
            refine gI_X8_21 ok_15 dX8_readCourse_101 ?_
            obtain ⟨z104, e104, h⟩ := obind h
            refine g_vU2 mv_X8_114 dX8_readCourse_104 (ok_8 hi1) ⟨by decide, by decide⟩ (Nat.le_of_ble_eq_true rfl) (f_X1_insert_ok hi1 e104) ?_
            refine g_aload_n dX8_readCourse_107 rfl ?_
            obtain ⟨z108, e108, h⟩ := obind h
            refine g_vU0 mv_X8_45 dX8_readCourse_108 ok_15 ⟨by decide, by decide⟩ (Nat.le_of_ble_eq_true rfl) (f_X8_advance_ok e108) ?_
            refine g_aload_n dX8_readCourse_111 rfl ?_
            refine gI_X8_18 ok_15 dX8_readCourse_112 ?_
            refine g_bipush dX8_readCourse_115 kb_44 ?_
            refine g_icmp_eq 122 dX8_readCourse_117 rfl (fun q => ?_) (fun q => ?_)
            · replace h := gif_t q h
              refine g_inc2 kc_1 dX8_readCourse_122 ?_
              refine g_goto 44 dX8_readCourse_125 rfl ?_
              exact ih h
            · replace h := gif_f q h
              refine g_iconst dX8_readCourse_120 kc_1 ?_
              cases h
              exact g_zret1 dX8_readCourse_121 rfl
          · replace h := gif_t q h
            refine g_aload_n dX8_readCourse_92 rfl ?_
            refine g_iconst dX8_readCourse_93 kc_4 ?_
            obtain ⟨p94, e94, h⟩ := obind h
            refine g_vP1 mv_X8_65 dX8_readCourse_94 ok_15 ⟨by decide, by decide⟩ (Nat.le_of_ble_eq_true rfl) (f_X8_failed_ok e94) ?_
            exact g_zretG h dX8_readCourse_97 rfl
        · replace h := gif_f q h
          refine g_aload_n dX8_readCourse_80 rfl ?_
          refine g_iconst dX8_readCourse_81 kc_2 ?_
          obtain ⟨p82, e82, h⟩ := obind h
          refine g_vP1 mv_X8_65 dX8_readCourse_82 ok_15 ⟨by decide, by decide⟩ (Nat.le_of_ble_eq_true rfl) (f_X8_failed_ok e82) ?_
          exact g_zretG h dX8_readCourse_85 rfl
      · replace h := gif_t q h
        refine g_iconst dX8_readCourse_64 kc_0 ?_
        cases h
        exact g_zret0 dX8_readCourse_65 rfl
theorem f_X8_readCourse_ok   {σ : gSt} {r : (Int32 × gSt)} (h : f_X8_readCourse σ = some r) : Mt l w 0 41 yX8_readCourse cX8_readCourse 3 (some .boolean) 3 66 [.ref (w.2.1 15 0)] σ (gE (some (.int r.1)) r.2) := by
  unfold f_X8_readCourse at h
  refine g_start pn_X8 rfl rfl (Nat.le_of_ble_eq_true rfl) ?_
  show G l w 0 41 RX8 cX8_readCourse 3 (some .boolean) 3 66 (gE (some (.int r.1)) r.2) 0 [some (.ref (w.2.1 15 0)), none, none] [] σ
  refine g_aload_n dX8_readCourse_0 rfl ?_
  refine gR_X8_37 ok_15 dX8_readCourse_1 ?_
  refine gI_X8_68 (ok_3 (by decide)) dX8_readCourse_4 ?_
  refine g_iconst dX8_readCourse_7 kc_3 ?_
  refine g_icmp_lt 17 dX8_readCourse_8 rfl (fun q => ?_) (fun q => ?_)
  · replace h := gif_t q h
    refine g_aload_n dX8_readCourse_17 rfl ?_
    obtain ⟨z18, e18, h⟩ := obind h
    refine g_vU0 mv_X8_45 dX8_readCourse_18 ok_15 ⟨by decide, by decide⟩ (Nat.le_of_ble_eq_true rfl) (f_X8_advance_ok e18) ?_
    refine g_aload_n dX8_readCourse_21 rfl ?_
    obtain ⟨p22, e22, h⟩ := obind h
    refine g_vP0 mv_X8_98 dX8_readCourse_22 ok_15 ⟨by decide, by decide⟩ (Nat.le_of_ble_eq_true rfl) (f_X8_isNewName_ok e22) ?_
    refine g_if_ne 30 dX8_readCourse_25 rfl (fun q => ?_) (fun q => ?_)
    · replace h := gif_f q h
      refine g_aload_n dX8_readCourse_30 rfl ?_
      refine gR_X8_37 ok_15 dX8_readCourse_31 ?_
      refine g_aload_n dX8_readCourse_34 rfl ?_
      refine gI_X8_21 ok_15 dX8_readCourse_35 ?_
      obtain ⟨p38, e38, h⟩ := obind h
      refine g_vR1 mv_X8_101 dX8_readCourse_38 (ok_3 (by decide)) ⟨by decide, by decide⟩ (Nat.le_of_ble_eq_true rfl) (f_X4_enterCourse_ok (by decide) e38) (fun b38 => ?_)
      refine g_astore1 dX8_readCourse_41 ?_
      refine g_iconst dX8_readCourse_42 kc_0 ?_
      refine g_istore2 dX8_readCourse_43 ?_
      exact f_X8_readCourse_44_ok b38 gFuel h
    · replace h := gif_t q h
      refine g_iconst dX8_readCourse_28 kc_0 ?_
      cases h
      exact g_zret0 dX8_readCourse_29 rfl
  · replace h := gif_f q h
    refine g_aload_n dX8_readCourse_11 rfl ?_
    refine g_iconst dX8_readCourse_12 kc_4 ?_
    obtain ⟨p13, e13, h⟩ := obind h
    refine g_vP1 mv_X8_65 dX8_readCourse_13 ok_15 ⟨by decide, by decide⟩ (Nat.le_of_ble_eq_true rfl) (f_X8_failed_ok e13) ?_
    exact g_zretG h dX8_readCourse_16 rfl
theorem dX8_begin_0 : decode cX8_begin 0 = .ok (.aload_n 0, 1) := by decide +kernel
theorem dX8_begin_1 : decode cX8_begin 1 = .ok (.getfield 37, 3) := by decide +kernel
theorem dX8_begin_4 : decode cX8_begin 4 = .ok (.invokevirtual 73, 3) := by decide +kernel
theorem dX8_begin_7 : decode cX8_begin 7 = .ok (.aload_n 0, 1) := by decide +kernel
theorem dX8_begin_8 : decode cX8_begin 8 = .ok (.iload_n 1, 1) := by decide +kernel
theorem dX8_begin_9 : decode cX8_begin 9 = .ok (.putfield 9, 3) := by decide +kernel
theorem dX8_begin_12 : decode cX8_begin 12 = .ok (.aload_n 0, 1) := by decide +kernel
theorem dX8_begin_13 : decode cX8_begin 13 = .ok (.iconst 0, 1) := by decide +kernel
theorem dX8_begin_14 : decode cX8_begin 14 = .ok (.putfield 15, 3) := by decide +kernel
theorem dX8_begin_17 : decode cX8_begin 17 = .ok (.aload_n 0, 1) := by decide +kernel
theorem dX8_begin_18 : decode cX8_begin 18 = .ok (.iconst 0, 1) := by decide +kernel
theorem dX8_begin_19 : decode cX8_begin 19 = .ok (.putfield 27, 3) := by decide +kernel
theorem dX8_begin_22 : decode cX8_begin 22 = .ok (.aload_n 0, 1) := by decide +kernel
theorem dX8_begin_23 : decode cX8_begin 23 = .ok (.iconst 0, 1) := by decide +kernel
theorem dX8_begin_24 : decode cX8_begin 24 = .ok (.putfield 24, 3) := by decide +kernel
theorem dX8_begin_27 : decode cX8_begin 27 = .ok (.return_, 1) := by decide +kernel
def f_X8_begin (v1 : Int32) (σ : gSt) : Option gSt :=
  (f_X4_clear 0 σ).bind fun z4 =>
  some (gup (gup (gup (gup z4 15 0 2 v1) 15 0 3 0) 15 0 7 0) 15 0 6 0)
theorem f_X8_begin_ok {v1 : Int32}  {σ : gSt} {r : gSt} (h : f_X8_begin v1 σ = some r) : Mt l w 0 41 yX8_begin cX8_begin 2 none 1 20 [.ref (w.2.1 15 0), .int v1] σ (gE none r) := by
  unfold f_X8_begin at h
  refine g_start pn_X8 rfl rfl (Nat.le_of_ble_eq_true rfl) ?_
  show G l w 0 41 RX8 cX8_begin 2 none 1 20 (gE none r) 0 [some (.ref (w.2.1 15 0)), some (.int v1)] [] σ
  refine g_aload_n dX8_begin_0 rfl ?_
  refine gR_X8_37 ok_15 dX8_begin_1 ?_
  obtain ⟨z4, e4, h⟩ := obind h
  refine g_vU0 mv_X8_73 dX8_begin_4 (ok_3 (by decide)) ⟨by decide, by decide⟩ (Nat.le_of_ble_eq_true rfl) (f_X4_clear_ok (by decide) e4) ?_
  refine g_aload_n dX8_begin_7 rfl ?_
  refine g_iload_n dX8_begin_8 rfl ?_
  refine gP_X8_9 ok_15 dX8_begin_9 ?_
  refine g_aload_n dX8_begin_12 rfl ?_
  refine g_iconst dX8_begin_13 kc_0 ?_
  refine gP_X8_15 ok_15 dX8_begin_14 ?_
  refine g_aload_n dX8_begin_17 rfl ?_
  refine g_iconst dX8_begin_18 kc_0 ?_
  refine gP_X8_27 ok_15 dX8_begin_19 ?_
  refine g_aload_n dX8_begin_22 rfl ?_
  refine g_iconst dX8_begin_23 kc_0 ?_
  refine gP_X8_24 ok_15 dX8_begin_24 ?_
  cases h
  exact g_vret dX8_begin_27 rfl ⟨rfl, rfl⟩
theorem dX8_read_0 : decode cX8_read 0 = .ok (.aload_n 0, 1) := by decide +kernel
theorem dX8_read_1 : decode cX8_read 1 = .ok (.iload_n 1, 1) := by decide +kernel
theorem dX8_read_2 : decode cX8_read 2 = .ok (.invokevirtual 41, 3) := by decide +kernel
theorem dX8_read_5 : decode cX8_read 5 = .ok (.iconst 0, 1) := by decide +kernel
theorem dX8_read_6 : decode cX8_read 6 = .ok (.istore_n 2, 1) := by decide +kernel
theorem dX8_read_7 : decode cX8_read 7 = .ok (.iload_n 2, 1) := by decide +kernel
theorem dX8_read_8 : decode cX8_read 8 = .ok (.iload_n 1, 1) := by decide +kernel
theorem dX8_read_9 : decode cX8_read 9 = .ok (.if_icmp .gt 144, 3) := by decide +kernel
theorem dX8_read_12 : decode cX8_read 12 = .ok (.aload_n 0, 1) := by decide +kernel
theorem dX8_read_13 : decode cX8_read 13 = .ok (.invokevirtual 45, 3) := by decide +kernel
theorem dX8_read_16 : decode cX8_read 16 = .ok (.iconst 0, 1) := by decide +kernel
theorem dX8_read_17 : decode cX8_read 17 = .ok (.istore_n 3, 1) := by decide +kernel
theorem dX8_read_18 : decode cX8_read 18 = .ok (.aload_n 0, 1) := by decide +kernel
theorem dX8_read_19 : decode cX8_read 19 = .ok (.ldc 48, 2) := by decide +kernel
theorem dX8_read_21 : decode cX8_read 21 = .ok (.invokevirtual 49, 3) := by decide +kernel
theorem dX8_read_24 : decode cX8_read 24 = .ok (.ifCond .eq 11, 3) := by decide +kernel
theorem dX8_read_27 : decode cX8_read 27 = .ok (.aload_n 0, 1) := by decide +kernel
theorem dX8_read_28 : decode cX8_read 28 = .ok (.invokevirtual 53, 3) := by decide +kernel
theorem dX8_read_31 : decode cX8_read 31 = .ok (.istore_n 3, 1) := by decide +kernel
theorem dX8_read_32 : decode cX8_read 32 = .ok (.goto 63, 3) := by decide +kernel
theorem dX8_read_35 : decode cX8_read 35 = .ok (.aload_n 0, 1) := by decide +kernel
theorem dX8_read_36 : decode cX8_read 36 = .ok (.ldc 57, 2) := by decide +kernel
theorem dX8_read_38 : decode cX8_read 38 = .ok (.invokevirtual 49, 3) := by decide +kernel
theorem dX8_read_41 : decode cX8_read 41 = .ok (.ifCond .eq 11, 3) := by decide +kernel
theorem dX8_read_44 : decode cX8_read 44 = .ok (.aload_n 0, 1) := by decide +kernel
theorem dX8_read_45 : decode cX8_read 45 = .ok (.invokevirtual 58, 3) := by decide +kernel
theorem dX8_read_48 : decode cX8_read 48 = .ok (.istore_n 3, 1) := by decide +kernel
theorem dX8_read_49 : decode cX8_read 49 = .ok (.goto 46, 3) := by decide +kernel
theorem dX8_read_52 : decode cX8_read 52 = .ok (.aload_n 0, 1) := by decide +kernel
theorem dX8_read_53 : decode cX8_read 53 = .ok (.sipush 7216, 3) := by decide +kernel
theorem dX8_read_56 : decode cX8_read 56 = .ok (.invokevirtual 49, 3) := by decide +kernel
theorem dX8_read_59 : decode cX8_read 59 = .ok (.ifCond .eq 12, 3) := by decide +kernel
theorem dX8_read_62 : decode cX8_read 62 = .ok (.aload_n 0, 1) := by decide +kernel
theorem dX8_read_63 : decode cX8_read 63 = .ok (.iconst 0, 1) := by decide +kernel
theorem dX8_read_64 : decode cX8_read 64 = .ok (.invokevirtual 61, 3) := by decide +kernel
theorem dX8_read_67 : decode cX8_read 67 = .ok (.istore_n 3, 1) := by decide +kernel
theorem dX8_read_68 : decode cX8_read 68 = .ok (.goto 27, 3) := by decide +kernel
theorem dX8_read_71 : decode cX8_read 71 = .ok (.aload_n 0, 1) := by decide +kernel
theorem dX8_read_72 : decode cX8_read 72 = .ok (.ldc 64, 2) := by decide +kernel
theorem dX8_read_74 : decode cX8_read 74 = .ok (.invokevirtual 49, 3) := by decide +kernel
theorem dX8_read_77 : decode cX8_read 77 = .ok (.ifCond .eq 12, 3) := by decide +kernel
theorem dX8_read_80 : decode cX8_read 80 = .ok (.aload_n 0, 1) := by decide +kernel
theorem dX8_read_81 : decode cX8_read 81 = .ok (.iconst 1, 1) := by decide +kernel
theorem dX8_read_82 : decode cX8_read 82 = .ok (.invokevirtual 61, 3) := by decide +kernel
theorem dX8_read_85 : decode cX8_read 85 = .ok (.istore_n 3, 1) := by decide +kernel
theorem dX8_read_86 : decode cX8_read 86 = .ok (.goto 9, 3) := by decide +kernel
theorem dX8_read_89 : decode cX8_read 89 = .ok (.aload_n 0, 1) := by decide +kernel
theorem dX8_read_90 : decode cX8_read 90 = .ok (.iconst 1, 1) := by decide +kernel
theorem dX8_read_91 : decode cX8_read 91 = .ok (.invokevirtual 65, 3) := by decide +kernel
theorem dX8_read_94 : decode cX8_read 94 = .ok (.pop, 1) := by decide +kernel
theorem dX8_read_95 : decode cX8_read 95 = .ok (.iload_n 3, 1) := by decide +kernel
theorem dX8_read_96 : decode cX8_read 96 = .ok (.ifCond .ne 5, 3) := by decide +kernel
theorem dX8_read_99 : decode cX8_read 99 = .ok (.iconst 0, 1) := by decide +kernel
theorem dX8_read_100 : decode cX8_read 100 = .ok (.ireturn, 1) := by decide +kernel
theorem dX8_read_101 : decode cX8_read 101 = .ok (.aload_n 0, 1) := by decide +kernel
theorem dX8_read_102 : decode cX8_read 102 = .ok (.getfield 18, 3) := by decide +kernel
theorem dX8_read_105 : decode cX8_read 105 = .ok (.ifCond .ne 27, 3) := by decide +kernel
theorem dX8_read_108 : decode cX8_read 108 = .ok (.aload_n 0, 1) := by decide +kernel
theorem dX8_read_109 : decode cX8_read 109 = .ok (.getfield 37, 3) := by decide +kernel
theorem dX8_read_112 : decode cX8_read 112 = .ok (.getfield 68, 3) := by decide +kernel
theorem dX8_read_115 : decode cX8_read 115 = .ok (.ifCond .gt 11, 3) := by decide +kernel
theorem dX8_read_118 : decode cX8_read 118 = .ok (.aload_n 0, 1) := by decide +kernel
theorem dX8_read_119 : decode cX8_read 119 = .ok (.iconst 5, 1) := by decide +kernel
theorem dX8_read_120 : decode cX8_read 120 = .ok (.invokevirtual 65, 3) := by decide +kernel
theorem dX8_read_123 : decode cX8_read 123 = .ok (.ifCond .eq 7, 3) := by decide +kernel
theorem dX8_read_126 : decode cX8_read 126 = .ok (.iconst 1, 1) := by decide +kernel
theorem dX8_read_127 : decode cX8_read 127 = .ok (.goto 4, 3) := by decide +kernel
theorem dX8_read_130 : decode cX8_read 130 = .ok (.iconst 0, 1) := by decide +kernel
theorem dX8_read_131 : decode cX8_read 131 = .ok (.ireturn, 1) := by decide +kernel
theorem dX8_read_132 : decode cX8_read 132 = .ok (.aload_n 0, 1) := by decide +kernel
theorem dX8_read_133 : decode cX8_read 133 = .ok (.getfield 18, 3) := by decide +kernel
theorem dX8_read_136 : decode cX8_read 136 = .ok (.bipush 59, 2) := by decide +kernel
theorem dX8_read_138 : decode cX8_read 138 = .ok (.if_icmp .eq 9, 3) := by decide +kernel
theorem dX8_read_141 : decode cX8_read 141 = .ok (.aload_n 0, 1) := by decide +kernel
theorem dX8_read_142 : decode cX8_read 142 = .ok (.iconst 1, 1) := by decide +kernel
theorem dX8_read_143 : decode cX8_read 143 = .ok (.invokevirtual 65, 3) := by decide +kernel
theorem dX8_read_146 : decode cX8_read 146 = .ok (.ireturn, 1) := by decide +kernel
theorem dX8_read_147 : decode cX8_read 147 = .ok (.iinc 2 1, 3) := by decide +kernel
theorem dX8_read_150 : decode cX8_read 150 = .ok (.goto (-143), 3) := by decide +kernel
theorem dX8_read_153 : decode cX8_read 153 = .ok (.aload_n 0, 1) := by decide +kernel
theorem dX8_read_154 : decode cX8_read 154 = .ok (.iconst 1, 1) := by decide +kernel
theorem dX8_read_155 : decode cX8_read 155 = .ok (.invokevirtual 65, 3) := by decide +kernel
theorem dX8_read_158 : decode cX8_read 158 = .ok (.ireturn, 1) := by decide +kernel
def f_X8_read_95 (v1 : Int32) (v2 : Int32) (v3 : Int32) (k7 : Int32 → gSt → Option (Int32 × gSt)) (σ : gSt) : Option (Int32 × gSt) :=
  if v3 = 0 then
    some (0, σ)
  else
    if (σ 15 0 4) = 0 then
      if 0 < (σ 3 0 3) then
        some (1, σ)
      else
        (f_X8_failed 5 σ).bind fun p120 =>
        if p120.1 = 0 then
          some (0, p120.2)
        else
          some (1, p120.2)
    else
      if (σ 15 0 4) = 59 then
        k7 (v2 + 1) σ
      else
        (f_X8_failed 1 σ).bind fun p143 =>
        gzr p143.1 p143.2
def f_X8_read_7 (v1 : Int32) : Nat → Int32 → gSt → Option (Int32 × gSt)
  | 0, _, _ => none
  | n + 1, v2, σ =>
    if v1 < v2 then
      (f_X8_failed 1 σ).bind fun p155 =>
      gzr p155.1 p155.2
    else
      (f_X8_advance σ).bind fun z13 =>
      (f_X8_isWord 117099109 z13).bind fun p21 =>
      if p21.1 = 0 then
        (f_X8_isWord 626473138 p21.2).bind fun p38 =>
        if p38.1 = 0 then
          (f_X8_isWord 7216 p38.2).bind fun p56 =>
          if p56.1 = 0 then
            (f_X8_isWord 20317291 p56.2).bind fun p74 =>
            if p74.1 = 0 then
              (f_X8_failed 1 p74.2).bind fun p91 =>
              f_X8_read_95 v1 v2 0 (fun v2 σ => f_X8_read_7 v1 n v2 σ) p91.2
            else
              (f_X8_readWidth 1 p74.2).bind fun p82 =>
              f_X8_read_95 v1 v2 p82.1 (fun v2 σ => f_X8_read_7 v1 n v2 σ) p82.2
          else
            (f_X8_readWidth 0 p56.2).bind fun p64 =>
            f_X8_read_95 v1 v2 p64.1 (fun v2 σ => f_X8_read_7 v1 n v2 σ) p64.2
        else
          (f_X8_readRunner p38.2).bind fun p45 =>
          f_X8_read_95 v1 v2 p45.1 (fun v2 σ => f_X8_read_7 v1 n v2 σ) p45.2
      else
        (f_X8_readCourse p21.2).bind fun p28 =>
        f_X8_read_95 v1 v2 p28.1 (fun v2 σ => f_X8_read_7 v1 n v2 σ) p28.2
def f_X8_read (v1 : Int32) (σ : gSt) : Option (Int32 × gSt) :=
  (f_X8_begin v1 σ).bind fun z2 =>
  f_X8_read_7 v1 gFuel 0 z2
theorem f_X8_read_95_ok {v1 : Int32} {v2 : Int32} {v3 : Int32} {k7 : Int32 → gSt → Option (Int32 × gSt)} {r : (Int32 × gSt)} (hk7 : ∀ {v2 : Int32} {σ : gSt} {x3 : Option Value}, k7 v2 σ = some r → G l w 0 41 RX8 cX8_read 4 (some .boolean) 5 107 (gE (some (.int r.1)) r.2) 7 [some (.ref (w.2.1 15 0)), some (.int v1), some (.int v2), x3] [] σ) {σ : gSt}  (h : f_X8_read_95 v1 v2 v3 k7 σ = some r) : G l w 0 41 RX8 cX8_read 4 (some .boolean) 5 107 (gE (some (.int r.1)) r.2) 95 [some (.ref (w.2.1 15 0)), some (.int v1), some (.int v2), some (.int v3)] [] σ := by
  unfold f_X8_read_95 at h
  refine g_iload_n dX8_read_95 rfl ?_
  refine g_if_ne 101 dX8_read_96 rfl (fun q => ?_) (fun q => ?_)
  · replace h := gif_f q h
    refine g_aload_n dX8_read_101 rfl ?_
    refine gI_X8_18 ok_15 dX8_read_102 ?_
    refine g_if_ne 132 dX8_read_105 rfl (fun q => ?_) (fun q => ?_)
    · replace h := gif_f q h
      refine g_aload_n dX8_read_132 rfl ?_
      refine gI_X8_18 ok_15 dX8_read_133 ?_
      refine g_bipush dX8_read_136 kb_59 ?_
      refine g_icmp_eq 147 dX8_read_138 rfl (fun q => ?_) (fun q => ?_)
      · replace h := gif_t q h
        refine g_inc2 kc_1 dX8_read_147 ?_
        refine g_goto 7 dX8_read_150 rfl ?_
        exact hk7 h
      · replace h := gif_f q h
        refine g_aload_n dX8_read_141 rfl ?_
        refine g_iconst dX8_read_142 kc_1 ?_
        obtain ⟨p143, e143, h⟩ := obind h
        refine g_vP1 mv_X8_65 dX8_read_143 ok_15 ⟨by decide, by decide⟩ (Nat.le_of_ble_eq_true rfl) (f_X8_failed_ok e143) ?_
        exact g_zretG h dX8_read_146 rfl
    · replace h := gif_t q h
      refine g_aload_n dX8_read_108 rfl ?_
      refine gR_X8_37 ok_15 dX8_read_109 ?_
      refine gI_X8_68 (ok_3 (by decide)) dX8_read_112 ?_
      refine g_if_gt 126 dX8_read_115 rfl (fun q => ?_) (fun q => ?_)
      · replace h := gif_t q h
        refine g_iconst dX8_read_126 kc_1 ?_
        refine g_goto 131 dX8_read_127 rfl ?_
        cases h
        exact g_zret1 dX8_read_131 rfl
      · replace h := gif_f q h
        refine g_aload_n dX8_read_118 rfl ?_
        refine g_iconst dX8_read_119 kc_5 ?_
        obtain ⟨p120, e120, h⟩ := obind h
        refine g_vP1 mv_X8_65 dX8_read_120 ok_15 ⟨by decide, by decide⟩ (Nat.le_of_ble_eq_true rfl) (f_X8_failed_ok e120) ?_
        refine g_if_eq 130 dX8_read_123 rfl (fun q => ?_) (fun q => ?_)
        · replace h := gif_t q h
          refine g_iconst dX8_read_130 kc_0 ?_
          cases h
          exact g_zret0 dX8_read_131 rfl
        · replace h := gif_f q h
          refine g_iconst dX8_read_126 kc_1 ?_
          refine g_goto 131 dX8_read_127 rfl ?_
          cases h
          exact g_zret1 dX8_read_131 rfl
  · replace h := gif_t q h
    refine g_iconst dX8_read_99 kc_0 ?_
    cases h
    exact g_zret0 dX8_read_100 rfl
theorem f_X8_read_7_ok {v1 : Int32} {r : (Int32 × gSt)}  : ∀ (n : Nat) {v2 : Int32} {σ : gSt} {x3 : Option Value}, f_X8_read_7 v1 n v2 σ = some r → G l w 0 41 RX8 cX8_read 4 (some .boolean) 5 107 (gE (some (.int r.1)) r.2) 7 [some (.ref (w.2.1 15 0)), some (.int v1), some (.int v2), x3] [] σ := by
  intro n
  induction n with
  | zero => intro v2 σ x3 h; rw [f_X8_read_7] at h; cases h
  | succ n ih =>
    intro v2 σ x3 h
    rw [f_X8_read_7] at h
    refine g_iload_n dX8_read_7 rfl ?_
    refine g_iload_n dX8_read_8 rfl ?_
    refine g_icmp_gt 153 dX8_read_9 rfl (fun q => ?_) (fun q => ?_)
    · replace h := gif_t q h
      refine g_aload_n dX8_read_153 rfl ?_
      refine g_iconst dX8_read_154 kc_1 ?_
      obtain ⟨p155, e155, h⟩ := obind h
      refine g_vP1 mv_X8_65 dX8_read_155 ok_15 ⟨by decide, by decide⟩ (Nat.le_of_ble_eq_true rfl) (f_X8_failed_ok e155) ?_
      exact g_zretG h dX8_read_158 rfl
    · replace h := gif_f q h
      refine g_aload_n dX8_read_12 rfl ?_
      obtain ⟨z13, e13, h⟩ := obind h
      refine g_vU0 mv_X8_45 dX8_read_13 ok_15 ⟨by decide, by decide⟩ (Nat.le_of_ble_eq_true rfl) (f_X8_advance_ok e13) ?_
      refine g_iconst dX8_read_16 kc_0 ?_
      refine g_istore3 dX8_read_17 ?_
      refine g_aload_n dX8_read_18 rfl ?_
      refine g_ldc kn_X8_48 dX8_read_19 ?_
      obtain ⟨p21, e21, h⟩ := obind h
      refine g_vP1 mv_X8_49 dX8_read_21 ok_15 ⟨by decide, by decide⟩ (Nat.le_of_ble_eq_true rfl) (f_X8_isWord_ok e21) ?_
      refine g_if_eq 35 dX8_read_24 rfl (fun q => ?_) (fun q => ?_)
      · replace h := gif_t q h
        refine g_aload_n dX8_read_35 rfl ?_
        refine g_ldc kn_X8_57 dX8_read_36 ?_
        obtain ⟨p38, e38, h⟩ := obind h
        refine g_vP1 mv_X8_49 dX8_read_38 ok_15 ⟨by decide, by decide⟩ (Nat.le_of_ble_eq_true rfl) (f_X8_isWord_ok e38) ?_
        refine g_if_eq 52 dX8_read_41 rfl (fun q => ?_) (fun q => ?_)
        · replace h := gif_t q h
          refine g_aload_n dX8_read_52 rfl ?_
          refine g_sipush dX8_read_53 ks_7216 ?_
          obtain ⟨p56, e56, h⟩ := obind h
          refine g_vP1 mv_X8_49 dX8_read_56 ok_15 ⟨by decide, by decide⟩ (Nat.le_of_ble_eq_true rfl) (f_X8_isWord_ok e56) ?_
          refine g_if_eq 71 dX8_read_59 rfl (fun q => ?_) (fun q => ?_)
          · replace h := gif_t q h
            refine g_aload_n dX8_read_71 rfl ?_
            refine g_ldc kn_X8_64 dX8_read_72 ?_
            obtain ⟨p74, e74, h⟩ := obind h
            refine g_vP1 mv_X8_49 dX8_read_74 ok_15 ⟨by decide, by decide⟩ (Nat.le_of_ble_eq_true rfl) (f_X8_isWord_ok e74) ?_
            refine g_if_eq 89 dX8_read_77 rfl (fun q => ?_) (fun q => ?_)
            · replace h := gif_t q h
              refine g_aload_n dX8_read_89 rfl ?_
              refine g_iconst dX8_read_90 kc_1 ?_
              obtain ⟨p91, e91, h⟩ := obind h
              refine g_vP1 mv_X8_65 dX8_read_91 ok_15 ⟨by decide, by decide⟩ (Nat.le_of_ble_eq_true rfl) (f_X8_failed_ok e91) ?_
              refine g_pop dX8_read_94 rfl ?_
              exact f_X8_read_95_ok (fun h => ih h) h
            · replace h := gif_f q h
              refine g_aload_n dX8_read_80 rfl ?_
              refine g_iconst dX8_read_81 kc_1 ?_
              obtain ⟨p82, e82, h⟩ := obind h
              refine g_vP1 mv_X8_61 dX8_read_82 ok_15 ⟨by decide, by decide⟩ (Nat.le_of_ble_eq_true rfl) (f_X8_readWidth_ok e82) ?_
              refine g_istore3 dX8_read_85 ?_
              refine g_goto 95 dX8_read_86 rfl ?_
              exact f_X8_read_95_ok (fun h => ih h) h
          · replace h := gif_f q h
            refine g_aload_n dX8_read_62 rfl ?_
            refine g_iconst dX8_read_63 kc_0 ?_
            obtain ⟨p64, e64, h⟩ := obind h
            refine g_vP1 mv_X8_61 dX8_read_64 ok_15 ⟨by decide, by decide⟩ (Nat.le_of_ble_eq_true rfl) (f_X8_readWidth_ok e64) ?_
            refine g_istore3 dX8_read_67 ?_
            refine g_goto 95 dX8_read_68 rfl ?_
            exact f_X8_read_95_ok (fun h => ih h) h
        · replace h := gif_f q h
          refine g_aload_n dX8_read_44 rfl ?_
          obtain ⟨p45, e45, h⟩ := obind h
          refine g_vP0 mv_X8_58 dX8_read_45 ok_15 ⟨by decide, by decide⟩ (Nat.le_of_ble_eq_true rfl) (f_X8_readRunner_ok e45) ?_
          refine g_istore3 dX8_read_48 ?_
          refine g_goto 95 dX8_read_49 rfl ?_
          exact f_X8_read_95_ok (fun h => ih h) h
      · replace h := gif_f q h
        refine g_aload_n dX8_read_27 rfl ?_
        obtain ⟨p28, e28, h⟩ := obind h
        refine g_vP0 mv_X8_53 dX8_read_28 ok_15 ⟨by decide, by decide⟩ (Nat.le_of_ble_eq_true rfl) (f_X8_readCourse_ok e28) ?_
        refine g_istore3 dX8_read_31 ?_
        refine g_goto 95 dX8_read_32 rfl ?_
        exact f_X8_read_95_ok (fun h => ih h) h
theorem f_X8_read_ok {v1 : Int32}  {σ : gSt} {r : (Int32 × gSt)} (h : f_X8_read v1 σ = some r) : Mt l w 0 41 yX8_read cX8_read 4 (some .boolean) 5 107 [.ref (w.2.1 15 0), .int v1] σ (gE (some (.int r.1)) r.2) := by
  unfold f_X8_read at h
  refine g_start pn_X8 rfl rfl (Nat.le_of_ble_eq_true rfl) ?_
  show G l w 0 41 RX8 cX8_read 4 (some .boolean) 5 107 (gE (some (.int r.1)) r.2) 0 [some (.ref (w.2.1 15 0)), some (.int v1), none, none] [] σ
  refine g_aload_n dX8_read_0 rfl ?_
  refine g_iload_n dX8_read_1 rfl ?_
  obtain ⟨z2, e2, h⟩ := obind h
  refine g_vU1 mv_X8_41 dX8_read_2 ok_15 ⟨by decide, by decide⟩ (Nat.le_of_ble_eq_true rfl) (f_X8_begin_ok e2) ?_
  refine g_iconst dX8_read_5 kc_0 ?_
  refine g_istore2 dX8_read_6 ?_
  exact f_X8_read_7_ok gFuel h
theorem dX9_placeFor_0 : decode cX9_placeFor 0 = .ok (.iconst 0, 1) := by decide +kernel
theorem dX9_placeFor_1 : decode cX9_placeFor 1 = .ok (.istore_n 2, 1) := by decide +kernel
theorem dX9_placeFor_2 : decode cX9_placeFor 2 = .ok (.iload_n 2, 1) := by decide +kernel
theorem dX9_placeFor_3 : decode cX9_placeFor 3 = .ok (.aload_n 0, 1) := by decide +kernel
theorem dX9_placeFor_4 : decode cX9_placeFor 4 = .ok (.getfield 39, 3) := by decide +kernel
theorem dX9_placeFor_7 : decode cX9_placeFor 7 = .ok (.if_icmp .ge 18, 3) := by decide +kernel
theorem dX9_placeFor_10 : decode cX9_placeFor 10 = .ok (.aload_n 0, 1) := by decide +kernel
theorem dX9_placeFor_11 : decode cX9_placeFor 11 = .ok (.iload_n 2, 1) := by decide +kernel
theorem dX9_placeFor_12 : decode cX9_placeFor 12 = .ok (.invokevirtual 58, 3) := by decide +kernel
theorem dX9_placeFor_15 : decode cX9_placeFor 15 = .ok (.iload_n 1, 1) := by decide +kernel
theorem dX9_placeFor_16 : decode cX9_placeFor 16 = .ok (.if_icmp .gt 9, 3) := by decide +kernel
theorem dX9_placeFor_19 : decode cX9_placeFor 19 = .ok (.iinc 2 1, 3) := by decide +kernel
theorem dX9_placeFor_22 : decode cX9_placeFor 22 = .ok (.goto (-20), 3) := by decide +kernel
theorem dX9_placeFor_25 : decode cX9_placeFor 25 = .ok (.iload_n 2, 1) := by decide +kernel
theorem dX9_placeFor_26 : decode cX9_placeFor 26 = .ok (.ireturn, 1) := by decide +kernel
def f_X9_placeFor_2 (i0 : Nat) (v1 : Int32) : Nat → Int32 → gSt → Option (Int32 × gSt)
  | 0, _, _ => none
  | n + 1, v2, σ =>
    if (σ 10 i0 8) ≤ v2 then
      some (v2, σ)
    else
      (f_X9_timeOf i0 v2 σ).bind fun p12 =>
      if v1 < p12.1 then
        some (v2, p12.2)
      else
        f_X9_placeFor_2 i0 v1 n (v2 + 1) p12.2
def f_X9_placeFor (i0 : Nat) (v1 : Int32) (σ : gSt) : Option (Int32 × gSt) :=
  f_X9_placeFor_2 i0 v1 gFuel 0 σ
theorem f_X9_placeFor_2_ok {i0 : Nat} {v1 : Int32} {r : (Int32 × gSt)} (hi0 : i0 < 20) : ∀ (n : Nat) {v2 : Int32} {σ : gSt} , f_X9_placeFor_2 i0 v1 n v2 σ = some r → G l w 0 41 RX9 cX9_placeFor 3 (some .int) 1 21 (gE (some (.int r.1)) r.2) 2 [some (.ref (w.2.1 10 i0)), some (.int v1), some (.int v2)] [] σ := by
  intro n
  induction n with
  | zero => intro v2 σ h; rw [f_X9_placeFor_2] at h; cases h
  | succ n ih =>
    intro v2 σ h
    rw [f_X9_placeFor_2] at h
    refine g_iload_n dX9_placeFor_2 rfl ?_
    refine g_aload_n dX9_placeFor_3 rfl ?_
    refine gI_X9_39 (ok_10 hi0) dX9_placeFor_4 ?_
    refine g_icmp_ge 25 dX9_placeFor_7 rfl (fun q => ?_) (fun q => ?_)
    · replace h := gif_t q h
      refine g_iload_n dX9_placeFor_25 rfl ?_
      cases h
      exact g_iret dX9_placeFor_26 rfl ⟨rfl, rfl⟩
    · replace h := gif_f q h
      refine g_aload_n dX9_placeFor_10 rfl ?_
      refine g_iload_n dX9_placeFor_11 rfl ?_
      obtain ⟨p12, e12, h⟩ := obind h
      refine g_vP1 mv_X9_58 dX9_placeFor_12 (ok_10 hi0) ⟨by decide, by decide⟩ (Nat.le_of_ble_eq_true rfl) (f_X9_timeOf_ok hi0 e12) ?_
      refine g_iload_n dX9_placeFor_15 rfl ?_
      refine g_icmp_gt 25 dX9_placeFor_16 rfl (fun q => ?_) (fun q => ?_)
      · replace h := gif_t q h
        refine g_iload_n dX9_placeFor_25 rfl ?_
        cases h
        exact g_iret dX9_placeFor_26 rfl ⟨rfl, rfl⟩
      · replace h := gif_f q h
        refine g_inc2 kc_1 dX9_placeFor_19 ?_
        refine g_goto 2 dX9_placeFor_22 rfl ?_
        exact ih h
theorem f_X9_placeFor_ok {i0 : Nat} {v1 : Int32} (hi0 : i0 < 20) {σ : gSt} {r : (Int32 × gSt)} (h : f_X9_placeFor i0 v1 σ = some r) : Mt l w 0 41 yX9_placeFor cX9_placeFor 3 (some .int) 1 21 [.ref (w.2.1 10 i0), .int v1] σ (gE (some (.int r.1)) r.2) := by
  unfold f_X9_placeFor at h
  refine g_start pn_X9 rfl rfl (Nat.le_of_ble_eq_true rfl) ?_
  show G l w 0 41 RX9 cX9_placeFor 3 (some .int) 1 21 (gE (some (.int r.1)) r.2) 0 [some (.ref (w.2.1 10 i0)), some (.int v1), none] [] σ
  refine g_iconst dX9_placeFor_0 kc_0 ?_
  refine g_istore2 dX9_placeFor_1 ?_
  exact f_X9_placeFor_2_ok hi0 gFuel h
theorem dX9_missedBits_0 : decode cX9_missedBits 0 = .ok (.iconst 0, 1) := by decide +kernel
theorem dX9_missedBits_1 : decode cX9_missedBits 1 = .ok (.istore_n 1, 1) := by decide +kernel
theorem dX9_missedBits_2 : decode cX9_missedBits 2 = .ok (.iconst 0, 1) := by decide +kernel
theorem dX9_missedBits_3 : decode cX9_missedBits 3 = .ok (.istore_n 2, 1) := by decide +kernel
theorem dX9_missedBits_4 : decode cX9_missedBits 4 = .ok (.iload_n 2, 1) := by decide +kernel
theorem dX9_missedBits_5 : decode cX9_missedBits 5 = .ok (.aload_n 0, 1) := by decide +kernel
theorem dX9_missedBits_6 : decode cX9_missedBits 6 = .ok (.getfield 42, 3) := by decide +kernel
theorem dX9_missedBits_9 : decode cX9_missedBits 9 = .ok (.if_icmp .ge 24, 3) := by decide +kernel
theorem dX9_missedBits_12 : decode cX9_missedBits 12 = .ok (.aload_n 0, 1) := by decide +kernel
theorem dX9_missedBits_13 : decode cX9_missedBits 13 = .ok (.iload_n 2, 1) := by decide +kernel
theorem dX9_missedBits_14 : decode cX9_missedBits 14 = .ok (.invokevirtual 75, 3) := by decide +kernel
theorem dX9_missedBits_17 : decode cX9_missedBits 17 = .ok (.iconst (-1), 1) := by decide +kernel
theorem dX9_missedBits_18 : decode cX9_missedBits 18 = .ok (.if_icmp .ne 9, 3) := by decide +kernel
theorem dX9_missedBits_21 : decode cX9_missedBits 21 = .ok (.iload_n 1, 1) := by decide +kernel
theorem dX9_missedBits_22 : decode cX9_missedBits 22 = .ok (.iconst 1, 1) := by decide +kernel
theorem dX9_missedBits_23 : decode cX9_missedBits 23 = .ok (.iload_n 2, 1) := by decide +kernel
theorem dX9_missedBits_24 : decode cX9_missedBits 24 = .ok (.ishl, 1) := by decide +kernel
theorem dX9_missedBits_25 : decode cX9_missedBits 25 = .ok (.ior, 1) := by decide +kernel
theorem dX9_missedBits_26 : decode cX9_missedBits 26 = .ok (.istore_n 1, 1) := by decide +kernel
theorem dX9_missedBits_27 : decode cX9_missedBits 27 = .ok (.iinc 2 1, 3) := by decide +kernel
theorem dX9_missedBits_30 : decode cX9_missedBits 30 = .ok (.goto (-26), 3) := by decide +kernel
theorem dX9_missedBits_33 : decode cX9_missedBits 33 = .ok (.iload_n 1, 1) := by decide +kernel
theorem dX9_missedBits_34 : decode cX9_missedBits 34 = .ok (.ireturn, 1) := by decide +kernel
def f_X9_missedBits_4 (i0 : Nat) : Nat → Int32 → Int32 → gSt → Option (Int32 × gSt)
  | 0, _, _, _ => none
  | n + 1, v1, v2, σ =>
    if (σ 10 i0 9) ≤ v2 then
      some (v1, σ)
    else
      (f_X9_timeAt i0 v2 σ).bind fun p14 =>
      if p14.1 = (-1) then
        f_X9_missedBits_4 i0 n (v1 ||| (1 <<< (v2 &&& 31))) (v2 + 1) p14.2
      else
        f_X9_missedBits_4 i0 n v1 (v2 + 1) p14.2
def f_X9_missedBits (i0 : Nat) (σ : gSt) : Option (Int32 × gSt) :=
  f_X9_missedBits_4 i0 gFuel 0 0 σ
theorem f_X9_missedBits_4_ok {i0 : Nat} {r : (Int32 × gSt)} (hi0 : i0 < 20) : ∀ (n : Nat) {v1 : Int32} {v2 : Int32} {σ : gSt} , f_X9_missedBits_4 i0 n v1 v2 σ = some r → G l w 0 41 RX9 cX9_missedBits 3 (some .int) 1 21 (gE (some (.int r.1)) r.2) 4 [some (.ref (w.2.1 10 i0)), some (.int v1), some (.int v2)] [] σ := by
  intro n
  induction n with
  | zero => intro v1 v2 σ h; rw [f_X9_missedBits_4] at h; cases h
  | succ n ih =>
    intro v1 v2 σ h
    rw [f_X9_missedBits_4] at h
    refine g_iload_n dX9_missedBits_4 rfl ?_
    refine g_aload_n dX9_missedBits_5 rfl ?_
    refine gI_X9_42 (ok_10 hi0) dX9_missedBits_6 ?_
    refine g_icmp_ge 33 dX9_missedBits_9 rfl (fun q => ?_) (fun q => ?_)
    · replace h := gif_t q h
      refine g_iload_n dX9_missedBits_33 rfl ?_
      cases h
      exact g_iret dX9_missedBits_34 rfl ⟨rfl, rfl⟩
    · replace h := gif_f q h
      refine g_aload_n dX9_missedBits_12 rfl ?_
      refine g_iload_n dX9_missedBits_13 rfl ?_
      obtain ⟨p14, e14, h⟩ := obind h
      refine g_vP1 mv_X9_75 dX9_missedBits_14 (ok_10 hi0) ⟨by decide, by decide⟩ (Nat.le_of_ble_eq_true rfl) (f_X9_timeAt_ok hi0 e14) ?_
      refine g_iconst dX9_missedBits_17 kc_m1 ?_
      refine g_icmp_ne 27 dX9_missedBits_18 rfl (fun q => ?_) (fun q => ?_)
      · replace h := gif_f q h
        refine g_inc2 kc_1 dX9_missedBits_27 ?_
        refine g_goto 4 dX9_missedBits_30 rfl ?_
        exact ih h
      · replace h := gif_t q h
        refine g_iload_n dX9_missedBits_21 rfl ?_
        refine g_iconst dX9_missedBits_22 kc_1 ?_
        refine g_iload_n dX9_missedBits_23 rfl ?_
        refine g_ishl dX9_missedBits_24 ?_
        refine g_ior dX9_missedBits_25 ?_
        refine g_istore1 dX9_missedBits_26 ?_
        refine g_inc2 kc_1 dX9_missedBits_27 ?_
        refine g_goto 4 dX9_missedBits_30 rfl ?_
        exact ih h
theorem f_X9_missedBits_ok {i0 : Nat} (hi0 : i0 < 20) {σ : gSt} {r : (Int32 × gSt)} (h : f_X9_missedBits i0 σ = some r) : Mt l w 0 41 yX9_missedBits cX9_missedBits 3 (some .int) 1 21 [.ref (w.2.1 10 i0)] σ (gE (some (.int r.1)) r.2) := by
  unfold f_X9_missedBits at h
  refine g_start pn_X9 rfl rfl (Nat.le_of_ble_eq_true rfl) ?_
  show G l w 0 41 RX9 cX9_missedBits 3 (some .int) 1 21 (gE (some (.int r.1)) r.2) 0 [some (.ref (w.2.1 10 i0)), none, none] [] σ
  refine g_iconst dX9_missedBits_0 kc_0 ?_
  refine g_istore1 dX9_missedBits_1 ?_
  refine g_iconst dX9_missedBits_2 kc_0 ?_
  refine g_istore2 dX9_missedBits_3 ?_
  exact f_X9_missedBits_4_ok hi0 gFuel h
theorem dX10_put_0 : decode cX10_put 0 = .ok (.bipush 24, 2) := by decide +kernel
theorem dX10_put_2 : decode cX10_put 2 = .ok (.istore_n 2, 1) := by decide +kernel
theorem dX10_put_3 : decode cX10_put 3 = .ok (.iload_n 2, 1) := by decide +kernel
theorem dX10_put_4 : decode cX10_put 4 = .ok (.ifCond .lt 54, 3) := by decide +kernel
theorem dX10_put_7 : decode cX10_put 7 = .ok (.aload_n 0, 1) := by decide +kernel
theorem dX10_put_8 : decode cX10_put 8 = .ok (.getfield 15, 3) := by decide +kernel
theorem dX10_put_11 : decode cX10_put 11 = .ok (.ifCond .lt 41, 3) := by decide +kernel
theorem dX10_put_14 : decode cX10_put 14 = .ok (.aload_n 0, 1) := by decide +kernel
theorem dX10_put_15 : decode cX10_put 15 = .ok (.getfield 15, 3) := by decide +kernel
theorem dX10_put_18 : decode cX10_put 18 = .ok (.aload_n 0, 1) := by decide +kernel
theorem dX10_put_19 : decode cX10_put 19 = .ok (.getfield 9, 3) := by decide +kernel
theorem dX10_put_22 : decode cX10_put 22 = .ok (.arraylength, 1) := by decide +kernel
theorem dX10_put_23 : decode cX10_put 23 = .ok (.if_icmp .ge 29, 3) := by decide +kernel
theorem dX10_put_26 : decode cX10_put 26 = .ok (.aload_n 0, 1) := by decide +kernel
theorem dX10_put_27 : decode cX10_put 27 = .ok (.getfield 9, 3) := by decide +kernel
theorem dX10_put_30 : decode cX10_put 30 = .ok (.aload_n 0, 1) := by decide +kernel
theorem dX10_put_31 : decode cX10_put 31 = .ok (.getfield 15, 3) := by decide +kernel
theorem dX10_put_34 : decode cX10_put 34 = .ok (.iload_n 1, 1) := by decide +kernel
theorem dX10_put_35 : decode cX10_put 35 = .ok (.iload_n 2, 1) := by decide +kernel
theorem dX10_put_36 : decode cX10_put 36 = .ok (.iushr, 1) := by decide +kernel
theorem dX10_put_37 : decode cX10_put 37 = .ok (.sipush 255, 3) := by decide +kernel
theorem dX10_put_40 : decode cX10_put 40 = .ok (.iand, 1) := by decide +kernel
theorem dX10_put_41 : decode cX10_put 41 = .ok (.iastore, 1) := by decide +kernel
theorem dX10_put_42 : decode cX10_put 42 = .ok (.aload_n 0, 1) := by decide +kernel
theorem dX10_put_43 : decode cX10_put 43 = .ok (.dup, 1) := by decide +kernel
theorem dX10_put_44 : decode cX10_put 44 = .ok (.getfield 15, 3) := by decide +kernel
theorem dX10_put_47 : decode cX10_put 47 = .ok (.iconst 1, 1) := by decide +kernel
theorem dX10_put_48 : decode cX10_put 48 = .ok (.iadd, 1) := by decide +kernel
theorem dX10_put_49 : decode cX10_put 49 = .ok (.putfield 15, 3) := by decide +kernel
theorem dX10_put_52 : decode cX10_put 52 = .ok (.iinc 2 (-8), 3) := by decide +kernel
theorem dX10_put_55 : decode cX10_put 55 = .ok (.goto (-52), 3) := by decide +kernel
theorem dX10_put_58 : decode cX10_put 58 = .ok (.return_, 1) := by decide +kernel
def f_X10_put_3 (v1 : Int32) : Nat → Int32 → gSt → Option gSt
  | 0, _, _ => none
  | n + 1, v2, σ =>
    if v2 < 0 then
      some σ
    else
      if (σ 1 0 1) < 0 then
        f_X10_put_3 v1 n (v2 + (-8)) σ
      else
        if 900 ≤ (σ 1 0 1) then
          f_X10_put_3 v1 n (v2 + (-8)) σ
        else
          (gst σ 2 0 900 (σ 1 0 1) ((gus v1 v2) &&& 255)).bind fun z41 =>
          f_X10_put_3 v1 n (v2 + (-8)) (gup z41 1 0 1 ((z41 1 0 1) + 1))
def f_X10_put (v1 : Int32) (σ : gSt) : Option gSt :=
  f_X10_put_3 v1 gFuel 24 σ
theorem f_X10_put_3_ok {v1 : Int32} {r : gSt}  : ∀ (n : Nat) {v2 : Int32} {σ : gSt} , f_X10_put_3 v1 n v2 σ = some r → G l w 0 41 RX10 cX10_put 3 none 0 0 (gE none r) 3 [some (.ref (w.2.1 1 0)), some (.int v1), some (.int v2)] [] σ := by
  intro n
  induction n with
  | zero => intro v2 σ h; rw [f_X10_put_3] at h; cases h
  | succ n ih =>
    intro v2 σ h
    rw [f_X10_put_3] at h
    refine g_iload_n dX10_put_3 rfl ?_
    refine g_if_lt 58 dX10_put_4 rfl (fun q => ?_) (fun q => ?_)
    · replace h := gif_t q h
      cases h
      exact g_vret dX10_put_58 rfl ⟨rfl, rfl⟩
    · replace h := gif_f q h
      refine g_aload_n dX10_put_7 rfl ?_
      refine gI_X10_15 ok_1 dX10_put_8 ?_
      refine g_if_lt 52 dX10_put_11 rfl (fun q => ?_) (fun q => ?_)
      · replace h := gif_t q h
        refine g_inc2 kc_m8 dX10_put_52 ?_
        refine g_goto 3 dX10_put_55 rfl ?_
        exact ih h
      · replace h := gif_f q h
        refine g_aload_n dX10_put_14 rfl ?_
        refine gI_X10_15 ok_1 dX10_put_15 ?_
        refine g_aload_n dX10_put_18 rfl ?_
        refine gR_X10_9 ok_1 dX10_put_19 ?_
        refine g_alenL nc_900 rfl rfl ok_2 dX10_put_22 ?_
        refine g_icmp_ge 52 dX10_put_23 rfl (fun q => ?_) (fun q => ?_)
        · replace h := gif_t q h
          refine g_inc2 kc_m8 dX10_put_52 ?_
          refine g_goto 3 dX10_put_55 rfl ?_
          exact ih h
        · replace h := gif_f q h
          refine g_aload_n dX10_put_26 rfl ?_
          refine gR_X10_9 ok_1 dX10_put_27 ?_
          refine g_aload_n dX10_put_30 rfl ?_
          refine gI_X10_15 ok_1 dX10_put_31 ?_
          refine g_iload_n dX10_put_34 rfl ?_
          refine g_iload_n dX10_put_35 rfl ?_
          refine g_iushr dX10_put_36 rfl ?_
          refine g_sipush dX10_put_37 ks_255 ?_
          refine g_iand dX10_put_40 ?_
          obtain ⟨z41, e41, h⟩ := obind h
          refine g_stB e41 ok_2 rfl rfl (by decide) dX10_put_41 ?_
          refine g_aload_n dX10_put_42 rfl ?_
          refine g_dup dX10_put_43 rfl ?_
          refine gI_X10_15 ok_1 dX10_put_44 ?_
          refine g_iconst dX10_put_47 kc_1 ?_
          refine g_iadd dX10_put_48 ?_
          refine gP_X10_15 ok_1 dX10_put_49 ?_
          refine g_inc2 kc_m8 dX10_put_52 ?_
          refine g_goto 3 dX10_put_55 rfl ?_
          exact ih h
theorem f_X10_put_ok {v1 : Int32}  {σ : gSt} {r : gSt} (h : f_X10_put v1 σ = some r) : Mt l w 0 41 yX10_put cX10_put 3 none 0 0 [.ref (w.2.1 1 0), .int v1] σ (gE none r) := by
  unfold f_X10_put at h
  refine g_start pn_X10 rfl rfl (Nat.le_of_ble_eq_true rfl) ?_
  show G l w 0 41 RX10 cX10_put 3 none 0 0 (gE none r) 0 [some (.ref (w.2.1 1 0)), some (.int v1), none] [] σ
  refine g_bipush dX10_put_0 kb_24 ?_
  refine g_istore2 dX10_put_2 ?_
  exact f_X10_put_3_ok gFuel h
theorem dX10_wordAlone_0 : decode cX10_wordAlone 0 = .ok (.iconst 0, 1) := by decide +kernel
theorem dX10_wordAlone_1 : decode cX10_wordAlone 1 = .ok (.istore_n 2, 1) := by decide +kernel
theorem dX10_wordAlone_2 : decode cX10_wordAlone 2 = .ok (.iload_n 1, 1) := by decide +kernel
theorem dX10_wordAlone_3 : decode cX10_wordAlone 3 = .ok (.istore_n 3, 1) := by decide +kernel
theorem dX10_wordAlone_4 : decode cX10_wordAlone 4 = .ok (.iload_n 2, 1) := by decide +kernel
theorem dX10_wordAlone_5 : decode cX10_wordAlone 5 = .ok (.iload_n 3, 1) := by decide +kernel
theorem dX10_wordAlone_6 : decode cX10_wordAlone 6 = .ok (.if_icmp .ge 19, 3) := by decide +kernel
theorem dX10_wordAlone_9 : decode cX10_wordAlone 9 = .ok (.aload_n 0, 1) := by decide +kernel
theorem dX10_wordAlone_10 : decode cX10_wordAlone 10 = .ok (.iload_n 2, 1) := by decide +kernel
theorem dX10_wordAlone_11 : decode cX10_wordAlone 11 = .ok (.invokevirtual 19, 3) := by decide +kernel
theorem dX10_wordAlone_14 : decode cX10_wordAlone 14 = .ok (.bipush 32, 2) := by decide +kernel
theorem dX10_wordAlone_16 : decode cX10_wordAlone 16 = .ok (.if_icmp .ne 9, 3) := by decide +kernel
theorem dX10_wordAlone_19 : decode cX10_wordAlone 19 = .ok (.iinc 2 1, 3) := by decide +kernel
theorem dX10_wordAlone_22 : decode cX10_wordAlone 22 = .ok (.goto (-18), 3) := by decide +kernel
theorem dX10_wordAlone_25 : decode cX10_wordAlone 25 = .ok (.iload_n 3, 1) := by decide +kernel
theorem dX10_wordAlone_26 : decode cX10_wordAlone 26 = .ok (.iload_n 2, 1) := by decide +kernel
theorem dX10_wordAlone_27 : decode cX10_wordAlone 27 = .ok (.if_icmp .le 21, 3) := by decide +kernel
theorem dX10_wordAlone_30 : decode cX10_wordAlone 30 = .ok (.aload_n 0, 1) := by decide +kernel
theorem dX10_wordAlone_31 : decode cX10_wordAlone 31 = .ok (.iload_n 3, 1) := by decide +kernel
theorem dX10_wordAlone_32 : decode cX10_wordAlone 32 = .ok (.iconst 1, 1) := by decide +kernel
theorem dX10_wordAlone_33 : decode cX10_wordAlone 33 = .ok (.isub, 1) := by decide +kernel
theorem dX10_wordAlone_34 : decode cX10_wordAlone 34 = .ok (.invokevirtual 19, 3) := by decide +kernel
theorem dX10_wordAlone_37 : decode cX10_wordAlone 37 = .ok (.bipush 32, 2) := by decide +kernel
theorem dX10_wordAlone_39 : decode cX10_wordAlone 39 = .ok (.if_icmp .ne 9, 3) := by decide +kernel
theorem dX10_wordAlone_42 : decode cX10_wordAlone 42 = .ok (.iinc 3 (-1), 3) := by decide +kernel
theorem dX10_wordAlone_45 : decode cX10_wordAlone 45 = .ok (.goto (-20), 3) := by decide +kernel
theorem dX10_wordAlone_48 : decode cX10_wordAlone 48 = .ok (.iload_n 3, 1) := by decide +kernel
theorem dX10_wordAlone_49 : decode cX10_wordAlone 49 = .ok (.iload_n 2, 1) := by decide +kernel
theorem dX10_wordAlone_50 : decode cX10_wordAlone 50 = .ok (.isub, 1) := by decide +kernel
theorem dX10_wordAlone_51 : decode cX10_wordAlone 51 = .ok (.bipush 6, 2) := by decide +kernel
theorem dX10_wordAlone_53 : decode cX10_wordAlone 53 = .ok (.if_icmp .le 5, 3) := by decide +kernel
theorem dX10_wordAlone_56 : decode cX10_wordAlone 56 = .ok (.iconst 0, 1) := by decide +kernel
theorem dX10_wordAlone_57 : decode cX10_wordAlone 57 = .ok (.ireturn, 1) := by decide +kernel
theorem dX10_wordAlone_58 : decode cX10_wordAlone 58 = .ok (.iconst 0, 1) := by decide +kernel
theorem dX10_wordAlone_59 : decode cX10_wordAlone 59 = .ok (.istore 4, 2) := by decide +kernel
theorem dX10_wordAlone_61 : decode cX10_wordAlone 61 = .ok (.iload_n 2, 1) := by decide +kernel
theorem dX10_wordAlone_62 : decode cX10_wordAlone 62 = .ok (.istore 5, 2) := by decide +kernel
theorem dX10_wordAlone_64 : decode cX10_wordAlone 64 = .ok (.iload 5, 2) := by decide +kernel
theorem dX10_wordAlone_66 : decode cX10_wordAlone 66 = .ok (.iload_n 3, 1) := by decide +kernel
theorem dX10_wordAlone_67 : decode cX10_wordAlone 67 = .ok (.if_icmp .ge 36, 3) := by decide +kernel
theorem dX10_wordAlone_70 : decode cX10_wordAlone 70 = .ok (.aload_n 0, 1) := by decide +kernel
theorem dX10_wordAlone_71 : decode cX10_wordAlone 71 = .ok (.iload 5, 2) := by decide +kernel
theorem dX10_wordAlone_73 : decode cX10_wordAlone 73 = .ok (.invokevirtual 19, 3) := by decide +kernel
theorem dX10_wordAlone_76 : decode cX10_wordAlone 76 = .ok (.invokestatic 23, 3) := by decide +kernel
theorem dX10_wordAlone_79 : decode cX10_wordAlone 79 = .ok (.ifCond .ne 5, 3) := by decide +kernel
theorem dX10_wordAlone_82 : decode cX10_wordAlone 82 = .ok (.iconst 0, 1) := by decide +kernel
theorem dX10_wordAlone_83 : decode cX10_wordAlone 83 = .ok (.ireturn, 1) := by decide +kernel
theorem dX10_wordAlone_84 : decode cX10_wordAlone 84 = .ok (.iload 4, 2) := by decide +kernel
theorem dX10_wordAlone_86 : decode cX10_wordAlone 86 = .ok (.aload_n 0, 1) := by decide +kernel
theorem dX10_wordAlone_87 : decode cX10_wordAlone 87 = .ok (.iload 5, 2) := by decide +kernel
theorem dX10_wordAlone_89 : decode cX10_wordAlone 89 = .ok (.invokevirtual 19, 3) := by decide +kernel
theorem dX10_wordAlone_92 : decode cX10_wordAlone 92 = .ok (.invokestatic 27, 3) := by decide +kernel
theorem dX10_wordAlone_95 : decode cX10_wordAlone 95 = .ok (.istore 4, 2) := by decide +kernel
theorem dX10_wordAlone_97 : decode cX10_wordAlone 97 = .ok (.iinc 5 1, 3) := by decide +kernel
theorem dX10_wordAlone_100 : decode cX10_wordAlone 100 = .ok (.goto (-36), 3) := by decide +kernel
theorem dX10_wordAlone_103 : decode cX10_wordAlone 103 = .ok (.iload 4, 2) := by decide +kernel
theorem dX10_wordAlone_105 : decode cX10_wordAlone 105 = .ok (.ireturn, 1) := by decide +kernel
def f_X10_wordAlone_64 (v3 : Int32) : Nat → Int32 → Int32 → gSt → Option (Int32 × gSt)
  | 0, _, _, _ => none
  | n + 1, v4, v5, σ =>
    if v3 ≤ v5 then
      some (v4, σ)
    else
      (f_X10_byteAt v5 σ).bind fun p73 =>
      (f_X10_isLetter p73.1 p73.2).bind fun p76 =>
      if p76.1 = 0 then
        some (0, p76.2)
      else
        (f_X10_byteAt v5 p76.2).bind fun p89 =>
        (f_X10_longer v4 p89.1 p89.2).bind fun p92 =>
        f_X10_wordAlone_64 v3 n p92.1 (v5 + 1) p92.2
def f_X10_wordAlone_48 (v2 : Int32) (v3 : Int32) (σ : gSt) : Option (Int32 × gSt) :=
  if (v3 - v2) ≤ 6 then
    f_X10_wordAlone_64 v3 gFuel 0 v2 σ
  else
    some (0, σ)
def f_X10_wordAlone_25 (v2 : Int32) : Nat → Int32 → gSt → Option (Int32 × gSt)
  | 0, _, _ => none
  | n + 1, v3, σ =>
    if v3 ≤ v2 then
      f_X10_wordAlone_48 v2 v3 σ
    else
      (f_X10_byteAt (v3 - 1) σ).bind fun p34 =>
      if p34.1 = 32 then
        f_X10_wordAlone_25 v2 n (v3 + (-1)) p34.2
      else
        f_X10_wordAlone_48 v2 v3 p34.2
def f_X10_wordAlone_4 (v3 : Int32) : Nat → Int32 → gSt → Option (Int32 × gSt)
  | 0, _, _ => none
  | n + 1, v2, σ =>
    if v3 ≤ v2 then
      f_X10_wordAlone_25 v2 gFuel v3 σ
    else
      (f_X10_byteAt v2 σ).bind fun p11 =>
      if p11.1 = 32 then
        f_X10_wordAlone_4 v3 n (v2 + 1) p11.2
      else
        f_X10_wordAlone_25 v2 gFuel v3 p11.2
def f_X10_wordAlone (v1 : Int32) (σ : gSt) : Option (Int32 × gSt) :=
  f_X10_wordAlone_4 v1 gFuel 0 σ
theorem f_X10_wordAlone_64_ok {v3 : Int32} {r : (Int32 × gSt)}  : ∀ (n : Nat) {v4 : Int32} {v5 : Int32} {σ : gSt} {x1 x2 : Option Value}, f_X10_wordAlone_64 v3 n v4 v5 σ = some r → G l w 0 41 RX10 cX10_wordAlone 6 (some .int) 1 21 (gE (some (.int r.1)) r.2) 64 [some (.ref (w.2.1 1 0)), x1, x2, some (.int v3), some (.int v4), some (.int v5)] [] σ := by
  intro n
  induction n with
  | zero => intro v4 v5 σ x1 x2 h; rw [f_X10_wordAlone_64] at h; cases h
  | succ n ih =>
    intro v4 v5 σ x1 x2 h
    rw [f_X10_wordAlone_64] at h
    refine g_iload dX10_wordAlone_64 rfl ?_
    refine g_iload_n dX10_wordAlone_66 rfl ?_
    refine g_icmp_ge 103 dX10_wordAlone_67 rfl (fun q => ?_) (fun q => ?_)
    · replace h := gif_t q h
      refine g_iload dX10_wordAlone_103 rfl ?_
      cases h
      exact g_iret dX10_wordAlone_105 rfl ⟨rfl, rfl⟩
    · replace h := gif_f q h
      refine g_aload_n dX10_wordAlone_70 rfl ?_
      refine g_iload dX10_wordAlone_71 rfl ?_
      obtain ⟨p73, e73, h⟩ := obind h
      refine g_vP1 mv_X10_19 dX10_wordAlone_73 ok_1 ⟨by decide, by decide⟩ (Nat.le_of_ble_eq_true rfl) (f_X10_byteAt_ok e73) ?_
      obtain ⟨p76, e76, h⟩ := obind h
      refine g_sP1 ms_X10_23 dX10_wordAlone_76 ⟨by decide, by decide⟩ (Nat.le_of_ble_eq_true rfl) (f_X10_isLetter_ok e76) ?_
      refine g_if_ne 84 dX10_wordAlone_79 rfl (fun q => ?_) (fun q => ?_)
      · replace h := gif_f q h
        refine g_iload dX10_wordAlone_84 rfl ?_
        refine g_aload_n dX10_wordAlone_86 rfl ?_
        refine g_iload dX10_wordAlone_87 rfl ?_
        obtain ⟨p89, e89, h⟩ := obind h
        refine g_vP1 mv_X10_19 dX10_wordAlone_89 ok_1 ⟨by decide, by decide⟩ (Nat.le_of_ble_eq_true rfl) (f_X10_byteAt_ok e89) ?_
        obtain ⟨p92, e92, h⟩ := obind h
        refine g_sP2 ms_X10_27 dX10_wordAlone_92 ⟨by decide, by decide⟩ (Nat.le_of_ble_eq_true rfl) (f_X10_longer_ok e92) ?_
        refine g_istore4 dX10_wordAlone_95 ?_
        refine g_inc5 kc_1 dX10_wordAlone_97 ?_
        refine g_goto 64 dX10_wordAlone_100 rfl ?_
        exact ih h
      · replace h := gif_t q h
        refine g_iconst dX10_wordAlone_82 kc_0 ?_
        cases h
        exact g_iret dX10_wordAlone_83 rfl ⟨rfl, rfl⟩
theorem f_X10_wordAlone_48_ok {v2 : Int32} {v3 : Int32} {r : (Int32 × gSt)}  {σ : gSt} {x1 x4 x5 : Option Value} (h : f_X10_wordAlone_48 v2 v3 σ = some r) : G l w 0 41 RX10 cX10_wordAlone 6 (some .int) 1 21 (gE (some (.int r.1)) r.2) 48 [some (.ref (w.2.1 1 0)), x1, some (.int v2), some (.int v3), x4, x5] [] σ := by
  unfold f_X10_wordAlone_48 at h
  refine g_iload_n dX10_wordAlone_48 rfl ?_
  refine g_iload_n dX10_wordAlone_49 rfl ?_
  refine g_isub dX10_wordAlone_50 ?_
  refine g_bipush dX10_wordAlone_51 kb_6 ?_
  refine g_icmp_le 58 dX10_wordAlone_53 rfl (fun q => ?_) (fun q => ?_)
  · replace h := gif_t q h
    refine g_iconst dX10_wordAlone_58 kc_0 ?_
    refine g_istore4 dX10_wordAlone_59 ?_
    refine g_iload_n dX10_wordAlone_61 rfl ?_
    refine g_istore5 dX10_wordAlone_62 ?_
    exact f_X10_wordAlone_64_ok gFuel h
  · replace h := gif_f q h
    refine g_iconst dX10_wordAlone_56 kc_0 ?_
    cases h
    exact g_iret dX10_wordAlone_57 rfl ⟨rfl, rfl⟩
theorem f_X10_wordAlone_25_ok {v2 : Int32} {r : (Int32 × gSt)}  : ∀ (n : Nat) {v3 : Int32} {σ : gSt} {x1 x4 x5 : Option Value}, f_X10_wordAlone_25 v2 n v3 σ = some r → G l w 0 41 RX10 cX10_wordAlone 6 (some .int) 1 21 (gE (some (.int r.1)) r.2) 25 [some (.ref (w.2.1 1 0)), x1, some (.int v2), some (.int v3), x4, x5] [] σ := by
  intro n
  induction n with
  | zero => intro v3 σ x1 x4 x5 h; rw [f_X10_wordAlone_25] at h; cases h
  | succ n ih =>
    intro v3 σ x1 x4 x5 h
    rw [f_X10_wordAlone_25] at h
    refine g_iload_n dX10_wordAlone_25 rfl ?_
    refine g_iload_n dX10_wordAlone_26 rfl ?_
    refine g_icmp_le 48 dX10_wordAlone_27 rfl (fun q => ?_) (fun q => ?_)
    · replace h := gif_t q h
      exact f_X10_wordAlone_48_ok h
    · replace h := gif_f q h
      refine g_aload_n dX10_wordAlone_30 rfl ?_
      refine g_iload_n dX10_wordAlone_31 rfl ?_
      refine g_iconst dX10_wordAlone_32 kc_1 ?_
      refine g_isub dX10_wordAlone_33 ?_
      obtain ⟨p34, e34, h⟩ := obind h
      refine g_vP1 mv_X10_19 dX10_wordAlone_34 ok_1 ⟨by decide, by decide⟩ (Nat.le_of_ble_eq_true rfl) (f_X10_byteAt_ok e34) ?_
      refine g_bipush dX10_wordAlone_37 kb_32 ?_
      refine g_icmp_ne 48 dX10_wordAlone_39 rfl (fun q => ?_) (fun q => ?_)
      · replace h := gif_f q h
        exact f_X10_wordAlone_48_ok h
      · replace h := gif_t q h
        refine g_inc3 kc_m1 dX10_wordAlone_42 ?_
        refine g_goto 25 dX10_wordAlone_45 rfl ?_
        exact ih h
theorem f_X10_wordAlone_4_ok {v3 : Int32} {r : (Int32 × gSt)}  : ∀ (n : Nat) {v2 : Int32} {σ : gSt} {x1 x4 x5 : Option Value}, f_X10_wordAlone_4 v3 n v2 σ = some r → G l w 0 41 RX10 cX10_wordAlone 6 (some .int) 1 21 (gE (some (.int r.1)) r.2) 4 [some (.ref (w.2.1 1 0)), x1, some (.int v2), some (.int v3), x4, x5] [] σ := by
  intro n
  induction n with
  | zero => intro v2 σ x1 x4 x5 h; rw [f_X10_wordAlone_4] at h; cases h
  | succ n ih =>
    intro v2 σ x1 x4 x5 h
    rw [f_X10_wordAlone_4] at h
    refine g_iload_n dX10_wordAlone_4 rfl ?_
    refine g_iload_n dX10_wordAlone_5 rfl ?_
    refine g_icmp_ge 25 dX10_wordAlone_6 rfl (fun q => ?_) (fun q => ?_)
    · replace h := gif_t q h
      exact f_X10_wordAlone_25_ok gFuel h
    · replace h := gif_f q h
      refine g_aload_n dX10_wordAlone_9 rfl ?_
      refine g_iload_n dX10_wordAlone_10 rfl ?_
      obtain ⟨p11, e11, h⟩ := obind h
      refine g_vP1 mv_X10_19 dX10_wordAlone_11 ok_1 ⟨by decide, by decide⟩ (Nat.le_of_ble_eq_true rfl) (f_X10_byteAt_ok e11) ?_
      refine g_bipush dX10_wordAlone_14 kb_32 ?_
      refine g_icmp_ne 25 dX10_wordAlone_16 rfl (fun q => ?_) (fun q => ?_)
      · replace h := gif_f q h
        exact f_X10_wordAlone_25_ok gFuel h
      · replace h := gif_t q h
        refine g_inc2 kc_1 dX10_wordAlone_19 ?_
        refine g_goto 4 dX10_wordAlone_22 rfl ?_
        exact ih h
theorem f_X10_wordAlone_ok {v1 : Int32}  {σ : gSt} {r : (Int32 × gSt)} (h : f_X10_wordAlone v1 σ = some r) : Mt l w 0 41 yX10_wordAlone cX10_wordAlone 6 (some .int) 1 21 [.ref (w.2.1 1 0), .int v1] σ (gE (some (.int r.1)) r.2) := by
  unfold f_X10_wordAlone at h
  refine g_start pn_X10 rfl rfl (Nat.le_of_ble_eq_true rfl) ?_
  show G l w 0 41 RX10 cX10_wordAlone 6 (some .int) 1 21 (gE (some (.int r.1)) r.2) 0 [some (.ref (w.2.1 1 0)), some (.int v1), none, none, none, none] [] σ
  refine g_iconst dX10_wordAlone_0 kc_0 ?_
  refine g_istore2 dX10_wordAlone_1 ?_
  refine g_iload_n dX10_wordAlone_2 rfl ?_
  refine g_istore3 dX10_wordAlone_3 ?_
  exact f_X10_wordAlone_4_ok gFuel h
theorem dX11_feed_0 : decode cX11_feed 0 = .ok (.aload_n 0, 1) := by decide +kernel
theorem dX11_feed_1 : decode cX11_feed 1 = .ok (.getfield 12, 3) := by decide +kernel
theorem dX11_feed_4 : decode cX11_feed 4 = .ok (.getfield 84, 3) := by decide +kernel
theorem dX11_feed_7 : decode cX11_feed 7 = .ok (.bipush 20, 2) := by decide +kernel
theorem dX11_feed_9 : decode cX11_feed 9 = .ok (.iadd, 1) := by decide +kernel
theorem dX11_feed_10 : decode cX11_feed 10 = .ok (.sipush 900, 3) := by decide +kernel
theorem dX11_feed_13 : decode cX11_feed 13 = .ok (.if_icmp .le 5, 3) := by decide +kernel
theorem dX11_feed_16 : decode cX11_feed 16 = .ok (.iconst (-1), 1) := by decide +kernel
theorem dX11_feed_17 : decode cX11_feed 17 = .ok (.ireturn, 1) := by decide +kernel
theorem dX11_feed_18 : decode cX11_feed 18 = .ok (.aload_n 0, 1) := by decide +kernel
theorem dX11_feed_19 : decode cX11_feed 19 = .ok (.getfield 12, 3) := by decide +kernel
theorem dX11_feed_22 : decode cX11_feed 22 = .ok (.iload_n 1, 1) := by decide +kernel
theorem dX11_feed_23 : decode cX11_feed 23 = .ok (.invokevirtual 87, 3) := by decide +kernel
theorem dX11_feed_26 : decode cX11_feed 26 = .ok (.aload_n 0, 1) := by decide +kernel
theorem dX11_feed_27 : decode cX11_feed 27 = .ok (.getfield 12, 3) := by decide +kernel
theorem dX11_feed_30 : decode cX11_feed 30 = .ok (.iload_n 2, 1) := by decide +kernel
theorem dX11_feed_31 : decode cX11_feed 31 = .ok (.invokevirtual 87, 3) := by decide +kernel
theorem dX11_feed_34 : decode cX11_feed 34 = .ok (.aload_n 0, 1) := by decide +kernel
theorem dX11_feed_35 : decode cX11_feed 35 = .ok (.getfield 12, 3) := by decide +kernel
theorem dX11_feed_38 : decode cX11_feed 38 = .ok (.iload_n 3, 1) := by decide +kernel
theorem dX11_feed_39 : decode cX11_feed 39 = .ok (.invokevirtual 87, 3) := by decide +kernel
theorem dX11_feed_42 : decode cX11_feed 42 = .ok (.aload_n 0, 1) := by decide +kernel
theorem dX11_feed_43 : decode cX11_feed 43 = .ok (.getfield 12, 3) := by decide +kernel
theorem dX11_feed_46 : decode cX11_feed 46 = .ok (.iload 4, 2) := by decide +kernel
theorem dX11_feed_48 : decode cX11_feed 48 = .ok (.invokevirtual 87, 3) := by decide +kernel
theorem dX11_feed_51 : decode cX11_feed 51 = .ok (.aload_n 0, 1) := by decide +kernel
theorem dX11_feed_52 : decode cX11_feed 52 = .ok (.getfield 12, 3) := by decide +kernel
theorem dX11_feed_55 : decode cX11_feed 55 = .ok (.iload 5, 2) := by decide +kernel
theorem dX11_feed_57 : decode cX11_feed 57 = .ok (.invokevirtual 87, 3) := by decide +kernel
theorem dX11_feed_60 : decode cX11_feed 60 = .ok (.aload_n 0, 1) := by decide +kernel
theorem dX11_feed_61 : decode cX11_feed 61 = .ok (.getfield 12, 3) := by decide +kernel
theorem dX11_feed_64 : decode cX11_feed 64 = .ok (.getfield 84, 3) := by decide +kernel
theorem dX11_feed_67 : decode cX11_feed 67 = .ok (.ireturn, 1) := by decide +kernel
def f_X11_feed (v1 : Int32) (v2 : Int32) (v3 : Int32) (v4 : Int32) (v5 : Int32) (σ : gSt) : Option (Int32 × gSt) :=
  if ((σ 1 0 1) + 20) ≤ 900 then
    (f_X10_put v1 σ).bind fun z23 =>
    (f_X10_put v2 z23).bind fun z31 =>
    (f_X10_put v3 z31).bind fun z39 =>
    (f_X10_put v4 z39).bind fun z48 =>
    (f_X10_put v5 z48).bind fun z57 =>
    some ((z57 1 0 1), z57)
  else
    some ((-1), σ)
theorem f_X11_feed_ok {v1 : Int32} {v2 : Int32} {v3 : Int32} {v4 : Int32} {v5 : Int32}  {σ : gSt} {r : (Int32 × gSt)} (h : f_X11_feed v1 v2 v3 v4 v5 σ = some r) : Mt l w 0 41 yX11_feed cX11_feed 6 (some .int) 1 22 [.ref (w.2.1 0 0), .int v1, .int v2, .int v3, .int v4, .int v5] σ (gE (some (.int r.1)) r.2) := by
  unfold f_X11_feed at h
  refine g_start pn_X11 rfl rfl (Nat.le_of_ble_eq_true rfl) ?_
  show G l w 0 41 RX11 cX11_feed 6 (some .int) 1 22 (gE (some (.int r.1)) r.2) 0 [some (.ref (w.2.1 0 0)), some (.int v1), some (.int v2), some (.int v3), some (.int v4), some (.int v5)] [] σ
  refine g_aload_n dX11_feed_0 rfl ?_
  refine gR_X11_12 ok_0 dX11_feed_1 ?_
  refine gI_X11_84 ok_1 dX11_feed_4 ?_
  refine g_bipush dX11_feed_7 kb_20 ?_
  refine g_iadd dX11_feed_9 ?_
  refine g_sipush dX11_feed_10 ks_900 ?_
  refine g_icmp_le 18 dX11_feed_13 rfl (fun q => ?_) (fun q => ?_)
  · replace h := gif_t q h
    refine g_aload_n dX11_feed_18 rfl ?_
    refine gR_X11_12 ok_0 dX11_feed_19 ?_
    refine g_iload_n dX11_feed_22 rfl ?_
    obtain ⟨z23, e23, h⟩ := obind h
    refine g_vU1 mv_X11_87 dX11_feed_23 ok_1 ⟨by decide, by decide⟩ (Nat.le_of_ble_eq_true rfl) (f_X10_put_ok e23) ?_
    refine g_aload_n dX11_feed_26 rfl ?_
    refine gR_X11_12 ok_0 dX11_feed_27 ?_
    refine g_iload_n dX11_feed_30 rfl ?_
    obtain ⟨z31, e31, h⟩ := obind h
    refine g_vU1 mv_X11_87 dX11_feed_31 ok_1 ⟨by decide, by decide⟩ (Nat.le_of_ble_eq_true rfl) (f_X10_put_ok e31) ?_
    refine g_aload_n dX11_feed_34 rfl ?_
    refine gR_X11_12 ok_0 dX11_feed_35 ?_
    refine g_iload_n dX11_feed_38 rfl ?_
    obtain ⟨z39, e39, h⟩ := obind h
    refine g_vU1 mv_X11_87 dX11_feed_39 ok_1 ⟨by decide, by decide⟩ (Nat.le_of_ble_eq_true rfl) (f_X10_put_ok e39) ?_
    refine g_aload_n dX11_feed_42 rfl ?_
    refine gR_X11_12 ok_0 dX11_feed_43 ?_
    refine g_iload dX11_feed_46 rfl ?_
    obtain ⟨z48, e48, h⟩ := obind h
    refine g_vU1 mv_X11_87 dX11_feed_48 ok_1 ⟨by decide, by decide⟩ (Nat.le_of_ble_eq_true rfl) (f_X10_put_ok e48) ?_
    refine g_aload_n dX11_feed_51 rfl ?_
    refine gR_X11_12 ok_0 dX11_feed_52 ?_
    refine g_iload dX11_feed_55 rfl ?_
    obtain ⟨z57, e57, h⟩ := obind h
    refine g_vU1 mv_X11_87 dX11_feed_57 ok_1 ⟨by decide, by decide⟩ (Nat.le_of_ble_eq_true rfl) (f_X10_put_ok e57) ?_
    refine g_aload_n dX11_feed_60 rfl ?_
    refine gR_X11_12 ok_0 dX11_feed_61 ?_
    refine gI_X11_84 ok_1 dX11_feed_64 ?_
    cases h
    exact g_iret dX11_feed_67 rfl ⟨rfl, rfl⟩
  · replace h := gif_f q h
    refine g_iconst dX11_feed_16 kc_m1 ?_
    cases h
    exact g_iret dX11_feed_17 rfl ⟨rfl, rfl⟩
theorem dX11_refused_0 : decode cX11_refused 0 = .ok (.aload_n 0, 1) := by decide +kernel
theorem dX11_refused_1 : decode cX11_refused 1 = .ok (.iload_n 1, 1) := by decide +kernel
theorem dX11_refused_2 : decode cX11_refused 2 = .ok (.putfield 74, 3) := by decide +kernel
theorem dX11_refused_5 : decode cX11_refused 5 = .ok (.aload_n 0, 1) := by decide +kernel
theorem dX11_refused_6 : decode cX11_refused 6 = .ok (.iconst (-1), 1) := by decide +kernel
theorem dX11_refused_7 : decode cX11_refused 7 = .ok (.putfield 78, 3) := by decide +kernel
theorem dX11_refused_10 : decode cX11_refused 10 = .ok (.iconst (-1), 1) := by decide +kernel
theorem dX11_refused_11 : decode cX11_refused 11 = .ok (.ireturn, 1) := by decide +kernel
def f_X11_refused (v1 : Int32) (σ : gSt) : Option (Int32 × gSt) :=
  some ((-1), (gup (gup σ 0 0 9 v1) 0 0 10 (-1)))
theorem f_X11_refused_ok {v1 : Int32}  {σ : gSt} {r : (Int32 × gSt)} (h : f_X11_refused v1 σ = some r) : Mt l w 0 41 yX11_refused cX11_refused 2 (some .int) 0 0 [.ref (w.2.1 0 0), .int v1] σ (gE (some (.int r.1)) r.2) := by
  unfold f_X11_refused at h
  refine g_start pn_X11 rfl rfl (Nat.le_of_ble_eq_true rfl) ?_
  show G l w 0 41 RX11 cX11_refused 2 (some .int) 0 0 (gE (some (.int r.1)) r.2) 0 [some (.ref (w.2.1 0 0)), some (.int v1)] [] σ
  refine g_aload_n dX11_refused_0 rfl ?_
  refine g_iload_n dX11_refused_1 rfl ?_
  refine gP_X11_74 ok_0 dX11_refused_2 ?_
  refine g_aload_n dX11_refused_5 rfl ?_
  refine g_iconst dX11_refused_6 kc_m1 ?_
  refine gP_X11_78 ok_0 dX11_refused_7 ?_
  refine g_iconst dX11_refused_10 kc_m1 ?_
  cases h
  exact g_iret dX11_refused_11 rfl ⟨rfl, rfl⟩
theorem dX11_answered_0 : decode cX11_answered 0 = .ok (.aload_n 0, 1) := by decide +kernel
theorem dX11_answered_1 : decode cX11_answered 1 = .ok (.iconst 0, 1) := by decide +kernel
theorem dX11_answered_2 : decode cX11_answered 2 = .ok (.putfield 74, 3) := by decide +kernel
theorem dX11_answered_5 : decode cX11_answered 5 = .ok (.aload_n 0, 1) := by decide +kernel
theorem dX11_answered_6 : decode cX11_answered 6 = .ok (.iconst (-1), 1) := by decide +kernel
theorem dX11_answered_7 : decode cX11_answered 7 = .ok (.putfield 78, 3) := by decide +kernel
theorem dX11_answered_10 : decode cX11_answered 10 = .ok (.iload_n 1, 1) := by decide +kernel
theorem dX11_answered_11 : decode cX11_answered 11 = .ok (.ireturn, 1) := by decide +kernel
def f_X11_answered (v1 : Int32) (σ : gSt) : Option (Int32 × gSt) :=
  some (v1, (gup (gup σ 0 0 9 0) 0 0 10 (-1)))
theorem f_X11_answered_ok {v1 : Int32}  {σ : gSt} {r : (Int32 × gSt)} (h : f_X11_answered v1 σ = some r) : Mt l w 0 41 yX11_answered cX11_answered 2 (some .int) 0 0 [.ref (w.2.1 0 0), .int v1] σ (gE (some (.int r.1)) r.2) := by
  unfold f_X11_answered at h
  refine g_start pn_X11 rfl rfl (Nat.le_of_ble_eq_true rfl) ?_
  show G l w 0 41 RX11 cX11_answered 2 (some .int) 0 0 (gE (some (.int r.1)) r.2) 0 [some (.ref (w.2.1 0 0)), some (.int v1)] [] σ
  refine g_aload_n dX11_answered_0 rfl ?_
  refine g_iconst dX11_answered_1 kc_0 ?_
  refine gP_X11_74 ok_0 dX11_answered_2 ?_
  refine g_aload_n dX11_answered_5 rfl ?_
  refine g_iconst dX11_answered_6 kc_m1 ?_
  refine gP_X11_78 ok_0 dX11_answered_7 ?_
  refine g_iload_n dX11_answered_10 rfl ?_
  cases h
  exact g_iret dX11_answered_11 rfl ⟨rfl, rfl⟩
theorem dX11_text_0 : decode cX11_text 0 = .ok (.iload_n 1, 1) := by decide +kernel
theorem dX11_text_1 : decode cX11_text 1 = .ok (.ifCond .lt 14, 3) := by decide +kernel
theorem dX11_text_4 : decode cX11_text 4 = .ok (.iload_n 1, 1) := by decide +kernel
theorem dX11_text_5 : decode cX11_text 5 = .ok (.aload_n 0, 1) := by decide +kernel
theorem dX11_text_6 : decode cX11_text 6 = .ok (.getfield 12, 3) := by decide +kernel
theorem dX11_text_9 : decode cX11_text 9 = .ok (.getfield 84, 3) := by decide +kernel
theorem dX11_text_12 : decode cX11_text 12 = .ok (.if_icmp .le 9, 3) := by decide +kernel
theorem dX11_text_15 : decode cX11_text 15 = .ok (.aload_n 0, 1) := by decide +kernel
theorem dX11_text_16 : decode cX11_text 16 = .ok (.iconst 2, 1) := by decide +kernel
theorem dX11_text_17 : decode cX11_text 17 = .ok (.invokevirtual 91, 3) := by decide +kernel
theorem dX11_text_20 : decode cX11_text 20 = .ok (.ireturn, 1) := by decide +kernel
theorem dX11_text_21 : decode cX11_text 21 = .ok (.aload_n 0, 1) := by decide +kernel
theorem dX11_text_22 : decode cX11_text 22 = .ok (.getfield 28, 3) := by decide +kernel
theorem dX11_text_25 : decode cX11_text 25 = .ok (.iload_n 1, 1) := by decide +kernel
theorem dX11_text_26 : decode cX11_text 26 = .ok (.invokevirtual 95, 3) := by decide +kernel
theorem dX11_text_29 : decode cX11_text 29 = .ok (.istore_n 2, 1) := by decide +kernel
theorem dX11_text_30 : decode cX11_text 30 = .ok (.aload_n 0, 1) := by decide +kernel
theorem dX11_text_31 : decode cX11_text 31 = .ok (.getfield 12, 3) := by decide +kernel
theorem dX11_text_34 : decode cX11_text 34 = .ok (.iconst 0, 1) := by decide +kernel
theorem dX11_text_35 : decode cX11_text 35 = .ok (.putfield 84, 3) := by decide +kernel
theorem dX11_text_38 : decode cX11_text 38 = .ok (.aload_n 0, 1) := by decide +kernel
theorem dX11_text_39 : decode cX11_text 39 = .ok (.aload_n 0, 1) := by decide +kernel
theorem dX11_text_40 : decode cX11_text 40 = .ok (.getfield 28, 3) := by decide +kernel
theorem dX11_text_43 : decode cX11_text 43 = .ok (.getfield 99, 3) := by decide +kernel
theorem dX11_text_46 : decode cX11_text 46 = .ok (.putfield 81, 3) := by decide +kernel
theorem dX11_text_49 : decode cX11_text 49 = .ok (.iload_n 2, 1) := by decide +kernel
theorem dX11_text_50 : decode cX11_text 50 = .ok (.ifCond .ne 22, 3) := by decide +kernel
theorem dX11_text_53 : decode cX11_text 53 = .ok (.aload_n 0, 1) := by decide +kernel
theorem dX11_text_54 : decode cX11_text 54 = .ok (.iconst 4, 1) := by decide +kernel
theorem dX11_text_55 : decode cX11_text 55 = .ok (.invokevirtual 91, 3) := by decide +kernel
theorem dX11_text_58 : decode cX11_text 58 = .ok (.pop, 1) := by decide +kernel
theorem dX11_text_59 : decode cX11_text 59 = .ok (.aload_n 0, 1) := by decide +kernel
theorem dX11_text_60 : decode cX11_text 60 = .ok (.aload_n 0, 1) := by decide +kernel
theorem dX11_text_61 : decode cX11_text 61 = .ok (.getfield 28, 3) := by decide +kernel
theorem dX11_text_64 : decode cX11_text 64 = .ok (.getfield 102, 3) := by decide +kernel
theorem dX11_text_67 : decode cX11_text 67 = .ok (.putfield 78, 3) := by decide +kernel
theorem dX11_text_70 : decode cX11_text 70 = .ok (.iconst (-1), 1) := by decide +kernel
theorem dX11_text_71 : decode cX11_text 71 = .ok (.ireturn, 1) := by decide +kernel
theorem dX11_text_72 : decode cX11_text 72 = .ok (.aload_n 0, 1) := by decide +kernel
theorem dX11_text_73 : decode cX11_text 73 = .ok (.getfield 32, 3) := by decide +kernel
theorem dX11_text_76 : decode cX11_text 76 = .ok (.aload_n 0, 1) := by decide +kernel
theorem dX11_text_77 : decode cX11_text 77 = .ok (.getfield 19, 3) := by decide +kernel
theorem dX11_text_80 : decode cX11_text 80 = .ok (.invokevirtual 105, 3) := by decide +kernel
theorem dX11_text_83 : decode cX11_text 83 = .ok (.aload_n 0, 1) := by decide +kernel
theorem dX11_text_84 : decode cX11_text 84 = .ok (.getfield 70, 3) := by decide +kernel
theorem dX11_text_87 : decode cX11_text 87 = .ok (.invokevirtual 108, 3) := by decide +kernel
theorem dX11_text_90 : decode cX11_text 90 = .ok (.aload_n 0, 1) := by decide +kernel
theorem dX11_text_91 : decode cX11_text 91 = .ok (.aload_n 0, 1) := by decide +kernel
theorem dX11_text_92 : decode cX11_text 92 = .ok (.getfield 32, 3) := by decide +kernel
theorem dX11_text_95 : decode cX11_text 95 = .ok (.getfield 111, 3) := by decide +kernel
theorem dX11_text_98 : decode cX11_text 98 = .ok (.invokevirtual 114, 3) := by decide +kernel
theorem dX11_text_101 : decode cX11_text 101 = .ok (.ireturn, 1) := by decide +kernel
def f_X11_text (v1 : Int32) (σ : gSt) : Option (Int32 × gSt) :=
  if v1 < 0 then
    (f_X11_refused 2 σ).bind fun p17 =>
    some (p17.1, p17.2)
  else
    if v1 ≤ (σ 1 0 1) then
      (f_X8_read v1 σ).bind fun p26 =>
      if p26.1 = 0 then
        (f_X11_refused 4 (gup (gup p26.2 1 0 1 0) 0 0 11 ((gup p26.2 1 0 1 0) 15 0 7))).bind fun p55 =>
        some ((-1), (gup p55.2 0 0 10 (p55.2 15 0 8)))
      else
        (f_X4_copyFrom 1 0 (gup (gup p26.2 1 0 1 0) 0 0 11 ((gup p26.2 1 0 1 0) 15 0 7))).bind fun z80 =>
        (f_X0_forget z80).bind fun z87 =>
        (f_X11_answered (z87 3 1 4) z87).bind fun p98 =>
        some (p98.1, p98.2)
    else
      (f_X11_refused 2 σ).bind fun p17 =>
      some (p17.1, p17.2)
theorem f_X11_text_ok {v1 : Int32}  {σ : gSt} {r : (Int32 × gSt)} (h : f_X11_text v1 σ = some r) : Mt l w 0 41 yX11_text cX11_text 3 (some .int) 6 130 [.ref (w.2.1 0 0), .int v1] σ (gE (some (.int r.1)) r.2) := by
  unfold f_X11_text at h
  refine g_start pn_X11 rfl rfl (Nat.le_of_ble_eq_true rfl) ?_
  show G l w 0 41 RX11 cX11_text 3 (some .int) 6 130 (gE (some (.int r.1)) r.2) 0 [some (.ref (w.2.1 0 0)), some (.int v1), none] [] σ
  refine g_iload_n dX11_text_0 rfl ?_
  refine g_if_lt 15 dX11_text_1 rfl (fun q => ?_) (fun q => ?_)
  · replace h := gif_t q h
    refine g_aload_n dX11_text_15 rfl ?_
    refine g_iconst dX11_text_16 kc_2 ?_
    obtain ⟨p17, e17, h⟩ := obind h
    refine g_vP1 mv_X11_91 dX11_text_17 ok_0 ⟨by decide, by decide⟩ (Nat.le_of_ble_eq_true rfl) (f_X11_refused_ok e17) ?_
    cases h
    exact g_iret dX11_text_20 rfl ⟨rfl, rfl⟩
  · replace h := gif_f q h
    refine g_iload_n dX11_text_4 rfl ?_
    refine g_aload_n dX11_text_5 rfl ?_
    refine gR_X11_12 ok_0 dX11_text_6 ?_
    refine gI_X11_84 ok_1 dX11_text_9 ?_
    refine g_icmp_le 21 dX11_text_12 rfl (fun q => ?_) (fun q => ?_)
    · replace h := gif_t q h
      refine g_aload_n dX11_text_21 rfl ?_
      refine gR_X11_28 ok_0 dX11_text_22 ?_
      refine g_iload_n dX11_text_25 rfl ?_
      obtain ⟨p26, e26, h⟩ := obind h
      refine g_vP1 mv_X11_95 dX11_text_26 ok_15 ⟨by decide, by decide⟩ (Nat.le_of_ble_eq_true rfl) (f_X8_read_ok e26) ?_
      refine g_istore2 dX11_text_29 ?_
      refine g_aload_n dX11_text_30 rfl ?_
      refine gR_X11_12 ok_0 dX11_text_31 ?_
      refine g_iconst dX11_text_34 kc_0 ?_
      refine gP_X11_84 ok_1 dX11_text_35 ?_
      refine g_aload_n dX11_text_38 rfl ?_
      refine g_aload_n dX11_text_39 rfl ?_
      refine gR_X11_28 ok_0 dX11_text_40 ?_
      refine gI_X11_99 ok_15 dX11_text_43 ?_
      refine gP_X11_81 ok_0 dX11_text_46 ?_
      refine g_iload_n dX11_text_49 rfl ?_
      refine g_if_ne 72 dX11_text_50 rfl (fun q => ?_) (fun q => ?_)
      · replace h := gif_f q h
        refine g_aload_n dX11_text_72 rfl ?_
        refine gR_X11_32 ok_0 dX11_text_73 ?_
        refine g_aload_n dX11_text_76 rfl ?_
        refine gR_X11_19 ok_0 dX11_text_77 ?_
        obtain ⟨z80, e80, h⟩ := obind h
        refine g_vU1 mv_X11_105 dX11_text_80 (ok_3 (by decide)) ⟨by decide, by decide⟩ (Nat.le_of_ble_eq_true rfl) (f_X4_copyFrom_ok (by decide) (by decide) e80) ?_
        refine g_aload_n dX11_text_83 rfl ?_
        refine gR_X11_70 ok_0 dX11_text_84 ?_
        obtain ⟨z87, e87, h⟩ := obind h
        refine g_vU0 mv_X11_108 dX11_text_87 ok_26 ⟨by decide, by decide⟩ (Nat.le_of_ble_eq_true rfl) (f_X0_forget_ok e87) ?_
        refine g_aload_n dX11_text_90 rfl ?_
        refine g_aload_n dX11_text_91 rfl ?_
        refine gR_X11_32 ok_0 dX11_text_92 ?_
        refine gI_X11_111 (ok_3 (by decide)) dX11_text_95 ?_
        obtain ⟨p98, e98, h⟩ := obind h
        refine g_vP1 mv_X11_114 dX11_text_98 ok_0 ⟨by decide, by decide⟩ (Nat.le_of_ble_eq_true rfl) (f_X11_answered_ok e98) ?_
        cases h
        exact g_iret dX11_text_101 rfl ⟨rfl, rfl⟩
      · replace h := gif_t q h
        refine g_aload_n dX11_text_53 rfl ?_
        refine g_iconst dX11_text_54 kc_4 ?_
        obtain ⟨p55, e55, h⟩ := obind h
        refine g_vP1 mv_X11_91 dX11_text_55 ok_0 ⟨by decide, by decide⟩ (Nat.le_of_ble_eq_true rfl) (f_X11_refused_ok e55) ?_
        refine g_pop dX11_text_58 rfl ?_
        refine g_aload_n dX11_text_59 rfl ?_
        refine g_aload_n dX11_text_60 rfl ?_
        refine gR_X11_28 ok_0 dX11_text_61 ?_
        refine gI_X11_102 ok_15 dX11_text_64 ?_
        refine gP_X11_78 ok_0 dX11_text_67 ?_
        refine g_iconst dX11_text_70 kc_m1 ?_
        cases h
        exact g_iret dX11_text_71 rfl ⟨rfl, rfl⟩
    · replace h := gif_f q h
      refine g_aload_n dX11_text_15 rfl ?_
      refine g_iconst dX11_text_16 kc_2 ?_
      obtain ⟨p17, e17, h⟩ := obind h
      refine g_vP1 mv_X11_91 dX11_text_17 ok_0 ⟨by decide, by decide⟩ (Nat.le_of_ble_eq_true rfl) (f_X11_refused_ok e17) ?_
      cases h
      exact g_iret dX11_text_20 rfl ⟨rfl, rfl⟩
theorem dX11_fault_0 : decode cX11_fault 0 = .ok (.aload_n 0, 1) := by decide +kernel
theorem dX11_fault_1 : decode cX11_fault 1 = .ok (.getfield 81, 3) := by decide +kernel
theorem dX11_fault_4 : decode cX11_fault 4 = .ok (.ireturn, 1) := by decide +kernel
def f_X11_fault (σ : gSt) : Option (Int32 × gSt) :=
  some ((σ 0 0 11), σ)
theorem f_X11_fault_ok   {σ : gSt} {r : (Int32 × gSt)} (h : f_X11_fault σ = some r) : Mt l w 0 41 yX11_fault cX11_fault 1 (some .int) 0 0 [.ref (w.2.1 0 0)] σ (gE (some (.int r.1)) r.2) := by
  unfold f_X11_fault at h
  refine g_start pn_X11 rfl rfl (Nat.le_of_ble_eq_true rfl) ?_
  show G l w 0 41 RX11 cX11_fault 1 (some .int) 0 0 (gE (some (.int r.1)) r.2) 0 [some (.ref (w.2.1 0 0))] [] σ
  refine g_aload_n dX11_fault_0 rfl ?_
  refine gI_X11_81 ok_0 dX11_fault_1 ?_
  cases h
  exact g_iret dX11_fault_4 rfl ⟨rfl, rfl⟩
theorem dX11_where_0 : decode cX11_where 0 = .ok (.aload_n 0, 1) := by decide +kernel
theorem dX11_where_1 : decode cX11_where 1 = .ok (.getfield 78, 3) := by decide +kernel
theorem dX11_where_4 : decode cX11_where 4 = .ok (.ireturn, 1) := by decide +kernel
def f_X11_where (σ : gSt) : Option (Int32 × gSt) :=
  some ((σ 0 0 10), σ)
theorem f_X11_where_ok   {σ : gSt} {r : (Int32 × gSt)} (h : f_X11_where σ = some r) : Mt l w 0 41 yX11_where cX11_where 1 (some .int) 0 0 [.ref (w.2.1 0 0)] σ (gE (some (.int r.1)) r.2) := by
  unfold f_X11_where at h
  refine g_start pn_X11 rfl rfl (Nat.le_of_ble_eq_true rfl) ?_
  show G l w 0 41 RX11 cX11_where 1 (some .int) 0 0 (gE (some (.int r.1)) r.2) 0 [some (.ref (w.2.1 0 0))] [] σ
  refine g_aload_n dX11_where_0 rfl ?_
  refine gI_X11_78 ok_0 dX11_where_1 ?_
  cases h
  exact g_iret dX11_where_4 rfl ⟨rfl, rfl⟩
theorem dX11_about_0 : decode cX11_about 0 = .ok (.aload_n 0, 1) := by decide +kernel
theorem dX11_about_1 : decode cX11_about 1 = .ok (.getfield 32, 3) := by decide +kernel
theorem dX11_about_4 : decode cX11_about 4 = .ok (.invokevirtual 117, 3) := by decide +kernel
theorem dX11_about_7 : decode cX11_about 7 = .ok (.ifCond .eq 13, 3) := by decide +kernel
theorem dX11_about_10 : decode cX11_about 10 = .ok (.iload_n 1, 1) := by decide +kernel
theorem dX11_about_11 : decode cX11_about 11 = .ok (.ifCond .lt 9, 3) := by decide +kernel
theorem dX11_about_14 : decode cX11_about 14 = .ok (.iload_n 1, 1) := by decide +kernel
theorem dX11_about_15 : decode cX11_about 15 = .ok (.bipush 6, 2) := by decide +kernel
theorem dX11_about_17 : decode cX11_about 17 = .ok (.if_icmp .le 9, 3) := by decide +kernel
theorem dX11_about_20 : decode cX11_about 20 = .ok (.aload_n 0, 1) := by decide +kernel
theorem dX11_about_21 : decode cX11_about 21 = .ok (.iconst 1, 1) := by decide +kernel
theorem dX11_about_22 : decode cX11_about 22 = .ok (.invokevirtual 91, 3) := by decide +kernel
theorem dX11_about_25 : decode cX11_about 25 = .ok (.ireturn, 1) := by decide +kernel
theorem dX11_about_26 : decode cX11_about 26 = .ok (.iload_n 1, 1) := by decide +kernel
theorem dX11_about_27 : decode cX11_about 27 = .ok (.tableswitch 109 0 5 #[37, 49, 61, 73, 85, 97], 37) := by decide +kernel
theorem dX11_about_64 : decode cX11_about 64 = .ok (.aload_n 0, 1) := by decide +kernel
theorem dX11_about_65 : decode cX11_about 65 = .ok (.aload_n 0, 1) := by decide +kernel
theorem dX11_about_66 : decode cX11_about 66 = .ok (.getfield 32, 3) := by decide +kernel
theorem dX11_about_69 : decode cX11_about 69 = .ok (.getfield 121, 3) := by decide +kernel
theorem dX11_about_72 : decode cX11_about 72 = .ok (.invokevirtual 114, 3) := by decide +kernel
theorem dX11_about_75 : decode cX11_about 75 = .ok (.ireturn, 1) := by decide +kernel
theorem dX11_about_76 : decode cX11_about 76 = .ok (.aload_n 0, 1) := by decide +kernel
theorem dX11_about_77 : decode cX11_about 77 = .ok (.aload_n 0, 1) := by decide +kernel
theorem dX11_about_78 : decode cX11_about 78 = .ok (.getfield 32, 3) := by decide +kernel
theorem dX11_about_81 : decode cX11_about 81 = .ok (.getfield 111, 3) := by decide +kernel
theorem dX11_about_84 : decode cX11_about 84 = .ok (.invokevirtual 114, 3) := by decide +kernel
theorem dX11_about_87 : decode cX11_about 87 = .ok (.ireturn, 1) := by decide +kernel
theorem dX11_about_88 : decode cX11_about 88 = .ok (.aload_n 0, 1) := by decide +kernel
theorem dX11_about_89 : decode cX11_about 89 = .ok (.aload_n 0, 1) := by decide +kernel
theorem dX11_about_90 : decode cX11_about 90 = .ok (.getfield 32, 3) := by decide +kernel
theorem dX11_about_93 : decode cX11_about 93 = .ok (.getfield 124, 3) := by decide +kernel
theorem dX11_about_96 : decode cX11_about 96 = .ok (.invokevirtual 114, 3) := by decide +kernel
theorem dX11_about_99 : decode cX11_about 99 = .ok (.ireturn, 1) := by decide +kernel
theorem dX11_about_100 : decode cX11_about 100 = .ok (.aload_n 0, 1) := by decide +kernel
theorem dX11_about_101 : decode cX11_about 101 = .ok (.aload_n 0, 1) := by decide +kernel
theorem dX11_about_102 : decode cX11_about 102 = .ok (.getfield 32, 3) := by decide +kernel
theorem dX11_about_105 : decode cX11_about 105 = .ok (.getfield 127, 3) := by decide +kernel
theorem dX11_about_108 : decode cX11_about 108 = .ok (.invokevirtual 114, 3) := by decide +kernel
theorem dX11_about_111 : decode cX11_about 111 = .ok (.ireturn, 1) := by decide +kernel
theorem dX11_about_112 : decode cX11_about 112 = .ok (.aload_n 0, 1) := by decide +kernel
theorem dX11_about_113 : decode cX11_about 113 = .ok (.aload_n 0, 1) := by decide +kernel
theorem dX11_about_114 : decode cX11_about 114 = .ok (.getfield 32, 3) := by decide +kernel
theorem dX11_about_117 : decode cX11_about 117 = .ok (.invokevirtual 130, 3) := by decide +kernel
theorem dX11_about_120 : decode cX11_about 120 = .ok (.invokevirtual 114, 3) := by decide +kernel
theorem dX11_about_123 : decode cX11_about 123 = .ok (.ireturn, 1) := by decide +kernel
theorem dX11_about_124 : decode cX11_about 124 = .ok (.aload_n 0, 1) := by decide +kernel
theorem dX11_about_125 : decode cX11_about 125 = .ok (.aload_n 0, 1) := by decide +kernel
theorem dX11_about_126 : decode cX11_about 126 = .ok (.getfield 32, 3) := by decide +kernel
theorem dX11_about_129 : decode cX11_about 129 = .ok (.invokevirtual 134, 3) := by decide +kernel
theorem dX11_about_132 : decode cX11_about 132 = .ok (.invokevirtual 114, 3) := by decide +kernel
theorem dX11_about_135 : decode cX11_about 135 = .ok (.ireturn, 1) := by decide +kernel
theorem dX11_about_136 : decode cX11_about 136 = .ok (.aload_n 0, 1) := by decide +kernel
theorem dX11_about_137 : decode cX11_about 137 = .ok (.aload_n 0, 1) := by decide +kernel
theorem dX11_about_138 : decode cX11_about 138 = .ok (.getfield 70, 3) := by decide +kernel
theorem dX11_about_141 : decode cX11_about 141 = .ok (.getfield 137, 3) := by decide +kernel
theorem dX11_about_144 : decode cX11_about 144 = .ok (.invokevirtual 114, 3) := by decide +kernel
theorem dX11_about_147 : decode cX11_about 147 = .ok (.ireturn, 1) := by decide +kernel
def f_X11_about (v1 : Int32) (σ : gSt) : Option (Int32 × gSt) :=
  (f_X4_isTold 1 σ).bind fun p4 =>
  if p4.1 = 0 then
    (f_X11_refused 1 p4.2).bind fun p22 =>
    some (p22.1, p22.2)
  else
    if v1 < 0 then
      (f_X11_refused 1 p4.2).bind fun p22 =>
      some (p22.1, p22.2)
    else
      if v1 ≤ 6 then
        if v1 = 0 then
          (f_X11_answered (p4.2 3 1 3) p4.2).bind fun p72 =>
          some (p72.1, p72.2)
        else
        if v1 = 1 then
          (f_X11_answered (p4.2 3 1 4) p4.2).bind fun p84 =>
          some (p84.1, p84.2)
        else
        if v1 = 2 then
          (f_X11_answered (p4.2 3 1 5) p4.2).bind fun p96 =>
          some (p96.1, p96.2)
        else
        if v1 = 3 then
          (f_X11_answered (p4.2 3 1 6) p4.2).bind fun p108 =>
          some (p108.1, p108.2)
        else
        if v1 = 4 then
          (f_X4_allPunches 1 p4.2).bind fun p117 =>
          (f_X11_answered p117.1 p117.2).bind fun p120 =>
          some (p120.1, p120.2)
        else
        if v1 = 5 then
          (f_X4_allValid 1 p4.2).bind fun p129 =>
          (f_X11_answered p129.1 p129.2).bind fun p132 =>
          some (p132.1, p132.2)
        else
        (f_X11_answered (p4.2 26 0 2) p4.2).bind fun p144 =>
        some (p144.1, p144.2)
      else
        (f_X11_refused 1 p4.2).bind fun p22 =>
        some (p22.1, p22.2)
theorem f_X11_about_ok {v1 : Int32}  {σ : gSt} {r : (Int32 × gSt)} (h : f_X11_about v1 σ = some r) : Mt l w 0 41 yX11_about cX11_about 2 (some .int) 5 110 [.ref (w.2.1 0 0), .int v1] σ (gE (some (.int r.1)) r.2) := by
  unfold f_X11_about at h
  refine g_start pn_X11 rfl rfl (Nat.le_of_ble_eq_true rfl) ?_
  show G l w 0 41 RX11 cX11_about 2 (some .int) 5 110 (gE (some (.int r.1)) r.2) 0 [some (.ref (w.2.1 0 0)), some (.int v1)] [] σ
  refine g_aload_n dX11_about_0 rfl ?_
  refine gR_X11_32 ok_0 dX11_about_1 ?_
  obtain ⟨p4, e4, h⟩ := obind h
  refine g_vP0 mv_X11_117 dX11_about_4 (ok_3 (by decide)) ⟨by decide, by decide⟩ (Nat.le_of_ble_eq_true rfl) (f_X4_isTold_ok (by decide) e4) ?_
  refine g_if_eq 20 dX11_about_7 rfl (fun q => ?_) (fun q => ?_)
  · replace h := gif_t q h
    refine g_aload_n dX11_about_20 rfl ?_
    refine g_iconst dX11_about_21 kc_1 ?_
    obtain ⟨p22, e22, h⟩ := obind h
    refine g_vP1 mv_X11_91 dX11_about_22 ok_0 ⟨by decide, by decide⟩ (Nat.le_of_ble_eq_true rfl) (f_X11_refused_ok e22) ?_
    cases h
    exact g_iret dX11_about_25 rfl ⟨rfl, rfl⟩
  · replace h := gif_f q h
    refine g_iload_n dX11_about_10 rfl ?_
    refine g_if_lt 20 dX11_about_11 rfl (fun q => ?_) (fun q => ?_)
    · replace h := gif_t q h
      refine g_aload_n dX11_about_20 rfl ?_
      refine g_iconst dX11_about_21 kc_1 ?_
      obtain ⟨p22, e22, h⟩ := obind h
      refine g_vP1 mv_X11_91 dX11_about_22 ok_0 ⟨by decide, by decide⟩ (Nat.le_of_ble_eq_true rfl) (f_X11_refused_ok e22) ?_
      cases h
      exact g_iret dX11_about_25 rfl ⟨rfl, rfl⟩
    · replace h := gif_f q h
      refine g_iload_n dX11_about_14 rfl ?_
      refine g_bipush dX11_about_15 kb_6 ?_
      refine g_icmp_le 26 dX11_about_17 rfl (fun q => ?_) (fun q => ?_)
      · replace h := gif_t q h
        refine g_iload_n dX11_about_26 rfl ?_
        by_cases q0 : v1 = 0
        · replace h := gif_t q0 h
          refine g_tableIn (off := 37) 64 dX11_about_27 (by rw [q0]; decide) (by rw [q0]; decide) (by rw [q0]; rfl) rfl ?_
          refine g_aload_n dX11_about_64 rfl ?_
          refine g_aload_n dX11_about_65 rfl ?_
          refine gR_X11_32 ok_0 dX11_about_66 ?_
          refine gI_X11_121 (ok_3 (by decide)) dX11_about_69 ?_
          obtain ⟨p72, e72, h⟩ := obind h
          refine g_vP1 mv_X11_114 dX11_about_72 ok_0 ⟨by decide, by decide⟩ (Nat.le_of_ble_eq_true rfl) (f_X11_answered_ok e72) ?_
          cases h
          exact g_iret dX11_about_75 rfl ⟨rfl, rfl⟩
        replace h := gif_f q0 h
        by_cases q1 : v1 = 1
        · replace h := gif_t q1 h
          refine g_tableIn (off := 49) 76 dX11_about_27 (by rw [q1]; decide) (by rw [q1]; decide) (by rw [q1]; rfl) rfl ?_
          refine g_aload_n dX11_about_76 rfl ?_
          refine g_aload_n dX11_about_77 rfl ?_
          refine gR_X11_32 ok_0 dX11_about_78 ?_
          refine gI_X11_111 (ok_3 (by decide)) dX11_about_81 ?_
          obtain ⟨p84, e84, h⟩ := obind h
          refine g_vP1 mv_X11_114 dX11_about_84 ok_0 ⟨by decide, by decide⟩ (Nat.le_of_ble_eq_true rfl) (f_X11_answered_ok e84) ?_
          cases h
          exact g_iret dX11_about_87 rfl ⟨rfl, rfl⟩
        replace h := gif_f q1 h
        by_cases q2 : v1 = 2
        · replace h := gif_t q2 h
          refine g_tableIn (off := 61) 88 dX11_about_27 (by rw [q2]; decide) (by rw [q2]; decide) (by rw [q2]; rfl) rfl ?_
          refine g_aload_n dX11_about_88 rfl ?_
          refine g_aload_n dX11_about_89 rfl ?_
          refine gR_X11_32 ok_0 dX11_about_90 ?_
          refine gI_X11_124 (ok_3 (by decide)) dX11_about_93 ?_
          obtain ⟨p96, e96, h⟩ := obind h
          refine g_vP1 mv_X11_114 dX11_about_96 ok_0 ⟨by decide, by decide⟩ (Nat.le_of_ble_eq_true rfl) (f_X11_answered_ok e96) ?_
          cases h
          exact g_iret dX11_about_99 rfl ⟨rfl, rfl⟩
        replace h := gif_f q2 h
        by_cases q3 : v1 = 3
        · replace h := gif_t q3 h
          refine g_tableIn (off := 73) 100 dX11_about_27 (by rw [q3]; decide) (by rw [q3]; decide) (by rw [q3]; rfl) rfl ?_
          refine g_aload_n dX11_about_100 rfl ?_
          refine g_aload_n dX11_about_101 rfl ?_
          refine gR_X11_32 ok_0 dX11_about_102 ?_
          refine gI_X11_127 (ok_3 (by decide)) dX11_about_105 ?_
          obtain ⟨p108, e108, h⟩ := obind h
          refine g_vP1 mv_X11_114 dX11_about_108 ok_0 ⟨by decide, by decide⟩ (Nat.le_of_ble_eq_true rfl) (f_X11_answered_ok e108) ?_
          cases h
          exact g_iret dX11_about_111 rfl ⟨rfl, rfl⟩
        replace h := gif_f q3 h
        by_cases q4 : v1 = 4
        · replace h := gif_t q4 h
          refine g_tableIn (off := 85) 112 dX11_about_27 (by rw [q4]; decide) (by rw [q4]; decide) (by rw [q4]; rfl) rfl ?_
          refine g_aload_n dX11_about_112 rfl ?_
          refine g_aload_n dX11_about_113 rfl ?_
          refine gR_X11_32 ok_0 dX11_about_114 ?_
          obtain ⟨p117, e117, h⟩ := obind h
          refine g_vP0 mv_X11_130 dX11_about_117 (ok_3 (by decide)) ⟨by decide, by decide⟩ (Nat.le_of_ble_eq_true rfl) (f_X4_allPunches_ok (by decide) e117) ?_
          obtain ⟨p120, e120, h⟩ := obind h
          refine g_vP1 mv_X11_114 dX11_about_120 ok_0 ⟨by decide, by decide⟩ (Nat.le_of_ble_eq_true rfl) (f_X11_answered_ok e120) ?_
          cases h
          exact g_iret dX11_about_123 rfl ⟨rfl, rfl⟩
        replace h := gif_f q4 h
        by_cases q5 : v1 = 5
        · replace h := gif_t q5 h
          refine g_tableIn (off := 97) 124 dX11_about_27 (by rw [q5]; decide) (by rw [q5]; decide) (by rw [q5]; rfl) rfl ?_
          refine g_aload_n dX11_about_124 rfl ?_
          refine g_aload_n dX11_about_125 rfl ?_
          refine gR_X11_32 ok_0 dX11_about_126 ?_
          obtain ⟨p129, e129, h⟩ := obind h
          refine g_vP0 mv_X11_134 dX11_about_129 (ok_3 (by decide)) ⟨by decide, by decide⟩ (Nat.le_of_ble_eq_true rfl) (f_X4_allValid_ok (by decide) e129) ?_
          obtain ⟨p132, e132, h⟩ := obind h
          refine g_vP1 mv_X11_114 dX11_about_132 ok_0 ⟨by decide, by decide⟩ (Nat.le_of_ble_eq_true rfl) (f_X11_answered_ok e132) ?_
          cases h
          exact g_iret dX11_about_135 rfl ⟨rfl, rfl⟩
        replace h := gif_f q5 h
        refine g_tableOut 136 dX11_about_27 (tabOut (b := 5) (by decide) (fun j hj => by rcases (show j = 0 ∨ j = 1 ∨ j = 2 ∨ j = 3 ∨ j = 4 ∨ j = 5 by omega) with rfl | rfl | rfl | rfl | rfl | rfl <;> assumption)) rfl ?_
        refine g_aload_n dX11_about_136 rfl ?_
        refine g_aload_n dX11_about_137 rfl ?_
        refine gR_X11_70 ok_0 dX11_about_138 ?_
        refine gI_X11_137 ok_26 dX11_about_141 ?_
        obtain ⟨p144, e144, h⟩ := obind h
        refine g_vP1 mv_X11_114 dX11_about_144 ok_0 ⟨by decide, by decide⟩ (Nat.le_of_ble_eq_true rfl) (f_X11_answered_ok e144) ?_
        cases h
        exact g_iret dX11_about_147 rfl ⟨rfl, rfl⟩
      · replace h := gif_f q h
        refine g_aload_n dX11_about_20 rfl ?_
        refine g_iconst dX11_about_21 kc_1 ?_
        obtain ⟨p22, e22, h⟩ := obind h
        refine g_vP1 mv_X11_91 dX11_about_22 ok_0 ⟨by decide, by decide⟩ (Nat.le_of_ble_eq_true rfl) (f_X11_refused_ok e22) ?_
        cases h
        exact g_iret dX11_about_25 rfl ⟨rfl, rfl⟩
theorem dX11_course_0 : decode cX11_course 0 = .ok (.aload_n 0, 1) := by decide +kernel
theorem dX11_course_1 : decode cX11_course 1 = .ok (.getfield 32, 3) := by decide +kernel
theorem dX11_course_4 : decode cX11_course 4 = .ok (.iload_n 1, 1) := by decide +kernel
theorem dX11_course_5 : decode cX11_course 5 = .ok (.invokevirtual 140, 3) := by decide +kernel
theorem dX11_course_8 : decode cX11_course 8 = .ok (.ifCond .eq 12, 3) := by decide +kernel
theorem dX11_course_11 : decode cX11_course 11 = .ok (.iload_n 2, 1) := by decide +kernel
theorem dX11_course_12 : decode cX11_course 12 = .ok (.ifCond .lt 8, 3) := by decide +kernel
theorem dX11_course_15 : decode cX11_course 15 = .ok (.iload_n 2, 1) := by decide +kernel
theorem dX11_course_16 : decode cX11_course 16 = .ok (.iconst 4, 1) := by decide +kernel
theorem dX11_course_17 : decode cX11_course 17 = .ok (.if_icmp .le 9, 3) := by decide +kernel
theorem dX11_course_20 : decode cX11_course 20 = .ok (.aload_n 0, 1) := by decide +kernel
theorem dX11_course_21 : decode cX11_course 21 = .ok (.iconst 1, 1) := by decide +kernel
theorem dX11_course_22 : decode cX11_course 22 = .ok (.invokevirtual 91, 3) := by decide +kernel
theorem dX11_course_25 : decode cX11_course 25 = .ok (.ireturn, 1) := by decide +kernel
theorem dX11_course_26 : decode cX11_course 26 = .ok (.iload_n 2, 1) := by decide +kernel
theorem dX11_course_27 : decode cX11_course 27 = .ok (.tableswitch 84 0 3 #[29, 45, 58, 71], 29) := by decide +kernel
theorem dX11_course_56 : decode cX11_course 56 = .ok (.aload_n 0, 1) := by decide +kernel
theorem dX11_course_57 : decode cX11_course 57 = .ok (.aload_n 0, 1) := by decide +kernel
theorem dX11_course_58 : decode cX11_course 58 = .ok (.getfield 32, 3) := by decide +kernel
theorem dX11_course_61 : decode cX11_course 61 = .ok (.iload_n 1, 1) := by decide +kernel
theorem dX11_course_62 : decode cX11_course 62 = .ok (.invokevirtual 143, 3) := by decide +kernel
theorem dX11_course_65 : decode cX11_course 65 = .ok (.getfield 147, 3) := by decide +kernel
theorem dX11_course_68 : decode cX11_course 68 = .ok (.invokevirtual 114, 3) := by decide +kernel
theorem dX11_course_71 : decode cX11_course 71 = .ok (.ireturn, 1) := by decide +kernel
theorem dX11_course_72 : decode cX11_course 72 = .ok (.aload_n 0, 1) := by decide +kernel
theorem dX11_course_73 : decode cX11_course 73 = .ok (.aload_n 0, 1) := by decide +kernel
theorem dX11_course_74 : decode cX11_course 74 = .ok (.getfield 32, 3) := by decide +kernel
theorem dX11_course_77 : decode cX11_course 77 = .ok (.iload_n 1, 1) := by decide +kernel
theorem dX11_course_78 : decode cX11_course 78 = .ok (.invokevirtual 152, 3) := by decide +kernel
theorem dX11_course_81 : decode cX11_course 81 = .ok (.invokevirtual 114, 3) := by decide +kernel
theorem dX11_course_84 : decode cX11_course 84 = .ok (.ireturn, 1) := by decide +kernel
theorem dX11_course_85 : decode cX11_course 85 = .ok (.aload_n 0, 1) := by decide +kernel
theorem dX11_course_86 : decode cX11_course 86 = .ok (.aload_n 0, 1) := by decide +kernel
theorem dX11_course_87 : decode cX11_course 87 = .ok (.getfield 32, 3) := by decide +kernel
theorem dX11_course_90 : decode cX11_course 90 = .ok (.iload_n 1, 1) := by decide +kernel
theorem dX11_course_91 : decode cX11_course 91 = .ok (.invokevirtual 155, 3) := by decide +kernel
theorem dX11_course_94 : decode cX11_course 94 = .ok (.invokevirtual 114, 3) := by decide +kernel
theorem dX11_course_97 : decode cX11_course 97 = .ok (.ireturn, 1) := by decide +kernel
theorem dX11_course_98 : decode cX11_course 98 = .ok (.aload_n 0, 1) := by decide +kernel
theorem dX11_course_99 : decode cX11_course 99 = .ok (.aload_n 0, 1) := by decide +kernel
theorem dX11_course_100 : decode cX11_course 100 = .ok (.getfield 40, 3) := by decide +kernel
theorem dX11_course_103 : decode cX11_course 103 = .ok (.iload_n 1, 1) := by decide +kernel
theorem dX11_course_104 : decode cX11_course 104 = .ok (.invokevirtual 158, 3) := by decide +kernel
theorem dX11_course_107 : decode cX11_course 107 = .ok (.invokevirtual 114, 3) := by decide +kernel
theorem dX11_course_110 : decode cX11_course 110 = .ok (.ireturn, 1) := by decide +kernel
theorem dX11_course_111 : decode cX11_course 111 = .ok (.aload_n 0, 1) := by decide +kernel
theorem dX11_course_112 : decode cX11_course 112 = .ok (.aload_n 0, 1) := by decide +kernel
theorem dX11_course_113 : decode cX11_course 113 = .ok (.getfield 32, 3) := by decide +kernel
theorem dX11_course_116 : decode cX11_course 116 = .ok (.iload_n 1, 1) := by decide +kernel
theorem dX11_course_117 : decode cX11_course 117 = .ok (.invokevirtual 161, 3) := by decide +kernel
theorem dX11_course_120 : decode cX11_course 120 = .ok (.invokevirtual 114, 3) := by decide +kernel
theorem dX11_course_123 : decode cX11_course 123 = .ok (.ireturn, 1) := by decide +kernel
def f_X11_course (v1 : Int32) (v2 : Int32) (σ : gSt) : Option (Int32 × gSt) :=
  (f_X4_hasCourse 1 v1 σ).bind fun p5 =>
  if p5.1 = 0 then
    (f_X11_refused 1 p5.2).bind fun p22 =>
    some (p22.1, p22.2)
  else
    if v2 < 0 then
      (f_X11_refused 1 p5.2).bind fun p22 =>
      some (p22.1, p22.2)
    else
      if v2 ≤ 4 then
        if v2 = 0 then
          (f_X4_courseAt 1 v1 p5.2).bind fun p62 =>
          (f_X11_answered (p62.2 8 p62.1 2) p62.2).bind fun p68 =>
          some (p68.1, p68.2)
        else
        if v2 = 1 then
          (f_X4_runnersOf 1 v1 p5.2).bind fun p78 =>
          (f_X11_answered p78.1 p78.2).bind fun p81 =>
          some (p81.1, p81.2)
        else
        if v2 = 2 then
          (f_X4_validOf 1 v1 p5.2).bind fun p91 =>
          (f_X11_answered p91.1 p91.2).bind fun p94 =>
          some (p94.1, p94.2)
        else
        if v2 = 3 then
          (f_X2_ideal v1 p5.2).bind fun p104 =>
          (f_X11_answered p104.1 p104.2).bind fun p107 =>
          some (p107.1, p107.2)
        else
        (f_X4_leastTotal 1 v1 p5.2).bind fun p117 =>
        (f_X11_answered p117.1 p117.2).bind fun p120 =>
        some (p120.1, p120.2)
      else
        (f_X11_refused 1 p5.2).bind fun p22 =>
        some (p22.1, p22.2)
theorem f_X11_course_ok {v1 : Int32} {v2 : Int32}  {σ : gSt} {r : (Int32 × gSt)} (h : f_X11_course v1 v2 σ = some r) : Mt l w 0 41 yX11_course cX11_course 3 (some .int) 4 93 [.ref (w.2.1 0 0), .int v1, .int v2] σ (gE (some (.int r.1)) r.2) := by
  unfold f_X11_course at h
  refine g_start pn_X11 rfl rfl (Nat.le_of_ble_eq_true rfl) ?_
  show G l w 0 41 RX11 cX11_course 3 (some .int) 4 93 (gE (some (.int r.1)) r.2) 0 [some (.ref (w.2.1 0 0)), some (.int v1), some (.int v2)] [] σ
  refine g_aload_n dX11_course_0 rfl ?_
  refine gR_X11_32 ok_0 dX11_course_1 ?_
  refine g_iload_n dX11_course_4 rfl ?_
  obtain ⟨p5, e5, h⟩ := obind h
  refine g_vP1 mv_X11_140 dX11_course_5 (ok_3 (by decide)) ⟨by decide, by decide⟩ (Nat.le_of_ble_eq_true rfl) (f_X4_hasCourse_ok (by decide) e5) ?_
  refine g_if_eq 20 dX11_course_8 rfl (fun q => ?_) (fun q => ?_)
  · replace h := gif_t q h
    refine g_aload_n dX11_course_20 rfl ?_
    refine g_iconst dX11_course_21 kc_1 ?_
    obtain ⟨p22, e22, h⟩ := obind h
    refine g_vP1 mv_X11_91 dX11_course_22 ok_0 ⟨by decide, by decide⟩ (Nat.le_of_ble_eq_true rfl) (f_X11_refused_ok e22) ?_
    cases h
    exact g_iret dX11_course_25 rfl ⟨rfl, rfl⟩
  · replace h := gif_f q h
    refine g_iload_n dX11_course_11 rfl ?_
    refine g_if_lt 20 dX11_course_12 rfl (fun q => ?_) (fun q => ?_)
    · replace h := gif_t q h
      refine g_aload_n dX11_course_20 rfl ?_
      refine g_iconst dX11_course_21 kc_1 ?_
      obtain ⟨p22, e22, h⟩ := obind h
      refine g_vP1 mv_X11_91 dX11_course_22 ok_0 ⟨by decide, by decide⟩ (Nat.le_of_ble_eq_true rfl) (f_X11_refused_ok e22) ?_
      cases h
      exact g_iret dX11_course_25 rfl ⟨rfl, rfl⟩
    · replace h := gif_f q h
      refine g_iload_n dX11_course_15 rfl ?_
      refine g_iconst dX11_course_16 kc_4 ?_
      refine g_icmp_le 26 dX11_course_17 rfl (fun q => ?_) (fun q => ?_)
      · replace h := gif_t q h
        refine g_iload_n dX11_course_26 rfl ?_
        by_cases q0 : v2 = 0
        · replace h := gif_t q0 h
          refine g_tableIn (off := 29) 56 dX11_course_27 (by rw [q0]; decide) (by rw [q0]; decide) (by rw [q0]; rfl) rfl ?_
          refine g_aload_n dX11_course_56 rfl ?_
          refine g_aload_n dX11_course_57 rfl ?_
          refine gR_X11_32 ok_0 dX11_course_58 ?_
          refine g_iload_n dX11_course_61 rfl ?_
          obtain ⟨p62, e62, h⟩ := obind h
          refine g_vR1 mv_X11_143 dX11_course_62 (ok_3 (by decide)) ⟨by decide, by decide⟩ (Nat.le_of_ble_eq_true rfl) (f_X4_courseAt_ok (by decide) e62) (fun b62 => ?_)
          refine gI_X11_147 (ok_8 b62) dX11_course_65 ?_
          obtain ⟨p68, e68, h⟩ := obind h
          refine g_vP1 mv_X11_114 dX11_course_68 ok_0 ⟨by decide, by decide⟩ (Nat.le_of_ble_eq_true rfl) (f_X11_answered_ok e68) ?_
          cases h
          exact g_iret dX11_course_71 rfl ⟨rfl, rfl⟩
        replace h := gif_f q0 h
        by_cases q1 : v2 = 1
        · replace h := gif_t q1 h
          refine g_tableIn (off := 45) 72 dX11_course_27 (by rw [q1]; decide) (by rw [q1]; decide) (by rw [q1]; rfl) rfl ?_
          refine g_aload_n dX11_course_72 rfl ?_
          refine g_aload_n dX11_course_73 rfl ?_
          refine gR_X11_32 ok_0 dX11_course_74 ?_
          refine g_iload_n dX11_course_77 rfl ?_
          obtain ⟨p78, e78, h⟩ := obind h
          refine g_vP1 mv_X11_152 dX11_course_78 (ok_3 (by decide)) ⟨by decide, by decide⟩ (Nat.le_of_ble_eq_true rfl) (f_X4_runnersOf_ok (by decide) e78) ?_
          obtain ⟨p81, e81, h⟩ := obind h
          refine g_vP1 mv_X11_114 dX11_course_81 ok_0 ⟨by decide, by decide⟩ (Nat.le_of_ble_eq_true rfl) (f_X11_answered_ok e81) ?_
          cases h
          exact g_iret dX11_course_84 rfl ⟨rfl, rfl⟩
        replace h := gif_f q1 h
        by_cases q2 : v2 = 2
        · replace h := gif_t q2 h
          refine g_tableIn (off := 58) 85 dX11_course_27 (by rw [q2]; decide) (by rw [q2]; decide) (by rw [q2]; rfl) rfl ?_
          refine g_aload_n dX11_course_85 rfl ?_
          refine g_aload_n dX11_course_86 rfl ?_
          refine gR_X11_32 ok_0 dX11_course_87 ?_
          refine g_iload_n dX11_course_90 rfl ?_
          obtain ⟨p91, e91, h⟩ := obind h
          refine g_vP1 mv_X11_155 dX11_course_91 (ok_3 (by decide)) ⟨by decide, by decide⟩ (Nat.le_of_ble_eq_true rfl) (f_X4_validOf_ok (by decide) e91) ?_
          obtain ⟨p94, e94, h⟩ := obind h
          refine g_vP1 mv_X11_114 dX11_course_94 ok_0 ⟨by decide, by decide⟩ (Nat.le_of_ble_eq_true rfl) (f_X11_answered_ok e94) ?_
          cases h
          exact g_iret dX11_course_97 rfl ⟨rfl, rfl⟩
        replace h := gif_f q2 h
        by_cases q3 : v2 = 3
        · replace h := gif_t q3 h
          refine g_tableIn (off := 71) 98 dX11_course_27 (by rw [q3]; decide) (by rw [q3]; decide) (by rw [q3]; rfl) rfl ?_
          refine g_aload_n dX11_course_98 rfl ?_
          refine g_aload_n dX11_course_99 rfl ?_
          refine gR_X11_40 ok_0 dX11_course_100 ?_
          refine g_iload_n dX11_course_103 rfl ?_
          obtain ⟨p104, e104, h⟩ := obind h
          refine g_vP1 mv_X11_158 dX11_course_104 ok_16 ⟨by decide, by decide⟩ (Nat.le_of_ble_eq_true rfl) (f_X2_ideal_ok e104) ?_
          obtain ⟨p107, e107, h⟩ := obind h
          refine g_vP1 mv_X11_114 dX11_course_107 ok_0 ⟨by decide, by decide⟩ (Nat.le_of_ble_eq_true rfl) (f_X11_answered_ok e107) ?_
          cases h
          exact g_iret dX11_course_110 rfl ⟨rfl, rfl⟩
        replace h := gif_f q3 h
        refine g_tableOut 111 dX11_course_27 (tabOut (b := 3) (by decide) (fun j hj => by rcases (show j = 0 ∨ j = 1 ∨ j = 2 ∨ j = 3 by omega) with rfl | rfl | rfl | rfl <;> assumption)) rfl ?_
        refine g_aload_n dX11_course_111 rfl ?_
        refine g_aload_n dX11_course_112 rfl ?_
        refine gR_X11_32 ok_0 dX11_course_113 ?_
        refine g_iload_n dX11_course_116 rfl ?_
        obtain ⟨p117, e117, h⟩ := obind h
        refine g_vP1 mv_X11_161 dX11_course_117 (ok_3 (by decide)) ⟨by decide, by decide⟩ (Nat.le_of_ble_eq_true rfl) (f_X4_leastTotal_ok (by decide) e117) ?_
        obtain ⟨p120, e120, h⟩ := obind h
        refine g_vP1 mv_X11_114 dX11_course_120 ok_0 ⟨by decide, by decide⟩ (Nat.le_of_ble_eq_true rfl) (f_X11_answered_ok e120) ?_
        cases h
        exact g_iret dX11_course_123 rfl ⟨rfl, rfl⟩
      · replace h := gif_f q h
        refine g_aload_n dX11_course_20 rfl ?_
        refine g_iconst dX11_course_21 kc_1 ?_
        obtain ⟨p22, e22, h⟩ := obind h
        refine g_vP1 mv_X11_91 dX11_course_22 ok_0 ⟨by decide, by decide⟩ (Nat.le_of_ble_eq_true rfl) (f_X11_refused_ok e22) ?_
        cases h
        exact g_iret dX11_course_25 rfl ⟨rfl, rfl⟩
end MI
