section MI
variable {l : Launch} {w : gWd}
theorem dX2_bestTime_0 : decode cX2_bestTime 0 = .ok (.iconst (-1), 1) := by decide +kernel
theorem dX2_bestTime_1 : decode cX2_bestTime 1 = .ok (.istore_n 3, 1) := by decide +kernel
theorem dX2_bestTime_2 : decode cX2_bestTime 2 = .ok (.iconst 0, 1) := by decide +kernel
theorem dX2_bestTime_3 : decode cX2_bestTime 3 = .ok (.istore 4, 2) := by decide +kernel
theorem dX2_bestTime_5 : decode cX2_bestTime 5 = .ok (.iload 4, 2) := by decide +kernel
theorem dX2_bestTime_7 : decode cX2_bestTime 7 = .ok (.aload_n 0, 1) := by decide +kernel
theorem dX2_bestTime_8 : decode cX2_bestTime 8 = .ok (.getfield 9, 3) := by decide +kernel
theorem dX2_bestTime_11 : decode cX2_bestTime 11 = .ok (.getfield 15, 3) := by decide +kernel
theorem dX2_bestTime_14 : decode cX2_bestTime 14 = .ok (.if_icmp .ge 61, 3) := by decide +kernel
theorem dX2_bestTime_17 : decode cX2_bestTime 17 = .ok (.aload_n 0, 1) := by decide +kernel
theorem dX2_bestTime_18 : decode cX2_bestTime 18 = .ok (.getfield 9, 3) := by decide +kernel
theorem dX2_bestTime_21 : decode cX2_bestTime 21 = .ok (.iload 4, 2) := by decide +kernel
theorem dX2_bestTime_23 : decode cX2_bestTime 23 = .ok (.iload_n 1, 1) := by decide +kernel
theorem dX2_bestTime_24 : decode cX2_bestTime 24 = .ok (.invokevirtual 38, 3) := by decide +kernel
theorem dX2_bestTime_27 : decode cX2_bestTime 27 = .ok (.ifCond .eq 19, 3) := by decide +kernel
theorem dX2_bestTime_30 : decode cX2_bestTime 30 = .ok (.aload_n 0, 1) := by decide +kernel
theorem dX2_bestTime_31 : decode cX2_bestTime 31 = .ok (.getfield 9, 3) := by decide +kernel
theorem dX2_bestTime_34 : decode cX2_bestTime 34 = .ok (.iload 4, 2) := by decide +kernel
theorem dX2_bestTime_36 : decode cX2_bestTime 36 = .ok (.invokevirtual 30, 3) := by decide +kernel
theorem dX2_bestTime_39 : decode cX2_bestTime 39 = .ok (.iload_n 2, 1) := by decide +kernel
theorem dX2_bestTime_40 : decode cX2_bestTime 40 = .ok (.invokevirtual 45, 3) := by decide +kernel
theorem dX2_bestTime_43 : decode cX2_bestTime 43 = .ok (.goto 4, 3) := by decide +kernel
theorem dX2_bestTime_46 : decode cX2_bestTime 46 = .ok (.iconst (-1), 1) := by decide +kernel
theorem dX2_bestTime_47 : decode cX2_bestTime 47 = .ok (.istore 5, 2) := by decide +kernel
theorem dX2_bestTime_49 : decode cX2_bestTime 49 = .ok (.iload 5, 2) := by decide +kernel
theorem dX2_bestTime_51 : decode cX2_bestTime 51 = .ok (.iconst (-1), 1) := by decide +kernel
theorem dX2_bestTime_52 : decode cX2_bestTime 52 = .ok (.if_icmp .eq 17, 3) := by decide +kernel
theorem dX2_bestTime_55 : decode cX2_bestTime 55 = .ok (.iload_n 3, 1) := by decide +kernel
theorem dX2_bestTime_56 : decode cX2_bestTime 56 = .ok (.iconst (-1), 1) := by decide +kernel
theorem dX2_bestTime_57 : decode cX2_bestTime 57 = .ok (.if_icmp .eq 9, 3) := by decide +kernel
theorem dX2_bestTime_60 : decode cX2_bestTime 60 = .ok (.iload 5, 2) := by decide +kernel
theorem dX2_bestTime_62 : decode cX2_bestTime 62 = .ok (.iload_n 3, 1) := by decide +kernel
theorem dX2_bestTime_63 : decode cX2_bestTime 63 = .ok (.if_icmp .ge 6, 3) := by decide +kernel
theorem dX2_bestTime_66 : decode cX2_bestTime 66 = .ok (.iload 5, 2) := by decide +kernel
theorem dX2_bestTime_68 : decode cX2_bestTime 68 = .ok (.istore_n 3, 1) := by decide +kernel
theorem dX2_bestTime_69 : decode cX2_bestTime 69 = .ok (.iinc 4 1, 3) := by decide +kernel
theorem dX2_bestTime_72 : decode cX2_bestTime 72 = .ok (.goto (-67), 3) := by decide +kernel
theorem dX2_bestTime_75 : decode cX2_bestTime 75 = .ok (.iload_n 3, 1) := by decide +kernel
theorem dX2_bestTime_76 : decode cX2_bestTime 76 = .ok (.ireturn, 1) := by decide +kernel
def f_X2_bestTime_47 (v1 : Int32) (v2 : Int32) (v3 : Int32) (v4 : Int32) (k5 : Int32 → Int32 → gSt → Option (Int32 × gSt)) (vs0 : Int32) (σ : gSt) : Option (Int32 × gSt) :=
  if vs0 = (-1) then
    k5 v3 (v4 + 1) σ
  else
    if v3 = (-1) then
      k5 vs0 (v4 + 1) σ
    else
      if v3 ≤ vs0 then
        k5 v3 (v4 + 1) σ
      else
        k5 vs0 (v4 + 1) σ
def f_X2_bestTime_5 (v1 : Int32) (v2 : Int32) : Nat → Int32 → Int32 → gSt → Option (Int32 × gSt)
  | 0, _, _, _ => none
  | n + 1, v3, v4, σ =>
    if (σ 3 1 4) ≤ v4 then
      some (v3, σ)
    else
      (f_X4_isOf 1 v4 v1 σ).bind fun p24 =>
      if p24.1 = 0 then
        f_X2_bestTime_47 v1 v2 v3 v4 (fun v3 v4 σ => f_X2_bestTime_5 v1 v2 n v3 v4 σ) (-1) p24.2
      else
        (f_X4_runnerAt 1 v4 p24.2).bind fun p36 =>
        (f_X9_legTime p36.1 v2 p36.2).bind fun p40 =>
        f_X2_bestTime_47 v1 v2 v3 v4 (fun v3 v4 σ => f_X2_bestTime_5 v1 v2 n v3 v4 σ) p40.1 p40.2
def f_X2_bestTime (v1 : Int32) (v2 : Int32) (σ : gSt) : Option (Int32 × gSt) :=
  f_X2_bestTime_5 v1 v2 gFuel (-1) 0 σ
theorem f_X2_bestTime_47_ok {v1 : Int32} {v2 : Int32} {v3 : Int32} {v4 : Int32} {k5 : Int32 → Int32 → gSt → Option (Int32 × gSt)} {vs0 : Int32} {r : (Int32 × gSt)} (hk5 : ∀ {v3 : Int32} {v4 : Int32} {σ : gSt} {x5 : Option Value}, k5 v3 v4 σ = some r → G l w 0 41 RX2 cX2_bestTime 6 (some .int) 2 44 (gE (some (.int r.1)) r.2) 5 [some (.ref (w.2.1 16 0)), some (.int v1), some (.int v2), some (.int v3), some (.int v4), x5] [] σ) {σ : gSt} {x5 : Option Value} (h : f_X2_bestTime_47 v1 v2 v3 v4 k5 vs0 σ = some r) : G l w 0 41 RX2 cX2_bestTime 6 (some .int) 2 44 (gE (some (.int r.1)) r.2) 47 [some (.ref (w.2.1 16 0)), some (.int v1), some (.int v2), some (.int v3), some (.int v4), x5] [.int vs0] σ := by
  unfold f_X2_bestTime_47 at h
  refine g_istore5 dX2_bestTime_47 ?_
  refine g_iload dX2_bestTime_49 rfl ?_
  refine g_iconst dX2_bestTime_51 kc_m1 ?_
  refine g_icmp_eq 69 dX2_bestTime_52 rfl (fun q => ?_) (fun q => ?_)
  · replace h := gif_t q h
    refine g_inc4 kc_1 dX2_bestTime_69 ?_
    refine g_goto 5 dX2_bestTime_72 rfl ?_
    exact hk5 h
  · replace h := gif_f q h
    refine g_iload_n dX2_bestTime_55 rfl ?_
    refine g_iconst dX2_bestTime_56 kc_m1 ?_
    refine g_icmp_eq 66 dX2_bestTime_57 rfl (fun q => ?_) (fun q => ?_)
    · replace h := gif_t q h
      refine g_iload dX2_bestTime_66 rfl ?_
      refine g_istore3 dX2_bestTime_68 ?_
      refine g_inc4 kc_1 dX2_bestTime_69 ?_
      refine g_goto 5 dX2_bestTime_72 rfl ?_
      exact hk5 h
    · replace h := gif_f q h
      refine g_iload dX2_bestTime_60 rfl ?_
      refine g_iload_n dX2_bestTime_62 rfl ?_
      refine g_icmp_ge 69 dX2_bestTime_63 rfl (fun q => ?_) (fun q => ?_)
      · replace h := gif_t q h
        refine g_inc4 kc_1 dX2_bestTime_69 ?_
        refine g_goto 5 dX2_bestTime_72 rfl ?_
        exact hk5 h
      · replace h := gif_f q h
        refine g_iload dX2_bestTime_66 rfl ?_
        refine g_istore3 dX2_bestTime_68 ?_
        refine g_inc4 kc_1 dX2_bestTime_69 ?_
        refine g_goto 5 dX2_bestTime_72 rfl ?_
        exact hk5 h
theorem f_X2_bestTime_5_ok {v1 : Int32} {v2 : Int32} {r : (Int32 × gSt)}  : ∀ (n : Nat) {v3 : Int32} {v4 : Int32} {σ : gSt} {x5 : Option Value}, f_X2_bestTime_5 v1 v2 n v3 v4 σ = some r → G l w 0 41 RX2 cX2_bestTime 6 (some .int) 2 44 (gE (some (.int r.1)) r.2) 5 [some (.ref (w.2.1 16 0)), some (.int v1), some (.int v2), some (.int v3), some (.int v4), x5] [] σ := by
  intro n
  induction n with
  | zero => intro v3 v4 σ x5 h; rw [f_X2_bestTime_5] at h; cases h
  | succ n ih =>
    intro v3 v4 σ x5 h
    rw [f_X2_bestTime_5] at h
    refine g_iload dX2_bestTime_5 rfl ?_
    refine g_aload_n dX2_bestTime_7 rfl ?_
    refine gR_X2_9 ok_16 dX2_bestTime_8 ?_
    refine gI_X2_15 (ok_3 (by decide)) dX2_bestTime_11 ?_
    refine g_icmp_ge 75 dX2_bestTime_14 rfl (fun q => ?_) (fun q => ?_)
    · replace h := gif_t q h
      refine g_iload_n dX2_bestTime_75 rfl ?_
      cases h
      exact g_iret dX2_bestTime_76 rfl ⟨rfl, rfl⟩
    · replace h := gif_f q h
      refine g_aload_n dX2_bestTime_17 rfl ?_
      refine gR_X2_9 ok_16 dX2_bestTime_18 ?_
      refine g_iload dX2_bestTime_21 rfl ?_
      refine g_iload_n dX2_bestTime_23 rfl ?_
      obtain ⟨p24, e24, h⟩ := obind h
      refine g_vP2 mv_X2_38 dX2_bestTime_24 (ok_3 (by decide)) ⟨by decide, by decide⟩ (Nat.le_of_ble_eq_true rfl) (f_X4_isOf_ok (by decide) e24) ?_
      refine g_if_eq 46 dX2_bestTime_27 rfl (fun q => ?_) (fun q => ?_)
      · replace h := gif_t q h
        refine g_iconst dX2_bestTime_46 kc_m1 ?_
        exact f_X2_bestTime_47_ok (fun h => ih h) h
      · replace h := gif_f q h
        refine g_aload_n dX2_bestTime_30 rfl ?_
        refine gR_X2_9 ok_16 dX2_bestTime_31 ?_
        refine g_iload dX2_bestTime_34 rfl ?_
        obtain ⟨p36, e36, h⟩ := obind h
        refine g_vR1 mv_X2_30 dX2_bestTime_36 (ok_3 (by decide)) ⟨by decide, by decide⟩ (Nat.le_of_ble_eq_true rfl) (f_X4_runnerAt_ok (by decide) e36) (fun b36 => ?_)
        refine g_iload_n dX2_bestTime_39 rfl ?_
        obtain ⟨p40, e40, h⟩ := obind h
        refine g_vP1 mv_X2_45 dX2_bestTime_40 (ok_10 b36) ⟨by decide, by decide⟩ (Nat.le_of_ble_eq_true rfl) (f_X9_legTime_ok b36 e40) ?_
        refine g_goto 47 dX2_bestTime_43 rfl ?_
        exact f_X2_bestTime_47_ok (fun h => ih h) h
theorem f_X2_bestTime_ok {v1 : Int32} {v2 : Int32}  {σ : gSt} {r : (Int32 × gSt)} (h : f_X2_bestTime v1 v2 σ = some r) : Mt l w 0 41 yX2_bestTime cX2_bestTime 6 (some .int) 2 44 [.ref (w.2.1 16 0), .int v1, .int v2] σ (gE (some (.int r.1)) r.2) := by
  unfold f_X2_bestTime at h
  refine g_start pn_X2 rfl rfl (Nat.le_of_ble_eq_true rfl) ?_
  show G l w 0 41 RX2 cX2_bestTime 6 (some .int) 2 44 (gE (some (.int r.1)) r.2) 0 [some (.ref (w.2.1 16 0)), some (.int v1), some (.int v2), none, none, none] [] σ
  refine g_iconst dX2_bestTime_0 kc_m1 ?_
  refine g_istore3 dX2_bestTime_1 ?_
  refine g_iconst dX2_bestTime_2 kc_0 ?_
  refine g_istore4 dX2_bestTime_3 ?_
  exact f_X2_bestTime_5_ok gFuel h
theorem dX2_bestRunner_0 : decode cX2_bestRunner 0 = .ok (.aload_n 0, 1) := by decide +kernel
theorem dX2_bestRunner_1 : decode cX2_bestRunner 1 = .ok (.iload_n 1, 1) := by decide +kernel
theorem dX2_bestRunner_2 : decode cX2_bestRunner 2 = .ok (.iload_n 2, 1) := by decide +kernel
theorem dX2_bestRunner_3 : decode cX2_bestRunner 3 = .ok (.invokevirtual 67, 3) := by decide +kernel
theorem dX2_bestRunner_6 : decode cX2_bestRunner 6 = .ok (.istore_n 3, 1) := by decide +kernel
theorem dX2_bestRunner_7 : decode cX2_bestRunner 7 = .ok (.iconst 0, 1) := by decide +kernel
theorem dX2_bestRunner_8 : decode cX2_bestRunner 8 = .ok (.istore 4, 2) := by decide +kernel
theorem dX2_bestRunner_10 : decode cX2_bestRunner 10 = .ok (.iload 4, 2) := by decide +kernel
theorem dX2_bestRunner_12 : decode cX2_bestRunner 12 = .ok (.aload_n 0, 1) := by decide +kernel
theorem dX2_bestRunner_13 : decode cX2_bestRunner 13 = .ok (.getfield 9, 3) := by decide +kernel
theorem dX2_bestRunner_16 : decode cX2_bestRunner 16 = .ok (.getfield 15, 3) := by decide +kernel
theorem dX2_bestRunner_19 : decode cX2_bestRunner 19 = .ok (.if_icmp .ge 47, 3) := by decide +kernel
theorem dX2_bestRunner_22 : decode cX2_bestRunner 22 = .ok (.iload_n 3, 1) := by decide +kernel
theorem dX2_bestRunner_23 : decode cX2_bestRunner 23 = .ok (.iconst (-1), 1) := by decide +kernel
theorem dX2_bestRunner_24 : decode cX2_bestRunner 24 = .ok (.if_icmp .eq 36, 3) := by decide +kernel
theorem dX2_bestRunner_27 : decode cX2_bestRunner 27 = .ok (.aload_n 0, 1) := by decide +kernel
theorem dX2_bestRunner_28 : decode cX2_bestRunner 28 = .ok (.getfield 9, 3) := by decide +kernel
theorem dX2_bestRunner_31 : decode cX2_bestRunner 31 = .ok (.iload 4, 2) := by decide +kernel
theorem dX2_bestRunner_33 : decode cX2_bestRunner 33 = .ok (.iload_n 1, 1) := by decide +kernel
theorem dX2_bestRunner_34 : decode cX2_bestRunner 34 = .ok (.invokevirtual 38, 3) := by decide +kernel
theorem dX2_bestRunner_37 : decode cX2_bestRunner 37 = .ok (.ifCond .eq 23, 3) := by decide +kernel
theorem dX2_bestRunner_40 : decode cX2_bestRunner 40 = .ok (.aload_n 0, 1) := by decide +kernel
theorem dX2_bestRunner_41 : decode cX2_bestRunner 41 = .ok (.getfield 9, 3) := by decide +kernel
theorem dX2_bestRunner_44 : decode cX2_bestRunner 44 = .ok (.iload 4, 2) := by decide +kernel
theorem dX2_bestRunner_46 : decode cX2_bestRunner 46 = .ok (.invokevirtual 30, 3) := by decide +kernel
theorem dX2_bestRunner_49 : decode cX2_bestRunner 49 = .ok (.iload_n 2, 1) := by decide +kernel
theorem dX2_bestRunner_50 : decode cX2_bestRunner 50 = .ok (.invokevirtual 45, 3) := by decide +kernel
theorem dX2_bestRunner_53 : decode cX2_bestRunner 53 = .ok (.iload_n 3, 1) := by decide +kernel
theorem dX2_bestRunner_54 : decode cX2_bestRunner 54 = .ok (.if_icmp .ne 6, 3) := by decide +kernel
theorem dX2_bestRunner_57 : decode cX2_bestRunner 57 = .ok (.iload 4, 2) := by decide +kernel
theorem dX2_bestRunner_59 : decode cX2_bestRunner 59 = .ok (.ireturn, 1) := by decide +kernel
theorem dX2_bestRunner_60 : decode cX2_bestRunner 60 = .ok (.iinc 4 1, 3) := by decide +kernel
theorem dX2_bestRunner_63 : decode cX2_bestRunner 63 = .ok (.goto (-53), 3) := by decide +kernel
theorem dX2_bestRunner_66 : decode cX2_bestRunner 66 = .ok (.iconst (-1), 1) := by decide +kernel
theorem dX2_bestRunner_67 : decode cX2_bestRunner 67 = .ok (.ireturn, 1) := by decide +kernel
def f_X2_bestRunner_10 (v1 : Int32) (v2 : Int32) (v3 : Int32) : Nat → Int32 → gSt → Option (Int32 × gSt)
  | 0, _, _ => none
  | n + 1, v4, σ =>
    if (σ 3 1 4) ≤ v4 then
      some ((-1), σ)
    else
      if v3 = (-1) then
        f_X2_bestRunner_10 v1 v2 v3 n (v4 + 1) σ
      else
        (f_X4_isOf 1 v4 v1 σ).bind fun p34 =>
        if p34.1 = 0 then
          f_X2_bestRunner_10 v1 v2 v3 n (v4 + 1) p34.2
        else
          (f_X4_runnerAt 1 v4 p34.2).bind fun p46 =>
          (f_X9_legTime p46.1 v2 p46.2).bind fun p50 =>
          if p50.1 = v3 then
            some (v4, p50.2)
          else
            f_X2_bestRunner_10 v1 v2 v3 n (v4 + 1) p50.2
def f_X2_bestRunner (v1 : Int32) (v2 : Int32) (σ : gSt) : Option (Int32 × gSt) :=
  (f_X2_bestTime v1 v2 σ).bind fun p3 =>
  f_X2_bestRunner_10 v1 v2 p3.1 gFuel 0 p3.2
theorem f_X2_bestRunner_10_ok {v1 : Int32} {v2 : Int32} {v3 : Int32} {r : (Int32 × gSt)}  : ∀ (n : Nat) {v4 : Int32} {σ : gSt} , f_X2_bestRunner_10 v1 v2 v3 n v4 σ = some r → G l w 0 41 RX2 cX2_bestRunner 5 (some .int) 3 69 (gE (some (.int r.1)) r.2) 10 [some (.ref (w.2.1 16 0)), some (.int v1), some (.int v2), some (.int v3), some (.int v4)] [] σ := by
  intro n
  induction n with
  | zero => intro v4 σ h; rw [f_X2_bestRunner_10] at h; cases h
  | succ n ih =>
    intro v4 σ h
    rw [f_X2_bestRunner_10] at h
    refine g_iload dX2_bestRunner_10 rfl ?_
    refine g_aload_n dX2_bestRunner_12 rfl ?_
    refine gR_X2_9 ok_16 dX2_bestRunner_13 ?_
    refine gI_X2_15 (ok_3 (by decide)) dX2_bestRunner_16 ?_
    refine g_icmp_ge 66 dX2_bestRunner_19 rfl (fun q => ?_) (fun q => ?_)
    · replace h := gif_t q h
      refine g_iconst dX2_bestRunner_66 kc_m1 ?_
      cases h
      exact g_iret dX2_bestRunner_67 rfl ⟨rfl, rfl⟩
    · replace h := gif_f q h
      refine g_iload_n dX2_bestRunner_22 rfl ?_
      refine g_iconst dX2_bestRunner_23 kc_m1 ?_
      refine g_icmp_eq 60 dX2_bestRunner_24 rfl (fun q => ?_) (fun q => ?_)
      · replace h := gif_t q h
        refine g_inc4 kc_1 dX2_bestRunner_60 ?_
        refine g_goto 10 dX2_bestRunner_63 rfl ?_
        exact ih h
      · replace h := gif_f q h
        refine g_aload_n dX2_bestRunner_27 rfl ?_
        refine gR_X2_9 ok_16 dX2_bestRunner_28 ?_
        refine g_iload dX2_bestRunner_31 rfl ?_
        refine g_iload_n dX2_bestRunner_33 rfl ?_
        obtain ⟨p34, e34, h⟩ := obind h
        refine g_vP2 mv_X2_38 dX2_bestRunner_34 (ok_3 (by decide)) ⟨by decide, by decide⟩ (Nat.le_of_ble_eq_true rfl) (f_X4_isOf_ok (by decide) e34) ?_
        refine g_if_eq 60 dX2_bestRunner_37 rfl (fun q => ?_) (fun q => ?_)
        · replace h := gif_t q h
          refine g_inc4 kc_1 dX2_bestRunner_60 ?_
          refine g_goto 10 dX2_bestRunner_63 rfl ?_
          exact ih h
        · replace h := gif_f q h
          refine g_aload_n dX2_bestRunner_40 rfl ?_
          refine gR_X2_9 ok_16 dX2_bestRunner_41 ?_
          refine g_iload dX2_bestRunner_44 rfl ?_
          obtain ⟨p46, e46, h⟩ := obind h
          refine g_vR1 mv_X2_30 dX2_bestRunner_46 (ok_3 (by decide)) ⟨by decide, by decide⟩ (Nat.le_of_ble_eq_true rfl) (f_X4_runnerAt_ok (by decide) e46) (fun b46 => ?_)
          refine g_iload_n dX2_bestRunner_49 rfl ?_
          obtain ⟨p50, e50, h⟩ := obind h
          refine g_vP1 mv_X2_45 dX2_bestRunner_50 (ok_10 b46) ⟨by decide, by decide⟩ (Nat.le_of_ble_eq_true rfl) (f_X9_legTime_ok b46 e50) ?_
          refine g_iload_n dX2_bestRunner_53 rfl ?_
          refine g_icmp_ne 60 dX2_bestRunner_54 rfl (fun q => ?_) (fun q => ?_)
          · replace h := gif_f q h
            refine g_inc4 kc_1 dX2_bestRunner_60 ?_
            refine g_goto 10 dX2_bestRunner_63 rfl ?_
            exact ih h
          · replace h := gif_t q h
            refine g_iload dX2_bestRunner_57 rfl ?_
            cases h
            exact g_iret dX2_bestRunner_59 rfl ⟨rfl, rfl⟩
theorem f_X2_bestRunner_ok {v1 : Int32} {v2 : Int32}  {σ : gSt} {r : (Int32 × gSt)} (h : f_X2_bestRunner v1 v2 σ = some r) : Mt l w 0 41 yX2_bestRunner cX2_bestRunner 5 (some .int) 3 69 [.ref (w.2.1 16 0), .int v1, .int v2] σ (gE (some (.int r.1)) r.2) := by
  unfold f_X2_bestRunner at h
  refine g_start pn_X2 rfl rfl (Nat.le_of_ble_eq_true rfl) ?_
  show G l w 0 41 RX2 cX2_bestRunner 5 (some .int) 3 69 (gE (some (.int r.1)) r.2) 0 [some (.ref (w.2.1 16 0)), some (.int v1), some (.int v2), none, none] [] σ
  refine g_aload_n dX2_bestRunner_0 rfl ?_
  refine g_iload_n dX2_bestRunner_1 rfl ?_
  refine g_iload_n dX2_bestRunner_2 rfl ?_
  obtain ⟨p3, e3, h⟩ := obind h
  refine g_vP2 mv_X2_67 dX2_bestRunner_3 ok_16 ⟨by decide, by decide⟩ (Nat.le_of_ble_eq_true rfl) (f_X2_bestTime_ok e3) ?_
  refine g_istore3 dX2_bestRunner_6 ?_
  refine g_iconst dX2_bestRunner_7 kc_0 ?_
  refine g_istore4 dX2_bestRunner_8 ?_
  exact f_X2_bestRunner_10_ok gFuel h
theorem dX2_ideal_0 : decode cX2_ideal 0 = .ok (.iconst 0, 1) := by decide +kernel
theorem dX2_ideal_1 : decode cX2_ideal 1 = .ok (.istore_n 2, 1) := by decide +kernel
theorem dX2_ideal_2 : decode cX2_ideal 2 = .ok (.iconst 0, 1) := by decide +kernel
theorem dX2_ideal_3 : decode cX2_ideal 3 = .ok (.istore_n 3, 1) := by decide +kernel
theorem dX2_ideal_4 : decode cX2_ideal 4 = .ok (.iload_n 3, 1) := by decide +kernel
theorem dX2_ideal_5 : decode cX2_ideal 5 = .ok (.aload_n 0, 1) := by decide +kernel
theorem dX2_ideal_6 : decode cX2_ideal 6 = .ok (.getfield 9, 3) := by decide +kernel
theorem dX2_ideal_9 : decode cX2_ideal 9 = .ok (.iload_n 1, 1) := by decide +kernel
theorem dX2_ideal_10 : decode cX2_ideal 10 = .ok (.invokevirtual 52, 3) := by decide +kernel
theorem dX2_ideal_13 : decode cX2_ideal 13 = .ok (.getfield 56, 3) := by decide +kernel
theorem dX2_ideal_16 : decode cX2_ideal 16 = .ok (.if_icmp .gt 31, 3) := by decide +kernel
theorem dX2_ideal_19 : decode cX2_ideal 19 = .ok (.aload_n 0, 1) := by decide +kernel
theorem dX2_ideal_20 : decode cX2_ideal 20 = .ok (.iload_n 1, 1) := by decide +kernel
theorem dX2_ideal_21 : decode cX2_ideal 21 = .ok (.iload_n 3, 1) := by decide +kernel
theorem dX2_ideal_22 : decode cX2_ideal 22 = .ok (.invokevirtual 67, 3) := by decide +kernel
theorem dX2_ideal_25 : decode cX2_ideal 25 = .ok (.istore 4, 2) := by decide +kernel
theorem dX2_ideal_27 : decode cX2_ideal 27 = .ok (.iload 4, 2) := by decide +kernel
theorem dX2_ideal_29 : decode cX2_ideal 29 = .ok (.iconst (-1), 1) := by decide +kernel
theorem dX2_ideal_30 : decode cX2_ideal 30 = .ok (.if_icmp .ne 6, 3) := by decide +kernel
theorem dX2_ideal_33 : decode cX2_ideal 33 = .ok (.bipush (-2), 2) := by decide +kernel
theorem dX2_ideal_35 : decode cX2_ideal 35 = .ok (.ireturn, 1) := by decide +kernel
theorem dX2_ideal_36 : decode cX2_ideal 36 = .ok (.iload_n 2, 1) := by decide +kernel
theorem dX2_ideal_37 : decode cX2_ideal 37 = .ok (.iload 4, 2) := by decide +kernel
theorem dX2_ideal_39 : decode cX2_ideal 39 = .ok (.iadd, 1) := by decide +kernel
theorem dX2_ideal_40 : decode cX2_ideal 40 = .ok (.istore_n 2, 1) := by decide +kernel
theorem dX2_ideal_41 : decode cX2_ideal 41 = .ok (.iinc 3 1, 3) := by decide +kernel
theorem dX2_ideal_44 : decode cX2_ideal 44 = .ok (.goto (-40), 3) := by decide +kernel
theorem dX2_ideal_47 : decode cX2_ideal 47 = .ok (.iload_n 2, 1) := by decide +kernel
theorem dX2_ideal_48 : decode cX2_ideal 48 = .ok (.ireturn, 1) := by decide +kernel
def f_X2_ideal_4 (v1 : Int32) : Nat → Int32 → Int32 → gSt → Option (Int32 × gSt)
  | 0, _, _, _ => none
  | n + 1, v2, v3, σ =>
    (f_X4_courseAt 1 v1 σ).bind fun p10 =>
    if (p10.2 8 p10.1 2) < v3 then
      some (v2, p10.2)
    else
      (f_X2_bestTime v1 v3 p10.2).bind fun p22 =>
      if p22.1 = (-1) then
        some ((-2), p22.2)
      else
        f_X2_ideal_4 v1 n (v2 + p22.1) (v3 + 1) p22.2
def f_X2_ideal (v1 : Int32) (σ : gSt) : Option (Int32 × gSt) :=
  f_X2_ideal_4 v1 gFuel 0 0 σ
theorem f_X2_ideal_4_ok {v1 : Int32} {r : (Int32 × gSt)}  : ∀ (n : Nat) {v2 : Int32} {v3 : Int32} {σ : gSt} {x4 : Option Value}, f_X2_ideal_4 v1 n v2 v3 σ = some r → G l w 0 41 RX2 cX2_ideal 5 (some .int) 3 69 (gE (some (.int r.1)) r.2) 4 [some (.ref (w.2.1 16 0)), some (.int v1), some (.int v2), some (.int v3), x4] [] σ := by
  intro n
  induction n with
  | zero => intro v2 v3 σ x4 h; rw [f_X2_ideal_4] at h; cases h
  | succ n ih =>
    intro v2 v3 σ x4 h
    rw [f_X2_ideal_4] at h
    refine g_iload_n dX2_ideal_4 rfl ?_
    refine g_aload_n dX2_ideal_5 rfl ?_
    refine gR_X2_9 ok_16 dX2_ideal_6 ?_
    refine g_iload_n dX2_ideal_9 rfl ?_
    obtain ⟨p10, e10, h⟩ := obind h
    refine g_vR1 mv_X2_52 dX2_ideal_10 (ok_3 (by decide)) ⟨by decide, by decide⟩ (Nat.le_of_ble_eq_true rfl) (f_X4_courseAt_ok (by decide) e10) (fun b10 => ?_)
    refine gI_X2_56 (ok_8 b10) dX2_ideal_13 ?_
    refine g_icmp_gt 47 dX2_ideal_16 rfl (fun q => ?_) (fun q => ?_)
    · replace h := gif_t q h
      refine g_iload_n dX2_ideal_47 rfl ?_
      cases h
      exact g_iret dX2_ideal_48 rfl ⟨rfl, rfl⟩
    · replace h := gif_f q h
      refine g_aload_n dX2_ideal_19 rfl ?_
      refine g_iload_n dX2_ideal_20 rfl ?_
      refine g_iload_n dX2_ideal_21 rfl ?_
      obtain ⟨p22, e22, h⟩ := obind h
      refine g_vP2 mv_X2_67 dX2_ideal_22 ok_16 ⟨by decide, by decide⟩ (Nat.le_of_ble_eq_true rfl) (f_X2_bestTime_ok e22) ?_
      refine g_istore4 dX2_ideal_25 ?_
      refine g_iload dX2_ideal_27 rfl ?_
      refine g_iconst dX2_ideal_29 kc_m1 ?_
      refine g_icmp_ne 36 dX2_ideal_30 rfl (fun q => ?_) (fun q => ?_)
      · replace h := gif_f q h
        refine g_iload_n dX2_ideal_36 rfl ?_
        refine g_iload dX2_ideal_37 rfl ?_
        refine g_iadd dX2_ideal_39 ?_
        refine g_istore2 dX2_ideal_40 ?_
        refine g_inc3 kc_1 dX2_ideal_41 ?_
        refine g_goto 4 dX2_ideal_44 rfl ?_
        exact ih h
      · replace h := gif_t q h
        refine g_bipush dX2_ideal_33 kb_m2 ?_
        cases h
        exact g_iret dX2_ideal_35 rfl ⟨rfl, rfl⟩
theorem f_X2_ideal_ok {v1 : Int32}  {σ : gSt} {r : (Int32 × gSt)} (h : f_X2_ideal v1 σ = some r) : Mt l w 0 41 yX2_ideal cX2_ideal 5 (some .int) 3 69 [.ref (w.2.1 16 0), .int v1] σ (gE (some (.int r.1)) r.2) := by
  unfold f_X2_ideal at h
  refine g_start pn_X2 rfl rfl (Nat.le_of_ble_eq_true rfl) ?_
  show G l w 0 41 RX2 cX2_ideal 5 (some .int) 3 69 (gE (some (.int r.1)) r.2) 0 [some (.ref (w.2.1 16 0)), some (.int v1), none, none, none] [] σ
  refine g_iconst dX2_ideal_0 kc_0 ?_
  refine g_istore2 dX2_ideal_1 ?_
  refine g_iconst dX2_ideal_2 kc_0 ?_
  refine g_istore3 dX2_ideal_3 ?_
  exact f_X2_ideal_4_ok gFuel h
theorem dX2_lostOn_0 : decode cX2_lostOn 0 = .ok (.aload_n 1, 1) := by decide +kernel
theorem dX2_lostOn_1 : decode cX2_lostOn 1 = .ok (.iload_n 2, 1) := by decide +kernel
theorem dX2_lostOn_2 : decode cX2_lostOn 2 = .ok (.invokevirtual 45, 3) := by decide +kernel
theorem dX2_lostOn_5 : decode cX2_lostOn 5 = .ok (.istore_n 3, 1) := by decide +kernel
theorem dX2_lostOn_6 : decode cX2_lostOn 6 = .ok (.iload_n 3, 1) := by decide +kernel
theorem dX2_lostOn_7 : decode cX2_lostOn 7 = .ok (.iconst (-1), 1) := by decide +kernel
theorem dX2_lostOn_8 : decode cX2_lostOn 8 = .ok (.if_icmp .ne 7, 3) := by decide +kernel
theorem dX2_lostOn_11 : decode cX2_lostOn 11 = .ok (.iconst (-1), 1) := by decide +kernel
theorem dX2_lostOn_12 : decode cX2_lostOn 12 = .ok (.goto 14, 3) := by decide +kernel
theorem dX2_lostOn_15 : decode cX2_lostOn 15 = .ok (.iload_n 3, 1) := by decide +kernel
theorem dX2_lostOn_16 : decode cX2_lostOn 16 = .ok (.aload_n 0, 1) := by decide +kernel
theorem dX2_lostOn_17 : decode cX2_lostOn 17 = .ok (.aload_n 1, 1) := by decide +kernel
theorem dX2_lostOn_18 : decode cX2_lostOn 18 = .ok (.getfield 21, 3) := by decide +kernel
theorem dX2_lostOn_21 : decode cX2_lostOn 21 = .ok (.iload_n 2, 1) := by decide +kernel
theorem dX2_lostOn_22 : decode cX2_lostOn 22 = .ok (.invokevirtual 67, 3) := by decide +kernel
theorem dX2_lostOn_25 : decode cX2_lostOn 25 = .ok (.isub, 1) := by decide +kernel
theorem dX2_lostOn_26 : decode cX2_lostOn 26 = .ok (.ireturn, 1) := by decide +kernel
def f_X2_lostOn (i1 : Nat) (v2 : Int32) (σ : gSt) : Option (Int32 × gSt) :=
  (f_X9_legTime i1 v2 σ).bind fun p2 =>
  if p2.1 = (-1) then
    some ((-1), p2.2)
  else
    (f_X2_bestTime (p2.2 10 i1 5) v2 p2.2).bind fun p22 =>
    some ((p2.1 - p22.1), p22.2)
theorem f_X2_lostOn_ok {i1 : Nat} {v2 : Int32} (hi1 : i1 < 20) {σ : gSt} {r : (Int32 × gSt)} (h : f_X2_lostOn i1 v2 σ = some r) : Mt l w 0 41 yX2_lostOn cX2_lostOn 4 (some .int) 3 69 [.ref (w.2.1 16 0), .ref (w.2.1 10 i1), .int v2] σ (gE (some (.int r.1)) r.2) := by
  unfold f_X2_lostOn at h
  refine g_start pn_X2 rfl rfl (Nat.le_of_ble_eq_true rfl) ?_
  show G l w 0 41 RX2 cX2_lostOn 4 (some .int) 3 69 (gE (some (.int r.1)) r.2) 0 [some (.ref (w.2.1 16 0)), some (.ref (w.2.1 10 i1)), some (.int v2), none] [] σ
  refine g_aload_n dX2_lostOn_0 rfl ?_
  refine g_iload_n dX2_lostOn_1 rfl ?_
  obtain ⟨p2, e2, h⟩ := obind h
  refine g_vP1 mv_X2_45 dX2_lostOn_2 (ok_10 hi1) ⟨by decide, by decide⟩ (Nat.le_of_ble_eq_true rfl) (f_X9_legTime_ok hi1 e2) ?_
  refine g_istore3 dX2_lostOn_5 ?_
  refine g_iload_n dX2_lostOn_6 rfl ?_
  refine g_iconst dX2_lostOn_7 kc_m1 ?_
  refine g_icmp_ne 15 dX2_lostOn_8 rfl (fun q => ?_) (fun q => ?_)
  · replace h := gif_f q h
    refine g_iload_n dX2_lostOn_15 rfl ?_
    refine g_aload_n dX2_lostOn_16 rfl ?_
    refine g_aload_n dX2_lostOn_17 rfl ?_
    refine gI_X2_21 (ok_10 hi1) dX2_lostOn_18 ?_
    refine g_iload_n dX2_lostOn_21 rfl ?_
    obtain ⟨p22, e22, h⟩ := obind h
    refine g_vP2 mv_X2_67 dX2_lostOn_22 ok_16 ⟨by decide, by decide⟩ (Nat.le_of_ble_eq_true rfl) (f_X2_bestTime_ok e22) ?_
    refine g_isub dX2_lostOn_25 ?_
    cases h
    exact g_iret dX2_lostOn_26 rfl ⟨rfl, rfl⟩
  · replace h := gif_t q h
    refine g_iconst dX2_lostOn_11 kc_m1 ?_
    refine g_goto 26 dX2_lostOn_12 rfl ?_
    cases h
    exact g_iret dX2_lostOn_26 rfl ⟨rfl, rfl⟩
theorem dX2_lostInAll_0 : decode cX2_lostInAll 0 = .ok (.iconst 0, 1) := by decide +kernel
theorem dX2_lostInAll_1 : decode cX2_lostInAll 1 = .ok (.istore_n 2, 1) := by decide +kernel
theorem dX2_lostInAll_2 : decode cX2_lostInAll 2 = .ok (.iconst 0, 1) := by decide +kernel
theorem dX2_lostInAll_3 : decode cX2_lostInAll 3 = .ok (.istore_n 3, 1) := by decide +kernel
theorem dX2_lostInAll_4 : decode cX2_lostInAll 4 = .ok (.iload_n 3, 1) := by decide +kernel
theorem dX2_lostInAll_5 : decode cX2_lostInAll 5 = .ok (.aload_n 1, 1) := by decide +kernel
theorem dX2_lostInAll_6 : decode cX2_lostInAll 6 = .ok (.getfield 70, 3) := by decide +kernel
theorem dX2_lostInAll_9 : decode cX2_lostInAll 9 = .ok (.if_icmp .gt 22, 3) := by decide +kernel
theorem dX2_lostInAll_12 : decode cX2_lostInAll 12 = .ok (.iload_n 2, 1) := by decide +kernel
theorem dX2_lostInAll_13 : decode cX2_lostInAll 13 = .ok (.aload_n 0, 1) := by decide +kernel
theorem dX2_lostInAll_14 : decode cX2_lostInAll 14 = .ok (.aload_n 1, 1) := by decide +kernel
theorem dX2_lostInAll_15 : decode cX2_lostInAll 15 = .ok (.iload_n 3, 1) := by decide +kernel
theorem dX2_lostInAll_16 : decode cX2_lostInAll 16 = .ok (.invokevirtual 71, 3) := by decide +kernel
theorem dX2_lostInAll_19 : decode cX2_lostInAll 19 = .ok (.iconst 0, 1) := by decide +kernel
theorem dX2_lostInAll_20 : decode cX2_lostInAll 20 = .ok (.invokestatic 75, 3) := by decide +kernel
theorem dX2_lostInAll_23 : decode cX2_lostInAll 23 = .ok (.iadd, 1) := by decide +kernel
theorem dX2_lostInAll_24 : decode cX2_lostInAll 24 = .ok (.istore_n 2, 1) := by decide +kernel
theorem dX2_lostInAll_25 : decode cX2_lostInAll 25 = .ok (.iinc 3 1, 3) := by decide +kernel
theorem dX2_lostInAll_28 : decode cX2_lostInAll 28 = .ok (.goto (-24), 3) := by decide +kernel
theorem dX2_lostInAll_31 : decode cX2_lostInAll 31 = .ok (.iload_n 2, 1) := by decide +kernel
theorem dX2_lostInAll_32 : decode cX2_lostInAll 32 = .ok (.ireturn, 1) := by decide +kernel
def f_X2_lostInAll_4 (i1 : Nat) : Nat → Int32 → Int32 → gSt → Option (Int32 × gSt)
  | 0, _, _, _ => none
  | n + 1, v2, v3, σ =>
    if (σ 10 i1 9) < v3 then
      some (v2, σ)
    else
      (f_X2_lostOn i1 v3 σ).bind fun p16 =>
      f_X2_lostInAll_4 i1 n (v2 + (gmx p16.1 0)) (v3 + 1) p16.2
def f_X2_lostInAll (i1 : Nat) (σ : gSt) : Option (Int32 × gSt) :=
  f_X2_lostInAll_4 i1 gFuel 0 0 σ
theorem f_X2_lostInAll_4_ok {i1 : Nat} {r : (Int32 × gSt)} (hi1 : i1 < 20) : ∀ (n : Nat) {v2 : Int32} {v3 : Int32} {σ : gSt} , f_X2_lostInAll_4 i1 n v2 v3 σ = some r → G l w 0 41 RX2 cX2_lostInAll 4 (some .int) 4 92 (gE (some (.int r.1)) r.2) 4 [some (.ref (w.2.1 16 0)), some (.ref (w.2.1 10 i1)), some (.int v2), some (.int v3)] [] σ := by
  intro n
  induction n with
  | zero => intro v2 v3 σ h; rw [f_X2_lostInAll_4] at h; cases h
  | succ n ih =>
    intro v2 v3 σ h
    rw [f_X2_lostInAll_4] at h
    refine g_iload_n dX2_lostInAll_4 rfl ?_
    refine g_aload_n dX2_lostInAll_5 rfl ?_
    refine gI_X2_70 (ok_10 hi1) dX2_lostInAll_6 ?_
    refine g_icmp_gt 31 dX2_lostInAll_9 rfl (fun q => ?_) (fun q => ?_)
    · replace h := gif_t q h
      refine g_iload_n dX2_lostInAll_31 rfl ?_
      cases h
      exact g_iret dX2_lostInAll_32 rfl ⟨rfl, rfl⟩
    · replace h := gif_f q h
      refine g_iload_n dX2_lostInAll_12 rfl ?_
      refine g_aload_n dX2_lostInAll_13 rfl ?_
      refine g_aload_n dX2_lostInAll_14 rfl ?_
      refine g_iload_n dX2_lostInAll_15 rfl ?_
      obtain ⟨p16, e16, h⟩ := obind h
      refine g_vP2 mv_X2_71 dX2_lostInAll_16 ok_16 ⟨by decide, by decide⟩ (Nat.le_of_ble_eq_true rfl) (f_X2_lostOn_ok hi1 e16) ?_
      refine g_iconst dX2_lostInAll_19 kc_0 ?_
      refine g_mmax mm_X2_75 (by decide) (by decide) (Nat.le_of_ble_eq_true rfl) dX2_lostInAll_20 ?_
      refine g_iadd dX2_lostInAll_23 ?_
      refine g_istore2 dX2_lostInAll_24 ?_
      refine g_inc3 kc_1 dX2_lostInAll_25 ?_
      refine g_goto 4 dX2_lostInAll_28 rfl ?_
      exact ih h
theorem f_X2_lostInAll_ok {i1 : Nat} (hi1 : i1 < 20) {σ : gSt} {r : (Int32 × gSt)} (h : f_X2_lostInAll i1 σ = some r) : Mt l w 0 41 yX2_lostInAll cX2_lostInAll 4 (some .int) 4 92 [.ref (w.2.1 16 0), .ref (w.2.1 10 i1)] σ (gE (some (.int r.1)) r.2) := by
  unfold f_X2_lostInAll at h
  refine g_start pn_X2 rfl rfl (Nat.le_of_ble_eq_true rfl) ?_
  show G l w 0 41 RX2 cX2_lostInAll 4 (some .int) 4 92 (gE (some (.int r.1)) r.2) 0 [some (.ref (w.2.1 16 0)), some (.ref (w.2.1 10 i1)), none, none] [] σ
  refine g_iconst dX2_lostInAll_0 kc_0 ?_
  refine g_istore2 dX2_lostInAll_1 ?_
  refine g_iconst dX2_lostInAll_2 kc_0 ?_
  refine g_istore3 dX2_lostInAll_3 ?_
  exact f_X2_lostInAll_4_ok hi1 gFuel h
theorem dX2_worstLeg_0 : decode cX2_worstLeg 0 = .ok (.bipush (-2), 2) := by decide +kernel
theorem dX2_worstLeg_2 : decode cX2_worstLeg 2 = .ok (.istore_n 2, 1) := by decide +kernel
theorem dX2_worstLeg_3 : decode cX2_worstLeg 3 = .ok (.iconst (-1), 1) := by decide +kernel
theorem dX2_worstLeg_4 : decode cX2_worstLeg 4 = .ok (.istore_n 3, 1) := by decide +kernel
theorem dX2_worstLeg_5 : decode cX2_worstLeg 5 = .ok (.iconst 0, 1) := by decide +kernel
theorem dX2_worstLeg_6 : decode cX2_worstLeg 6 = .ok (.istore 4, 2) := by decide +kernel
theorem dX2_worstLeg_8 : decode cX2_worstLeg 8 = .ok (.iload 4, 2) := by decide +kernel
theorem dX2_worstLeg_10 : decode cX2_worstLeg 10 = .ok (.aload_n 1, 1) := by decide +kernel
theorem dX2_worstLeg_11 : decode cX2_worstLeg 11 = .ok (.getfield 70, 3) := by decide +kernel
theorem dX2_worstLeg_14 : decode cX2_worstLeg 14 = .ok (.if_icmp .gt 30, 3) := by decide +kernel
theorem dX2_worstLeg_17 : decode cX2_worstLeg 17 = .ok (.aload_n 0, 1) := by decide +kernel
theorem dX2_worstLeg_18 : decode cX2_worstLeg 18 = .ok (.aload_n 1, 1) := by decide +kernel
theorem dX2_worstLeg_19 : decode cX2_worstLeg 19 = .ok (.iload 4, 2) := by decide +kernel
theorem dX2_worstLeg_21 : decode cX2_worstLeg 21 = .ok (.invokevirtual 71, 3) := by decide +kernel
theorem dX2_worstLeg_24 : decode cX2_worstLeg 24 = .ok (.istore 5, 2) := by decide +kernel
theorem dX2_worstLeg_26 : decode cX2_worstLeg 26 = .ok (.iload 5, 2) := by decide +kernel
theorem dX2_worstLeg_28 : decode cX2_worstLeg 28 = .ok (.iload_n 3, 1) := by decide +kernel
theorem dX2_worstLeg_29 : decode cX2_worstLeg 29 = .ok (.if_icmp .le 9, 3) := by decide +kernel
theorem dX2_worstLeg_32 : decode cX2_worstLeg 32 = .ok (.iload 4, 2) := by decide +kernel
theorem dX2_worstLeg_34 : decode cX2_worstLeg 34 = .ok (.istore_n 2, 1) := by decide +kernel
theorem dX2_worstLeg_35 : decode cX2_worstLeg 35 = .ok (.iload 5, 2) := by decide +kernel
theorem dX2_worstLeg_37 : decode cX2_worstLeg 37 = .ok (.istore_n 3, 1) := by decide +kernel
theorem dX2_worstLeg_38 : decode cX2_worstLeg 38 = .ok (.iinc 4 1, 3) := by decide +kernel
theorem dX2_worstLeg_41 : decode cX2_worstLeg 41 = .ok (.goto (-33), 3) := by decide +kernel
theorem dX2_worstLeg_44 : decode cX2_worstLeg 44 = .ok (.iload_n 2, 1) := by decide +kernel
theorem dX2_worstLeg_45 : decode cX2_worstLeg 45 = .ok (.ireturn, 1) := by decide +kernel
def f_X2_worstLeg_8 (i1 : Nat) : Nat → Int32 → Int32 → Int32 → gSt → Option (Int32 × gSt)
  | 0, _, _, _, _ => none
  | n + 1, v2, v3, v4, σ =>
    if (σ 10 i1 9) < v4 then
      some (v2, σ)
    else
      (f_X2_lostOn i1 v4 σ).bind fun p21 =>
      if p21.1 ≤ v3 then
        f_X2_worstLeg_8 i1 n v2 v3 (v4 + 1) p21.2
      else
        f_X2_worstLeg_8 i1 n v4 p21.1 (v4 + 1) p21.2
def f_X2_worstLeg (i1 : Nat) (σ : gSt) : Option (Int32 × gSt) :=
  f_X2_worstLeg_8 i1 gFuel (-2) (-1) 0 σ
theorem f_X2_worstLeg_8_ok {i1 : Nat} {r : (Int32 × gSt)} (hi1 : i1 < 20) : ∀ (n : Nat) {v2 : Int32} {v3 : Int32} {v4 : Int32} {σ : gSt} {x5 : Option Value}, f_X2_worstLeg_8 i1 n v2 v3 v4 σ = some r → G l w 0 41 RX2 cX2_worstLeg 6 (some .int) 4 92 (gE (some (.int r.1)) r.2) 8 [some (.ref (w.2.1 16 0)), some (.ref (w.2.1 10 i1)), some (.int v2), some (.int v3), some (.int v4), x5] [] σ := by
  intro n
  induction n with
  | zero => intro v2 v3 v4 σ x5 h; rw [f_X2_worstLeg_8] at h; cases h
  | succ n ih =>
    intro v2 v3 v4 σ x5 h
    rw [f_X2_worstLeg_8] at h
    refine g_iload dX2_worstLeg_8 rfl ?_
    refine g_aload_n dX2_worstLeg_10 rfl ?_
    refine gI_X2_70 (ok_10 hi1) dX2_worstLeg_11 ?_
    refine g_icmp_gt 44 dX2_worstLeg_14 rfl (fun q => ?_) (fun q => ?_)
    · replace h := gif_t q h
      refine g_iload_n dX2_worstLeg_44 rfl ?_
      cases h
      exact g_iret dX2_worstLeg_45 rfl ⟨rfl, rfl⟩
    · replace h := gif_f q h
      refine g_aload_n dX2_worstLeg_17 rfl ?_
      refine g_aload_n dX2_worstLeg_18 rfl ?_
      refine g_iload dX2_worstLeg_19 rfl ?_
      obtain ⟨p21, e21, h⟩ := obind h
      refine g_vP2 mv_X2_71 dX2_worstLeg_21 ok_16 ⟨by decide, by decide⟩ (Nat.le_of_ble_eq_true rfl) (f_X2_lostOn_ok hi1 e21) ?_
      refine g_istore5 dX2_worstLeg_24 ?_
      refine g_iload dX2_worstLeg_26 rfl ?_
      refine g_iload_n dX2_worstLeg_28 rfl ?_
      refine g_icmp_le 38 dX2_worstLeg_29 rfl (fun q => ?_) (fun q => ?_)
      · replace h := gif_t q h
        refine g_inc4 kc_1 dX2_worstLeg_38 ?_
        refine g_goto 8 dX2_worstLeg_41 rfl ?_
        exact ih h
      · replace h := gif_f q h
        refine g_iload dX2_worstLeg_32 rfl ?_
        refine g_istore2 dX2_worstLeg_34 ?_
        refine g_iload dX2_worstLeg_35 rfl ?_
        refine g_istore3 dX2_worstLeg_37 ?_
        refine g_inc4 kc_1 dX2_worstLeg_38 ?_
        refine g_goto 8 dX2_worstLeg_41 rfl ?_
        exact ih h
theorem f_X2_worstLeg_ok {i1 : Nat} (hi1 : i1 < 20) {σ : gSt} {r : (Int32 × gSt)} (h : f_X2_worstLeg i1 σ = some r) : Mt l w 0 41 yX2_worstLeg cX2_worstLeg 6 (some .int) 4 92 [.ref (w.2.1 16 0), .ref (w.2.1 10 i1)] σ (gE (some (.int r.1)) r.2) := by
  unfold f_X2_worstLeg at h
  refine g_start pn_X2 rfl rfl (Nat.le_of_ble_eq_true rfl) ?_
  show G l w 0 41 RX2 cX2_worstLeg 6 (some .int) 4 92 (gE (some (.int r.1)) r.2) 0 [some (.ref (w.2.1 16 0)), some (.ref (w.2.1 10 i1)), none, none, none, none] [] σ
  refine g_bipush dX2_worstLeg_0 kb_m2 ?_
  refine g_istore2 dX2_worstLeg_2 ?_
  refine g_iconst dX2_worstLeg_3 kc_m1 ?_
  refine g_istore3 dX2_worstLeg_4 ?_
  refine g_iconst dX2_worstLeg_5 kc_0 ?_
  refine g_istore4 dX2_worstLeg_6 ?_
  exact f_X2_worstLeg_8_ok hi1 gFuel h
theorem dX2_lostByAll_0 : decode cX2_lostByAll 0 = .ok (.aload_n 0, 1) := by decide +kernel
theorem dX2_lostByAll_1 : decode cX2_lostByAll 1 = .ok (.iload_n 1, 1) := by decide +kernel
theorem dX2_lostByAll_2 : decode cX2_lostByAll 2 = .ok (.iload_n 2, 1) := by decide +kernel
theorem dX2_lostByAll_3 : decode cX2_lostByAll 3 = .ok (.invokevirtual 67, 3) := by decide +kernel
theorem dX2_lostByAll_6 : decode cX2_lostByAll 6 = .ok (.istore_n 3, 1) := by decide +kernel
theorem dX2_lostByAll_7 : decode cX2_lostByAll 7 = .ok (.iload_n 3, 1) := by decide +kernel
theorem dX2_lostByAll_8 : decode cX2_lostByAll 8 = .ok (.iconst (-1), 1) := by decide +kernel
theorem dX2_lostByAll_9 : decode cX2_lostByAll 9 = .ok (.if_icmp .ne 7, 3) := by decide +kernel
theorem dX2_lostByAll_12 : decode cX2_lostByAll 12 = .ok (.iconst (-1), 1) := by decide +kernel
theorem dX2_lostByAll_13 : decode cX2_lostByAll 13 = .ok (.goto 4, 3) := by decide +kernel
theorem dX2_lostByAll_16 : decode cX2_lostByAll 16 = .ok (.iconst 0, 1) := by decide +kernel
theorem dX2_lostByAll_17 : decode cX2_lostByAll 17 = .ok (.istore 4, 2) := by decide +kernel
theorem dX2_lostByAll_19 : decode cX2_lostByAll 19 = .ok (.iconst 0, 1) := by decide +kernel
theorem dX2_lostByAll_20 : decode cX2_lostByAll 20 = .ok (.istore 5, 2) := by decide +kernel
theorem dX2_lostByAll_22 : decode cX2_lostByAll 22 = .ok (.iload 5, 2) := by decide +kernel
theorem dX2_lostByAll_24 : decode cX2_lostByAll 24 = .ok (.aload_n 0, 1) := by decide +kernel
theorem dX2_lostByAll_25 : decode cX2_lostByAll 25 = .ok (.getfield 9, 3) := by decide +kernel
theorem dX2_lostByAll_28 : decode cX2_lostByAll 28 = .ok (.getfield 15, 3) := by decide +kernel
theorem dX2_lostByAll_31 : decode cX2_lostByAll 31 = .ok (.if_icmp .ge 60, 3) := by decide +kernel
theorem dX2_lostByAll_34 : decode cX2_lostByAll 34 = .ok (.aload_n 0, 1) := by decide +kernel
theorem dX2_lostByAll_35 : decode cX2_lostByAll 35 = .ok (.getfield 9, 3) := by decide +kernel
theorem dX2_lostByAll_38 : decode cX2_lostByAll 38 = .ok (.iload 5, 2) := by decide +kernel
theorem dX2_lostByAll_40 : decode cX2_lostByAll 40 = .ok (.iload_n 1, 1) := by decide +kernel
theorem dX2_lostByAll_41 : decode cX2_lostByAll 41 = .ok (.invokevirtual 38, 3) := by decide +kernel
theorem dX2_lostByAll_44 : decode cX2_lostByAll 44 = .ok (.ifCond .eq 19, 3) := by decide +kernel
theorem dX2_lostByAll_47 : decode cX2_lostByAll 47 = .ok (.aload_n 0, 1) := by decide +kernel
theorem dX2_lostByAll_48 : decode cX2_lostByAll 48 = .ok (.getfield 9, 3) := by decide +kernel
theorem dX2_lostByAll_51 : decode cX2_lostByAll 51 = .ok (.iload 5, 2) := by decide +kernel
theorem dX2_lostByAll_53 : decode cX2_lostByAll 53 = .ok (.invokevirtual 30, 3) := by decide +kernel
theorem dX2_lostByAll_56 : decode cX2_lostByAll 56 = .ok (.iload_n 2, 1) := by decide +kernel
theorem dX2_lostByAll_57 : decode cX2_lostByAll 57 = .ok (.invokevirtual 45, 3) := by decide +kernel
theorem dX2_lostByAll_60 : decode cX2_lostByAll 60 = .ok (.goto 4, 3) := by decide +kernel
theorem dX2_lostByAll_63 : decode cX2_lostByAll 63 = .ok (.iconst (-1), 1) := by decide +kernel
theorem dX2_lostByAll_64 : decode cX2_lostByAll 64 = .ok (.istore 6, 2) := by decide +kernel
theorem dX2_lostByAll_66 : decode cX2_lostByAll 66 = .ok (.iload 4, 2) := by decide +kernel
theorem dX2_lostByAll_68 : decode cX2_lostByAll 68 = .ok (.iload 6, 2) := by decide +kernel
theorem dX2_lostByAll_70 : decode cX2_lostByAll 70 = .ok (.iconst (-1), 1) := by decide +kernel
theorem dX2_lostByAll_71 : decode cX2_lostByAll 71 = .ok (.if_icmp .ne 7, 3) := by decide +kernel
theorem dX2_lostByAll_74 : decode cX2_lostByAll 74 = .ok (.iconst 0, 1) := by decide +kernel
theorem dX2_lostByAll_75 : decode cX2_lostByAll 75 = .ok (.goto 7, 3) := by decide +kernel
theorem dX2_lostByAll_78 : decode cX2_lostByAll 78 = .ok (.iload 6, 2) := by decide +kernel
theorem dX2_lostByAll_80 : decode cX2_lostByAll 80 = .ok (.iload_n 3, 1) := by decide +kernel
theorem dX2_lostByAll_81 : decode cX2_lostByAll 81 = .ok (.isub, 1) := by decide +kernel
theorem dX2_lostByAll_82 : decode cX2_lostByAll 82 = .ok (.iadd, 1) := by decide +kernel
theorem dX2_lostByAll_83 : decode cX2_lostByAll 83 = .ok (.istore 4, 2) := by decide +kernel
theorem dX2_lostByAll_85 : decode cX2_lostByAll 85 = .ok (.iinc 5 1, 3) := by decide +kernel
theorem dX2_lostByAll_88 : decode cX2_lostByAll 88 = .ok (.goto (-66), 3) := by decide +kernel
theorem dX2_lostByAll_91 : decode cX2_lostByAll 91 = .ok (.iload 4, 2) := by decide +kernel
theorem dX2_lostByAll_93 : decode cX2_lostByAll 93 = .ok (.ireturn, 1) := by decide +kernel
def f_X2_lostByAll_64 (v1 : Int32) (v2 : Int32) (v3 : Int32) (v4 : Int32) (v5 : Int32) (k22 : Int32 → Int32 → gSt → Option (Int32 × gSt)) (vs0 : Int32) (σ : gSt) : Option (Int32 × gSt) :=
  if vs0 = (-1) then
    k22 (v4 + 0) (v5 + 1) σ
  else
    k22 (v4 + (vs0 - v3)) (v5 + 1) σ
def f_X2_lostByAll_22 (v1 : Int32) (v2 : Int32) (v3 : Int32) : Nat → Int32 → Int32 → gSt → Option (Int32 × gSt)
  | 0, _, _, _ => none
  | n + 1, v4, v5, σ =>
    if (σ 3 1 4) ≤ v5 then
      some (v4, σ)
    else
      (f_X4_isOf 1 v5 v1 σ).bind fun p41 =>
      if p41.1 = 0 then
        f_X2_lostByAll_64 v1 v2 v3 v4 v5 (fun v4 v5 σ => f_X2_lostByAll_22 v1 v2 v3 n v4 v5 σ) (-1) p41.2
      else
        (f_X4_runnerAt 1 v5 p41.2).bind fun p53 =>
        (f_X9_legTime p53.1 v2 p53.2).bind fun p57 =>
        f_X2_lostByAll_64 v1 v2 v3 v4 v5 (fun v4 v5 σ => f_X2_lostByAll_22 v1 v2 v3 n v4 v5 σ) p57.1 p57.2
def f_X2_lostByAll (v1 : Int32) (v2 : Int32) (σ : gSt) : Option (Int32 × gSt) :=
  (f_X2_bestTime v1 v2 σ).bind fun p3 =>
  if p3.1 = (-1) then
    f_X2_lostByAll_22 v1 v2 p3.1 gFuel (-1) 0 p3.2
  else
    f_X2_lostByAll_22 v1 v2 p3.1 gFuel 0 0 p3.2
theorem f_X2_lostByAll_64_ok {v1 : Int32} {v2 : Int32} {v3 : Int32} {v4 : Int32} {v5 : Int32} {k22 : Int32 → Int32 → gSt → Option (Int32 × gSt)} {vs0 : Int32} {r : (Int32 × gSt)} (hk22 : ∀ {v4 : Int32} {v5 : Int32} {σ : gSt} {x6 : Option Value}, k22 v4 v5 σ = some r → G l w 0 41 RX2 cX2_lostByAll 7 (some .int) 3 69 (gE (some (.int r.1)) r.2) 22 [some (.ref (w.2.1 16 0)), some (.int v1), some (.int v2), some (.int v3), some (.int v4), some (.int v5), x6] [] σ) {σ : gSt} {x6 : Option Value} (h : f_X2_lostByAll_64 v1 v2 v3 v4 v5 k22 vs0 σ = some r) : G l w 0 41 RX2 cX2_lostByAll 7 (some .int) 3 69 (gE (some (.int r.1)) r.2) 64 [some (.ref (w.2.1 16 0)), some (.int v1), some (.int v2), some (.int v3), some (.int v4), some (.int v5), x6] [.int vs0] σ := by
  unfold f_X2_lostByAll_64 at h
  refine g_istore6 dX2_lostByAll_64 ?_
  refine g_iload dX2_lostByAll_66 rfl ?_
  refine g_iload dX2_lostByAll_68 rfl ?_
  refine g_iconst dX2_lostByAll_70 kc_m1 ?_
  refine g_icmp_ne 78 dX2_lostByAll_71 rfl (fun q => ?_) (fun q => ?_)
  · replace h := gif_f q h
    refine g_iload dX2_lostByAll_78 rfl ?_
    refine g_iload_n dX2_lostByAll_80 rfl ?_
    refine g_isub dX2_lostByAll_81 ?_
    refine g_iadd dX2_lostByAll_82 ?_
    refine g_istore4 dX2_lostByAll_83 ?_
    refine g_inc5 kc_1 dX2_lostByAll_85 ?_
    refine g_goto 22 dX2_lostByAll_88 rfl ?_
    exact hk22 h
  · replace h := gif_t q h
    refine g_iconst dX2_lostByAll_74 kc_0 ?_
    refine g_goto 82 dX2_lostByAll_75 rfl ?_
    refine g_iadd dX2_lostByAll_82 ?_
    refine g_istore4 dX2_lostByAll_83 ?_
    refine g_inc5 kc_1 dX2_lostByAll_85 ?_
    refine g_goto 22 dX2_lostByAll_88 rfl ?_
    exact hk22 h
theorem f_X2_lostByAll_22_ok {v1 : Int32} {v2 : Int32} {v3 : Int32} {r : (Int32 × gSt)}  : ∀ (n : Nat) {v4 : Int32} {v5 : Int32} {σ : gSt} {x6 : Option Value}, f_X2_lostByAll_22 v1 v2 v3 n v4 v5 σ = some r → G l w 0 41 RX2 cX2_lostByAll 7 (some .int) 3 69 (gE (some (.int r.1)) r.2) 22 [some (.ref (w.2.1 16 0)), some (.int v1), some (.int v2), some (.int v3), some (.int v4), some (.int v5), x6] [] σ := by
  intro n
  induction n with
  | zero => intro v4 v5 σ x6 h; rw [f_X2_lostByAll_22] at h; cases h
  | succ n ih =>
    intro v4 v5 σ x6 h
    rw [f_X2_lostByAll_22] at h
    refine g_iload dX2_lostByAll_22 rfl ?_
    refine g_aload_n dX2_lostByAll_24 rfl ?_
    refine gR_X2_9 ok_16 dX2_lostByAll_25 ?_
    refine gI_X2_15 (ok_3 (by decide)) dX2_lostByAll_28 ?_
    refine g_icmp_ge 91 dX2_lostByAll_31 rfl (fun q => ?_) (fun q => ?_)
    · replace h := gif_t q h
      refine g_iload dX2_lostByAll_91 rfl ?_
      cases h
      exact g_iret dX2_lostByAll_93 rfl ⟨rfl, rfl⟩
    · replace h := gif_f q h
      refine g_aload_n dX2_lostByAll_34 rfl ?_
      refine gR_X2_9 ok_16 dX2_lostByAll_35 ?_
      refine g_iload dX2_lostByAll_38 rfl ?_
      refine g_iload_n dX2_lostByAll_40 rfl ?_
      obtain ⟨p41, e41, h⟩ := obind h
      refine g_vP2 mv_X2_38 dX2_lostByAll_41 (ok_3 (by decide)) ⟨by decide, by decide⟩ (Nat.le_of_ble_eq_true rfl) (f_X4_isOf_ok (by decide) e41) ?_
      refine g_if_eq 63 dX2_lostByAll_44 rfl (fun q => ?_) (fun q => ?_)
      · replace h := gif_t q h
        refine g_iconst dX2_lostByAll_63 kc_m1 ?_
        exact f_X2_lostByAll_64_ok (fun h => ih h) h
      · replace h := gif_f q h
        refine g_aload_n dX2_lostByAll_47 rfl ?_
        refine gR_X2_9 ok_16 dX2_lostByAll_48 ?_
        refine g_iload dX2_lostByAll_51 rfl ?_
        obtain ⟨p53, e53, h⟩ := obind h
        refine g_vR1 mv_X2_30 dX2_lostByAll_53 (ok_3 (by decide)) ⟨by decide, by decide⟩ (Nat.le_of_ble_eq_true rfl) (f_X4_runnerAt_ok (by decide) e53) (fun b53 => ?_)
        refine g_iload_n dX2_lostByAll_56 rfl ?_
        obtain ⟨p57, e57, h⟩ := obind h
        refine g_vP1 mv_X2_45 dX2_lostByAll_57 (ok_10 b53) ⟨by decide, by decide⟩ (Nat.le_of_ble_eq_true rfl) (f_X9_legTime_ok b53 e57) ?_
        refine g_goto 64 dX2_lostByAll_60 rfl ?_
        exact f_X2_lostByAll_64_ok (fun h => ih h) h
theorem f_X2_lostByAll_ok {v1 : Int32} {v2 : Int32}  {σ : gSt} {r : (Int32 × gSt)} (h : f_X2_lostByAll v1 v2 σ = some r) : Mt l w 0 41 yX2_lostByAll cX2_lostByAll 7 (some .int) 3 69 [.ref (w.2.1 16 0), .int v1, .int v2] σ (gE (some (.int r.1)) r.2) := by
  unfold f_X2_lostByAll at h
  refine g_start pn_X2 rfl rfl (Nat.le_of_ble_eq_true rfl) ?_
  show G l w 0 41 RX2 cX2_lostByAll 7 (some .int) 3 69 (gE (some (.int r.1)) r.2) 0 [some (.ref (w.2.1 16 0)), some (.int v1), some (.int v2), none, none, none, none] [] σ
  refine g_aload_n dX2_lostByAll_0 rfl ?_
  refine g_iload_n dX2_lostByAll_1 rfl ?_
  refine g_iload_n dX2_lostByAll_2 rfl ?_
  obtain ⟨p3, e3, h⟩ := obind h
  refine g_vP2 mv_X2_67 dX2_lostByAll_3 ok_16 ⟨by decide, by decide⟩ (Nat.le_of_ble_eq_true rfl) (f_X2_bestTime_ok e3) ?_
  refine g_istore3 dX2_lostByAll_6 ?_
  refine g_iload_n dX2_lostByAll_7 rfl ?_
  refine g_iconst dX2_lostByAll_8 kc_m1 ?_
  refine g_icmp_ne 16 dX2_lostByAll_9 rfl (fun q => ?_) (fun q => ?_)
  · replace h := gif_f q h
    refine g_iconst dX2_lostByAll_16 kc_0 ?_
    refine g_istore4 dX2_lostByAll_17 ?_
    refine g_iconst dX2_lostByAll_19 kc_0 ?_
    refine g_istore5 dX2_lostByAll_20 ?_
    exact f_X2_lostByAll_22_ok gFuel h
  · replace h := gif_t q h
    refine g_iconst dX2_lostByAll_12 kc_m1 ?_
    refine g_goto 17 dX2_lostByAll_13 rfl ?_
    refine g_istore4 dX2_lostByAll_17 ?_
    refine g_iconst dX2_lostByAll_19 kc_0 ?_
    refine g_istore5 dX2_lostByAll_20 ?_
    exact f_X2_lostByAll_22_ok gFuel h
theorem dX2_hardestLeg_0 : decode cX2_hardestLeg 0 = .ok (.iconst (-1), 1) := by decide +kernel
theorem dX2_hardestLeg_1 : decode cX2_hardestLeg 1 = .ok (.istore_n 2, 1) := by decide +kernel
theorem dX2_hardestLeg_2 : decode cX2_hardestLeg 2 = .ok (.iconst (-1), 1) := by decide +kernel
theorem dX2_hardestLeg_3 : decode cX2_hardestLeg 3 = .ok (.istore_n 3, 1) := by decide +kernel
theorem dX2_hardestLeg_4 : decode cX2_hardestLeg 4 = .ok (.iconst 0, 1) := by decide +kernel
theorem dX2_hardestLeg_5 : decode cX2_hardestLeg 5 = .ok (.istore 4, 2) := by decide +kernel
theorem dX2_hardestLeg_7 : decode cX2_hardestLeg 7 = .ok (.iload 4, 2) := by decide +kernel
theorem dX2_hardestLeg_9 : decode cX2_hardestLeg 9 = .ok (.aload_n 0, 1) := by decide +kernel
theorem dX2_hardestLeg_10 : decode cX2_hardestLeg 10 = .ok (.getfield 9, 3) := by decide +kernel
theorem dX2_hardestLeg_13 : decode cX2_hardestLeg 13 = .ok (.iload_n 1, 1) := by decide +kernel
theorem dX2_hardestLeg_14 : decode cX2_hardestLeg 14 = .ok (.invokevirtual 52, 3) := by decide +kernel
theorem dX2_hardestLeg_17 : decode cX2_hardestLeg 17 = .ok (.getfield 56, 3) := by decide +kernel
theorem dX2_hardestLeg_20 : decode cX2_hardestLeg 20 = .ok (.if_icmp .gt 30, 3) := by decide +kernel
theorem dX2_hardestLeg_23 : decode cX2_hardestLeg 23 = .ok (.aload_n 0, 1) := by decide +kernel
theorem dX2_hardestLeg_24 : decode cX2_hardestLeg 24 = .ok (.iload_n 1, 1) := by decide +kernel
theorem dX2_hardestLeg_25 : decode cX2_hardestLeg 25 = .ok (.iload 4, 2) := by decide +kernel
theorem dX2_hardestLeg_27 : decode cX2_hardestLeg 27 = .ok (.invokevirtual 80, 3) := by decide +kernel
theorem dX2_hardestLeg_30 : decode cX2_hardestLeg 30 = .ok (.istore 5, 2) := by decide +kernel
theorem dX2_hardestLeg_32 : decode cX2_hardestLeg 32 = .ok (.iload 5, 2) := by decide +kernel
theorem dX2_hardestLeg_34 : decode cX2_hardestLeg 34 = .ok (.iload_n 3, 1) := by decide +kernel
theorem dX2_hardestLeg_35 : decode cX2_hardestLeg 35 = .ok (.if_icmp .le 9, 3) := by decide +kernel
theorem dX2_hardestLeg_38 : decode cX2_hardestLeg 38 = .ok (.iload 4, 2) := by decide +kernel
theorem dX2_hardestLeg_40 : decode cX2_hardestLeg 40 = .ok (.istore_n 2, 1) := by decide +kernel
theorem dX2_hardestLeg_41 : decode cX2_hardestLeg 41 = .ok (.iload 5, 2) := by decide +kernel
theorem dX2_hardestLeg_43 : decode cX2_hardestLeg 43 = .ok (.istore_n 3, 1) := by decide +kernel
theorem dX2_hardestLeg_44 : decode cX2_hardestLeg 44 = .ok (.iinc 4 1, 3) := by decide +kernel
theorem dX2_hardestLeg_47 : decode cX2_hardestLeg 47 = .ok (.goto (-40), 3) := by decide +kernel
theorem dX2_hardestLeg_50 : decode cX2_hardestLeg 50 = .ok (.iload_n 2, 1) := by decide +kernel
theorem dX2_hardestLeg_51 : decode cX2_hardestLeg 51 = .ok (.ireturn, 1) := by decide +kernel
def f_X2_hardestLeg_7 (v1 : Int32) : Nat → Int32 → Int32 → Int32 → gSt → Option (Int32 × gSt)
  | 0, _, _, _, _ => none
  | n + 1, v2, v3, v4, σ =>
    (f_X4_courseAt 1 v1 σ).bind fun p14 =>
    if (p14.2 8 p14.1 2) < v4 then
      some (v2, p14.2)
    else
      (f_X2_lostByAll v1 v4 p14.2).bind fun p27 =>
      if p27.1 ≤ v3 then
        f_X2_hardestLeg_7 v1 n v2 v3 (v4 + 1) p27.2
      else
        f_X2_hardestLeg_7 v1 n v4 p27.1 (v4 + 1) p27.2
def f_X2_hardestLeg (v1 : Int32) (σ : gSt) : Option (Int32 × gSt) :=
  f_X2_hardestLeg_7 v1 gFuel (-1) (-1) 0 σ
theorem f_X2_hardestLeg_7_ok {v1 : Int32} {r : (Int32 × gSt)}  : ∀ (n : Nat) {v2 : Int32} {v3 : Int32} {v4 : Int32} {σ : gSt} {x5 : Option Value}, f_X2_hardestLeg_7 v1 n v2 v3 v4 σ = some r → G l w 0 41 RX2 cX2_hardestLeg 6 (some .int) 4 95 (gE (some (.int r.1)) r.2) 7 [some (.ref (w.2.1 16 0)), some (.int v1), some (.int v2), some (.int v3), some (.int v4), x5] [] σ := by
  intro n
  induction n with
  | zero => intro v2 v3 v4 σ x5 h; rw [f_X2_hardestLeg_7] at h; cases h
  | succ n ih =>
    intro v2 v3 v4 σ x5 h
    rw [f_X2_hardestLeg_7] at h
    refine g_iload dX2_hardestLeg_7 rfl ?_
    refine g_aload_n dX2_hardestLeg_9 rfl ?_
    refine gR_X2_9 ok_16 dX2_hardestLeg_10 ?_
    refine g_iload_n dX2_hardestLeg_13 rfl ?_
    obtain ⟨p14, e14, h⟩ := obind h
    refine g_vR1 mv_X2_52 dX2_hardestLeg_14 (ok_3 (by decide)) ⟨by decide, by decide⟩ (Nat.le_of_ble_eq_true rfl) (f_X4_courseAt_ok (by decide) e14) (fun b14 => ?_)
    refine gI_X2_56 (ok_8 b14) dX2_hardestLeg_17 ?_
    refine g_icmp_gt 50 dX2_hardestLeg_20 rfl (fun q => ?_) (fun q => ?_)
    · replace h := gif_t q h
      refine g_iload_n dX2_hardestLeg_50 rfl ?_
      cases h
      exact g_iret dX2_hardestLeg_51 rfl ⟨rfl, rfl⟩
    · replace h := gif_f q h
      refine g_aload_n dX2_hardestLeg_23 rfl ?_
      refine g_iload_n dX2_hardestLeg_24 rfl ?_
      refine g_iload dX2_hardestLeg_25 rfl ?_
      obtain ⟨p27, e27, h⟩ := obind h
      refine g_vP2 mv_X2_80 dX2_hardestLeg_27 ok_16 ⟨by decide, by decide⟩ (Nat.le_of_ble_eq_true rfl) (f_X2_lostByAll_ok e27) ?_
      refine g_istore5 dX2_hardestLeg_30 ?_
      refine g_iload dX2_hardestLeg_32 rfl ?_
      refine g_iload_n dX2_hardestLeg_34 rfl ?_
      refine g_icmp_le 44 dX2_hardestLeg_35 rfl (fun q => ?_) (fun q => ?_)
      · replace h := gif_t q h
        refine g_inc4 kc_1 dX2_hardestLeg_44 ?_
        refine g_goto 7 dX2_hardestLeg_47 rfl ?_
        exact ih h
      · replace h := gif_f q h
        refine g_iload dX2_hardestLeg_38 rfl ?_
        refine g_istore2 dX2_hardestLeg_40 ?_
        refine g_iload dX2_hardestLeg_41 rfl ?_
        refine g_istore3 dX2_hardestLeg_43 ?_
        refine g_inc4 kc_1 dX2_hardestLeg_44 ?_
        refine g_goto 7 dX2_hardestLeg_47 rfl ?_
        exact ih h
theorem f_X2_hardestLeg_ok {v1 : Int32}  {σ : gSt} {r : (Int32 × gSt)} (h : f_X2_hardestLeg v1 σ = some r) : Mt l w 0 41 yX2_hardestLeg cX2_hardestLeg 6 (some .int) 4 95 [.ref (w.2.1 16 0), .int v1] σ (gE (some (.int r.1)) r.2) := by
  unfold f_X2_hardestLeg at h
  refine g_start pn_X2 rfl rfl (Nat.le_of_ble_eq_true rfl) ?_
  show G l w 0 41 RX2 cX2_hardestLeg 6 (some .int) 4 95 (gE (some (.int r.1)) r.2) 0 [some (.ref (w.2.1 16 0)), some (.int v1), none, none, none, none] [] σ
  refine g_iconst dX2_hardestLeg_0 kc_m1 ?_
  refine g_istore2 dX2_hardestLeg_1 ?_
  refine g_iconst dX2_hardestLeg_2 kc_m1 ?_
  refine g_istore3 dX2_hardestLeg_3 ?_
  refine g_iconst dX2_hardestLeg_4 kc_0 ?_
  refine g_istore4 dX2_hardestLeg_5 ?_
  exact f_X2_hardestLeg_7_ok gFuel h
theorem dX9_totalWithout_0 : decode cX9_totalWithout 0 = .ok (.aload_n 0, 1) := by decide +kernel
theorem dX9_totalWithout_1 : decode cX9_totalWithout 1 = .ok (.invokevirtual 78, 3) := by decide +kernel
theorem dX9_totalWithout_4 : decode cX9_totalWithout 4 = .ok (.aload_n 0, 1) := by decide +kernel
theorem dX9_totalWithout_5 : decode cX9_totalWithout 5 = .ok (.iload_n 1, 1) := by decide +kernel
theorem dX9_totalWithout_6 : decode cX9_totalWithout 6 = .ok (.invokevirtual 82, 3) := by decide +kernel
theorem dX9_totalWithout_9 : decode cX9_totalWithout 9 = .ok (.isub, 1) := by decide +kernel
theorem dX9_totalWithout_10 : decode cX9_totalWithout 10 = .ok (.ireturn, 1) := by decide +kernel
def f_X9_totalWithout (i0 : Nat) (v1 : Int32) (σ : gSt) : Option (Int32 × gSt) :=
  (f_X9_total i0 σ).bind fun p1 =>
  (f_X9_legTime i0 v1 p1.2).bind fun p6 =>
  some ((p1.1 - p6.1), p6.2)
theorem f_X9_totalWithout_ok {i0 : Nat} {v1 : Int32} (hi0 : i0 < 20) {σ : gSt} {r : (Int32 × gSt)} (h : f_X9_totalWithout i0 v1 σ = some r) : Mt l w 0 41 yX9_totalWithout cX9_totalWithout 2 (some .int) 2 44 [.ref (w.2.1 10 i0), .int v1] σ (gE (some (.int r.1)) r.2) := by
  unfold f_X9_totalWithout at h
  refine g_start pn_X9 rfl rfl (Nat.le_of_ble_eq_true rfl) ?_
  show G l w 0 41 RX9 cX9_totalWithout 2 (some .int) 2 44 (gE (some (.int r.1)) r.2) 0 [some (.ref (w.2.1 10 i0)), some (.int v1)] [] σ
  refine g_aload_n dX9_totalWithout_0 rfl ?_
  obtain ⟨p1, e1, h⟩ := obind h
  refine g_vP0 mv_X9_78 dX9_totalWithout_1 (ok_10 hi0) ⟨by decide, by decide⟩ (Nat.le_of_ble_eq_true rfl) (f_X9_total_ok hi0 e1) ?_
  refine g_aload_n dX9_totalWithout_4 rfl ?_
  refine g_iload_n dX9_totalWithout_5 rfl ?_
  obtain ⟨p6, e6, h⟩ := obind h
  refine g_vP1 mv_X9_82 dX9_totalWithout_6 (ok_10 hi0) ⟨by decide, by decide⟩ (Nat.le_of_ble_eq_true rfl) (f_X9_legTime_ok hi0 e6) ?_
  refine g_isub dX9_totalWithout_9 ?_
  cases h
  exact g_iret dX9_totalWithout_10 rfl ⟨rfl, rfl⟩
theorem dX2_firstWithout_0 : decode cX2_firstWithout 0 = .ok (.iconst (-1), 1) := by decide +kernel
theorem dX2_firstWithout_1 : decode cX2_firstWithout 1 = .ok (.istore_n 3, 1) := by decide +kernel
theorem dX2_firstWithout_2 : decode cX2_firstWithout 2 = .ok (.iconst (-1), 1) := by decide +kernel
theorem dX2_firstWithout_3 : decode cX2_firstWithout 3 = .ok (.istore 4, 2) := by decide +kernel
theorem dX2_firstWithout_5 : decode cX2_firstWithout 5 = .ok (.iconst 0, 1) := by decide +kernel
theorem dX2_firstWithout_6 : decode cX2_firstWithout 6 = .ok (.istore 5, 2) := by decide +kernel
theorem dX2_firstWithout_8 : decode cX2_firstWithout 8 = .ok (.iload 5, 2) := by decide +kernel
theorem dX2_firstWithout_10 : decode cX2_firstWithout 10 = .ok (.aload_n 0, 1) := by decide +kernel
theorem dX2_firstWithout_11 : decode cX2_firstWithout 11 = .ok (.getfield 9, 3) := by decide +kernel
theorem dX2_firstWithout_14 : decode cX2_firstWithout 14 = .ok (.getfield 15, 3) := by decide +kernel
theorem dX2_firstWithout_17 : decode cX2_firstWithout 17 = .ok (.if_icmp .ge 56, 3) := by decide +kernel
theorem dX2_firstWithout_20 : decode cX2_firstWithout 20 = .ok (.aload_n 0, 1) := by decide +kernel
theorem dX2_firstWithout_21 : decode cX2_firstWithout 21 = .ok (.getfield 9, 3) := by decide +kernel
theorem dX2_firstWithout_24 : decode cX2_firstWithout 24 = .ok (.iload 5, 2) := by decide +kernel
theorem dX2_firstWithout_26 : decode cX2_firstWithout 26 = .ok (.invokevirtual 30, 3) := by decide +kernel
theorem dX2_firstWithout_29 : decode cX2_firstWithout 29 = .ok (.iload_n 2, 1) := by decide +kernel
theorem dX2_firstWithout_30 : decode cX2_firstWithout 30 = .ok (.invokevirtual 83, 3) := by decide +kernel
theorem dX2_firstWithout_33 : decode cX2_firstWithout 33 = .ok (.istore 6, 2) := by decide +kernel
theorem dX2_firstWithout_35 : decode cX2_firstWithout 35 = .ok (.aload_n 0, 1) := by decide +kernel
theorem dX2_firstWithout_36 : decode cX2_firstWithout 36 = .ok (.getfield 9, 3) := by decide +kernel
theorem dX2_firstWithout_39 : decode cX2_firstWithout 39 = .ok (.iload 5, 2) := by decide +kernel
theorem dX2_firstWithout_41 : decode cX2_firstWithout 41 = .ok (.iload_n 1, 1) := by decide +kernel
theorem dX2_firstWithout_42 : decode cX2_firstWithout 42 = .ok (.invokevirtual 26, 3) := by decide +kernel
theorem dX2_firstWithout_45 : decode cX2_firstWithout 45 = .ok (.ifCond .eq 22, 3) := by decide +kernel
theorem dX2_firstWithout_48 : decode cX2_firstWithout 48 = .ok (.iload_n 3, 1) := by decide +kernel
theorem dX2_firstWithout_49 : decode cX2_firstWithout 49 = .ok (.iconst (-1), 1) := by decide +kernel
theorem dX2_firstWithout_50 : decode cX2_firstWithout 50 = .ok (.if_icmp .eq 10, 3) := by decide +kernel
theorem dX2_firstWithout_53 : decode cX2_firstWithout 53 = .ok (.iload 6, 2) := by decide +kernel
theorem dX2_firstWithout_55 : decode cX2_firstWithout 55 = .ok (.iload 4, 2) := by decide +kernel
theorem dX2_firstWithout_57 : decode cX2_firstWithout 57 = .ok (.if_icmp .ge 10, 3) := by decide +kernel
theorem dX2_firstWithout_60 : decode cX2_firstWithout 60 = .ok (.iload 5, 2) := by decide +kernel
theorem dX2_firstWithout_62 : decode cX2_firstWithout 62 = .ok (.istore_n 3, 1) := by decide +kernel
theorem dX2_firstWithout_63 : decode cX2_firstWithout 63 = .ok (.iload 6, 2) := by decide +kernel
theorem dX2_firstWithout_65 : decode cX2_firstWithout 65 = .ok (.istore 4, 2) := by decide +kernel
theorem dX2_firstWithout_67 : decode cX2_firstWithout 67 = .ok (.iinc 5 1, 3) := by decide +kernel
theorem dX2_firstWithout_70 : decode cX2_firstWithout 70 = .ok (.goto (-62), 3) := by decide +kernel
theorem dX2_firstWithout_73 : decode cX2_firstWithout 73 = .ok (.iload_n 3, 1) := by decide +kernel
theorem dX2_firstWithout_74 : decode cX2_firstWithout 74 = .ok (.ireturn, 1) := by decide +kernel
def f_X2_firstWithout_8 (v1 : Int32) (v2 : Int32) : Nat → Int32 → Int32 → Int32 → gSt → Option (Int32 × gSt)
  | 0, _, _, _, _ => none
  | n + 1, v3, v4, v5, σ =>
    if (σ 3 1 4) ≤ v5 then
      some (v3, σ)
    else
      (f_X4_runnerAt 1 v5 σ).bind fun p26 =>
      (f_X9_totalWithout p26.1 v2 p26.2).bind fun p30 =>
      (f_X4_isValidOf 1 v5 v1 p30.2).bind fun p42 =>
      if p42.1 = 0 then
        f_X2_firstWithout_8 v1 v2 n v3 v4 (v5 + 1) p42.2
      else
        if v3 = (-1) then
          f_X2_firstWithout_8 v1 v2 n v5 p30.1 (v5 + 1) p42.2
        else
          if v4 ≤ p30.1 then
            f_X2_firstWithout_8 v1 v2 n v3 v4 (v5 + 1) p42.2
          else
            f_X2_firstWithout_8 v1 v2 n v5 p30.1 (v5 + 1) p42.2
def f_X2_firstWithout (v1 : Int32) (v2 : Int32) (σ : gSt) : Option (Int32 × gSt) :=
  f_X2_firstWithout_8 v1 v2 gFuel (-1) (-1) 0 σ
theorem f_X2_firstWithout_8_ok {v1 : Int32} {v2 : Int32} {r : (Int32 × gSt)}  : ∀ (n : Nat) {v3 : Int32} {v4 : Int32} {v5 : Int32} {σ : gSt} {x6 : Option Value}, f_X2_firstWithout_8 v1 v2 n v3 v4 v5 σ = some r → G l w 0 41 RX2 cX2_firstWithout 7 (some .int) 3 65 (gE (some (.int r.1)) r.2) 8 [some (.ref (w.2.1 16 0)), some (.int v1), some (.int v2), some (.int v3), some (.int v4), some (.int v5), x6] [] σ := by
  intro n
  induction n with
  | zero => intro v3 v4 v5 σ x6 h; rw [f_X2_firstWithout_8] at h; cases h
  | succ n ih =>
    intro v3 v4 v5 σ x6 h
    rw [f_X2_firstWithout_8] at h
    refine g_iload dX2_firstWithout_8 rfl ?_
    refine g_aload_n dX2_firstWithout_10 rfl ?_
    refine gR_X2_9 ok_16 dX2_firstWithout_11 ?_
    refine gI_X2_15 (ok_3 (by decide)) dX2_firstWithout_14 ?_
    refine g_icmp_ge 73 dX2_firstWithout_17 rfl (fun q => ?_) (fun q => ?_)
    · replace h := gif_t q h
      refine g_iload_n dX2_firstWithout_73 rfl ?_
      cases h
      exact g_iret dX2_firstWithout_74 rfl ⟨rfl, rfl⟩
    · replace h := gif_f q h
      refine g_aload_n dX2_firstWithout_20 rfl ?_
      refine gR_X2_9 ok_16 dX2_firstWithout_21 ?_
      refine g_iload dX2_firstWithout_24 rfl ?_
      obtain ⟨p26, e26, h⟩ := obind h
      refine g_vR1 mv_X2_30 dX2_firstWithout_26 (ok_3 (by decide)) ⟨by decide, by decide⟩ (Nat.le_of_ble_eq_true rfl) (f_X4_runnerAt_ok (by decide) e26) (fun b26 => ?_)
      refine g_iload_n dX2_firstWithout_29 rfl ?_
      obtain ⟨p30, e30, h⟩ := obind h
      refine g_vP1 mv_X2_83 dX2_firstWithout_30 (ok_10 b26) ⟨by decide, by decide⟩ (Nat.le_of_ble_eq_true rfl) (f_X9_totalWithout_ok b26 e30) ?_
      refine g_istore6 dX2_firstWithout_33 ?_
      refine g_aload_n dX2_firstWithout_35 rfl ?_
      refine gR_X2_9 ok_16 dX2_firstWithout_36 ?_
      refine g_iload dX2_firstWithout_39 rfl ?_
      refine g_iload_n dX2_firstWithout_41 rfl ?_
      obtain ⟨p42, e42, h⟩ := obind h
      refine g_vP2 mv_X2_26 dX2_firstWithout_42 (ok_3 (by decide)) ⟨by decide, by decide⟩ (Nat.le_of_ble_eq_true rfl) (f_X4_isValidOf_ok (by decide) e42) ?_
      refine g_if_eq 67 dX2_firstWithout_45 rfl (fun q => ?_) (fun q => ?_)
      · replace h := gif_t q h
        refine g_inc5 kc_1 dX2_firstWithout_67 ?_
        refine g_goto 8 dX2_firstWithout_70 rfl ?_
        exact ih h
      · replace h := gif_f q h
        refine g_iload_n dX2_firstWithout_48 rfl ?_
        refine g_iconst dX2_firstWithout_49 kc_m1 ?_
        refine g_icmp_eq 60 dX2_firstWithout_50 rfl (fun q => ?_) (fun q => ?_)
        · replace h := gif_t q h
          refine g_iload dX2_firstWithout_60 rfl ?_
          refine g_istore3 dX2_firstWithout_62 ?_
          refine g_iload dX2_firstWithout_63 rfl ?_
          refine g_istore4 dX2_firstWithout_65 ?_
          refine g_inc5 kc_1 dX2_firstWithout_67 ?_
          refine g_goto 8 dX2_firstWithout_70 rfl ?_
          exact ih h
        · replace h := gif_f q h
          refine g_iload dX2_firstWithout_53 rfl ?_
          refine g_iload dX2_firstWithout_55 rfl ?_
          refine g_icmp_ge 67 dX2_firstWithout_57 rfl (fun q => ?_) (fun q => ?_)
          · replace h := gif_t q h
            refine g_inc5 kc_1 dX2_firstWithout_67 ?_
            refine g_goto 8 dX2_firstWithout_70 rfl ?_
            exact ih h
          · replace h := gif_f q h
            refine g_iload dX2_firstWithout_60 rfl ?_
            refine g_istore3 dX2_firstWithout_62 ?_
            refine g_iload dX2_firstWithout_63 rfl ?_
            refine g_istore4 dX2_firstWithout_65 ?_
            refine g_inc5 kc_1 dX2_firstWithout_67 ?_
            refine g_goto 8 dX2_firstWithout_70 rfl ?_
            exact ih h
theorem f_X2_firstWithout_ok {v1 : Int32} {v2 : Int32}  {σ : gSt} {r : (Int32 × gSt)} (h : f_X2_firstWithout v1 v2 σ = some r) : Mt l w 0 41 yX2_firstWithout cX2_firstWithout 7 (some .int) 3 65 [.ref (w.2.1 16 0), .int v1, .int v2] σ (gE (some (.int r.1)) r.2) := by
  unfold f_X2_firstWithout at h
  refine g_start pn_X2 rfl rfl (Nat.le_of_ble_eq_true rfl) ?_
  show G l w 0 41 RX2 cX2_firstWithout 7 (some .int) 3 65 (gE (some (.int r.1)) r.2) 0 [some (.ref (w.2.1 16 0)), some (.int v1), some (.int v2), none, none, none, none] [] σ
  refine g_iconst dX2_firstWithout_0 kc_m1 ?_
  refine g_istore3 dX2_firstWithout_1 ?_
  refine g_iconst dX2_firstWithout_2 kc_m1 ?_
  refine g_istore4 dX2_firstWithout_3 ?_
  refine g_iconst dX2_firstWithout_5 kc_0 ?_
  refine g_istore5 dX2_firstWithout_6 ?_
  exact f_X2_firstWithout_8_ok gFuel h
theorem dX2_timeOver_0 : decode cX2_timeOver 0 = .ok (.aload_n 0, 1) := by decide +kernel
theorem dX2_timeOver_1 : decode cX2_timeOver 1 = .ok (.getfield 9, 3) := by decide +kernel
theorem dX2_timeOver_4 : decode cX2_timeOver 4 = .ok (.aload_n 1, 1) := by decide +kernel
theorem dX2_timeOver_5 : decode cX2_timeOver 5 = .ok (.getfield 21, 3) := by decide +kernel
theorem dX2_timeOver_8 : decode cX2_timeOver 8 = .ok (.invokevirtual 52, 3) := by decide +kernel
theorem dX2_timeOver_11 : decode cX2_timeOver 11 = .ok (.astore 4, 2) := by decide +kernel
theorem dX2_timeOver_13 : decode cX2_timeOver 13 = .ok (.iconst (-1), 1) := by decide +kernel
theorem dX2_timeOver_14 : decode cX2_timeOver 14 = .ok (.istore 5, 2) := by decide +kernel
theorem dX2_timeOver_16 : decode cX2_timeOver 16 = .ok (.iconst 1, 1) := by decide +kernel
theorem dX2_timeOver_17 : decode cX2_timeOver 17 = .ok (.istore 6, 2) := by decide +kernel
theorem dX2_timeOver_19 : decode cX2_timeOver 19 = .ok (.iload 6, 2) := by decide +kernel
theorem dX2_timeOver_21 : decode cX2_timeOver 21 = .ok (.aload 4, 2) := by decide +kernel
theorem dX2_timeOver_23 : decode cX2_timeOver 23 = .ok (.getfield 56, 3) := by decide +kernel
theorem dX2_timeOver_26 : decode cX2_timeOver 26 = .ok (.if_icmp .ge 68, 3) := by decide +kernel
theorem dX2_timeOver_29 : decode cX2_timeOver 29 = .ok (.aload 4, 2) := by decide +kernel
theorem dX2_timeOver_31 : decode cX2_timeOver 31 = .ok (.iload 6, 2) := by decide +kernel
theorem dX2_timeOver_33 : decode cX2_timeOver 33 = .ok (.iconst 1, 1) := by decide +kernel
theorem dX2_timeOver_34 : decode cX2_timeOver 34 = .ok (.isub, 1) := by decide +kernel
theorem dX2_timeOver_35 : decode cX2_timeOver 35 = .ok (.iload_n 2, 1) := by decide +kernel
theorem dX2_timeOver_36 : decode cX2_timeOver 36 = .ok (.invokevirtual 90, 3) := by decide +kernel
theorem dX2_timeOver_39 : decode cX2_timeOver 39 = .ok (.ifCond .eq 23, 3) := by decide +kernel
theorem dX2_timeOver_42 : decode cX2_timeOver 42 = .ok (.aload 4, 2) := by decide +kernel
theorem dX2_timeOver_44 : decode cX2_timeOver 44 = .ok (.iload 6, 2) := by decide +kernel
theorem dX2_timeOver_46 : decode cX2_timeOver 46 = .ok (.iload_n 3, 1) := by decide +kernel
theorem dX2_timeOver_47 : decode cX2_timeOver 47 = .ok (.invokevirtual 90, 3) := by decide +kernel
theorem dX2_timeOver_50 : decode cX2_timeOver 50 = .ok (.ifCond .eq 12, 3) := by decide +kernel
theorem dX2_timeOver_53 : decode cX2_timeOver 53 = .ok (.aload_n 1, 1) := by decide +kernel
theorem dX2_timeOver_54 : decode cX2_timeOver 54 = .ok (.iload 6, 2) := by decide +kernel
theorem dX2_timeOver_56 : decode cX2_timeOver 56 = .ok (.invokevirtual 45, 3) := by decide +kernel
theorem dX2_timeOver_59 : decode cX2_timeOver 59 = .ok (.goto 4, 3) := by decide +kernel
theorem dX2_timeOver_62 : decode cX2_timeOver 62 = .ok (.iconst (-1), 1) := by decide +kernel
theorem dX2_timeOver_63 : decode cX2_timeOver 63 = .ok (.istore 7, 2) := by decide +kernel
theorem dX2_timeOver_65 : decode cX2_timeOver 65 = .ok (.iload 7, 2) := by decide +kernel
theorem dX2_timeOver_67 : decode cX2_timeOver 67 = .ok (.iconst (-1), 1) := by decide +kernel
theorem dX2_timeOver_68 : decode cX2_timeOver 68 = .ok (.if_icmp .eq 20, 3) := by decide +kernel
theorem dX2_timeOver_71 : decode cX2_timeOver 71 = .ok (.iload 5, 2) := by decide +kernel
theorem dX2_timeOver_73 : decode cX2_timeOver 73 = .ok (.iconst (-1), 1) := by decide +kernel
theorem dX2_timeOver_74 : decode cX2_timeOver 74 = .ok (.if_icmp .eq 10, 3) := by decide +kernel
theorem dX2_timeOver_77 : decode cX2_timeOver 77 = .ok (.iload 7, 2) := by decide +kernel
theorem dX2_timeOver_79 : decode cX2_timeOver 79 = .ok (.iload 5, 2) := by decide +kernel
theorem dX2_timeOver_81 : decode cX2_timeOver 81 = .ok (.if_icmp .ge 7, 3) := by decide +kernel
theorem dX2_timeOver_84 : decode cX2_timeOver 84 = .ok (.iload 7, 2) := by decide +kernel
theorem dX2_timeOver_86 : decode cX2_timeOver 86 = .ok (.istore 5, 2) := by decide +kernel
theorem dX2_timeOver_88 : decode cX2_timeOver 88 = .ok (.iinc 6 1, 3) := by decide +kernel
theorem dX2_timeOver_91 : decode cX2_timeOver 91 = .ok (.goto (-72), 3) := by decide +kernel
theorem dX2_timeOver_94 : decode cX2_timeOver 94 = .ok (.iload 5, 2) := by decide +kernel
theorem dX2_timeOver_96 : decode cX2_timeOver 96 = .ok (.ireturn, 1) := by decide +kernel
def f_X2_timeOver_63 (i1 : Nat) (v2 : Int32) (v3 : Int32) (i4 : Nat) (v5 : Int32) (v6 : Int32) (k19 : Int32 → Int32 → gSt → Option (Int32 × gSt)) (vs0 : Int32) (σ : gSt) : Option (Int32 × gSt) :=
  if vs0 = (-1) then
    k19 v5 (v6 + 1) σ
  else
    if v5 = (-1) then
      k19 vs0 (v6 + 1) σ
    else
      if v5 ≤ vs0 then
        k19 v5 (v6 + 1) σ
      else
        k19 vs0 (v6 + 1) σ
def f_X2_timeOver_62 (i1 : Nat) (v2 : Int32) (v3 : Int32) (i4 : Nat) (v5 : Int32) (v6 : Int32) (k19 : Int32 → Int32 → gSt → Option (Int32 × gSt)) (σ : gSt) : Option (Int32 × gSt) :=
  f_X2_timeOver_63 i1 v2 v3 i4 v5 v6 k19 (-1) σ
def f_X2_timeOver_19 (i1 : Nat) (v2 : Int32) (v3 : Int32) (i4 : Nat) : Nat → Int32 → Int32 → gSt → Option (Int32 × gSt)
  | 0, _, _, _ => none
  | n + 1, v5, v6, σ =>
    if (σ 8 i4 2) ≤ v6 then
      some (v5, σ)
    else
      (f_X1_isCode i4 (v6 - 1) v2 σ).bind fun p36 =>
      if p36.1 = 0 then
        f_X2_timeOver_62 i1 v2 v3 i4 v5 v6 (fun v5 v6 σ => f_X2_timeOver_19 i1 v2 v3 i4 n v5 v6 σ) p36.2
      else
        (f_X1_isCode i4 v6 v3 p36.2).bind fun p47 =>
        if p47.1 = 0 then
          f_X2_timeOver_62 i1 v2 v3 i4 v5 v6 (fun v5 v6 σ => f_X2_timeOver_19 i1 v2 v3 i4 n v5 v6 σ) p47.2
        else
          (f_X9_legTime i1 v6 p47.2).bind fun p56 =>
          f_X2_timeOver_63 i1 v2 v3 i4 v5 v6 (fun v5 v6 σ => f_X2_timeOver_19 i1 v2 v3 i4 n v5 v6 σ) p56.1 p56.2
def f_X2_timeOver (i1 : Nat) (v2 : Int32) (v3 : Int32) (σ : gSt) : Option (Int32 × gSt) :=
  (f_X4_courseAt 1 (σ 10 i1 5) σ).bind fun p8 =>
  f_X2_timeOver_19 i1 v2 v3 p8.1 gFuel (-1) 1 p8.2
theorem f_X2_timeOver_63_ok {i1 : Nat} {v2 : Int32} {v3 : Int32} {i4 : Nat} {v5 : Int32} {v6 : Int32} {k19 : Int32 → Int32 → gSt → Option (Int32 × gSt)} {vs0 : Int32} {r : (Int32 × gSt)} (hi1 : i1 < 20) (hi4 : i4 < 6) (hk19 : ∀ {v5 : Int32} {v6 : Int32} {σ : gSt} {x0 x7 : Option Value}, k19 v5 v6 σ = some r → G l w 0 41 RX2 cX2_timeOver 8 (some .int) 2 44 (gE (some (.int r.1)) r.2) 19 [x0, some (.ref (w.2.1 10 i1)), some (.int v2), some (.int v3), some (.ref (w.2.1 8 i4)), some (.int v5), some (.int v6), x7] [] σ) {σ : gSt} {x0 x7 : Option Value} (h : f_X2_timeOver_63 i1 v2 v3 i4 v5 v6 k19 vs0 σ = some r) : G l w 0 41 RX2 cX2_timeOver 8 (some .int) 2 44 (gE (some (.int r.1)) r.2) 63 [x0, some (.ref (w.2.1 10 i1)), some (.int v2), some (.int v3), some (.ref (w.2.1 8 i4)), some (.int v5), some (.int v6), x7] [.int vs0] σ := by
  unfold f_X2_timeOver_63 at h
  refine g_istore7 dX2_timeOver_63 ?_
  refine g_iload dX2_timeOver_65 rfl ?_
  refine g_iconst dX2_timeOver_67 kc_m1 ?_
  refine g_icmp_eq 88 dX2_timeOver_68 rfl (fun q => ?_) (fun q => ?_)
  · replace h := gif_t q h
    refine g_inc6 kc_1 dX2_timeOver_88 ?_
    refine g_goto 19 dX2_timeOver_91 rfl ?_
    exact hk19 h
  · replace h := gif_f q h
    refine g_iload dX2_timeOver_71 rfl ?_
    refine g_iconst dX2_timeOver_73 kc_m1 ?_
    refine g_icmp_eq 84 dX2_timeOver_74 rfl (fun q => ?_) (fun q => ?_)
    · replace h := gif_t q h
      refine g_iload dX2_timeOver_84 rfl ?_
      refine g_istore5 dX2_timeOver_86 ?_
      refine g_inc6 kc_1 dX2_timeOver_88 ?_
      refine g_goto 19 dX2_timeOver_91 rfl ?_
      exact hk19 h
    · replace h := gif_f q h
      refine g_iload dX2_timeOver_77 rfl ?_
      refine g_iload dX2_timeOver_79 rfl ?_
      refine g_icmp_ge 88 dX2_timeOver_81 rfl (fun q => ?_) (fun q => ?_)
      · replace h := gif_t q h
        refine g_inc6 kc_1 dX2_timeOver_88 ?_
        refine g_goto 19 dX2_timeOver_91 rfl ?_
        exact hk19 h
      · replace h := gif_f q h
        refine g_iload dX2_timeOver_84 rfl ?_
        refine g_istore5 dX2_timeOver_86 ?_
        refine g_inc6 kc_1 dX2_timeOver_88 ?_
        refine g_goto 19 dX2_timeOver_91 rfl ?_
        exact hk19 h
theorem f_X2_timeOver_62_ok {i1 : Nat} {v2 : Int32} {v3 : Int32} {i4 : Nat} {v5 : Int32} {v6 : Int32} {k19 : Int32 → Int32 → gSt → Option (Int32 × gSt)} {r : (Int32 × gSt)} (hi1 : i1 < 20) (hi4 : i4 < 6) (hk19 : ∀ {v5 : Int32} {v6 : Int32} {σ : gSt} {x0 x7 : Option Value}, k19 v5 v6 σ = some r → G l w 0 41 RX2 cX2_timeOver 8 (some .int) 2 44 (gE (some (.int r.1)) r.2) 19 [x0, some (.ref (w.2.1 10 i1)), some (.int v2), some (.int v3), some (.ref (w.2.1 8 i4)), some (.int v5), some (.int v6), x7] [] σ) {σ : gSt} {x0 x7 : Option Value} (h : f_X2_timeOver_62 i1 v2 v3 i4 v5 v6 k19 σ = some r) : G l w 0 41 RX2 cX2_timeOver 8 (some .int) 2 44 (gE (some (.int r.1)) r.2) 62 [x0, some (.ref (w.2.1 10 i1)), some (.int v2), some (.int v3), some (.ref (w.2.1 8 i4)), some (.int v5), some (.int v6), x7] [] σ := by
  unfold f_X2_timeOver_62 at h
  refine g_iconst dX2_timeOver_62 kc_m1 ?_
  exact f_X2_timeOver_63_ok hi1 hi4 hk19 h
theorem f_X2_timeOver_19_ok {i1 : Nat} {v2 : Int32} {v3 : Int32} {i4 : Nat} {r : (Int32 × gSt)} (hi1 : i1 < 20) (hi4 : i4 < 6) : ∀ (n : Nat) {v5 : Int32} {v6 : Int32} {σ : gSt} {x0 x7 : Option Value}, f_X2_timeOver_19 i1 v2 v3 i4 n v5 v6 σ = some r → G l w 0 41 RX2 cX2_timeOver 8 (some .int) 2 44 (gE (some (.int r.1)) r.2) 19 [x0, some (.ref (w.2.1 10 i1)), some (.int v2), some (.int v3), some (.ref (w.2.1 8 i4)), some (.int v5), some (.int v6), x7] [] σ := by
  intro n
  induction n with
  | zero => intro v5 v6 σ x0 x7 h; rw [f_X2_timeOver_19] at h; cases h
  | succ n ih =>
    intro v5 v6 σ x0 x7 h
    rw [f_X2_timeOver_19] at h
    refine g_iload dX2_timeOver_19 rfl ?_
    refine g_aload dX2_timeOver_21 rfl ?_
    refine gI_X2_56 (ok_8 hi4) dX2_timeOver_23 ?_
    refine g_icmp_ge 94 dX2_timeOver_26 rfl (fun q => ?_) (fun q => ?_)
    · replace h := gif_t q h
      refine g_iload dX2_timeOver_94 rfl ?_
      cases h
      exact g_iret dX2_timeOver_96 rfl ⟨rfl, rfl⟩
    · replace h := gif_f q h
      refine g_aload dX2_timeOver_29 rfl ?_
      refine g_iload dX2_timeOver_31 rfl ?_
      refine g_iconst dX2_timeOver_33 kc_1 ?_
      refine g_isub dX2_timeOver_34 ?_
      refine g_iload_n dX2_timeOver_35 rfl ?_
      obtain ⟨p36, e36, h⟩ := obind h
      refine g_vP2 mv_X2_90 dX2_timeOver_36 (ok_8 hi4) ⟨by decide, by decide⟩ (Nat.le_of_ble_eq_true rfl) (f_X1_isCode_ok hi4 e36) ?_
      refine g_if_eq 62 dX2_timeOver_39 rfl (fun q => ?_) (fun q => ?_)
      · replace h := gif_t q h
        exact f_X2_timeOver_62_ok hi1 hi4 (fun h => ih h) h
      · replace h := gif_f q h
        refine g_aload dX2_timeOver_42 rfl ?_
        refine g_iload dX2_timeOver_44 rfl ?_
        refine g_iload_n dX2_timeOver_46 rfl ?_
        obtain ⟨p47, e47, h⟩ := obind h
        refine g_vP2 mv_X2_90 dX2_timeOver_47 (ok_8 hi4) ⟨by decide, by decide⟩ (Nat.le_of_ble_eq_true rfl) (f_X1_isCode_ok hi4 e47) ?_
        refine g_if_eq 62 dX2_timeOver_50 rfl (fun q => ?_) (fun q => ?_)
        · replace h := gif_t q h
          exact f_X2_timeOver_62_ok hi1 hi4 (fun h => ih h) h
        · replace h := gif_f q h
          refine g_aload_n dX2_timeOver_53 rfl ?_
          refine g_iload dX2_timeOver_54 rfl ?_
          obtain ⟨p56, e56, h⟩ := obind h
          refine g_vP1 mv_X2_45 dX2_timeOver_56 (ok_10 hi1) ⟨by decide, by decide⟩ (Nat.le_of_ble_eq_true rfl) (f_X9_legTime_ok hi1 e56) ?_
          refine g_goto 63 dX2_timeOver_59 rfl ?_
          exact f_X2_timeOver_63_ok hi1 hi4 (fun h => ih h) h
theorem f_X2_timeOver_ok {i1 : Nat} {v2 : Int32} {v3 : Int32} (hi1 : i1 < 20) {σ : gSt} {r : (Int32 × gSt)} (h : f_X2_timeOver i1 v2 v3 σ = some r) : Mt l w 0 41 yX2_timeOver cX2_timeOver 8 (some .int) 2 44 [.ref (w.2.1 16 0), .ref (w.2.1 10 i1), .int v2, .int v3] σ (gE (some (.int r.1)) r.2) := by
  unfold f_X2_timeOver at h
  refine g_start pn_X2 rfl rfl (Nat.le_of_ble_eq_true rfl) ?_
  show G l w 0 41 RX2 cX2_timeOver 8 (some .int) 2 44 (gE (some (.int r.1)) r.2) 0 [some (.ref (w.2.1 16 0)), some (.ref (w.2.1 10 i1)), some (.int v2), some (.int v3), none, none, none, none] [] σ
  refine g_aload_n dX2_timeOver_0 rfl ?_
  refine gR_X2_9 ok_16 dX2_timeOver_1 ?_
  refine g_aload_n dX2_timeOver_4 rfl ?_
  refine gI_X2_21 (ok_10 hi1) dX2_timeOver_5 ?_
  obtain ⟨p8, e8, h⟩ := obind h
  refine g_vR1 mv_X2_52 dX2_timeOver_8 (ok_3 (by decide)) ⟨by decide, by decide⟩ (Nat.le_of_ble_eq_true rfl) (f_X4_courseAt_ok (by decide) e8) (fun b8 => ?_)
  refine g_astore4 dX2_timeOver_11 ?_
  refine g_iconst dX2_timeOver_13 kc_m1 ?_
  refine g_istore5 dX2_timeOver_14 ?_
  refine g_iconst dX2_timeOver_16 kc_1 ?_
  refine g_istore6 dX2_timeOver_17 ?_
  exact f_X2_timeOver_19_ok hi1 b8 gFuel h
theorem dX2_fastestOver_0 : decode cX2_fastestOver 0 = .ok (.iconst (-1), 1) := by decide +kernel
theorem dX2_fastestOver_1 : decode cX2_fastestOver 1 = .ok (.istore_n 3, 1) := by decide +kernel
theorem dX2_fastestOver_2 : decode cX2_fastestOver 2 = .ok (.iconst (-1), 1) := by decide +kernel
theorem dX2_fastestOver_3 : decode cX2_fastestOver 3 = .ok (.istore 4, 2) := by decide +kernel
theorem dX2_fastestOver_5 : decode cX2_fastestOver 5 = .ok (.iconst 0, 1) := by decide +kernel
theorem dX2_fastestOver_6 : decode cX2_fastestOver 6 = .ok (.istore 5, 2) := by decide +kernel
theorem dX2_fastestOver_8 : decode cX2_fastestOver 8 = .ok (.iload 5, 2) := by decide +kernel
theorem dX2_fastestOver_10 : decode cX2_fastestOver 10 = .ok (.aload_n 0, 1) := by decide +kernel
theorem dX2_fastestOver_11 : decode cX2_fastestOver 11 = .ok (.getfield 9, 3) := by decide +kernel
theorem dX2_fastestOver_14 : decode cX2_fastestOver 14 = .ok (.getfield 15, 3) := by decide +kernel
theorem dX2_fastestOver_17 : decode cX2_fastestOver 17 = .ok (.if_icmp .ge 51, 3) := by decide +kernel
theorem dX2_fastestOver_20 : decode cX2_fastestOver 20 = .ok (.aload_n 0, 1) := by decide +kernel
theorem dX2_fastestOver_21 : decode cX2_fastestOver 21 = .ok (.aload_n 0, 1) := by decide +kernel
theorem dX2_fastestOver_22 : decode cX2_fastestOver 22 = .ok (.getfield 9, 3) := by decide +kernel
theorem dX2_fastestOver_25 : decode cX2_fastestOver 25 = .ok (.iload 5, 2) := by decide +kernel
theorem dX2_fastestOver_27 : decode cX2_fastestOver 27 = .ok (.invokevirtual 30, 3) := by decide +kernel
theorem dX2_fastestOver_30 : decode cX2_fastestOver 30 = .ok (.iload_n 1, 1) := by decide +kernel
theorem dX2_fastestOver_31 : decode cX2_fastestOver 31 = .ok (.iload_n 2, 1) := by decide +kernel
theorem dX2_fastestOver_32 : decode cX2_fastestOver 32 = .ok (.invokevirtual 86, 3) := by decide +kernel
theorem dX2_fastestOver_35 : decode cX2_fastestOver 35 = .ok (.istore 6, 2) := by decide +kernel
theorem dX2_fastestOver_37 : decode cX2_fastestOver 37 = .ok (.iload 6, 2) := by decide +kernel
theorem dX2_fastestOver_39 : decode cX2_fastestOver 39 = .ok (.iconst (-1), 1) := by decide +kernel
theorem dX2_fastestOver_40 : decode cX2_fastestOver 40 = .ok (.if_icmp .eq 22, 3) := by decide +kernel
theorem dX2_fastestOver_43 : decode cX2_fastestOver 43 = .ok (.iload_n 3, 1) := by decide +kernel
theorem dX2_fastestOver_44 : decode cX2_fastestOver 44 = .ok (.iconst (-1), 1) := by decide +kernel
theorem dX2_fastestOver_45 : decode cX2_fastestOver 45 = .ok (.if_icmp .eq 10, 3) := by decide +kernel
theorem dX2_fastestOver_48 : decode cX2_fastestOver 48 = .ok (.iload 6, 2) := by decide +kernel
theorem dX2_fastestOver_50 : decode cX2_fastestOver 50 = .ok (.iload 4, 2) := by decide +kernel
theorem dX2_fastestOver_52 : decode cX2_fastestOver 52 = .ok (.if_icmp .ge 10, 3) := by decide +kernel
theorem dX2_fastestOver_55 : decode cX2_fastestOver 55 = .ok (.iload 5, 2) := by decide +kernel
theorem dX2_fastestOver_57 : decode cX2_fastestOver 57 = .ok (.istore_n 3, 1) := by decide +kernel
theorem dX2_fastestOver_58 : decode cX2_fastestOver 58 = .ok (.iload 6, 2) := by decide +kernel
theorem dX2_fastestOver_60 : decode cX2_fastestOver 60 = .ok (.istore 4, 2) := by decide +kernel
theorem dX2_fastestOver_62 : decode cX2_fastestOver 62 = .ok (.iinc 5 1, 3) := by decide +kernel
theorem dX2_fastestOver_65 : decode cX2_fastestOver 65 = .ok (.goto (-57), 3) := by decide +kernel
theorem dX2_fastestOver_68 : decode cX2_fastestOver 68 = .ok (.iload_n 3, 1) := by decide +kernel
theorem dX2_fastestOver_69 : decode cX2_fastestOver 69 = .ok (.ireturn, 1) := by decide +kernel
def f_X2_fastestOver_8 (v1 : Int32) (v2 : Int32) : Nat → Int32 → Int32 → Int32 → gSt → Option (Int32 × gSt)
  | 0, _, _, _, _ => none
  | n + 1, v3, v4, v5, σ =>
    if (σ 3 1 4) ≤ v5 then
      some (v3, σ)
    else
      (f_X4_runnerAt 1 v5 σ).bind fun p27 =>
      (f_X2_timeOver p27.1 v1 v2 p27.2).bind fun p32 =>
      if p32.1 = (-1) then
        f_X2_fastestOver_8 v1 v2 n v3 v4 (v5 + 1) p32.2
      else
        if v3 = (-1) then
          f_X2_fastestOver_8 v1 v2 n v5 p32.1 (v5 + 1) p32.2
        else
          if v4 ≤ p32.1 then
            f_X2_fastestOver_8 v1 v2 n v3 v4 (v5 + 1) p32.2
          else
            f_X2_fastestOver_8 v1 v2 n v5 p32.1 (v5 + 1) p32.2
def f_X2_fastestOver (v1 : Int32) (v2 : Int32) (σ : gSt) : Option (Int32 × gSt) :=
  f_X2_fastestOver_8 v1 v2 gFuel (-1) (-1) 0 σ
theorem f_X2_fastestOver_8_ok {v1 : Int32} {v2 : Int32} {r : (Int32 × gSt)}  : ∀ (n : Nat) {v3 : Int32} {v4 : Int32} {v5 : Int32} {σ : gSt} {x6 : Option Value}, f_X2_fastestOver_8 v1 v2 n v3 v4 v5 σ = some r → G l w 0 41 RX2 cX2_fastestOver 7 (some .int) 3 71 (gE (some (.int r.1)) r.2) 8 [some (.ref (w.2.1 16 0)), some (.int v1), some (.int v2), some (.int v3), some (.int v4), some (.int v5), x6] [] σ := by
  intro n
  induction n with
  | zero => intro v3 v4 v5 σ x6 h; rw [f_X2_fastestOver_8] at h; cases h
  | succ n ih =>
    intro v3 v4 v5 σ x6 h
    rw [f_X2_fastestOver_8] at h
    refine g_iload dX2_fastestOver_8 rfl ?_
    refine g_aload_n dX2_fastestOver_10 rfl ?_
    refine gR_X2_9 ok_16 dX2_fastestOver_11 ?_
    refine gI_X2_15 (ok_3 (by decide)) dX2_fastestOver_14 ?_
    refine g_icmp_ge 68 dX2_fastestOver_17 rfl (fun q => ?_) (fun q => ?_)
    · replace h := gif_t q h
      refine g_iload_n dX2_fastestOver_68 rfl ?_
      cases h
      exact g_iret dX2_fastestOver_69 rfl ⟨rfl, rfl⟩
    · replace h := gif_f q h
      refine g_aload_n dX2_fastestOver_20 rfl ?_
      refine g_aload_n dX2_fastestOver_21 rfl ?_
      refine gR_X2_9 ok_16 dX2_fastestOver_22 ?_
      refine g_iload dX2_fastestOver_25 rfl ?_
      obtain ⟨p27, e27, h⟩ := obind h
      refine g_vR1 mv_X2_30 dX2_fastestOver_27 (ok_3 (by decide)) ⟨by decide, by decide⟩ (Nat.le_of_ble_eq_true rfl) (f_X4_runnerAt_ok (by decide) e27) (fun b27 => ?_)
      refine g_iload_n dX2_fastestOver_30 rfl ?_
      refine g_iload_n dX2_fastestOver_31 rfl ?_
      obtain ⟨p32, e32, h⟩ := obind h
      refine g_vP3 mv_X2_86 dX2_fastestOver_32 ok_16 ⟨by decide, by decide⟩ (Nat.le_of_ble_eq_true rfl) (f_X2_timeOver_ok b27 e32) ?_
      refine g_istore6 dX2_fastestOver_35 ?_
      refine g_iload dX2_fastestOver_37 rfl ?_
      refine g_iconst dX2_fastestOver_39 kc_m1 ?_
      refine g_icmp_eq 62 dX2_fastestOver_40 rfl (fun q => ?_) (fun q => ?_)
      · replace h := gif_t q h
        refine g_inc5 kc_1 dX2_fastestOver_62 ?_
        refine g_goto 8 dX2_fastestOver_65 rfl ?_
        exact ih h
      · replace h := gif_f q h
        refine g_iload_n dX2_fastestOver_43 rfl ?_
        refine g_iconst dX2_fastestOver_44 kc_m1 ?_
        refine g_icmp_eq 55 dX2_fastestOver_45 rfl (fun q => ?_) (fun q => ?_)
        · replace h := gif_t q h
          refine g_iload dX2_fastestOver_55 rfl ?_
          refine g_istore3 dX2_fastestOver_57 ?_
          refine g_iload dX2_fastestOver_58 rfl ?_
          refine g_istore4 dX2_fastestOver_60 ?_
          refine g_inc5 kc_1 dX2_fastestOver_62 ?_
          refine g_goto 8 dX2_fastestOver_65 rfl ?_
          exact ih h
        · replace h := gif_f q h
          refine g_iload dX2_fastestOver_48 rfl ?_
          refine g_iload dX2_fastestOver_50 rfl ?_
          refine g_icmp_ge 62 dX2_fastestOver_52 rfl (fun q => ?_) (fun q => ?_)
          · replace h := gif_t q h
            refine g_inc5 kc_1 dX2_fastestOver_62 ?_
            refine g_goto 8 dX2_fastestOver_65 rfl ?_
            exact ih h
          · replace h := gif_f q h
            refine g_iload dX2_fastestOver_55 rfl ?_
            refine g_istore3 dX2_fastestOver_57 ?_
            refine g_iload dX2_fastestOver_58 rfl ?_
            refine g_istore4 dX2_fastestOver_60 ?_
            refine g_inc5 kc_1 dX2_fastestOver_62 ?_
            refine g_goto 8 dX2_fastestOver_65 rfl ?_
            exact ih h
theorem f_X2_fastestOver_ok {v1 : Int32} {v2 : Int32}  {σ : gSt} {r : (Int32 × gSt)} (h : f_X2_fastestOver v1 v2 σ = some r) : Mt l w 0 41 yX2_fastestOver cX2_fastestOver 7 (some .int) 3 71 [.ref (w.2.1 16 0), .int v1, .int v2] σ (gE (some (.int r.1)) r.2) := by
  unfold f_X2_fastestOver at h
  refine g_start pn_X2 rfl rfl (Nat.le_of_ble_eq_true rfl) ?_
  show G l w 0 41 RX2 cX2_fastestOver 7 (some .int) 3 71 (gE (some (.int r.1)) r.2) 0 [some (.ref (w.2.1 16 0)), some (.int v1), some (.int v2), none, none, none, none] [] σ
  refine g_iconst dX2_fastestOver_0 kc_m1 ?_
  refine g_istore3 dX2_fastestOver_1 ?_
  refine g_iconst dX2_fastestOver_2 kc_m1 ?_
  refine g_istore4 dX2_fastestOver_3 ?_
  refine g_iconst dX2_fastestOver_5 kc_0 ?_
  refine g_istore5 dX2_fastestOver_6 ?_
  exact f_X2_fastestOver_8_ok gFuel h
theorem dX4_clear_0 : decode cX4_clear 0 = .ok (.aload_n 0, 1) := by decide +kernel
theorem dX4_clear_1 : decode cX4_clear 1 = .ok (.iconst 0, 1) := by decide +kernel
theorem dX4_clear_2 : decode cX4_clear 2 = .ok (.putfield 30, 3) := by decide +kernel
theorem dX4_clear_5 : decode cX4_clear 5 = .ok (.aload_n 0, 1) := by decide +kernel
theorem dX4_clear_6 : decode cX4_clear 6 = .ok (.iconst 0, 1) := by decide +kernel
theorem dX4_clear_7 : decode cX4_clear 7 = .ok (.putfield 34, 3) := by decide +kernel
theorem dX4_clear_10 : decode cX4_clear 10 = .ok (.aload_n 0, 1) := by decide +kernel
theorem dX4_clear_11 : decode cX4_clear 11 = .ok (.bipush 10, 2) := by decide +kernel
theorem dX4_clear_13 : decode cX4_clear 13 = .ok (.putfield 37, 3) := by decide +kernel
theorem dX4_clear_16 : decode cX4_clear 16 = .ok (.aload_n 0, 1) := by decide +kernel
theorem dX4_clear_17 : decode cX4_clear 17 = .ok (.bipush 20, 2) := by decide +kernel
theorem dX4_clear_19 : decode cX4_clear 19 = .ok (.putfield 40, 3) := by decide +kernel
theorem dX4_clear_22 : decode cX4_clear 22 = .ok (.return_, 1) := by decide +kernel
def f_X4_clear (i0 : Nat) (σ : gSt) : Option gSt :=
  some (gup (gup (gup (gup σ 3 i0 3 0) 3 i0 4 0) 3 i0 5 10) 3 i0 6 20)
theorem f_X4_clear_ok {i0 : Nat} (hi0 : i0 < 2) {σ : gSt} {r : gSt} (h : f_X4_clear i0 σ = some r) : Mt l w 0 41 yX4_clear cX4_clear 1 none 0 0 [.ref (w.2.1 3 i0)] σ (gE none r) := by
  unfold f_X4_clear at h
  refine g_start pn_X4 rfl rfl (Nat.le_of_ble_eq_true rfl) ?_
  show G l w 0 41 RX4 cX4_clear 1 none 0 0 (gE none r) 0 [some (.ref (w.2.1 3 i0))] [] σ
  refine g_aload_n dX4_clear_0 rfl ?_
  refine g_iconst dX4_clear_1 kc_0 ?_
  refine gP_X4_30 (ok_3 hi0) dX4_clear_2 ?_
  refine g_aload_n dX4_clear_5 rfl ?_
  refine g_iconst dX4_clear_6 kc_0 ?_
  refine gP_X4_34 (ok_3 hi0) dX4_clear_7 ?_
  refine g_aload_n dX4_clear_10 rfl ?_
  refine g_bipush dX4_clear_11 kb_10 ?_
  refine gP_X4_37 (ok_3 hi0) dX4_clear_13 ?_
  refine g_aload_n dX4_clear_16 rfl ?_
  refine g_bipush dX4_clear_17 kb_20 ?_
  refine gP_X4_40 (ok_3 hi0) dX4_clear_19 ?_
  cases h
  exact g_vret dX4_clear_22 rfl ⟨rfl, rfl⟩
theorem dX9_copyFrom_0 : decode cX9_copyFrom 0 = .ok (.aload_n 0, 1) := by decide +kernel
theorem dX9_copyFrom_1 : decode cX9_copyFrom 1 = .ok (.aload_n 1, 1) := by decide +kernel
theorem dX9_copyFrom_2 : decode cX9_copyFrom 2 = .ok (.getfield 26, 3) := by decide +kernel
theorem dX9_copyFrom_5 : decode cX9_copyFrom 5 = .ok (.putfield 26, 3) := by decide +kernel
theorem dX9_copyFrom_8 : decode cX9_copyFrom 8 = .ok (.aload_n 0, 1) := by decide +kernel
theorem dX9_copyFrom_9 : decode cX9_copyFrom 9 = .ok (.aload_n 1, 1) := by decide +kernel
theorem dX9_copyFrom_10 : decode cX9_copyFrom 10 = .ok (.getfield 30, 3) := by decide +kernel
theorem dX9_copyFrom_13 : decode cX9_copyFrom 13 = .ok (.putfield 30, 3) := by decide +kernel
theorem dX9_copyFrom_16 : decode cX9_copyFrom 16 = .ok (.aload_n 0, 1) := by decide +kernel
theorem dX9_copyFrom_17 : decode cX9_copyFrom 17 = .ok (.aload_n 1, 1) := by decide +kernel
theorem dX9_copyFrom_18 : decode cX9_copyFrom 18 = .ok (.getfield 33, 3) := by decide +kernel
theorem dX9_copyFrom_21 : decode cX9_copyFrom 21 = .ok (.putfield 33, 3) := by decide +kernel
theorem dX9_copyFrom_24 : decode cX9_copyFrom 24 = .ok (.aload_n 0, 1) := by decide +kernel
theorem dX9_copyFrom_25 : decode cX9_copyFrom 25 = .ok (.aload_n 1, 1) := by decide +kernel
theorem dX9_copyFrom_26 : decode cX9_copyFrom 26 = .ok (.getfield 36, 3) := by decide +kernel
theorem dX9_copyFrom_29 : decode cX9_copyFrom 29 = .ok (.putfield 36, 3) := by decide +kernel
theorem dX9_copyFrom_32 : decode cX9_copyFrom 32 = .ok (.aload_n 0, 1) := by decide +kernel
theorem dX9_copyFrom_33 : decode cX9_copyFrom 33 = .ok (.aload_n 1, 1) := by decide +kernel
theorem dX9_copyFrom_34 : decode cX9_copyFrom 34 = .ok (.getfield 39, 3) := by decide +kernel
theorem dX9_copyFrom_37 : decode cX9_copyFrom 37 = .ok (.putfield 39, 3) := by decide +kernel
theorem dX9_copyFrom_40 : decode cX9_copyFrom 40 = .ok (.aload_n 1, 1) := by decide +kernel
theorem dX9_copyFrom_41 : decode cX9_copyFrom 41 = .ok (.getfield 9, 3) := by decide +kernel
theorem dX9_copyFrom_44 : decode cX9_copyFrom 44 = .ok (.iconst 0, 1) := by decide +kernel
theorem dX9_copyFrom_45 : decode cX9_copyFrom 45 = .ok (.aload_n 0, 1) := by decide +kernel
theorem dX9_copyFrom_46 : decode cX9_copyFrom 46 = .ok (.getfield 9, 3) := by decide +kernel
theorem dX9_copyFrom_49 : decode cX9_copyFrom 49 = .ok (.iconst 0, 1) := by decide +kernel
theorem dX9_copyFrom_50 : decode cX9_copyFrom 50 = .ok (.bipush 16, 2) := by decide +kernel
theorem dX9_copyFrom_52 : decode cX9_copyFrom 52 = .ok (.invokestatic 48, 3) := by decide +kernel
theorem dX9_copyFrom_55 : decode cX9_copyFrom 55 = .ok (.aload_n 1, 1) := by decide +kernel
theorem dX9_copyFrom_56 : decode cX9_copyFrom 56 = .ok (.getfield 15, 3) := by decide +kernel
theorem dX9_copyFrom_59 : decode cX9_copyFrom 59 = .ok (.iconst 0, 1) := by decide +kernel
theorem dX9_copyFrom_60 : decode cX9_copyFrom 60 = .ok (.aload_n 0, 1) := by decide +kernel
theorem dX9_copyFrom_61 : decode cX9_copyFrom 61 = .ok (.getfield 15, 3) := by decide +kernel
theorem dX9_copyFrom_64 : decode cX9_copyFrom 64 = .ok (.iconst 0, 1) := by decide +kernel
theorem dX9_copyFrom_65 : decode cX9_copyFrom 65 = .ok (.bipush 16, 2) := by decide +kernel
theorem dX9_copyFrom_67 : decode cX9_copyFrom 67 = .ok (.invokestatic 48, 3) := by decide +kernel
theorem dX9_copyFrom_70 : decode cX9_copyFrom 70 = .ok (.return_, 1) := by decide +kernel
def f_X9_copyFrom (i0 : Nat) (i1 : Nat) (σ : gSt) : Option gSt :=
  (gcpy (gup (gup (gup (gup (gup σ 10 i0 4 (σ 10 i1 4)) 10 i0 5 ((gup σ 10 i0 4 (σ 10 i1 4)) 10 i1 5)) 10 i0 6 ((gup (gup σ 10 i0 4 (σ 10 i1 4)) 10 i0 5 ((gup σ 10 i0 4 (σ 10 i1 4)) 10 i1 5)) 10 i1 6)) 10 i0 7 ((gup (gup (gup σ 10 i0 4 (σ 10 i1 4)) 10 i0 5 ((gup σ 10 i0 4 (σ 10 i1 4)) 10 i1 5)) 10 i0 6 ((gup (gup σ 10 i0 4 (σ 10 i1 4)) 10 i0 5 ((gup σ 10 i0 4 (σ 10 i1 4)) 10 i1 5)) 10 i1 6)) 10 i1 7)) 10 i0 8 ((gup (gup (gup (gup σ 10 i0 4 (σ 10 i1 4)) 10 i0 5 ((gup σ 10 i0 4 (σ 10 i1 4)) 10 i1 5)) 10 i0 6 ((gup (gup σ 10 i0 4 (σ 10 i1 4)) 10 i0 5 ((gup σ 10 i0 4 (σ 10 i1 4)) 10 i1 5)) 10 i1 6)) 10 i0 7 ((gup (gup (gup σ 10 i0 4 (σ 10 i1 4)) 10 i0 5 ((gup σ 10 i0 4 (σ 10 i1 4)) 10 i1 5)) 10 i0 6 ((gup (gup σ 10 i0 4 (σ 10 i1 4)) 10 i0 5 ((gup σ 10 i0 4 (σ 10 i1 4)) 10 i1 5)) 10 i1 6)) 10 i1 7)) 10 i1 8)) 11 i1 16 11 i0 16 0 0 16).bind fun z52 =>
  (gcpy z52 12 i1 16 12 i0 16 0 0 16).bind fun z67 =>
  some z67
theorem f_X9_copyFrom_ok {i0 : Nat} {i1 : Nat} (hi0 : i0 < 20) (hi1 : i1 < 20) {σ : gSt} {r : gSt} (h : f_X9_copyFrom i0 i1 σ = some r) : Mt l w 0 41 yX9_copyFrom cX9_copyFrom 2 none 1 60 [.ref (w.2.1 10 i0), .ref (w.2.1 10 i1)] σ (gE none r) := by
  unfold f_X9_copyFrom at h
  refine g_start pn_X9 rfl rfl (Nat.le_of_ble_eq_true rfl) ?_
  show G l w 0 41 RX9 cX9_copyFrom 2 none 1 60 (gE none r) 0 [some (.ref (w.2.1 10 i0)), some (.ref (w.2.1 10 i1))] [] σ
  refine g_aload_n dX9_copyFrom_0 rfl ?_
  refine g_aload_n dX9_copyFrom_1 rfl ?_
  refine gI_X9_26 (ok_10 hi1) dX9_copyFrom_2 ?_
  refine gP_X9_26 (ok_10 hi0) dX9_copyFrom_5 ?_
  refine g_aload_n dX9_copyFrom_8 rfl ?_
  refine g_aload_n dX9_copyFrom_9 rfl ?_
  refine gI_X9_30 (ok_10 hi1) dX9_copyFrom_10 ?_
  refine gP_X9_30 (ok_10 hi0) dX9_copyFrom_13 ?_
  refine g_aload_n dX9_copyFrom_16 rfl ?_
  refine g_aload_n dX9_copyFrom_17 rfl ?_
  refine gI_X9_33 (ok_10 hi1) dX9_copyFrom_18 ?_
  refine gP_X9_33 (ok_10 hi0) dX9_copyFrom_21 ?_
  refine g_aload_n dX9_copyFrom_24 rfl ?_
  refine g_aload_n dX9_copyFrom_25 rfl ?_
  refine gI_X9_36 (ok_10 hi1) dX9_copyFrom_26 ?_
  refine gP_X9_36 (ok_10 hi0) dX9_copyFrom_29 ?_
  refine g_aload_n dX9_copyFrom_32 rfl ?_
  refine g_aload_n dX9_copyFrom_33 rfl ?_
  refine gI_X9_39 (ok_10 hi1) dX9_copyFrom_34 ?_
  refine gP_X9_39 (ok_10 hi0) dX9_copyFrom_37 ?_
  refine g_aload_n dX9_copyFrom_40 rfl ?_
  refine gR_X9_9 (ok_10 hi1) dX9_copyFrom_41 ?_
  refine g_iconst dX9_copyFrom_44 kc_0 ?_
  refine g_aload_n dX9_copyFrom_45 rfl ?_
  refine gR_X9_9 (ok_10 hi0) dX9_copyFrom_46 ?_
  refine g_iconst dX9_copyFrom_49 kc_0 ?_
  refine g_bipush dX9_copyFrom_50 kb_16 ?_
  obtain ⟨z52, e52, h⟩ := obind h
  refine g_cpyB e52 cp_X9_48 (ok_11 hi1) (ok_11 hi0) rfl rfl rfl rfl (by decide) (by decide) dX9_copyFrom_52 ?_
  refine g_aload_n dX9_copyFrom_55 rfl ?_
  refine gR_X9_15 (ok_10 hi1) dX9_copyFrom_56 ?_
  refine g_iconst dX9_copyFrom_59 kc_0 ?_
  refine g_aload_n dX9_copyFrom_60 rfl ?_
  refine gR_X9_15 (ok_10 hi0) dX9_copyFrom_61 ?_
  refine g_iconst dX9_copyFrom_64 kc_0 ?_
  refine g_bipush dX9_copyFrom_65 kb_16 ?_
  obtain ⟨z67, e67, h⟩ := obind h
  refine g_cpyB e67 cp_X9_48 (ok_12 hi1) (ok_12 hi0) rfl rfl rfl rfl (by decide) (by decide) dX9_copyFrom_67 ?_
  cases h
  exact g_vret dX9_copyFrom_70 rfl ⟨rfl, rfl⟩
theorem dX4_copyFrom_0 : decode cX4_copyFrom 0 = .ok (.aload_n 0, 1) := by decide +kernel
theorem dX4_copyFrom_1 : decode cX4_copyFrom 1 = .ok (.aload_n 1, 1) := by decide +kernel
theorem dX4_copyFrom_2 : decode cX4_copyFrom 2 = .ok (.getfield 30, 3) := by decide +kernel
theorem dX4_copyFrom_5 : decode cX4_copyFrom 5 = .ok (.putfield 30, 3) := by decide +kernel
theorem dX4_copyFrom_8 : decode cX4_copyFrom 8 = .ok (.aload_n 0, 1) := by decide +kernel
theorem dX4_copyFrom_9 : decode cX4_copyFrom 9 = .ok (.aload_n 1, 1) := by decide +kernel
theorem dX4_copyFrom_10 : decode cX4_copyFrom 10 = .ok (.getfield 34, 3) := by decide +kernel
theorem dX4_copyFrom_13 : decode cX4_copyFrom 13 = .ok (.putfield 34, 3) := by decide +kernel
theorem dX4_copyFrom_16 : decode cX4_copyFrom 16 = .ok (.aload_n 0, 1) := by decide +kernel
theorem dX4_copyFrom_17 : decode cX4_copyFrom 17 = .ok (.aload_n 1, 1) := by decide +kernel
theorem dX4_copyFrom_18 : decode cX4_copyFrom 18 = .ok (.getfield 37, 3) := by decide +kernel
theorem dX4_copyFrom_21 : decode cX4_copyFrom 21 = .ok (.putfield 37, 3) := by decide +kernel
theorem dX4_copyFrom_24 : decode cX4_copyFrom 24 = .ok (.aload_n 0, 1) := by decide +kernel
theorem dX4_copyFrom_25 : decode cX4_copyFrom 25 = .ok (.aload_n 1, 1) := by decide +kernel
theorem dX4_copyFrom_26 : decode cX4_copyFrom 26 = .ok (.getfield 40, 3) := by decide +kernel
theorem dX4_copyFrom_29 : decode cX4_copyFrom 29 = .ok (.putfield 40, 3) := by decide +kernel
theorem dX4_copyFrom_32 : decode cX4_copyFrom 32 = .ok (.iconst 0, 1) := by decide +kernel
theorem dX4_copyFrom_33 : decode cX4_copyFrom 33 = .ok (.istore_n 2, 1) := by decide +kernel
theorem dX4_copyFrom_34 : decode cX4_copyFrom 34 = .ok (.iload_n 2, 1) := by decide +kernel
theorem dX4_copyFrom_35 : decode cX4_copyFrom 35 = .ok (.aload_n 0, 1) := by decide +kernel
theorem dX4_copyFrom_36 : decode cX4_copyFrom 36 = .ok (.getfield 30, 3) := by decide +kernel
theorem dX4_copyFrom_39 : decode cX4_copyFrom 39 = .ok (.if_icmp .ge 22, 3) := by decide +kernel
theorem dX4_copyFrom_42 : decode cX4_copyFrom 42 = .ok (.aload_n 0, 1) := by decide +kernel
theorem dX4_copyFrom_43 : decode cX4_copyFrom 43 = .ok (.iload_n 2, 1) := by decide +kernel
theorem dX4_copyFrom_44 : decode cX4_copyFrom 44 = .ok (.invokevirtual 45, 3) := by decide +kernel
theorem dX4_copyFrom_47 : decode cX4_copyFrom 47 = .ok (.aload_n 1, 1) := by decide +kernel
theorem dX4_copyFrom_48 : decode cX4_copyFrom 48 = .ok (.iload_n 2, 1) := by decide +kernel
theorem dX4_copyFrom_49 : decode cX4_copyFrom 49 = .ok (.invokevirtual 45, 3) := by decide +kernel
theorem dX4_copyFrom_52 : decode cX4_copyFrom 52 = .ok (.invokevirtual 49, 3) := by decide +kernel
theorem dX4_copyFrom_55 : decode cX4_copyFrom 55 = .ok (.iinc 2 1, 3) := by decide +kernel
theorem dX4_copyFrom_58 : decode cX4_copyFrom 58 = .ok (.goto (-24), 3) := by decide +kernel
theorem dX4_copyFrom_61 : decode cX4_copyFrom 61 = .ok (.iconst 0, 1) := by decide +kernel
theorem dX4_copyFrom_62 : decode cX4_copyFrom 62 = .ok (.istore_n 2, 1) := by decide +kernel
theorem dX4_copyFrom_63 : decode cX4_copyFrom 63 = .ok (.iload_n 2, 1) := by decide +kernel
theorem dX4_copyFrom_64 : decode cX4_copyFrom 64 = .ok (.aload_n 0, 1) := by decide +kernel
theorem dX4_copyFrom_65 : decode cX4_copyFrom 65 = .ok (.getfield 34, 3) := by decide +kernel
theorem dX4_copyFrom_68 : decode cX4_copyFrom 68 = .ok (.if_icmp .ge 27, 3) := by decide +kernel
theorem dX4_copyFrom_71 : decode cX4_copyFrom 71 = .ok (.aload_n 0, 1) := by decide +kernel
theorem dX4_copyFrom_72 : decode cX4_copyFrom 72 = .ok (.iload_n 2, 1) := by decide +kernel
theorem dX4_copyFrom_73 : decode cX4_copyFrom 73 = .ok (.invokevirtual 53, 3) := by decide +kernel
theorem dX4_copyFrom_76 : decode cX4_copyFrom 76 = .ok (.aload_n 1, 1) := by decide +kernel
theorem dX4_copyFrom_77 : decode cX4_copyFrom 77 = .ok (.iload_n 2, 1) := by decide +kernel
theorem dX4_copyFrom_78 : decode cX4_copyFrom 78 = .ok (.invokevirtual 53, 3) := by decide +kernel
theorem dX4_copyFrom_81 : decode cX4_copyFrom 81 = .ok (.invokevirtual 57, 3) := by decide +kernel
theorem dX4_copyFrom_84 : decode cX4_copyFrom 84 = .ok (.aload_n 0, 1) := by decide +kernel
theorem dX4_copyFrom_85 : decode cX4_copyFrom 85 = .ok (.iload_n 2, 1) := by decide +kernel
theorem dX4_copyFrom_86 : decode cX4_copyFrom 86 = .ok (.invokevirtual 60, 3) := by decide +kernel
theorem dX4_copyFrom_89 : decode cX4_copyFrom 89 = .ok (.iinc 2 1, 3) := by decide +kernel
theorem dX4_copyFrom_92 : decode cX4_copyFrom 92 = .ok (.goto (-29), 3) := by decide +kernel
theorem dX4_copyFrom_95 : decode cX4_copyFrom 95 = .ok (.return_, 1) := by decide +kernel
def f_X4_copyFrom_63 (i0 : Nat) (i1 : Nat) : Nat → Int32 → gSt → Option gSt
  | 0, _, _ => none
  | n + 1, v2, σ =>
    if (σ 3 i0 4) ≤ v2 then
      some σ
    else
      (f_X4_runnerAt i0 v2 σ).bind fun p73 =>
      (f_X4_runnerAt i1 v2 p73.2).bind fun p78 =>
      (f_X9_copyFrom p73.1 p78.1 p78.2).bind fun z81 =>
      (f_X4_matchRunner i0 v2 z81).bind fun z86 =>
      f_X4_copyFrom_63 i0 i1 n (v2 + 1) z86
def f_X4_copyFrom_34 (i0 : Nat) (i1 : Nat) : Nat → Int32 → gSt → Option gSt
  | 0, _, _ => none
  | n + 1, v2, σ =>
    if (σ 3 i0 3) ≤ v2 then
      f_X4_copyFrom_63 i0 i1 gFuel 0 σ
    else
      (f_X4_courseAt i0 v2 σ).bind fun p44 =>
      (f_X4_courseAt i1 v2 p44.2).bind fun p49 =>
      (f_X1_copyFrom p44.1 p49.1 p49.2).bind fun z52 =>
      f_X4_copyFrom_34 i0 i1 n (v2 + 1) z52
def f_X4_copyFrom (i0 : Nat) (i1 : Nat) (σ : gSt) : Option gSt :=
  f_X4_copyFrom_34 i0 i1 gFuel 0 (gup (gup (gup (gup σ 3 i0 3 (σ 3 i1 3)) 3 i0 4 ((gup σ 3 i0 3 (σ 3 i1 3)) 3 i1 4)) 3 i0 5 ((gup (gup σ 3 i0 3 (σ 3 i1 3)) 3 i0 4 ((gup σ 3 i0 3 (σ 3 i1 3)) 3 i1 4)) 3 i1 5)) 3 i0 6 ((gup (gup (gup σ 3 i0 3 (σ 3 i1 3)) 3 i0 4 ((gup σ 3 i0 3 (σ 3 i1 3)) 3 i1 4)) 3 i0 5 ((gup (gup σ 3 i0 3 (σ 3 i1 3)) 3 i0 4 ((gup σ 3 i0 3 (σ 3 i1 3)) 3 i1 4)) 3 i1 5)) 3 i1 6))
theorem f_X4_copyFrom_63_ok {i0 : Nat} {i1 : Nat} {r : gSt} (hi0 : i0 < 2) (hi1 : i1 < 2) : ∀ (n : Nat) {v2 : Int32} {σ : gSt} , f_X4_copyFrom_63 i0 i1 n v2 σ = some r → G l w 0 41 RX4 cX4_copyFrom 3 none 4 94 (gE none r) 63 [some (.ref (w.2.1 3 i0)), some (.ref (w.2.1 3 i1)), some (.int v2)] [] σ := by
  intro n
  induction n with
  | zero => intro v2 σ h; rw [f_X4_copyFrom_63] at h; cases h
  | succ n ih =>
    intro v2 σ h
    rw [f_X4_copyFrom_63] at h
    refine g_iload_n dX4_copyFrom_63 rfl ?_
    refine g_aload_n dX4_copyFrom_64 rfl ?_
    refine gI_X4_34 (ok_3 hi0) dX4_copyFrom_65 ?_
    refine g_icmp_ge 95 dX4_copyFrom_68 rfl (fun q => ?_) (fun q => ?_)
    · replace h := gif_t q h
      cases h
      exact g_vret dX4_copyFrom_95 rfl ⟨rfl, rfl⟩
    · replace h := gif_f q h
      refine g_aload_n dX4_copyFrom_71 rfl ?_
      refine g_iload_n dX4_copyFrom_72 rfl ?_
      obtain ⟨p73, e73, h⟩ := obind h
      refine g_vR1 mv_X4_53 dX4_copyFrom_73 (ok_3 hi0) ⟨by decide, by decide⟩ (Nat.le_of_ble_eq_true rfl) (f_X4_runnerAt_ok hi0 e73) (fun b73 => ?_)
      refine g_aload_n dX4_copyFrom_76 rfl ?_
      refine g_iload_n dX4_copyFrom_77 rfl ?_
      obtain ⟨p78, e78, h⟩ := obind h
      refine g_vR1 mv_X4_53 dX4_copyFrom_78 (ok_3 hi1) ⟨by decide, by decide⟩ (Nat.le_of_ble_eq_true rfl) (f_X4_runnerAt_ok hi1 e78) (fun b78 => ?_)
      obtain ⟨z81, e81, h⟩ := obind h
      refine g_vU1 mv_X4_57 dX4_copyFrom_81 (ok_10 b73) ⟨by decide, by decide⟩ (Nat.le_of_ble_eq_true rfl) (f_X9_copyFrom_ok b73 b78 e81) ?_
      refine g_aload_n dX4_copyFrom_84 rfl ?_
      refine g_iload_n dX4_copyFrom_85 rfl ?_
      obtain ⟨z86, e86, h⟩ := obind h
      refine g_vU1 mv_X4_60 dX4_copyFrom_86 (ok_3 hi0) ⟨by decide, by decide⟩ (Nat.le_of_ble_eq_true rfl) (f_X4_matchRunner_ok hi0 e86) ?_
      refine g_inc2 kc_1 dX4_copyFrom_89 ?_
      refine g_goto 63 dX4_copyFrom_92 rfl ?_
      exact ih h
theorem f_X4_copyFrom_34_ok {i0 : Nat} {i1 : Nat} {r : gSt} (hi0 : i0 < 2) (hi1 : i1 < 2) : ∀ (n : Nat) {v2 : Int32} {σ : gSt} , f_X4_copyFrom_34 i0 i1 n v2 σ = some r → G l w 0 41 RX4 cX4_copyFrom 3 none 4 94 (gE none r) 34 [some (.ref (w.2.1 3 i0)), some (.ref (w.2.1 3 i1)), some (.int v2)] [] σ := by
  intro n
  induction n with
  | zero => intro v2 σ h; rw [f_X4_copyFrom_34] at h; cases h
  | succ n ih =>
    intro v2 σ h
    rw [f_X4_copyFrom_34] at h
    refine g_iload_n dX4_copyFrom_34 rfl ?_
    refine g_aload_n dX4_copyFrom_35 rfl ?_
    refine gI_X4_30 (ok_3 hi0) dX4_copyFrom_36 ?_
    refine g_icmp_ge 61 dX4_copyFrom_39 rfl (fun q => ?_) (fun q => ?_)
    · replace h := gif_t q h
      refine g_iconst dX4_copyFrom_61 kc_0 ?_
      refine g_istore2 dX4_copyFrom_62 ?_
      exact f_X4_copyFrom_63_ok hi0 hi1 gFuel h
    · replace h := gif_f q h
      refine g_aload_n dX4_copyFrom_42 rfl ?_
      refine g_iload_n dX4_copyFrom_43 rfl ?_
      obtain ⟨p44, e44, h⟩ := obind h
      refine g_vR1 mv_X4_45 dX4_copyFrom_44 (ok_3 hi0) ⟨by decide, by decide⟩ (Nat.le_of_ble_eq_true rfl) (f_X4_courseAt_ok hi0 e44) (fun b44 => ?_)
      refine g_aload_n dX4_copyFrom_47 rfl ?_
      refine g_iload_n dX4_copyFrom_48 rfl ?_
      obtain ⟨p49, e49, h⟩ := obind h
      refine g_vR1 mv_X4_45 dX4_copyFrom_49 (ok_3 hi1) ⟨by decide, by decide⟩ (Nat.le_of_ble_eq_true rfl) (f_X4_courseAt_ok hi1 e49) (fun b49 => ?_)
      obtain ⟨z52, e52, h⟩ := obind h
      refine g_vU1 mv_X4_49 dX4_copyFrom_52 (ok_8 b44) ⟨by decide, by decide⟩ (Nat.le_of_ble_eq_true rfl) (f_X1_copyFrom_ok b44 b49 e52) ?_
      refine g_inc2 kc_1 dX4_copyFrom_55 ?_
      refine g_goto 34 dX4_copyFrom_58 rfl ?_
      exact ih h
theorem f_X4_copyFrom_ok {i0 : Nat} {i1 : Nat} (hi0 : i0 < 2) (hi1 : i1 < 2) {σ : gSt} {r : gSt} (h : f_X4_copyFrom i0 i1 σ = some r) : Mt l w 0 41 yX4_copyFrom cX4_copyFrom 3 none 4 94 [.ref (w.2.1 3 i0), .ref (w.2.1 3 i1)] σ (gE none r) := by
  unfold f_X4_copyFrom at h
  refine g_start pn_X4 rfl rfl (Nat.le_of_ble_eq_true rfl) ?_
  show G l w 0 41 RX4 cX4_copyFrom 3 none 4 94 (gE none r) 0 [some (.ref (w.2.1 3 i0)), some (.ref (w.2.1 3 i1)), none] [] σ
  refine g_aload_n dX4_copyFrom_0 rfl ?_
  refine g_aload_n dX4_copyFrom_1 rfl ?_
  refine gI_X4_30 (ok_3 hi1) dX4_copyFrom_2 ?_
  refine gP_X4_30 (ok_3 hi0) dX4_copyFrom_5 ?_
  refine g_aload_n dX4_copyFrom_8 rfl ?_
  refine g_aload_n dX4_copyFrom_9 rfl ?_
  refine gI_X4_34 (ok_3 hi1) dX4_copyFrom_10 ?_
  refine gP_X4_34 (ok_3 hi0) dX4_copyFrom_13 ?_
  refine g_aload_n dX4_copyFrom_16 rfl ?_
  refine g_aload_n dX4_copyFrom_17 rfl ?_
  refine gI_X4_37 (ok_3 hi1) dX4_copyFrom_18 ?_
  refine gP_X4_37 (ok_3 hi0) dX4_copyFrom_21 ?_
  refine g_aload_n dX4_copyFrom_24 rfl ?_
  refine g_aload_n dX4_copyFrom_25 rfl ?_
  refine gI_X4_40 (ok_3 hi1) dX4_copyFrom_26 ?_
  refine gP_X4_40 (ok_3 hi0) dX4_copyFrom_29 ?_
  refine g_iconst dX4_copyFrom_32 kc_0 ?_
  refine g_istore2 dX4_copyFrom_33 ?_
  exact f_X4_copyFrom_34_ok hi0 hi1 gFuel h
theorem dX4_enterCourse_0 : decode cX4_enterCourse 0 = .ok (.aload_n 0, 1) := by decide +kernel
theorem dX4_enterCourse_1 : decode cX4_enterCourse 1 = .ok (.aload_n 0, 1) := by decide +kernel
theorem dX4_enterCourse_2 : decode cX4_enterCourse 2 = .ok (.getfield 30, 3) := by decide +kernel
theorem dX4_enterCourse_5 : decode cX4_enterCourse 5 = .ok (.invokevirtual 45, 3) := by decide +kernel
theorem dX4_enterCourse_8 : decode cX4_enterCourse 8 = .ok (.astore_n 2, 1) := by decide +kernel
theorem dX4_enterCourse_9 : decode cX4_enterCourse 9 = .ok (.aload_n 2, 1) := by decide +kernel
theorem dX4_enterCourse_10 : decode cX4_enterCourse 10 = .ok (.iload_n 1, 1) := by decide +kernel
theorem dX4_enterCourse_11 : decode cX4_enterCourse 11 = .ok (.putfield 64, 3) := by decide +kernel
theorem dX4_enterCourse_14 : decode cX4_enterCourse 14 = .ok (.aload_n 2, 1) := by decide +kernel
theorem dX4_enterCourse_15 : decode cX4_enterCourse 15 = .ok (.iconst 0, 1) := by decide +kernel
theorem dX4_enterCourse_16 : decode cX4_enterCourse 16 = .ok (.putfield 67, 3) := by decide +kernel
theorem dX4_enterCourse_19 : decode cX4_enterCourse 19 = .ok (.aload_n 0, 1) := by decide +kernel
theorem dX4_enterCourse_20 : decode cX4_enterCourse 20 = .ok (.dup, 1) := by decide +kernel
theorem dX4_enterCourse_21 : decode cX4_enterCourse 21 = .ok (.getfield 30, 3) := by decide +kernel
theorem dX4_enterCourse_24 : decode cX4_enterCourse 24 = .ok (.iconst 1, 1) := by decide +kernel
theorem dX4_enterCourse_25 : decode cX4_enterCourse 25 = .ok (.iadd, 1) := by decide +kernel
theorem dX4_enterCourse_26 : decode cX4_enterCourse 26 = .ok (.putfield 30, 3) := by decide +kernel
theorem dX4_enterCourse_29 : decode cX4_enterCourse 29 = .ok (.aload_n 2, 1) := by decide +kernel
theorem dX4_enterCourse_30 : decode cX4_enterCourse 30 = .ok (.areturn, 1) := by decide +kernel
def f_X4_enterCourse (i0 : Nat) (v1 : Int32) (σ : gSt) : Option (Nat × gSt) :=
  (f_X4_courseAt i0 (σ 3 i0 3) σ).bind fun p5 =>
  grf 6 p5.1 (gup (gup (gup p5.2 8 p5.1 1 v1) 8 p5.1 2 0) 3 i0 3 (((gup (gup p5.2 8 p5.1 1 v1) 8 p5.1 2 0) 3 i0 3) + 1))
theorem f_X4_enterCourse_ok {i0 : Nat} {v1 : Int32} (hi0 : i0 < 2) {σ : gSt} {r : (Nat × gSt)} (h : f_X4_enterCourse i0 v1 σ = some r) : Mt l w 0 41 yX4_enterCourse cX4_enterCourse 3 (some (.object "ForestLegs$Course")) 1 21 [.ref (w.2.1 3 i0), .int v1] σ (gRf w 8 6 r) := by
  unfold f_X4_enterCourse at h
  refine g_start pn_X4 rfl rfl (Nat.le_of_ble_eq_true rfl) ?_
  show G l w 0 41 RX4 cX4_enterCourse 3 (some (.object "ForestLegs$Course")) 1 21 (gRf w 8 6 r) 0 [some (.ref (w.2.1 3 i0)), some (.int v1), none] [] σ
  refine g_aload_n dX4_enterCourse_0 rfl ?_
  refine g_aload_n dX4_enterCourse_1 rfl ?_
  refine gI_X4_30 (ok_3 hi0) dX4_enterCourse_2 ?_
  obtain ⟨p5, e5, h⟩ := obind h
  refine g_vR1 mv_X4_45 dX4_enterCourse_5 (ok_3 hi0) ⟨by decide, by decide⟩ (Nat.le_of_ble_eq_true rfl) (f_X4_courseAt_ok hi0 e5) (fun b5 => ?_)
  refine g_astore2 dX4_enterCourse_8 ?_
  refine g_aload_n dX4_enterCourse_9 rfl ?_
  refine g_iload_n dX4_enterCourse_10 rfl ?_
  refine gP_X4_64 (ok_8 b5) dX4_enterCourse_11 ?_
  refine g_aload_n dX4_enterCourse_14 rfl ?_
  refine g_iconst dX4_enterCourse_15 kc_0 ?_
  refine gP_X4_67 (ok_8 b5) dX4_enterCourse_16 ?_
  refine g_aload_n dX4_enterCourse_19 rfl ?_
  refine g_dup dX4_enterCourse_20 rfl ?_
  refine gI_X4_30 (ok_3 hi0) dX4_enterCourse_21 ?_
  refine g_iconst dX4_enterCourse_24 kc_1 ?_
  refine g_iadd dX4_enterCourse_25 ?_
  refine gP_X4_30 (ok_3 hi0) dX4_enterCourse_26 ?_
  refine g_aload_n dX4_enterCourse_29 rfl ?_
  exact g_aretB h dX4_enterCourse_30 rfl
theorem dX4_enterRunner_0 : decode cX4_enterRunner 0 = .ok (.aload_n 0, 1) := by decide +kernel
theorem dX4_enterRunner_1 : decode cX4_enterRunner 1 = .ok (.aload_n 0, 1) := by decide +kernel
theorem dX4_enterRunner_2 : decode cX4_enterRunner 2 = .ok (.getfield 34, 3) := by decide +kernel
theorem dX4_enterRunner_5 : decode cX4_enterRunner 5 = .ok (.invokevirtual 53, 3) := by decide +kernel
theorem dX4_enterRunner_8 : decode cX4_enterRunner 8 = .ok (.astore_n 2, 1) := by decide +kernel
theorem dX4_enterRunner_9 : decode cX4_enterRunner 9 = .ok (.aload_n 2, 1) := by decide +kernel
theorem dX4_enterRunner_10 : decode cX4_enterRunner 10 = .ok (.iload_n 1, 1) := by decide +kernel
theorem dX4_enterRunner_11 : decode cX4_enterRunner 11 = .ok (.putfield 70, 3) := by decide +kernel
theorem dX4_enterRunner_14 : decode cX4_enterRunner 14 = .ok (.aload_n 2, 1) := by decide +kernel
theorem dX4_enterRunner_15 : decode cX4_enterRunner 15 = .ok (.iconst 0, 1) := by decide +kernel
theorem dX4_enterRunner_16 : decode cX4_enterRunner 16 = .ok (.putfield 71, 3) := by decide +kernel
theorem dX4_enterRunner_19 : decode cX4_enterRunner 19 = .ok (.aload_n 0, 1) := by decide +kernel
theorem dX4_enterRunner_20 : decode cX4_enterRunner 20 = .ok (.dup, 1) := by decide +kernel
theorem dX4_enterRunner_21 : decode cX4_enterRunner 21 = .ok (.getfield 34, 3) := by decide +kernel
theorem dX4_enterRunner_24 : decode cX4_enterRunner 24 = .ok (.iconst 1, 1) := by decide +kernel
theorem dX4_enterRunner_25 : decode cX4_enterRunner 25 = .ok (.iadd, 1) := by decide +kernel
theorem dX4_enterRunner_26 : decode cX4_enterRunner 26 = .ok (.putfield 34, 3) := by decide +kernel
theorem dX4_enterRunner_29 : decode cX4_enterRunner 29 = .ok (.aload_n 2, 1) := by decide +kernel
theorem dX4_enterRunner_30 : decode cX4_enterRunner 30 = .ok (.areturn, 1) := by decide +kernel
def f_X4_enterRunner (i0 : Nat) (v1 : Int32) (σ : gSt) : Option (Nat × gSt) :=
  (f_X4_runnerAt i0 (σ 3 i0 4) σ).bind fun p5 =>
  grf 20 p5.1 (gup (gup (gup p5.2 10 p5.1 4 v1) 10 p5.1 8 0) 3 i0 4 (((gup (gup p5.2 10 p5.1 4 v1) 10 p5.1 8 0) 3 i0 4) + 1))
theorem f_X4_enterRunner_ok {i0 : Nat} {v1 : Int32} (hi0 : i0 < 2) {σ : gSt} {r : (Nat × gSt)} (h : f_X4_enterRunner i0 v1 σ = some r) : Mt l w 0 41 yX4_enterRunner cX4_enterRunner 3 (some (.object "ForestLegs$Runne\x72")) 1 21 [.ref (w.2.1 3 i0), .int v1] σ (gRf w 10 20 r) := by
  unfold f_X4_enterRunner at h
  refine g_start pn_X4 rfl rfl (Nat.le_of_ble_eq_true rfl) ?_
  show G l w 0 41 RX4 cX4_enterRunner 3 (some (.object "ForestLegs$Runne\x72")) 1 21 (gRf w 10 20 r) 0 [some (.ref (w.2.1 3 i0)), some (.int v1), none] [] σ
  refine g_aload_n dX4_enterRunner_0 rfl ?_
  refine g_aload_n dX4_enterRunner_1 rfl ?_
  refine gI_X4_34 (ok_3 hi0) dX4_enterRunner_2 ?_
  obtain ⟨p5, e5, h⟩ := obind h
  refine g_vR1 mv_X4_53 dX4_enterRunner_5 (ok_3 hi0) ⟨by decide, by decide⟩ (Nat.le_of_ble_eq_true rfl) (f_X4_runnerAt_ok hi0 e5) (fun b5 => ?_)
  refine g_astore2 dX4_enterRunner_8 ?_
  refine g_aload_n dX4_enterRunner_9 rfl ?_
  refine g_iload_n dX4_enterRunner_10 rfl ?_
  refine gP_X4_70 (ok_10 b5) dX4_enterRunner_11 ?_
  refine g_aload_n dX4_enterRunner_14 rfl ?_
  refine g_iconst dX4_enterRunner_15 kc_0 ?_
  refine gP_X4_71 (ok_10 b5) dX4_enterRunner_16 ?_
  refine g_aload_n dX4_enterRunner_19 rfl ?_
  refine g_dup dX4_enterRunner_20 rfl ?_
  refine gI_X4_34 (ok_3 hi0) dX4_enterRunner_21 ?_
  refine g_iconst dX4_enterRunner_24 kc_1 ?_
  refine g_iadd dX4_enterRunner_25 ?_
  refine gP_X4_34 (ok_3 hi0) dX4_enterRunner_26 ?_
  refine g_aload_n dX4_enterRunner_29 rfl ?_
  exact g_aretB h dX4_enterRunner_30 rfl
theorem dX4_isTold_0 : decode cX4_isTold 0 = .ok (.aload_n 0, 1) := by decide +kernel
theorem dX4_isTold_1 : decode cX4_isTold 1 = .ok (.getfield 30, 3) := by decide +kernel
theorem dX4_isTold_4 : decode cX4_isTold 4 = .ok (.ifCond .le 7, 3) := by decide +kernel
theorem dX4_isTold_7 : decode cX4_isTold 7 = .ok (.iconst 1, 1) := by decide +kernel
theorem dX4_isTold_8 : decode cX4_isTold 8 = .ok (.goto 4, 3) := by decide +kernel
theorem dX4_isTold_11 : decode cX4_isTold 11 = .ok (.iconst 0, 1) := by decide +kernel
theorem dX4_isTold_12 : decode cX4_isTold 12 = .ok (.ireturn, 1) := by decide +kernel
def f_X4_isTold (i0 : Nat) (σ : gSt) : Option (Int32 × gSt) :=
  if (σ 3 i0 3) ≤ 0 then
    some (0, σ)
  else
    some (1, σ)
theorem f_X4_isTold_ok {i0 : Nat} (hi0 : i0 < 2) {σ : gSt} {r : (Int32 × gSt)} (h : f_X4_isTold i0 σ = some r) : Mt l w 0 41 yX4_isTold cX4_isTold 1 (some .boolean) 0 0 [.ref (w.2.1 3 i0)] σ (gE (some (.int r.1)) r.2) := by
  unfold f_X4_isTold at h
  refine g_start pn_X4 rfl rfl (Nat.le_of_ble_eq_true rfl) ?_
  show G l w 0 41 RX4 cX4_isTold 1 (some .boolean) 0 0 (gE (some (.int r.1)) r.2) 0 [some (.ref (w.2.1 3 i0))] [] σ
  refine g_aload_n dX4_isTold_0 rfl ?_
  refine gI_X4_30 (ok_3 hi0) dX4_isTold_1 ?_
  refine g_if_le 11 dX4_isTold_4 rfl (fun q => ?_) (fun q => ?_)
  · replace h := gif_t q h
    refine g_iconst dX4_isTold_11 kc_0 ?_
    cases h
    exact g_zret0 dX4_isTold_12 rfl
  · replace h := gif_f q h
    refine g_iconst dX4_isTold_7 kc_1 ?_
    refine g_goto 12 dX4_isTold_8 rfl ?_
    cases h
    exact g_zret1 dX4_isTold_12 rfl
theorem dX4_hasCourse_0 : decode cX4_hasCourse 0 = .ok (.iload_n 1, 1) := by decide +kernel
theorem dX4_hasCourse_1 : decode cX4_hasCourse 1 = .ok (.ifCond .lt 15, 3) := by decide +kernel
theorem dX4_hasCourse_4 : decode cX4_hasCourse 4 = .ok (.iload_n 1, 1) := by decide +kernel
theorem dX4_hasCourse_5 : decode cX4_hasCourse 5 = .ok (.aload_n 0, 1) := by decide +kernel
theorem dX4_hasCourse_6 : decode cX4_hasCourse 6 = .ok (.getfield 30, 3) := by decide +kernel
theorem dX4_hasCourse_9 : decode cX4_hasCourse 9 = .ok (.if_icmp .ge 7, 3) := by decide +kernel
theorem dX4_hasCourse_12 : decode cX4_hasCourse 12 = .ok (.iconst 1, 1) := by decide +kernel
theorem dX4_hasCourse_13 : decode cX4_hasCourse 13 = .ok (.goto 4, 3) := by decide +kernel
theorem dX4_hasCourse_16 : decode cX4_hasCourse 16 = .ok (.iconst 0, 1) := by decide +kernel
theorem dX4_hasCourse_17 : decode cX4_hasCourse 17 = .ok (.ireturn, 1) := by decide +kernel
def f_X4_hasCourse (i0 : Nat) (v1 : Int32) (σ : gSt) : Option (Int32 × gSt) :=
  if v1 < 0 then
    some (0, σ)
  else
    if (σ 3 i0 3) ≤ v1 then
      some (0, σ)
    else
      some (1, σ)
theorem f_X4_hasCourse_ok {i0 : Nat} {v1 : Int32} (hi0 : i0 < 2) {σ : gSt} {r : (Int32 × gSt)} (h : f_X4_hasCourse i0 v1 σ = some r) : Mt l w 0 41 yX4_hasCourse cX4_hasCourse 2 (some .boolean) 0 0 [.ref (w.2.1 3 i0), .int v1] σ (gE (some (.int r.1)) r.2) := by
  unfold f_X4_hasCourse at h
  refine g_start pn_X4 rfl rfl (Nat.le_of_ble_eq_true rfl) ?_
  show G l w 0 41 RX4 cX4_hasCourse 2 (some .boolean) 0 0 (gE (some (.int r.1)) r.2) 0 [some (.ref (w.2.1 3 i0)), some (.int v1)] [] σ
  refine g_iload_n dX4_hasCourse_0 rfl ?_
  refine g_if_lt 16 dX4_hasCourse_1 rfl (fun q => ?_) (fun q => ?_)
  · replace h := gif_t q h
    refine g_iconst dX4_hasCourse_16 kc_0 ?_
    cases h
    exact g_zret0 dX4_hasCourse_17 rfl
  · replace h := gif_f q h
    refine g_iload_n dX4_hasCourse_4 rfl ?_
    refine g_aload_n dX4_hasCourse_5 rfl ?_
    refine gI_X4_30 (ok_3 hi0) dX4_hasCourse_6 ?_
    refine g_icmp_ge 16 dX4_hasCourse_9 rfl (fun q => ?_) (fun q => ?_)
    · replace h := gif_t q h
      refine g_iconst dX4_hasCourse_16 kc_0 ?_
      cases h
      exact g_zret0 dX4_hasCourse_17 rfl
    · replace h := gif_f q h
      refine g_iconst dX4_hasCourse_12 kc_1 ?_
      refine g_goto 17 dX4_hasCourse_13 rfl ?_
      cases h
      exact g_zret1 dX4_hasCourse_17 rfl
theorem dX4_hasControl_0 : decode cX4_hasControl 0 = .ok (.aload_n 0, 1) := by decide +kernel
theorem dX4_hasControl_1 : decode cX4_hasControl 1 = .ok (.iload_n 1, 1) := by decide +kernel
theorem dX4_hasControl_2 : decode cX4_hasControl 2 = .ok (.invokevirtual 74, 3) := by decide +kernel
theorem dX4_hasControl_5 : decode cX4_hasControl 5 = .ok (.ifCond .eq 19, 3) := by decide +kernel
theorem dX4_hasControl_8 : decode cX4_hasControl 8 = .ok (.aload_n 0, 1) := by decide +kernel
theorem dX4_hasControl_9 : decode cX4_hasControl 9 = .ok (.iload_n 1, 1) := by decide +kernel
theorem dX4_hasControl_10 : decode cX4_hasControl 10 = .ok (.invokevirtual 45, 3) := by decide +kernel
theorem dX4_hasControl_13 : decode cX4_hasControl 13 = .ok (.iload_n 2, 1) := by decide +kernel
theorem dX4_hasControl_14 : decode cX4_hasControl 14 = .ok (.invokevirtual 78, 3) := by decide +kernel
theorem dX4_hasControl_17 : decode cX4_hasControl 17 = .ok (.ifCond .eq 7, 3) := by decide +kernel
theorem dX4_hasControl_20 : decode cX4_hasControl 20 = .ok (.iconst 1, 1) := by decide +kernel
theorem dX4_hasControl_21 : decode cX4_hasControl 21 = .ok (.goto 4, 3) := by decide +kernel
theorem dX4_hasControl_24 : decode cX4_hasControl 24 = .ok (.iconst 0, 1) := by decide +kernel
theorem dX4_hasControl_25 : decode cX4_hasControl 25 = .ok (.ireturn, 1) := by decide +kernel
def f_X4_hasControl (i0 : Nat) (v1 : Int32) (v2 : Int32) (σ : gSt) : Option (Int32 × gSt) :=
  (f_X4_hasCourse i0 v1 σ).bind fun p2 =>
  if p2.1 = 0 then
    some (0, p2.2)
  else
    (f_X4_courseAt i0 v1 p2.2).bind fun p10 =>
    (f_X1_has p10.1 v2 p10.2).bind fun p14 =>
    if p14.1 = 0 then
      some (0, p14.2)
    else
      some (1, p14.2)
theorem f_X4_hasControl_ok {i0 : Nat} {v1 : Int32} {v2 : Int32} (hi0 : i0 < 2) {σ : gSt} {r : (Int32 × gSt)} (h : f_X4_hasControl i0 v1 v2 σ = some r) : Mt l w 0 41 yX4_hasControl cX4_hasControl 3 (some .boolean) 1 21 [.ref (w.2.1 3 i0), .int v1, .int v2] σ (gE (some (.int r.1)) r.2) := by
  unfold f_X4_hasControl at h
  refine g_start pn_X4 rfl rfl (Nat.le_of_ble_eq_true rfl) ?_
  show G l w 0 41 RX4 cX4_hasControl 3 (some .boolean) 1 21 (gE (some (.int r.1)) r.2) 0 [some (.ref (w.2.1 3 i0)), some (.int v1), some (.int v2)] [] σ
  refine g_aload_n dX4_hasControl_0 rfl ?_
  refine g_iload_n dX4_hasControl_1 rfl ?_
  obtain ⟨p2, e2, h⟩ := obind h
  refine g_vP1 mv_X4_74 dX4_hasControl_2 (ok_3 hi0) ⟨by decide, by decide⟩ (Nat.le_of_ble_eq_true rfl) (f_X4_hasCourse_ok hi0 e2) ?_
  refine g_if_eq 24 dX4_hasControl_5 rfl (fun q => ?_) (fun q => ?_)
  · replace h := gif_t q h
    refine g_iconst dX4_hasControl_24 kc_0 ?_
    cases h
    exact g_zret0 dX4_hasControl_25 rfl
  · replace h := gif_f q h
    refine g_aload_n dX4_hasControl_8 rfl ?_
    refine g_iload_n dX4_hasControl_9 rfl ?_
    obtain ⟨p10, e10, h⟩ := obind h
    refine g_vR1 mv_X4_45 dX4_hasControl_10 (ok_3 hi0) ⟨by decide, by decide⟩ (Nat.le_of_ble_eq_true rfl) (f_X4_courseAt_ok hi0 e10) (fun b10 => ?_)
    refine g_iload_n dX4_hasControl_13 rfl ?_
    obtain ⟨p14, e14, h⟩ := obind h
    refine g_vP1 mv_X4_78 dX4_hasControl_14 (ok_8 b10) ⟨by decide, by decide⟩ (Nat.le_of_ble_eq_true rfl) (f_X1_has_ok b10 e14) ?_
    refine g_if_eq 24 dX4_hasControl_17 rfl (fun q => ?_) (fun q => ?_)
    · replace h := gif_t q h
      refine g_iconst dX4_hasControl_24 kc_0 ?_
      cases h
      exact g_zret0 dX4_hasControl_25 rfl
    · replace h := gif_f q h
      refine g_iconst dX4_hasControl_20 kc_1 ?_
      refine g_goto 25 dX4_hasControl_21 rfl ?_
      cases h
      exact g_zret1 dX4_hasControl_25 rfl
theorem dX4_hasPoint_0 : decode cX4_hasPoint 0 = .ok (.aload_n 0, 1) := by decide +kernel
theorem dX4_hasPoint_1 : decode cX4_hasPoint 1 = .ok (.iload_n 1, 1) := by decide +kernel
theorem dX4_hasPoint_2 : decode cX4_hasPoint 2 = .ok (.invokevirtual 74, 3) := by decide +kernel
theorem dX4_hasPoint_5 : decode cX4_hasPoint 5 = .ok (.ifCond .eq 23, 3) := by decide +kernel
theorem dX4_hasPoint_8 : decode cX4_hasPoint 8 = .ok (.iload_n 2, 1) := by decide +kernel
theorem dX4_hasPoint_9 : decode cX4_hasPoint 9 = .ok (.ifCond .lt 19, 3) := by decide +kernel
theorem dX4_hasPoint_12 : decode cX4_hasPoint 12 = .ok (.iload_n 2, 1) := by decide +kernel
theorem dX4_hasPoint_13 : decode cX4_hasPoint 13 = .ok (.aload_n 0, 1) := by decide +kernel
theorem dX4_hasPoint_14 : decode cX4_hasPoint 14 = .ok (.iload_n 1, 1) := by decide +kernel
theorem dX4_hasPoint_15 : decode cX4_hasPoint 15 = .ok (.invokevirtual 45, 3) := by decide +kernel
theorem dX4_hasPoint_18 : decode cX4_hasPoint 18 = .ok (.getfield 67, 3) := by decide +kernel
theorem dX4_hasPoint_21 : decode cX4_hasPoint 21 = .ok (.if_icmp .gt 7, 3) := by decide +kernel
theorem dX4_hasPoint_24 : decode cX4_hasPoint 24 = .ok (.iconst 1, 1) := by decide +kernel
theorem dX4_hasPoint_25 : decode cX4_hasPoint 25 = .ok (.goto 4, 3) := by decide +kernel
theorem dX4_hasPoint_28 : decode cX4_hasPoint 28 = .ok (.iconst 0, 1) := by decide +kernel
theorem dX4_hasPoint_29 : decode cX4_hasPoint 29 = .ok (.ireturn, 1) := by decide +kernel
def f_X4_hasPoint (i0 : Nat) (v1 : Int32) (v2 : Int32) (σ : gSt) : Option (Int32 × gSt) :=
  (f_X4_hasCourse i0 v1 σ).bind fun p2 =>
  if p2.1 = 0 then
    some (0, p2.2)
  else
    if v2 < 0 then
      some (0, p2.2)
    else
      (f_X4_courseAt i0 v1 p2.2).bind fun p15 =>
      if (p15.2 8 p15.1 2) < v2 then
        some (0, p15.2)
      else
        some (1, p15.2)
theorem f_X4_hasPoint_ok {i0 : Nat} {v1 : Int32} {v2 : Int32} (hi0 : i0 < 2) {σ : gSt} {r : (Int32 × gSt)} (h : f_X4_hasPoint i0 v1 v2 σ = some r) : Mt l w 0 41 yX4_hasPoint cX4_hasPoint 3 (some .boolean) 1 21 [.ref (w.2.1 3 i0), .int v1, .int v2] σ (gE (some (.int r.1)) r.2) := by
  unfold f_X4_hasPoint at h
  refine g_start pn_X4 rfl rfl (Nat.le_of_ble_eq_true rfl) ?_
  show G l w 0 41 RX4 cX4_hasPoint 3 (some .boolean) 1 21 (gE (some (.int r.1)) r.2) 0 [some (.ref (w.2.1 3 i0)), some (.int v1), some (.int v2)] [] σ
  refine g_aload_n dX4_hasPoint_0 rfl ?_
  refine g_iload_n dX4_hasPoint_1 rfl ?_
  obtain ⟨p2, e2, h⟩ := obind h
  refine g_vP1 mv_X4_74 dX4_hasPoint_2 (ok_3 hi0) ⟨by decide, by decide⟩ (Nat.le_of_ble_eq_true rfl) (f_X4_hasCourse_ok hi0 e2) ?_
  refine g_if_eq 28 dX4_hasPoint_5 rfl (fun q => ?_) (fun q => ?_)
  · replace h := gif_t q h
    refine g_iconst dX4_hasPoint_28 kc_0 ?_
    cases h
    exact g_zret0 dX4_hasPoint_29 rfl
  · replace h := gif_f q h
    refine g_iload_n dX4_hasPoint_8 rfl ?_
    refine g_if_lt 28 dX4_hasPoint_9 rfl (fun q => ?_) (fun q => ?_)
    · replace h := gif_t q h
      refine g_iconst dX4_hasPoint_28 kc_0 ?_
      cases h
      exact g_zret0 dX4_hasPoint_29 rfl
    · replace h := gif_f q h
      refine g_iload_n dX4_hasPoint_12 rfl ?_
      refine g_aload_n dX4_hasPoint_13 rfl ?_
      refine g_iload_n dX4_hasPoint_14 rfl ?_
      obtain ⟨p15, e15, h⟩ := obind h
      refine g_vR1 mv_X4_45 dX4_hasPoint_15 (ok_3 hi0) ⟨by decide, by decide⟩ (Nat.le_of_ble_eq_true rfl) (f_X4_courseAt_ok hi0 e15) (fun b15 => ?_)
      refine gI_X4_67 (ok_8 b15) dX4_hasPoint_18 ?_
      refine g_icmp_gt 28 dX4_hasPoint_21 rfl (fun q => ?_) (fun q => ?_)
      · replace h := gif_t q h
        refine g_iconst dX4_hasPoint_28 kc_0 ?_
        cases h
        exact g_zret0 dX4_hasPoint_29 rfl
      · replace h := gif_f q h
        refine g_iconst dX4_hasPoint_24 kc_1 ?_
        refine g_goto 29 dX4_hasPoint_25 rfl ?_
        cases h
        exact g_zret1 dX4_hasPoint_29 rfl
theorem dX4_hasRunnerPoint_0 : decode cX4_hasRunnerPoint 0 = .ok (.aload_n 0, 1) := by decide +kernel
theorem dX4_hasRunnerPoint_1 : decode cX4_hasRunnerPoint 1 = .ok (.iload_n 1, 1) := by decide +kernel
theorem dX4_hasRunnerPoint_2 : decode cX4_hasRunnerPoint 2 = .ok (.invokevirtual 81, 3) := by decide +kernel
theorem dX4_hasRunnerPoint_5 : decode cX4_hasRunnerPoint 5 = .ok (.ifCond .eq 23, 3) := by decide +kernel
theorem dX4_hasRunnerPoint_8 : decode cX4_hasRunnerPoint 8 = .ok (.iload_n 2, 1) := by decide +kernel
theorem dX4_hasRunnerPoint_9 : decode cX4_hasRunnerPoint 9 = .ok (.ifCond .lt 19, 3) := by decide +kernel
theorem dX4_hasRunnerPoint_12 : decode cX4_hasRunnerPoint 12 = .ok (.iload_n 2, 1) := by decide +kernel
theorem dX4_hasRunnerPoint_13 : decode cX4_hasRunnerPoint 13 = .ok (.aload_n 0, 1) := by decide +kernel
theorem dX4_hasRunnerPoint_14 : decode cX4_hasRunnerPoint 14 = .ok (.iload_n 1, 1) := by decide +kernel
theorem dX4_hasRunnerPoint_15 : decode cX4_hasRunnerPoint 15 = .ok (.invokevirtual 53, 3) := by decide +kernel
theorem dX4_hasRunnerPoint_18 : decode cX4_hasRunnerPoint 18 = .ok (.getfield 84, 3) := by decide +kernel
theorem dX4_hasRunnerPoint_21 : decode cX4_hasRunnerPoint 21 = .ok (.if_icmp .gt 7, 3) := by decide +kernel
theorem dX4_hasRunnerPoint_24 : decode cX4_hasRunnerPoint 24 = .ok (.iconst 1, 1) := by decide +kernel
theorem dX4_hasRunnerPoint_25 : decode cX4_hasRunnerPoint 25 = .ok (.goto 4, 3) := by decide +kernel
theorem dX4_hasRunnerPoint_28 : decode cX4_hasRunnerPoint 28 = .ok (.iconst 0, 1) := by decide +kernel
theorem dX4_hasRunnerPoint_29 : decode cX4_hasRunnerPoint 29 = .ok (.ireturn, 1) := by decide +kernel
def f_X4_hasRunnerPoint (i0 : Nat) (v1 : Int32) (v2 : Int32) (σ : gSt) : Option (Int32 × gSt) :=
  (f_X4_hasRunner i0 v1 σ).bind fun p2 =>
  if p2.1 = 0 then
    some (0, p2.2)
  else
    if v2 < 0 then
      some (0, p2.2)
    else
      (f_X4_runnerAt i0 v1 p2.2).bind fun p15 =>
      if (p15.2 10 p15.1 9) < v2 then
        some (0, p15.2)
      else
        some (1, p15.2)
theorem f_X4_hasRunnerPoint_ok {i0 : Nat} {v1 : Int32} {v2 : Int32} (hi0 : i0 < 2) {σ : gSt} {r : (Int32 × gSt)} (h : f_X4_hasRunnerPoint i0 v1 v2 σ = some r) : Mt l w 0 41 yX4_hasRunnerPoint cX4_hasRunnerPoint 3 (some .boolean) 1 21 [.ref (w.2.1 3 i0), .int v1, .int v2] σ (gE (some (.int r.1)) r.2) := by
  unfold f_X4_hasRunnerPoint at h
  refine g_start pn_X4 rfl rfl (Nat.le_of_ble_eq_true rfl) ?_
  show G l w 0 41 RX4 cX4_hasRunnerPoint 3 (some .boolean) 1 21 (gE (some (.int r.1)) r.2) 0 [some (.ref (w.2.1 3 i0)), some (.int v1), some (.int v2)] [] σ
  refine g_aload_n dX4_hasRunnerPoint_0 rfl ?_
  refine g_iload_n dX4_hasRunnerPoint_1 rfl ?_
  obtain ⟨p2, e2, h⟩ := obind h
  refine g_vP1 mv_X4_81 dX4_hasRunnerPoint_2 (ok_3 hi0) ⟨by decide, by decide⟩ (Nat.le_of_ble_eq_true rfl) (f_X4_hasRunner_ok hi0 e2) ?_
  refine g_if_eq 28 dX4_hasRunnerPoint_5 rfl (fun q => ?_) (fun q => ?_)
  · replace h := gif_t q h
    refine g_iconst dX4_hasRunnerPoint_28 kc_0 ?_
    cases h
    exact g_zret0 dX4_hasRunnerPoint_29 rfl
  · replace h := gif_f q h
    refine g_iload_n dX4_hasRunnerPoint_8 rfl ?_
    refine g_if_lt 28 dX4_hasRunnerPoint_9 rfl (fun q => ?_) (fun q => ?_)
    · replace h := gif_t q h
      refine g_iconst dX4_hasRunnerPoint_28 kc_0 ?_
      cases h
      exact g_zret0 dX4_hasRunnerPoint_29 rfl
    · replace h := gif_f q h
      refine g_iload_n dX4_hasRunnerPoint_12 rfl ?_
      refine g_aload_n dX4_hasRunnerPoint_13 rfl ?_
      refine g_iload_n dX4_hasRunnerPoint_14 rfl ?_
      obtain ⟨p15, e15, h⟩ := obind h
      refine g_vR1 mv_X4_53 dX4_hasRunnerPoint_15 (ok_3 hi0) ⟨by decide, by decide⟩ (Nat.le_of_ble_eq_true rfl) (f_X4_runnerAt_ok hi0 e15) (fun b15 => ?_)
      refine gI_X4_84 (ok_10 b15) dX4_hasRunnerPoint_18 ?_
      refine g_icmp_gt 28 dX4_hasRunnerPoint_21 rfl (fun q => ?_) (fun q => ?_)
      · replace h := gif_t q h
        refine g_iconst dX4_hasRunnerPoint_28 kc_0 ?_
        cases h
        exact g_zret0 dX4_hasRunnerPoint_29 rfl
      · replace h := gif_f q h
        refine g_iconst dX4_hasRunnerPoint_24 kc_1 ?_
        refine g_goto 29 dX4_hasRunnerPoint_25 rfl ?_
        cases h
        exact g_zret1 dX4_hasRunnerPoint_29 rfl
theorem dX4_hasPunch_0 : decode cX4_hasPunch 0 = .ok (.aload_n 0, 1) := by decide +kernel
theorem dX4_hasPunch_1 : decode cX4_hasPunch 1 = .ok (.iload_n 1, 1) := by decide +kernel
theorem dX4_hasPunch_2 : decode cX4_hasPunch 2 = .ok (.invokevirtual 81, 3) := by decide +kernel
theorem dX4_hasPunch_5 : decode cX4_hasPunch 5 = .ok (.ifCond .eq 19, 3) := by decide +kernel
theorem dX4_hasPunch_8 : decode cX4_hasPunch 8 = .ok (.aload_n 0, 1) := by decide +kernel
theorem dX4_hasPunch_9 : decode cX4_hasPunch 9 = .ok (.iload_n 1, 1) := by decide +kernel
theorem dX4_hasPunch_10 : decode cX4_hasPunch 10 = .ok (.invokevirtual 53, 3) := by decide +kernel
theorem dX4_hasPunch_13 : decode cX4_hasPunch 13 = .ok (.iload_n 2, 1) := by decide +kernel
theorem dX4_hasPunch_14 : decode cX4_hasPunch 14 = .ok (.invokevirtual 85, 3) := by decide +kernel
theorem dX4_hasPunch_17 : decode cX4_hasPunch 17 = .ok (.ifCond .eq 7, 3) := by decide +kernel
theorem dX4_hasPunch_20 : decode cX4_hasPunch 20 = .ok (.iconst 1, 1) := by decide +kernel
theorem dX4_hasPunch_21 : decode cX4_hasPunch 21 = .ok (.goto 4, 3) := by decide +kernel
theorem dX4_hasPunch_24 : decode cX4_hasPunch 24 = .ok (.iconst 0, 1) := by decide +kernel
theorem dX4_hasPunch_25 : decode cX4_hasPunch 25 = .ok (.ireturn, 1) := by decide +kernel
def f_X4_hasPunch (i0 : Nat) (v1 : Int32) (v2 : Int32) (σ : gSt) : Option (Int32 × gSt) :=
  (f_X4_hasRunner i0 v1 σ).bind fun p2 =>
  if p2.1 = 0 then
    some (0, p2.2)
  else
    (f_X4_runnerAt i0 v1 p2.2).bind fun p10 =>
    (f_X9_has p10.1 v2 p10.2).bind fun p14 =>
    if p14.1 = 0 then
      some (0, p14.2)
    else
      some (1, p14.2)
theorem f_X4_hasPunch_ok {i0 : Nat} {v1 : Int32} {v2 : Int32} (hi0 : i0 < 2) {σ : gSt} {r : (Int32 × gSt)} (h : f_X4_hasPunch i0 v1 v2 σ = some r) : Mt l w 0 41 yX4_hasPunch cX4_hasPunch 3 (some .boolean) 1 21 [.ref (w.2.1 3 i0), .int v1, .int v2] σ (gE (some (.int r.1)) r.2) := by
  unfold f_X4_hasPunch at h
  refine g_start pn_X4 rfl rfl (Nat.le_of_ble_eq_true rfl) ?_
  show G l w 0 41 RX4 cX4_hasPunch 3 (some .boolean) 1 21 (gE (some (.int r.1)) r.2) 0 [some (.ref (w.2.1 3 i0)), some (.int v1), some (.int v2)] [] σ
  refine g_aload_n dX4_hasPunch_0 rfl ?_
  refine g_iload_n dX4_hasPunch_1 rfl ?_
  obtain ⟨p2, e2, h⟩ := obind h
  refine g_vP1 mv_X4_81 dX4_hasPunch_2 (ok_3 hi0) ⟨by decide, by decide⟩ (Nat.le_of_ble_eq_true rfl) (f_X4_hasRunner_ok hi0 e2) ?_
  refine g_if_eq 24 dX4_hasPunch_5 rfl (fun q => ?_) (fun q => ?_)
  · replace h := gif_t q h
    refine g_iconst dX4_hasPunch_24 kc_0 ?_
    cases h
    exact g_zret0 dX4_hasPunch_25 rfl
  · replace h := gif_f q h
    refine g_aload_n dX4_hasPunch_8 rfl ?_
    refine g_iload_n dX4_hasPunch_9 rfl ?_
    obtain ⟨p10, e10, h⟩ := obind h
    refine g_vR1 mv_X4_53 dX4_hasPunch_10 (ok_3 hi0) ⟨by decide, by decide⟩ (Nat.le_of_ble_eq_true rfl) (f_X4_runnerAt_ok hi0 e10) (fun b10 => ?_)
    refine g_iload_n dX4_hasPunch_13 rfl ?_
    obtain ⟨p14, e14, h⟩ := obind h
    refine g_vP1 mv_X4_85 dX4_hasPunch_14 (ok_10 b10) ⟨by decide, by decide⟩ (Nat.le_of_ble_eq_true rfl) (f_X9_has_ok b10 e14) ?_
    refine g_if_eq 24 dX4_hasPunch_17 rfl (fun q => ?_) (fun q => ?_)
    · replace h := gif_t q h
      refine g_iconst dX4_hasPunch_24 kc_0 ?_
      cases h
      exact g_zret0 dX4_hasPunch_25 rfl
    · replace h := gif_f q h
      refine g_iconst dX4_hasPunch_20 kc_1 ?_
      refine g_goto 25 dX4_hasPunch_21 rfl ?_
      cases h
      exact g_zret1 dX4_hasPunch_25 rfl
theorem dX4_courseNamed_0 : decode cX4_courseNamed 0 = .ok (.iconst 0, 1) := by decide +kernel
theorem dX4_courseNamed_1 : decode cX4_courseNamed 1 = .ok (.istore_n 2, 1) := by decide +kernel
theorem dX4_courseNamed_2 : decode cX4_courseNamed 2 = .ok (.iload_n 2, 1) := by decide +kernel
theorem dX4_courseNamed_3 : decode cX4_courseNamed 3 = .ok (.aload_n 0, 1) := by decide +kernel
theorem dX4_courseNamed_4 : decode cX4_courseNamed 4 = .ok (.getfield 30, 3) := by decide +kernel
theorem dX4_courseNamed_7 : decode cX4_courseNamed 7 = .ok (.if_icmp .ge 23, 3) := by decide +kernel
theorem dX4_courseNamed_10 : decode cX4_courseNamed 10 = .ok (.aload_n 0, 1) := by decide +kernel
theorem dX4_courseNamed_11 : decode cX4_courseNamed 11 = .ok (.iload_n 2, 1) := by decide +kernel
theorem dX4_courseNamed_12 : decode cX4_courseNamed 12 = .ok (.invokevirtual 45, 3) := by decide +kernel
theorem dX4_courseNamed_15 : decode cX4_courseNamed 15 = .ok (.getfield 64, 3) := by decide +kernel
theorem dX4_courseNamed_18 : decode cX4_courseNamed 18 = .ok (.iload_n 1, 1) := by decide +kernel
theorem dX4_courseNamed_19 : decode cX4_courseNamed 19 = .ok (.if_icmp .ne 5, 3) := by decide +kernel
theorem dX4_courseNamed_22 : decode cX4_courseNamed 22 = .ok (.iload_n 2, 1) := by decide +kernel
theorem dX4_courseNamed_23 : decode cX4_courseNamed 23 = .ok (.ireturn, 1) := by decide +kernel
theorem dX4_courseNamed_24 : decode cX4_courseNamed 24 = .ok (.iinc 2 1, 3) := by decide +kernel
theorem dX4_courseNamed_27 : decode cX4_courseNamed 27 = .ok (.goto (-25), 3) := by decide +kernel
theorem dX4_courseNamed_30 : decode cX4_courseNamed 30 = .ok (.iconst (-1), 1) := by decide +kernel
theorem dX4_courseNamed_31 : decode cX4_courseNamed 31 = .ok (.ireturn, 1) := by decide +kernel
def f_X4_courseNamed_2 (i0 : Nat) (v1 : Int32) : Nat → Int32 → gSt → Option (Int32 × gSt)
  | 0, _, _ => none
  | n + 1, v2, σ =>
    if (σ 3 i0 3) ≤ v2 then
      some ((-1), σ)
    else
      (f_X4_courseAt i0 v2 σ).bind fun p12 =>
      if (p12.2 8 p12.1 1) = v1 then
        some (v2, p12.2)
      else
        f_X4_courseNamed_2 i0 v1 n (v2 + 1) p12.2
def f_X4_courseNamed (i0 : Nat) (v1 : Int32) (σ : gSt) : Option (Int32 × gSt) :=
  f_X4_courseNamed_2 i0 v1 gFuel 0 σ
theorem f_X4_courseNamed_2_ok {i0 : Nat} {v1 : Int32} {r : (Int32 × gSt)} (hi0 : i0 < 2) : ∀ (n : Nat) {v2 : Int32} {σ : gSt} , f_X4_courseNamed_2 i0 v1 n v2 σ = some r → G l w 0 41 RX4 cX4_courseNamed 3 (some .int) 1 21 (gE (some (.int r.1)) r.2) 2 [some (.ref (w.2.1 3 i0)), some (.int v1), some (.int v2)] [] σ := by
  intro n
  induction n with
  | zero => intro v2 σ h; rw [f_X4_courseNamed_2] at h; cases h
  | succ n ih =>
    intro v2 σ h
    rw [f_X4_courseNamed_2] at h
    refine g_iload_n dX4_courseNamed_2 rfl ?_
    refine g_aload_n dX4_courseNamed_3 rfl ?_
    refine gI_X4_30 (ok_3 hi0) dX4_courseNamed_4 ?_
    refine g_icmp_ge 30 dX4_courseNamed_7 rfl (fun q => ?_) (fun q => ?_)
    · replace h := gif_t q h
      refine g_iconst dX4_courseNamed_30 kc_m1 ?_
      cases h
      exact g_iret dX4_courseNamed_31 rfl ⟨rfl, rfl⟩
    · replace h := gif_f q h
      refine g_aload_n dX4_courseNamed_10 rfl ?_
      refine g_iload_n dX4_courseNamed_11 rfl ?_
      obtain ⟨p12, e12, h⟩ := obind h
      refine g_vR1 mv_X4_45 dX4_courseNamed_12 (ok_3 hi0) ⟨by decide, by decide⟩ (Nat.le_of_ble_eq_true rfl) (f_X4_courseAt_ok hi0 e12) (fun b12 => ?_)
      refine gI_X4_64 (ok_8 b12) dX4_courseNamed_15 ?_
      refine g_iload_n dX4_courseNamed_18 rfl ?_
      refine g_icmp_ne 24 dX4_courseNamed_19 rfl (fun q => ?_) (fun q => ?_)
      · replace h := gif_f q h
        refine g_inc2 kc_1 dX4_courseNamed_24 ?_
        refine g_goto 2 dX4_courseNamed_27 rfl ?_
        exact ih h
      · replace h := gif_t q h
        refine g_iload_n dX4_courseNamed_22 rfl ?_
        cases h
        exact g_iret dX4_courseNamed_23 rfl ⟨rfl, rfl⟩
theorem f_X4_courseNamed_ok {i0 : Nat} {v1 : Int32} (hi0 : i0 < 2) {σ : gSt} {r : (Int32 × gSt)} (h : f_X4_courseNamed i0 v1 σ = some r) : Mt l w 0 41 yX4_courseNamed cX4_courseNamed 3 (some .int) 1 21 [.ref (w.2.1 3 i0), .int v1] σ (gE (some (.int r.1)) r.2) := by
  unfold f_X4_courseNamed at h
  refine g_start pn_X4 rfl rfl (Nat.le_of_ble_eq_true rfl) ?_
  show G l w 0 41 RX4 cX4_courseNamed 3 (some .int) 1 21 (gE (some (.int r.1)) r.2) 0 [some (.ref (w.2.1 3 i0)), some (.int v1), none] [] σ
  refine g_iconst dX4_courseNamed_0 kc_0 ?_
  refine g_istore2 dX4_courseNamed_1 ?_
  exact f_X4_courseNamed_2_ok hi0 gFuel h
theorem dX4_runnerNamed_0 : decode cX4_runnerNamed 0 = .ok (.iconst 0, 1) := by decide +kernel
theorem dX4_runnerNamed_1 : decode cX4_runnerNamed 1 = .ok (.istore_n 2, 1) := by decide +kernel
theorem dX4_runnerNamed_2 : decode cX4_runnerNamed 2 = .ok (.iload_n 2, 1) := by decide +kernel
theorem dX4_runnerNamed_3 : decode cX4_runnerNamed 3 = .ok (.aload_n 0, 1) := by decide +kernel
theorem dX4_runnerNamed_4 : decode cX4_runnerNamed 4 = .ok (.getfield 34, 3) := by decide +kernel
theorem dX4_runnerNamed_7 : decode cX4_runnerNamed 7 = .ok (.if_icmp .ge 23, 3) := by decide +kernel
theorem dX4_runnerNamed_10 : decode cX4_runnerNamed 10 = .ok (.aload_n 0, 1) := by decide +kernel
theorem dX4_runnerNamed_11 : decode cX4_runnerNamed 11 = .ok (.iload_n 2, 1) := by decide +kernel
theorem dX4_runnerNamed_12 : decode cX4_runnerNamed 12 = .ok (.invokevirtual 53, 3) := by decide +kernel
theorem dX4_runnerNamed_15 : decode cX4_runnerNamed 15 = .ok (.getfield 70, 3) := by decide +kernel
theorem dX4_runnerNamed_18 : decode cX4_runnerNamed 18 = .ok (.iload_n 1, 1) := by decide +kernel
theorem dX4_runnerNamed_19 : decode cX4_runnerNamed 19 = .ok (.if_icmp .ne 5, 3) := by decide +kernel
theorem dX4_runnerNamed_22 : decode cX4_runnerNamed 22 = .ok (.iload_n 2, 1) := by decide +kernel
theorem dX4_runnerNamed_23 : decode cX4_runnerNamed 23 = .ok (.ireturn, 1) := by decide +kernel
theorem dX4_runnerNamed_24 : decode cX4_runnerNamed 24 = .ok (.iinc 2 1, 3) := by decide +kernel
theorem dX4_runnerNamed_27 : decode cX4_runnerNamed 27 = .ok (.goto (-25), 3) := by decide +kernel
theorem dX4_runnerNamed_30 : decode cX4_runnerNamed 30 = .ok (.iconst (-1), 1) := by decide +kernel
theorem dX4_runnerNamed_31 : decode cX4_runnerNamed 31 = .ok (.ireturn, 1) := by decide +kernel
def f_X4_runnerNamed_2 (i0 : Nat) (v1 : Int32) : Nat → Int32 → gSt → Option (Int32 × gSt)
  | 0, _, _ => none
  | n + 1, v2, σ =>
    if (σ 3 i0 4) ≤ v2 then
      some ((-1), σ)
    else
      (f_X4_runnerAt i0 v2 σ).bind fun p12 =>
      if (p12.2 10 p12.1 4) = v1 then
        some (v2, p12.2)
      else
        f_X4_runnerNamed_2 i0 v1 n (v2 + 1) p12.2
def f_X4_runnerNamed (i0 : Nat) (v1 : Int32) (σ : gSt) : Option (Int32 × gSt) :=
  f_X4_runnerNamed_2 i0 v1 gFuel 0 σ
theorem f_X4_runnerNamed_2_ok {i0 : Nat} {v1 : Int32} {r : (Int32 × gSt)} (hi0 : i0 < 2) : ∀ (n : Nat) {v2 : Int32} {σ : gSt} , f_X4_runnerNamed_2 i0 v1 n v2 σ = some r → G l w 0 41 RX4 cX4_runnerNamed 3 (some .int) 1 21 (gE (some (.int r.1)) r.2) 2 [some (.ref (w.2.1 3 i0)), some (.int v1), some (.int v2)] [] σ := by
  intro n
  induction n with
  | zero => intro v2 σ h; rw [f_X4_runnerNamed_2] at h; cases h
  | succ n ih =>
    intro v2 σ h
    rw [f_X4_runnerNamed_2] at h
    refine g_iload_n dX4_runnerNamed_2 rfl ?_
    refine g_aload_n dX4_runnerNamed_3 rfl ?_
    refine gI_X4_34 (ok_3 hi0) dX4_runnerNamed_4 ?_
    refine g_icmp_ge 30 dX4_runnerNamed_7 rfl (fun q => ?_) (fun q => ?_)
    · replace h := gif_t q h
      refine g_iconst dX4_runnerNamed_30 kc_m1 ?_
      cases h
      exact g_iret dX4_runnerNamed_31 rfl ⟨rfl, rfl⟩
    · replace h := gif_f q h
      refine g_aload_n dX4_runnerNamed_10 rfl ?_
      refine g_iload_n dX4_runnerNamed_11 rfl ?_
      obtain ⟨p12, e12, h⟩ := obind h
      refine g_vR1 mv_X4_53 dX4_runnerNamed_12 (ok_3 hi0) ⟨by decide, by decide⟩ (Nat.le_of_ble_eq_true rfl) (f_X4_runnerAt_ok hi0 e12) (fun b12 => ?_)
      refine gI_X4_70 (ok_10 b12) dX4_runnerNamed_15 ?_
      refine g_iload_n dX4_runnerNamed_18 rfl ?_
      refine g_icmp_ne 24 dX4_runnerNamed_19 rfl (fun q => ?_) (fun q => ?_)
      · replace h := gif_f q h
        refine g_inc2 kc_1 dX4_runnerNamed_24 ?_
        refine g_goto 2 dX4_runnerNamed_27 rfl ?_
        exact ih h
      · replace h := gif_t q h
        refine g_iload_n dX4_runnerNamed_22 rfl ?_
        cases h
        exact g_iret dX4_runnerNamed_23 rfl ⟨rfl, rfl⟩
theorem f_X4_runnerNamed_ok {i0 : Nat} {v1 : Int32} (hi0 : i0 < 2) {σ : gSt} {r : (Int32 × gSt)} (h : f_X4_runnerNamed i0 v1 σ = some r) : Mt l w 0 41 yX4_runnerNamed cX4_runnerNamed 3 (some .int) 1 21 [.ref (w.2.1 3 i0), .int v1] σ (gE (some (.int r.1)) r.2) := by
  unfold f_X4_runnerNamed at h
  refine g_start pn_X4 rfl rfl (Nat.le_of_ble_eq_true rfl) ?_
  show G l w 0 41 RX4 cX4_runnerNamed 3 (some .int) 1 21 (gE (some (.int r.1)) r.2) 0 [some (.ref (w.2.1 3 i0)), some (.int v1), none] [] σ
  refine g_iconst dX4_runnerNamed_0 kc_0 ?_
  refine g_istore2 dX4_runnerNamed_1 ?_
  exact f_X4_runnerNamed_2_ok hi0 gFuel h
theorem dX4_allPunches_0 : decode cX4_allPunches 0 = .ok (.iconst 0, 1) := by decide +kernel
theorem dX4_allPunches_1 : decode cX4_allPunches 1 = .ok (.istore_n 1, 1) := by decide +kernel
theorem dX4_allPunches_2 : decode cX4_allPunches 2 = .ok (.iconst 0, 1) := by decide +kernel
theorem dX4_allPunches_3 : decode cX4_allPunches 3 = .ok (.istore_n 2, 1) := by decide +kernel
theorem dX4_allPunches_4 : decode cX4_allPunches 4 = .ok (.iload_n 2, 1) := by decide +kernel
theorem dX4_allPunches_5 : decode cX4_allPunches 5 = .ok (.aload_n 0, 1) := by decide +kernel
theorem dX4_allPunches_6 : decode cX4_allPunches 6 = .ok (.getfield 34, 3) := by decide +kernel
theorem dX4_allPunches_9 : decode cX4_allPunches 9 = .ok (.if_icmp .ge 20, 3) := by decide +kernel
theorem dX4_allPunches_12 : decode cX4_allPunches 12 = .ok (.iload_n 1, 1) := by decide +kernel
theorem dX4_allPunches_13 : decode cX4_allPunches 13 = .ok (.aload_n 0, 1) := by decide +kernel
theorem dX4_allPunches_14 : decode cX4_allPunches 14 = .ok (.iload_n 2, 1) := by decide +kernel
theorem dX4_allPunches_15 : decode cX4_allPunches 15 = .ok (.invokevirtual 53, 3) := by decide +kernel
theorem dX4_allPunches_18 : decode cX4_allPunches 18 = .ok (.getfield 71, 3) := by decide +kernel
theorem dX4_allPunches_21 : decode cX4_allPunches 21 = .ok (.iadd, 1) := by decide +kernel
theorem dX4_allPunches_22 : decode cX4_allPunches 22 = .ok (.istore_n 1, 1) := by decide +kernel
theorem dX4_allPunches_23 : decode cX4_allPunches 23 = .ok (.iinc 2 1, 3) := by decide +kernel
theorem dX4_allPunches_26 : decode cX4_allPunches 26 = .ok (.goto (-22), 3) := by decide +kernel
theorem dX4_allPunches_29 : decode cX4_allPunches 29 = .ok (.iload_n 1, 1) := by decide +kernel
theorem dX4_allPunches_30 : decode cX4_allPunches 30 = .ok (.ireturn, 1) := by decide +kernel
def f_X4_allPunches_4 (i0 : Nat) : Nat → Int32 → Int32 → gSt → Option (Int32 × gSt)
  | 0, _, _, _ => none
  | n + 1, v1, v2, σ =>
    if (σ 3 i0 4) ≤ v2 then
      some (v1, σ)
    else
      (f_X4_runnerAt i0 v2 σ).bind fun p15 =>
      f_X4_allPunches_4 i0 n (v1 + (p15.2 10 p15.1 8)) (v2 + 1) p15.2
def f_X4_allPunches (i0 : Nat) (σ : gSt) : Option (Int32 × gSt) :=
  f_X4_allPunches_4 i0 gFuel 0 0 σ
theorem f_X4_allPunches_4_ok {i0 : Nat} {r : (Int32 × gSt)} (hi0 : i0 < 2) : ∀ (n : Nat) {v1 : Int32} {v2 : Int32} {σ : gSt} , f_X4_allPunches_4 i0 n v1 v2 σ = some r → G l w 0 41 RX4 cX4_allPunches 3 (some .int) 1 21 (gE (some (.int r.1)) r.2) 4 [some (.ref (w.2.1 3 i0)), some (.int v1), some (.int v2)] [] σ := by
  intro n
  induction n with
  | zero => intro v1 v2 σ h; rw [f_X4_allPunches_4] at h; cases h
  | succ n ih =>
    intro v1 v2 σ h
    rw [f_X4_allPunches_4] at h
    refine g_iload_n dX4_allPunches_4 rfl ?_
    refine g_aload_n dX4_allPunches_5 rfl ?_
    refine gI_X4_34 (ok_3 hi0) dX4_allPunches_6 ?_
    refine g_icmp_ge 29 dX4_allPunches_9 rfl (fun q => ?_) (fun q => ?_)
    · replace h := gif_t q h
      refine g_iload_n dX4_allPunches_29 rfl ?_
      cases h
      exact g_iret dX4_allPunches_30 rfl ⟨rfl, rfl⟩
    · replace h := gif_f q h
      refine g_iload_n dX4_allPunches_12 rfl ?_
      refine g_aload_n dX4_allPunches_13 rfl ?_
      refine g_iload_n dX4_allPunches_14 rfl ?_
      obtain ⟨p15, e15, h⟩ := obind h
      refine g_vR1 mv_X4_53 dX4_allPunches_15 (ok_3 hi0) ⟨by decide, by decide⟩ (Nat.le_of_ble_eq_true rfl) (f_X4_runnerAt_ok hi0 e15) (fun b15 => ?_)
      refine gI_X4_71 (ok_10 b15) dX4_allPunches_18 ?_
      refine g_iadd dX4_allPunches_21 ?_
      refine g_istore1 dX4_allPunches_22 ?_
      refine g_inc2 kc_1 dX4_allPunches_23 ?_
      refine g_goto 4 dX4_allPunches_26 rfl ?_
      exact ih h
theorem f_X4_allPunches_ok {i0 : Nat} (hi0 : i0 < 2) {σ : gSt} {r : (Int32 × gSt)} (h : f_X4_allPunches i0 σ = some r) : Mt l w 0 41 yX4_allPunches cX4_allPunches 3 (some .int) 1 21 [.ref (w.2.1 3 i0)] σ (gE (some (.int r.1)) r.2) := by
  unfold f_X4_allPunches at h
  refine g_start pn_X4 rfl rfl (Nat.le_of_ble_eq_true rfl) ?_
  show G l w 0 41 RX4 cX4_allPunches 3 (some .int) 1 21 (gE (some (.int r.1)) r.2) 0 [some (.ref (w.2.1 3 i0)), none, none] [] σ
  refine g_iconst dX4_allPunches_0 kc_0 ?_
  refine g_istore1 dX4_allPunches_1 ?_
  refine g_iconst dX4_allPunches_2 kc_0 ?_
  refine g_istore2 dX4_allPunches_3 ?_
  exact f_X4_allPunches_4_ok hi0 gFuel h
theorem dX4_validOf_0 : decode cX4_validOf 0 = .ok (.iconst 0, 1) := by decide +kernel
theorem dX4_validOf_1 : decode cX4_validOf 1 = .ok (.istore_n 2, 1) := by decide +kernel
theorem dX4_validOf_2 : decode cX4_validOf 2 = .ok (.iconst 0, 1) := by decide +kernel
theorem dX4_validOf_3 : decode cX4_validOf 3 = .ok (.istore_n 3, 1) := by decide +kernel
theorem dX4_validOf_4 : decode cX4_validOf 4 = .ok (.iload_n 3, 1) := by decide +kernel
theorem dX4_validOf_5 : decode cX4_validOf 5 = .ok (.aload_n 0, 1) := by decide +kernel
theorem dX4_validOf_6 : decode cX4_validOf 6 = .ok (.getfield 34, 3) := by decide +kernel
theorem dX4_validOf_9 : decode cX4_validOf 9 = .ok (.if_icmp .ge 26, 3) := by decide +kernel
theorem dX4_validOf_12 : decode cX4_validOf 12 = .ok (.iload_n 2, 1) := by decide +kernel
theorem dX4_validOf_13 : decode cX4_validOf 13 = .ok (.aload_n 0, 1) := by decide +kernel
theorem dX4_validOf_14 : decode cX4_validOf 14 = .ok (.iload_n 3, 1) := by decide +kernel
theorem dX4_validOf_15 : decode cX4_validOf 15 = .ok (.iload_n 1, 1) := by decide +kernel
theorem dX4_validOf_16 : decode cX4_validOf 16 = .ok (.invokevirtual 101, 3) := by decide +kernel
theorem dX4_validOf_19 : decode cX4_validOf 19 = .ok (.ifCond .eq 7, 3) := by decide +kernel
theorem dX4_validOf_22 : decode cX4_validOf 22 = .ok (.iconst 1, 1) := by decide +kernel
theorem dX4_validOf_23 : decode cX4_validOf 23 = .ok (.goto 4, 3) := by decide +kernel
theorem dX4_validOf_26 : decode cX4_validOf 26 = .ok (.iconst 0, 1) := by decide +kernel
theorem dX4_validOf_27 : decode cX4_validOf 27 = .ok (.iadd, 1) := by decide +kernel
theorem dX4_validOf_28 : decode cX4_validOf 28 = .ok (.istore_n 2, 1) := by decide +kernel
theorem dX4_validOf_29 : decode cX4_validOf 29 = .ok (.iinc 3 1, 3) := by decide +kernel
theorem dX4_validOf_32 : decode cX4_validOf 32 = .ok (.goto (-28), 3) := by decide +kernel
theorem dX4_validOf_35 : decode cX4_validOf 35 = .ok (.iload_n 2, 1) := by decide +kernel
theorem dX4_validOf_36 : decode cX4_validOf 36 = .ok (.ireturn, 1) := by decide +kernel
def f_X4_validOf_4 (i0 : Nat) (v1 : Int32) : Nat → Int32 → Int32 → gSt → Option (Int32 × gSt)
  | 0, _, _, _ => none
  | n + 1, v2, v3, σ =>
    if (σ 3 i0 4) ≤ v3 then
      some (v2, σ)
    else
      (f_X4_isValidOf i0 v3 v1 σ).bind fun p16 =>
      if p16.1 = 0 then
        f_X4_validOf_4 i0 v1 n (v2 + 0) (v3 + 1) p16.2
      else
        f_X4_validOf_4 i0 v1 n (v2 + 1) (v3 + 1) p16.2
def f_X4_validOf (i0 : Nat) (v1 : Int32) (σ : gSt) : Option (Int32 × gSt) :=
  f_X4_validOf_4 i0 v1 gFuel 0 0 σ
theorem f_X4_validOf_4_ok {i0 : Nat} {v1 : Int32} {r : (Int32 × gSt)} (hi0 : i0 < 2) : ∀ (n : Nat) {v2 : Int32} {v3 : Int32} {σ : gSt} , f_X4_validOf_4 i0 v1 n v2 v3 σ = some r → G l w 0 41 RX4 cX4_validOf 4 (some .int) 3 65 (gE (some (.int r.1)) r.2) 4 [some (.ref (w.2.1 3 i0)), some (.int v1), some (.int v2), some (.int v3)] [] σ := by
  intro n
  induction n with
  | zero => intro v2 v3 σ h; rw [f_X4_validOf_4] at h; cases h
  | succ n ih =>
    intro v2 v3 σ h
    rw [f_X4_validOf_4] at h
    refine g_iload_n dX4_validOf_4 rfl ?_
    refine g_aload_n dX4_validOf_5 rfl ?_
    refine gI_X4_34 (ok_3 hi0) dX4_validOf_6 ?_
    refine g_icmp_ge 35 dX4_validOf_9 rfl (fun q => ?_) (fun q => ?_)
    · replace h := gif_t q h
      refine g_iload_n dX4_validOf_35 rfl ?_
      cases h
      exact g_iret dX4_validOf_36 rfl ⟨rfl, rfl⟩
    · replace h := gif_f q h
      refine g_iload_n dX4_validOf_12 rfl ?_
      refine g_aload_n dX4_validOf_13 rfl ?_
      refine g_iload_n dX4_validOf_14 rfl ?_
      refine g_iload_n dX4_validOf_15 rfl ?_
      obtain ⟨p16, e16, h⟩ := obind h
      refine g_vP2 mv_X4_101 dX4_validOf_16 (ok_3 hi0) ⟨by decide, by decide⟩ (Nat.le_of_ble_eq_true rfl) (f_X4_isValidOf_ok hi0 e16) ?_
      refine g_if_eq 26 dX4_validOf_19 rfl (fun q => ?_) (fun q => ?_)
      · replace h := gif_t q h
        refine g_iconst dX4_validOf_26 kc_0 ?_
        refine g_iadd dX4_validOf_27 ?_
        refine g_istore2 dX4_validOf_28 ?_
        refine g_inc3 kc_1 dX4_validOf_29 ?_
        refine g_goto 4 dX4_validOf_32 rfl ?_
        exact ih h
      · replace h := gif_f q h
        refine g_iconst dX4_validOf_22 kc_1 ?_
        refine g_goto 27 dX4_validOf_23 rfl ?_
        refine g_iadd dX4_validOf_27 ?_
        refine g_istore2 dX4_validOf_28 ?_
        refine g_inc3 kc_1 dX4_validOf_29 ?_
        refine g_goto 4 dX4_validOf_32 rfl ?_
        exact ih h
theorem f_X4_validOf_ok {i0 : Nat} {v1 : Int32} (hi0 : i0 < 2) {σ : gSt} {r : (Int32 × gSt)} (h : f_X4_validOf i0 v1 σ = some r) : Mt l w 0 41 yX4_validOf cX4_validOf 4 (some .int) 3 65 [.ref (w.2.1 3 i0), .int v1] σ (gE (some (.int r.1)) r.2) := by
  unfold f_X4_validOf at h
  refine g_start pn_X4 rfl rfl (Nat.le_of_ble_eq_true rfl) ?_
  show G l w 0 41 RX4 cX4_validOf 4 (some .int) 3 65 (gE (some (.int r.1)) r.2) 0 [some (.ref (w.2.1 3 i0)), some (.int v1), none, none] [] σ
  refine g_iconst dX4_validOf_0 kc_0 ?_
  refine g_istore2 dX4_validOf_1 ?_
  refine g_iconst dX4_validOf_2 kc_0 ?_
  refine g_istore3 dX4_validOf_3 ?_
  exact f_X4_validOf_4_ok hi0 gFuel h
theorem dX4_allValid_0 : decode cX4_allValid 0 = .ok (.iconst 0, 1) := by decide +kernel
theorem dX4_allValid_1 : decode cX4_allValid 1 = .ok (.istore_n 1, 1) := by decide +kernel
theorem dX4_allValid_2 : decode cX4_allValid 2 = .ok (.iconst 0, 1) := by decide +kernel
theorem dX4_allValid_3 : decode cX4_allValid 3 = .ok (.istore_n 2, 1) := by decide +kernel
theorem dX4_allValid_4 : decode cX4_allValid 4 = .ok (.iload_n 2, 1) := by decide +kernel
theorem dX4_allValid_5 : decode cX4_allValid 5 = .ok (.aload_n 0, 1) := by decide +kernel
theorem dX4_allValid_6 : decode cX4_allValid 6 = .ok (.getfield 30, 3) := by decide +kernel
theorem dX4_allValid_9 : decode cX4_allValid 9 = .ok (.if_icmp .ge 17, 3) := by decide +kernel
theorem dX4_allValid_12 : decode cX4_allValid 12 = .ok (.iload_n 1, 1) := by decide +kernel
theorem dX4_allValid_13 : decode cX4_allValid 13 = .ok (.aload_n 0, 1) := by decide +kernel
theorem dX4_allValid_14 : decode cX4_allValid 14 = .ok (.iload_n 2, 1) := by decide +kernel
theorem dX4_allValid_15 : decode cX4_allValid 15 = .ok (.invokevirtual 97, 3) := by decide +kernel
theorem dX4_allValid_18 : decode cX4_allValid 18 = .ok (.iadd, 1) := by decide +kernel
theorem dX4_allValid_19 : decode cX4_allValid 19 = .ok (.istore_n 1, 1) := by decide +kernel
theorem dX4_allValid_20 : decode cX4_allValid 20 = .ok (.iinc 2 1, 3) := by decide +kernel
theorem dX4_allValid_23 : decode cX4_allValid 23 = .ok (.goto (-19), 3) := by decide +kernel
theorem dX4_allValid_26 : decode cX4_allValid 26 = .ok (.iload_n 1, 1) := by decide +kernel
theorem dX4_allValid_27 : decode cX4_allValid 27 = .ok (.ireturn, 1) := by decide +kernel
def f_X4_allValid_4 (i0 : Nat) : Nat → Int32 → Int32 → gSt → Option (Int32 × gSt)
  | 0, _, _, _ => none
  | n + 1, v1, v2, σ =>
    if (σ 3 i0 3) ≤ v2 then
      some (v1, σ)
    else
      (f_X4_validOf i0 v2 σ).bind fun p15 =>
      f_X4_allValid_4 i0 n (v1 + p15.1) (v2 + 1) p15.2
def f_X4_allValid (i0 : Nat) (σ : gSt) : Option (Int32 × gSt) :=
  f_X4_allValid_4 i0 gFuel 0 0 σ
theorem f_X4_allValid_4_ok {i0 : Nat} {r : (Int32 × gSt)} (hi0 : i0 < 2) : ∀ (n : Nat) {v1 : Int32} {v2 : Int32} {σ : gSt} , f_X4_allValid_4 i0 n v1 v2 σ = some r → G l w 0 41 RX4 cX4_allValid 3 (some .int) 4 88 (gE (some (.int r.1)) r.2) 4 [some (.ref (w.2.1 3 i0)), some (.int v1), some (.int v2)] [] σ := by
  intro n
  induction n with
  | zero => intro v1 v2 σ h; rw [f_X4_allValid_4] at h; cases h
  | succ n ih =>
    intro v1 v2 σ h
    rw [f_X4_allValid_4] at h
    refine g_iload_n dX4_allValid_4 rfl ?_
    refine g_aload_n dX4_allValid_5 rfl ?_
    refine gI_X4_30 (ok_3 hi0) dX4_allValid_6 ?_
    refine g_icmp_ge 26 dX4_allValid_9 rfl (fun q => ?_) (fun q => ?_)
    · replace h := gif_t q h
      refine g_iload_n dX4_allValid_26 rfl ?_
      cases h
      exact g_iret dX4_allValid_27 rfl ⟨rfl, rfl⟩
    · replace h := gif_f q h
      refine g_iload_n dX4_allValid_12 rfl ?_
      refine g_aload_n dX4_allValid_13 rfl ?_
      refine g_iload_n dX4_allValid_14 rfl ?_
      obtain ⟨p15, e15, h⟩ := obind h
      refine g_vP1 mv_X4_97 dX4_allValid_15 (ok_3 hi0) ⟨by decide, by decide⟩ (Nat.le_of_ble_eq_true rfl) (f_X4_validOf_ok hi0 e15) ?_
      refine g_iadd dX4_allValid_18 ?_
      refine g_istore1 dX4_allValid_19 ?_
      refine g_inc2 kc_1 dX4_allValid_20 ?_
      refine g_goto 4 dX4_allValid_23 rfl ?_
      exact ih h
theorem f_X4_allValid_ok {i0 : Nat} (hi0 : i0 < 2) {σ : gSt} {r : (Int32 × gSt)} (h : f_X4_allValid i0 σ = some r) : Mt l w 0 41 yX4_allValid cX4_allValid 3 (some .int) 4 88 [.ref (w.2.1 3 i0)] σ (gE (some (.int r.1)) r.2) := by
  unfold f_X4_allValid at h
  refine g_start pn_X4 rfl rfl (Nat.le_of_ble_eq_true rfl) ?_
  show G l w 0 41 RX4 cX4_allValid 3 (some .int) 4 88 (gE (some (.int r.1)) r.2) 0 [some (.ref (w.2.1 3 i0)), none, none] [] σ
  refine g_iconst dX4_allValid_0 kc_0 ?_
  refine g_istore1 dX4_allValid_1 ?_
  refine g_iconst dX4_allValid_2 kc_0 ?_
  refine g_istore2 dX4_allValid_3 ?_
  exact f_X4_allValid_4_ok hi0 gFuel h
theorem dX4_runnersOf_0 : decode cX4_runnersOf 0 = .ok (.iconst 0, 1) := by decide +kernel
theorem dX4_runnersOf_1 : decode cX4_runnersOf 1 = .ok (.istore_n 2, 1) := by decide +kernel
theorem dX4_runnersOf_2 : decode cX4_runnersOf 2 = .ok (.iconst 0, 1) := by decide +kernel
theorem dX4_runnersOf_3 : decode cX4_runnersOf 3 = .ok (.istore_n 3, 1) := by decide +kernel
theorem dX4_runnersOf_4 : decode cX4_runnersOf 4 = .ok (.iload_n 3, 1) := by decide +kernel
theorem dX4_runnersOf_5 : decode cX4_runnersOf 5 = .ok (.aload_n 0, 1) := by decide +kernel
theorem dX4_runnersOf_6 : decode cX4_runnersOf 6 = .ok (.getfield 34, 3) := by decide +kernel
theorem dX4_runnersOf_9 : decode cX4_runnersOf 9 = .ok (.if_icmp .ge 26, 3) := by decide +kernel
theorem dX4_runnersOf_12 : decode cX4_runnersOf 12 = .ok (.iload_n 2, 1) := by decide +kernel
theorem dX4_runnersOf_13 : decode cX4_runnersOf 13 = .ok (.aload_n 0, 1) := by decide +kernel
theorem dX4_runnersOf_14 : decode cX4_runnersOf 14 = .ok (.iload_n 3, 1) := by decide +kernel
theorem dX4_runnersOf_15 : decode cX4_runnersOf 15 = .ok (.iload_n 1, 1) := by decide +kernel
theorem dX4_runnersOf_16 : decode cX4_runnersOf 16 = .ok (.invokevirtual 89, 3) := by decide +kernel
theorem dX4_runnersOf_19 : decode cX4_runnersOf 19 = .ok (.ifCond .eq 7, 3) := by decide +kernel
theorem dX4_runnersOf_22 : decode cX4_runnersOf 22 = .ok (.iconst 1, 1) := by decide +kernel
theorem dX4_runnersOf_23 : decode cX4_runnersOf 23 = .ok (.goto 4, 3) := by decide +kernel
theorem dX4_runnersOf_26 : decode cX4_runnersOf 26 = .ok (.iconst 0, 1) := by decide +kernel
theorem dX4_runnersOf_27 : decode cX4_runnersOf 27 = .ok (.iadd, 1) := by decide +kernel
theorem dX4_runnersOf_28 : decode cX4_runnersOf 28 = .ok (.istore_n 2, 1) := by decide +kernel
theorem dX4_runnersOf_29 : decode cX4_runnersOf 29 = .ok (.iinc 3 1, 3) := by decide +kernel
theorem dX4_runnersOf_32 : decode cX4_runnersOf 32 = .ok (.goto (-28), 3) := by decide +kernel
theorem dX4_runnersOf_35 : decode cX4_runnersOf 35 = .ok (.iload_n 2, 1) := by decide +kernel
theorem dX4_runnersOf_36 : decode cX4_runnersOf 36 = .ok (.ireturn, 1) := by decide +kernel
def f_X4_runnersOf_4 (i0 : Nat) (v1 : Int32) : Nat → Int32 → Int32 → gSt → Option (Int32 × gSt)
  | 0, _, _, _ => none
  | n + 1, v2, v3, σ =>
    if (σ 3 i0 4) ≤ v3 then
      some (v2, σ)
    else
      (f_X4_isOf i0 v3 v1 σ).bind fun p16 =>
      if p16.1 = 0 then
        f_X4_runnersOf_4 i0 v1 n (v2 + 0) (v3 + 1) p16.2
      else
        f_X4_runnersOf_4 i0 v1 n (v2 + 1) (v3 + 1) p16.2
def f_X4_runnersOf (i0 : Nat) (v1 : Int32) (σ : gSt) : Option (Int32 × gSt) :=
  f_X4_runnersOf_4 i0 v1 gFuel 0 0 σ
theorem f_X4_runnersOf_4_ok {i0 : Nat} {v1 : Int32} {r : (Int32 × gSt)} (hi0 : i0 < 2) : ∀ (n : Nat) {v2 : Int32} {v3 : Int32} {σ : gSt} , f_X4_runnersOf_4 i0 v1 n v2 v3 σ = some r → G l w 0 41 RX4 cX4_runnersOf 4 (some .int) 2 43 (gE (some (.int r.1)) r.2) 4 [some (.ref (w.2.1 3 i0)), some (.int v1), some (.int v2), some (.int v3)] [] σ := by
  intro n
  induction n with
  | zero => intro v2 v3 σ h; rw [f_X4_runnersOf_4] at h; cases h
  | succ n ih =>
    intro v2 v3 σ h
    rw [f_X4_runnersOf_4] at h
    refine g_iload_n dX4_runnersOf_4 rfl ?_
    refine g_aload_n dX4_runnersOf_5 rfl ?_
    refine gI_X4_34 (ok_3 hi0) dX4_runnersOf_6 ?_
    refine g_icmp_ge 35 dX4_runnersOf_9 rfl (fun q => ?_) (fun q => ?_)
    · replace h := gif_t q h
      refine g_iload_n dX4_runnersOf_35 rfl ?_
      cases h
      exact g_iret dX4_runnersOf_36 rfl ⟨rfl, rfl⟩
    · replace h := gif_f q h
      refine g_iload_n dX4_runnersOf_12 rfl ?_
      refine g_aload_n dX4_runnersOf_13 rfl ?_
      refine g_iload_n dX4_runnersOf_14 rfl ?_
      refine g_iload_n dX4_runnersOf_15 rfl ?_
      obtain ⟨p16, e16, h⟩ := obind h
      refine g_vP2 mv_X4_89 dX4_runnersOf_16 (ok_3 hi0) ⟨by decide, by decide⟩ (Nat.le_of_ble_eq_true rfl) (f_X4_isOf_ok hi0 e16) ?_
      refine g_if_eq 26 dX4_runnersOf_19 rfl (fun q => ?_) (fun q => ?_)
      · replace h := gif_t q h
        refine g_iconst dX4_runnersOf_26 kc_0 ?_
        refine g_iadd dX4_runnersOf_27 ?_
        refine g_istore2 dX4_runnersOf_28 ?_
        refine g_inc3 kc_1 dX4_runnersOf_29 ?_
        refine g_goto 4 dX4_runnersOf_32 rfl ?_
        exact ih h
      · replace h := gif_f q h
        refine g_iconst dX4_runnersOf_22 kc_1 ?_
        refine g_goto 27 dX4_runnersOf_23 rfl ?_
        refine g_iadd dX4_runnersOf_27 ?_
        refine g_istore2 dX4_runnersOf_28 ?_
        refine g_inc3 kc_1 dX4_runnersOf_29 ?_
        refine g_goto 4 dX4_runnersOf_32 rfl ?_
        exact ih h
theorem f_X4_runnersOf_ok {i0 : Nat} {v1 : Int32} (hi0 : i0 < 2) {σ : gSt} {r : (Int32 × gSt)} (h : f_X4_runnersOf i0 v1 σ = some r) : Mt l w 0 41 yX4_runnersOf cX4_runnersOf 4 (some .int) 2 43 [.ref (w.2.1 3 i0), .int v1] σ (gE (some (.int r.1)) r.2) := by
  unfold f_X4_runnersOf at h
  refine g_start pn_X4 rfl rfl (Nat.le_of_ble_eq_true rfl) ?_
  show G l w 0 41 RX4 cX4_runnersOf 4 (some .int) 2 43 (gE (some (.int r.1)) r.2) 0 [some (.ref (w.2.1 3 i0)), some (.int v1), none, none] [] σ
  refine g_iconst dX4_runnersOf_0 kc_0 ?_
  refine g_istore2 dX4_runnersOf_1 ?_
  refine g_iconst dX4_runnersOf_2 kc_0 ?_
  refine g_istore3 dX4_runnersOf_3 ?_
  exact f_X4_runnersOf_4_ok hi0 gFuel h
theorem dX4_leastTotal_0 : decode cX4_leastTotal 0 = .ok (.bipush (-2), 2) := by decide +kernel
theorem dX4_leastTotal_2 : decode cX4_leastTotal 2 = .ok (.istore_n 2, 1) := by decide +kernel
theorem dX4_leastTotal_3 : decode cX4_leastTotal 3 = .ok (.iconst 0, 1) := by decide +kernel
theorem dX4_leastTotal_4 : decode cX4_leastTotal 4 = .ok (.istore_n 3, 1) := by decide +kernel
theorem dX4_leastTotal_5 : decode cX4_leastTotal 5 = .ok (.iload_n 3, 1) := by decide +kernel
theorem dX4_leastTotal_6 : decode cX4_leastTotal 6 = .ok (.aload_n 0, 1) := by decide +kernel
theorem dX4_leastTotal_7 : decode cX4_leastTotal 7 = .ok (.getfield 34, 3) := by decide +kernel
theorem dX4_leastTotal_10 : decode cX4_leastTotal 10 = .ok (.if_icmp .ge 45, 3) := by decide +kernel
theorem dX4_leastTotal_13 : decode cX4_leastTotal 13 = .ok (.aload_n 0, 1) := by decide +kernel
theorem dX4_leastTotal_14 : decode cX4_leastTotal 14 = .ok (.iload_n 3, 1) := by decide +kernel
theorem dX4_leastTotal_15 : decode cX4_leastTotal 15 = .ok (.iload_n 1, 1) := by decide +kernel
theorem dX4_leastTotal_16 : decode cX4_leastTotal 16 = .ok (.invokevirtual 101, 3) := by decide +kernel
theorem dX4_leastTotal_19 : decode cX4_leastTotal 19 = .ok (.ifCond .eq 30, 3) := by decide +kernel
theorem dX4_leastTotal_22 : decode cX4_leastTotal 22 = .ok (.iload_n 2, 1) := by decide +kernel
theorem dX4_leastTotal_23 : decode cX4_leastTotal 23 = .ok (.bipush (-2), 2) := by decide +kernel
theorem dX4_leastTotal_25 : decode cX4_leastTotal 25 = .ok (.if_icmp .eq 15, 3) := by decide +kernel
theorem dX4_leastTotal_28 : decode cX4_leastTotal 28 = .ok (.aload_n 0, 1) := by decide +kernel
theorem dX4_leastTotal_29 : decode cX4_leastTotal 29 = .ok (.iload_n 3, 1) := by decide +kernel
theorem dX4_leastTotal_30 : decode cX4_leastTotal 30 = .ok (.invokevirtual 53, 3) := by decide +kernel
theorem dX4_leastTotal_33 : decode cX4_leastTotal 33 = .ok (.invokevirtual 104, 3) := by decide +kernel
theorem dX4_leastTotal_36 : decode cX4_leastTotal 36 = .ok (.iload_n 2, 1) := by decide +kernel
theorem dX4_leastTotal_37 : decode cX4_leastTotal 37 = .ok (.if_icmp .ge 12, 3) := by decide +kernel
theorem dX4_leastTotal_40 : decode cX4_leastTotal 40 = .ok (.aload_n 0, 1) := by decide +kernel
theorem dX4_leastTotal_41 : decode cX4_leastTotal 41 = .ok (.iload_n 3, 1) := by decide +kernel
theorem dX4_leastTotal_42 : decode cX4_leastTotal 42 = .ok (.invokevirtual 53, 3) := by decide +kernel
theorem dX4_leastTotal_45 : decode cX4_leastTotal 45 = .ok (.invokevirtual 104, 3) := by decide +kernel
theorem dX4_leastTotal_48 : decode cX4_leastTotal 48 = .ok (.istore_n 2, 1) := by decide +kernel
theorem dX4_leastTotal_49 : decode cX4_leastTotal 49 = .ok (.iinc 3 1, 3) := by decide +kernel
theorem dX4_leastTotal_52 : decode cX4_leastTotal 52 = .ok (.goto (-47), 3) := by decide +kernel
theorem dX4_leastTotal_55 : decode cX4_leastTotal 55 = .ok (.iload_n 2, 1) := by decide +kernel
theorem dX4_leastTotal_56 : decode cX4_leastTotal 56 = .ok (.ireturn, 1) := by decide +kernel
def f_X4_leastTotal_5 (i0 : Nat) (v1 : Int32) : Nat → Int32 → Int32 → gSt → Option (Int32 × gSt)
  | 0, _, _, _ => none
  | n + 1, v2, v3, σ =>
    if (σ 3 i0 4) ≤ v3 then
      some (v2, σ)
    else
      (f_X4_isValidOf i0 v3 v1 σ).bind fun p16 =>
      if p16.1 = 0 then
        f_X4_leastTotal_5 i0 v1 n v2 (v3 + 1) p16.2
      else
        if v2 = (-2) then
          (f_X4_runnerAt i0 v3 p16.2).bind fun p42 =>
          (f_X9_total p42.1 p42.2).bind fun p45 =>
          f_X4_leastTotal_5 i0 v1 n p45.1 (v3 + 1) p45.2
        else
          (f_X4_runnerAt i0 v3 p16.2).bind fun p30 =>
          (f_X9_total p30.1 p30.2).bind fun p33 =>
          if v2 ≤ p33.1 then
            f_X4_leastTotal_5 i0 v1 n v2 (v3 + 1) p33.2
          else
            (f_X4_runnerAt i0 v3 p33.2).bind fun p42 =>
            (f_X9_total p42.1 p42.2).bind fun p45 =>
            f_X4_leastTotal_5 i0 v1 n p45.1 (v3 + 1) p45.2
def f_X4_leastTotal (i0 : Nat) (v1 : Int32) (σ : gSt) : Option (Int32 × gSt) :=
  f_X4_leastTotal_5 i0 v1 gFuel (-2) 0 σ
theorem f_X4_leastTotal_5_ok {i0 : Nat} {v1 : Int32} {r : (Int32 × gSt)} (hi0 : i0 < 2) : ∀ (n : Nat) {v2 : Int32} {v3 : Int32} {σ : gSt} , f_X4_leastTotal_5 i0 v1 n v2 v3 σ = some r → G l w 0 41 RX4 cX4_leastTotal 4 (some .int) 3 65 (gE (some (.int r.1)) r.2) 5 [some (.ref (w.2.1 3 i0)), some (.int v1), some (.int v2), some (.int v3)] [] σ := by
  intro n
  induction n with
  | zero => intro v2 v3 σ h; rw [f_X4_leastTotal_5] at h; cases h
  | succ n ih =>
    intro v2 v3 σ h
    rw [f_X4_leastTotal_5] at h
    refine g_iload_n dX4_leastTotal_5 rfl ?_
    refine g_aload_n dX4_leastTotal_6 rfl ?_
    refine gI_X4_34 (ok_3 hi0) dX4_leastTotal_7 ?_
    refine g_icmp_ge 55 dX4_leastTotal_10 rfl (fun q => ?_) (fun q => ?_)
    · replace h := gif_t q h
      refine g_iload_n dX4_leastTotal_55 rfl ?_
      cases h
      exact g_iret dX4_leastTotal_56 rfl ⟨rfl, rfl⟩
    · replace h := gif_f q h
      refine g_aload_n dX4_leastTotal_13 rfl ?_
      refine g_iload_n dX4_leastTotal_14 rfl ?_
      refine g_iload_n dX4_leastTotal_15 rfl ?_
      obtain ⟨p16, e16, h⟩ := obind h
      refine g_vP2 mv_X4_101 dX4_leastTotal_16 (ok_3 hi0) ⟨by decide, by decide⟩ (Nat.le_of_ble_eq_true rfl) (f_X4_isValidOf_ok hi0 e16) ?_
      refine g_if_eq 49 dX4_leastTotal_19 rfl (fun q => ?_) (fun q => ?_)
      · replace h := gif_t q h
        refine g_inc3 kc_1 dX4_leastTotal_49 ?_
        refine g_goto 5 dX4_leastTotal_52 rfl ?_
        exact ih h
      · replace h := gif_f q h
        refine g_iload_n dX4_leastTotal_22 rfl ?_
        refine g_bipush dX4_leastTotal_23 kb_m2 ?_
        refine g_icmp_eq 40 dX4_leastTotal_25 rfl (fun q => ?_) (fun q => ?_)
        · replace h := gif_t q h
          refine g_aload_n dX4_leastTotal_40 rfl ?_
          refine g_iload_n dX4_leastTotal_41 rfl ?_
          obtain ⟨p42, e42, h⟩ := obind h
          refine g_vR1 mv_X4_53 dX4_leastTotal_42 (ok_3 hi0) ⟨by decide, by decide⟩ (Nat.le_of_ble_eq_true rfl) (f_X4_runnerAt_ok hi0 e42) (fun b42 => ?_)
          obtain ⟨p45, e45, h⟩ := obind h
          refine g_vP0 mv_X4_104 dX4_leastTotal_45 (ok_10 b42) ⟨by decide, by decide⟩ (Nat.le_of_ble_eq_true rfl) (f_X9_total_ok b42 e45) ?_
          refine g_istore2 dX4_leastTotal_48 ?_
          refine g_inc3 kc_1 dX4_leastTotal_49 ?_
          refine g_goto 5 dX4_leastTotal_52 rfl ?_
          exact ih h
        · replace h := gif_f q h
          refine g_aload_n dX4_leastTotal_28 rfl ?_
          refine g_iload_n dX4_leastTotal_29 rfl ?_
          obtain ⟨p30, e30, h⟩ := obind h
          refine g_vR1 mv_X4_53 dX4_leastTotal_30 (ok_3 hi0) ⟨by decide, by decide⟩ (Nat.le_of_ble_eq_true rfl) (f_X4_runnerAt_ok hi0 e30) (fun b30 => ?_)
          obtain ⟨p33, e33, h⟩ := obind h
          refine g_vP0 mv_X4_104 dX4_leastTotal_33 (ok_10 b30) ⟨by decide, by decide⟩ (Nat.le_of_ble_eq_true rfl) (f_X9_total_ok b30 e33) ?_
          refine g_iload_n dX4_leastTotal_36 rfl ?_
          refine g_icmp_ge 49 dX4_leastTotal_37 rfl (fun q => ?_) (fun q => ?_)
          · replace h := gif_t q h
            refine g_inc3 kc_1 dX4_leastTotal_49 ?_
            refine g_goto 5 dX4_leastTotal_52 rfl ?_
            exact ih h
          · replace h := gif_f q h
            refine g_aload_n dX4_leastTotal_40 rfl ?_
            refine g_iload_n dX4_leastTotal_41 rfl ?_
            obtain ⟨p42, e42, h⟩ := obind h
            refine g_vR1 mv_X4_53 dX4_leastTotal_42 (ok_3 hi0) ⟨by decide, by decide⟩ (Nat.le_of_ble_eq_true rfl) (f_X4_runnerAt_ok hi0 e42) (fun b42 => ?_)
            obtain ⟨p45, e45, h⟩ := obind h
            refine g_vP0 mv_X4_104 dX4_leastTotal_45 (ok_10 b42) ⟨by decide, by decide⟩ (Nat.le_of_ble_eq_true rfl) (f_X9_total_ok b42 e45) ?_
            refine g_istore2 dX4_leastTotal_48 ?_
            refine g_inc3 kc_1 dX4_leastTotal_49 ?_
            refine g_goto 5 dX4_leastTotal_52 rfl ?_
            exact ih h
theorem f_X4_leastTotal_ok {i0 : Nat} {v1 : Int32} (hi0 : i0 < 2) {σ : gSt} {r : (Int32 × gSt)} (h : f_X4_leastTotal i0 v1 σ = some r) : Mt l w 0 41 yX4_leastTotal cX4_leastTotal 4 (some .int) 3 65 [.ref (w.2.1 3 i0), .int v1] σ (gE (some (.int r.1)) r.2) := by
  unfold f_X4_leastTotal at h
  refine g_start pn_X4 rfl rfl (Nat.le_of_ble_eq_true rfl) ?_
  show G l w 0 41 RX4 cX4_leastTotal 4 (some .int) 3 65 (gE (some (.int r.1)) r.2) 0 [some (.ref (w.2.1 3 i0)), some (.int v1), none, none] [] σ
  refine g_bipush dX4_leastTotal_0 kb_m2 ?_
  refine g_istore2 dX4_leastTotal_2 ?_
  refine g_iconst dX4_leastTotal_3 kc_0 ?_
  refine g_istore3 dX4_leastTotal_4 ?_
  exact f_X4_leastTotal_5_ok hi0 gFuel h
theorem dX4_missesOn_0 : decode cX4_missesOn 0 = .ok (.aload_n 0, 1) := by decide +kernel
theorem dX4_missesOn_1 : decode cX4_missesOn 1 = .ok (.iload_n 2, 1) := by decide +kernel
theorem dX4_missesOn_2 : decode cX4_missesOn 2 = .ok (.invokevirtual 45, 3) := by decide +kernel
theorem dX4_missesOn_5 : decode cX4_missesOn 5 = .ok (.getfield 67, 3) := by decide +kernel
theorem dX4_missesOn_8 : decode cX4_missesOn 8 = .ok (.aload_n 0, 1) := by decide +kernel
theorem dX4_missesOn_9 : decode cX4_missesOn 9 = .ok (.getfield 26, 3) := by decide +kernel
theorem dX4_missesOn_12 : decode cX4_missesOn 12 = .ok (.aload_n 0, 1) := by decide +kernel
theorem dX4_missesOn_13 : decode cX4_missesOn 13 = .ok (.iload_n 2, 1) := by decide +kernel
theorem dX4_missesOn_14 : decode cX4_missesOn 14 = .ok (.invokevirtual 45, 3) := by decide +kernel
theorem dX4_missesOn_17 : decode cX4_missesOn 17 = .ok (.aload_n 1, 1) := by decide +kernel
theorem dX4_missesOn_18 : decode cX4_missesOn 18 = .ok (.invokevirtual 108, 3) := by decide +kernel
theorem dX4_missesOn_21 : decode cX4_missesOn 21 = .ok (.isub, 1) := by decide +kernel
theorem dX4_missesOn_22 : decode cX4_missesOn 22 = .ok (.ireturn, 1) := by decide +kernel
def f_X4_missesOn (i0 : Nat) (i1 : Nat) (v2 : Int32) (σ : gSt) : Option (Int32 × gSt) :=
  (f_X4_courseAt i0 v2 σ).bind fun p2 =>
  (f_X4_courseAt i0 v2 p2.2).bind fun p14 =>
  (f_X3_mostTaken i0 p14.1 i1 p14.2).bind fun p18 =>
  some (((p2.2 8 p2.1 2) - p18.1), p18.2)
theorem f_X4_missesOn_ok {i0 : Nat} {i1 : Nat} {v2 : Int32} (hi0 : i0 < 2) (hi1 : i1 < 20) {σ : gSt} {r : (Int32 × gSt)} (h : f_X4_missesOn i0 i1 v2 σ = some r) : Mt l w 0 41 yX4_missesOn cX4_missesOn 3 (some .int) 2 48 [.ref (w.2.1 3 i0), .ref (w.2.1 10 i1), .int v2] σ (gE (some (.int r.1)) r.2) := by
  unfold f_X4_missesOn at h
  refine g_start pn_X4 rfl rfl (Nat.le_of_ble_eq_true rfl) ?_
  show G l w 0 41 RX4 cX4_missesOn 3 (some .int) 2 48 (gE (some (.int r.1)) r.2) 0 [some (.ref (w.2.1 3 i0)), some (.ref (w.2.1 10 i1)), some (.int v2)] [] σ
  refine g_aload_n dX4_missesOn_0 rfl ?_
  refine g_iload_n dX4_missesOn_1 rfl ?_
  obtain ⟨p2, e2, h⟩ := obind h
  refine g_vR1 mv_X4_45 dX4_missesOn_2 (ok_3 hi0) ⟨by decide, by decide⟩ (Nat.le_of_ble_eq_true rfl) (f_X4_courseAt_ok hi0 e2) (fun b2 => ?_)
  refine gI_X4_67 (ok_8 b2) dX4_missesOn_5 ?_
  refine g_aload_n dX4_missesOn_8 rfl ?_
  refine gR_X4_26 (ok_3 hi0) dX4_missesOn_9 ?_
  refine g_aload_n dX4_missesOn_12 rfl ?_
  refine g_iload_n dX4_missesOn_13 rfl ?_
  obtain ⟨p14, e14, h⟩ := obind h
  refine g_vR1 mv_X4_45 dX4_missesOn_14 (ok_3 hi0) ⟨by decide, by decide⟩ (Nat.le_of_ble_eq_true rfl) (f_X4_courseAt_ok hi0 e14) (fun b14 => ?_)
  refine g_aload_n dX4_missesOn_17 rfl ?_
  obtain ⟨p18, e18, h⟩ := obind h
  refine g_vP2 mv_X4_108 dX4_missesOn_18 (ok_6 hi0) ⟨by decide, by decide⟩ (Nat.le_of_ble_eq_true rfl) (f_X3_mostTaken_ok hi0 b14 hi1 e18) ?_
  refine g_isub dX4_missesOn_21 ?_
  cases h
  exact g_iret dX4_missesOn_22 rfl ⟨rfl, rfl⟩
theorem dX4_fittest_0 : decode cX4_fittest 0 = .ok (.iconst 0, 1) := by decide +kernel
theorem dX4_fittest_1 : decode cX4_fittest 1 = .ok (.istore_n 2, 1) := by decide +kernel
theorem dX4_fittest_2 : decode cX4_fittest 2 = .ok (.aload_n 0, 1) := by decide +kernel
theorem dX4_fittest_3 : decode cX4_fittest 3 = .ok (.aload_n 1, 1) := by decide +kernel
theorem dX4_fittest_4 : decode cX4_fittest 4 = .ok (.iconst 0, 1) := by decide +kernel
theorem dX4_fittest_5 : decode cX4_fittest 5 = .ok (.invokevirtual 112, 3) := by decide +kernel
theorem dX4_fittest_8 : decode cX4_fittest 8 = .ok (.istore_n 3, 1) := by decide +kernel
theorem dX4_fittest_9 : decode cX4_fittest 9 = .ok (.iconst 1, 1) := by decide +kernel
theorem dX4_fittest_10 : decode cX4_fittest 10 = .ok (.istore 4, 2) := by decide +kernel
theorem dX4_fittest_12 : decode cX4_fittest 12 = .ok (.iload 4, 2) := by decide +kernel
theorem dX4_fittest_14 : decode cX4_fittest 14 = .ok (.aload_n 0, 1) := by decide +kernel
theorem dX4_fittest_15 : decode cX4_fittest 15 = .ok (.getfield 30, 3) := by decide +kernel
theorem dX4_fittest_18 : decode cX4_fittest 18 = .ok (.if_icmp .ge 68, 3) := by decide +kernel
theorem dX4_fittest_21 : decode cX4_fittest 21 = .ok (.aload_n 0, 1) := by decide +kernel
theorem dX4_fittest_22 : decode cX4_fittest 22 = .ok (.aload_n 1, 1) := by decide +kernel
theorem dX4_fittest_23 : decode cX4_fittest 23 = .ok (.iload 4, 2) := by decide +kernel
theorem dX4_fittest_25 : decode cX4_fittest 25 = .ok (.invokevirtual 112, 3) := by decide +kernel
theorem dX4_fittest_28 : decode cX4_fittest 28 = .ok (.istore 5, 2) := by decide +kernel
theorem dX4_fittest_30 : decode cX4_fittest 30 = .ok (.aload_n 0, 1) := by decide +kernel
theorem dX4_fittest_31 : decode cX4_fittest 31 = .ok (.iload 4, 2) := by decide +kernel
theorem dX4_fittest_33 : decode cX4_fittest 33 = .ok (.invokevirtual 45, 3) := by decide +kernel
theorem dX4_fittest_36 : decode cX4_fittest 36 = .ok (.getfield 67, 3) := by decide +kernel
theorem dX4_fittest_39 : decode cX4_fittest 39 = .ok (.aload_n 0, 1) := by decide +kernel
theorem dX4_fittest_40 : decode cX4_fittest 40 = .ok (.iload_n 2, 1) := by decide +kernel
theorem dX4_fittest_41 : decode cX4_fittest 41 = .ok (.invokevirtual 45, 3) := by decide +kernel
theorem dX4_fittest_44 : decode cX4_fittest 44 = .ok (.getfield 67, 3) := by decide +kernel
theorem dX4_fittest_47 : decode cX4_fittest 47 = .ok (.if_icmp .le 7, 3) := by decide +kernel
theorem dX4_fittest_50 : decode cX4_fittest 50 = .ok (.iconst 1, 1) := by decide +kernel
theorem dX4_fittest_51 : decode cX4_fittest 51 = .ok (.goto 4, 3) := by decide +kernel
theorem dX4_fittest_54 : decode cX4_fittest 54 = .ok (.iconst 0, 1) := by decide +kernel
theorem dX4_fittest_55 : decode cX4_fittest 55 = .ok (.istore 6, 2) := by decide +kernel
theorem dX4_fittest_57 : decode cX4_fittest 57 = .ok (.iload 5, 2) := by decide +kernel
theorem dX4_fittest_59 : decode cX4_fittest 59 = .ok (.iload_n 3, 1) := by decide +kernel
theorem dX4_fittest_60 : decode cX4_fittest 60 = .ok (.if_icmp .lt 14, 3) := by decide +kernel
theorem dX4_fittest_63 : decode cX4_fittest 63 = .ok (.iload 5, 2) := by decide +kernel
theorem dX4_fittest_65 : decode cX4_fittest 65 = .ok (.iload_n 3, 1) := by decide +kernel
theorem dX4_fittest_66 : decode cX4_fittest 66 = .ok (.if_icmp .ne 14, 3) := by decide +kernel
theorem dX4_fittest_69 : decode cX4_fittest 69 = .ok (.iload 6, 2) := by decide +kernel
theorem dX4_fittest_71 : decode cX4_fittest 71 = .ok (.ifCond .eq 9, 3) := by decide +kernel
theorem dX4_fittest_74 : decode cX4_fittest 74 = .ok (.iload 4, 2) := by decide +kernel
theorem dX4_fittest_76 : decode cX4_fittest 76 = .ok (.istore_n 2, 1) := by decide +kernel
theorem dX4_fittest_77 : decode cX4_fittest 77 = .ok (.iload 5, 2) := by decide +kernel
theorem dX4_fittest_79 : decode cX4_fittest 79 = .ok (.istore_n 3, 1) := by decide +kernel
theorem dX4_fittest_80 : decode cX4_fittest 80 = .ok (.iinc 4 1, 3) := by decide +kernel
theorem dX4_fittest_83 : decode cX4_fittest 83 = .ok (.goto (-71), 3) := by decide +kernel
theorem dX4_fittest_86 : decode cX4_fittest 86 = .ok (.iload_n 2, 1) := by decide +kernel
theorem dX4_fittest_87 : decode cX4_fittest 87 = .ok (.ireturn, 1) := by decide +kernel
def f_X4_fittest_55 (i0 : Nat) (i1 : Nat) (v2 : Int32) (v3 : Int32) (v4 : Int32) (v5 : Int32) (k12 : Int32 → Int32 → Int32 → gSt → Option (Int32 × gSt)) (vs0 : Int32) (σ : gSt) : Option (Int32 × gSt) :=
  if v5 < v3 then
    k12 v4 v5 (v4 + 1) σ
  else
    if v5 = v3 then
      if vs0 = 0 then
        k12 v2 v3 (v4 + 1) σ
      else
        k12 v4 v5 (v4 + 1) σ
    else
      k12 v2 v3 (v4 + 1) σ
def f_X4_fittest_12 (i0 : Nat) (i1 : Nat) : Nat → Int32 → Int32 → Int32 → gSt → Option (Int32 × gSt)
  | 0, _, _, _, _ => none
  | n + 1, v2, v3, v4, σ =>
    if (σ 3 i0 3) ≤ v4 then
      some (v2, σ)
    else
      (f_X4_missesOn i0 i1 v4 σ).bind fun p25 =>
      (f_X4_courseAt i0 v4 p25.2).bind fun p33 =>
      (f_X4_courseAt i0 v2 p33.2).bind fun p41 =>
      if (p33.2 8 p33.1 2) ≤ (p41.2 8 p41.1 2) then
        f_X4_fittest_55 i0 i1 v2 v3 v4 p25.1 (fun v2 v3 v4 σ => f_X4_fittest_12 i0 i1 n v2 v3 v4 σ) 0 p41.2
      else
        f_X4_fittest_55 i0 i1 v2 v3 v4 p25.1 (fun v2 v3 v4 σ => f_X4_fittest_12 i0 i1 n v2 v3 v4 σ) 1 p41.2
def f_X4_fittest (i0 : Nat) (i1 : Nat) (σ : gSt) : Option (Int32 × gSt) :=
  (f_X4_missesOn i0 i1 0 σ).bind fun p5 =>
  f_X4_fittest_12 i0 i1 gFuel 0 p5.1 1 p5.2
theorem f_X4_fittest_55_ok {i0 : Nat} {i1 : Nat} {v2 : Int32} {v3 : Int32} {v4 : Int32} {v5 : Int32} {k12 : Int32 → Int32 → Int32 → gSt → Option (Int32 × gSt)} {vs0 : Int32} {r : (Int32 × gSt)} (hi0 : i0 < 2) (hi1 : i1 < 20) (hk12 : ∀ {v2 : Int32} {v3 : Int32} {v4 : Int32} {σ : gSt} {x5 x6 : Option Value}, k12 v2 v3 v4 σ = some r → G l w 0 41 RX4 cX4_fittest 7 (some .int) 3 70 (gE (some (.int r.1)) r.2) 12 [some (.ref (w.2.1 3 i0)), some (.ref (w.2.1 10 i1)), some (.int v2), some (.int v3), some (.int v4), x5, x6] [] σ) {σ : gSt} {x6 : Option Value} (h : f_X4_fittest_55 i0 i1 v2 v3 v4 v5 k12 vs0 σ = some r) : G l w 0 41 RX4 cX4_fittest 7 (some .int) 3 70 (gE (some (.int r.1)) r.2) 55 [some (.ref (w.2.1 3 i0)), some (.ref (w.2.1 10 i1)), some (.int v2), some (.int v3), some (.int v4), some (.int v5), x6] [.int vs0] σ := by
  unfold f_X4_fittest_55 at h
  refine g_istore6 dX4_fittest_55 ?_
  refine g_iload dX4_fittest_57 rfl ?_
  refine g_iload_n dX4_fittest_59 rfl ?_
  refine g_icmp_lt 74 dX4_fittest_60 rfl (fun q => ?_) (fun q => ?_)
  · replace h := gif_t q h
    refine g_iload dX4_fittest_74 rfl ?_
    refine g_istore2 dX4_fittest_76 ?_
    refine g_iload dX4_fittest_77 rfl ?_
    refine g_istore3 dX4_fittest_79 ?_
    refine g_inc4 kc_1 dX4_fittest_80 ?_
    refine g_goto 12 dX4_fittest_83 rfl ?_
    exact hk12 h
  · replace h := gif_f q h
    refine g_iload dX4_fittest_63 rfl ?_
    refine g_iload_n dX4_fittest_65 rfl ?_
    refine g_icmp_ne 80 dX4_fittest_66 rfl (fun q => ?_) (fun q => ?_)
    · replace h := gif_f q h
      refine g_inc4 kc_1 dX4_fittest_80 ?_
      refine g_goto 12 dX4_fittest_83 rfl ?_
      exact hk12 h
    · replace h := gif_t q h
      refine g_iload dX4_fittest_69 rfl ?_
      refine g_if_eq 80 dX4_fittest_71 rfl (fun q => ?_) (fun q => ?_)
      · replace h := gif_t q h
        refine g_inc4 kc_1 dX4_fittest_80 ?_
        refine g_goto 12 dX4_fittest_83 rfl ?_
        exact hk12 h
      · replace h := gif_f q h
        refine g_iload dX4_fittest_74 rfl ?_
        refine g_istore2 dX4_fittest_76 ?_
        refine g_iload dX4_fittest_77 rfl ?_
        refine g_istore3 dX4_fittest_79 ?_
        refine g_inc4 kc_1 dX4_fittest_80 ?_
        refine g_goto 12 dX4_fittest_83 rfl ?_
        exact hk12 h
theorem f_X4_fittest_12_ok {i0 : Nat} {i1 : Nat} {r : (Int32 × gSt)} (hi0 : i0 < 2) (hi1 : i1 < 20) : ∀ (n : Nat) {v2 : Int32} {v3 : Int32} {v4 : Int32} {σ : gSt} {x5 x6 : Option Value}, f_X4_fittest_12 i0 i1 n v2 v3 v4 σ = some r → G l w 0 41 RX4 cX4_fittest 7 (some .int) 3 70 (gE (some (.int r.1)) r.2) 12 [some (.ref (w.2.1 3 i0)), some (.ref (w.2.1 10 i1)), some (.int v2), some (.int v3), some (.int v4), x5, x6] [] σ := by
  intro n
  induction n with
  | zero => intro v2 v3 v4 σ x5 x6 h; rw [f_X4_fittest_12] at h; cases h
  | succ n ih =>
    intro v2 v3 v4 σ x5 x6 h
    rw [f_X4_fittest_12] at h
    refine g_iload dX4_fittest_12 rfl ?_
    refine g_aload_n dX4_fittest_14 rfl ?_
    refine gI_X4_30 (ok_3 hi0) dX4_fittest_15 ?_
    refine g_icmp_ge 86 dX4_fittest_18 rfl (fun q => ?_) (fun q => ?_)
    · replace h := gif_t q h
      refine g_iload_n dX4_fittest_86 rfl ?_
      cases h
      exact g_iret dX4_fittest_87 rfl ⟨rfl, rfl⟩
    · replace h := gif_f q h
      refine g_aload_n dX4_fittest_21 rfl ?_
      refine g_aload_n dX4_fittest_22 rfl ?_
      refine g_iload dX4_fittest_23 rfl ?_
      obtain ⟨p25, e25, h⟩ := obind h
      refine g_vP2 mv_X4_112 dX4_fittest_25 (ok_3 hi0) ⟨by decide, by decide⟩ (Nat.le_of_ble_eq_true rfl) (f_X4_missesOn_ok hi0 hi1 e25) ?_
      refine g_istore5 dX4_fittest_28 ?_
      refine g_aload_n dX4_fittest_30 rfl ?_
      refine g_iload dX4_fittest_31 rfl ?_
      obtain ⟨p33, e33, h⟩ := obind h
      refine g_vR1 mv_X4_45 dX4_fittest_33 (ok_3 hi0) ⟨by decide, by decide⟩ (Nat.le_of_ble_eq_true rfl) (f_X4_courseAt_ok hi0 e33) (fun b33 => ?_)
      refine gI_X4_67 (ok_8 b33) dX4_fittest_36 ?_
      refine g_aload_n dX4_fittest_39 rfl ?_
      refine g_iload_n dX4_fittest_40 rfl ?_
      obtain ⟨p41, e41, h⟩ := obind h
      refine g_vR1 mv_X4_45 dX4_fittest_41 (ok_3 hi0) ⟨by decide, by decide⟩ (Nat.le_of_ble_eq_true rfl) (f_X4_courseAt_ok hi0 e41) (fun b41 => ?_)
      refine gI_X4_67 (ok_8 b41) dX4_fittest_44 ?_
      refine g_icmp_le 54 dX4_fittest_47 rfl (fun q => ?_) (fun q => ?_)
      · replace h := gif_t q h
        refine g_iconst dX4_fittest_54 kc_0 ?_
        exact f_X4_fittest_55_ok hi0 hi1 (fun h => ih h) h
      · replace h := gif_f q h
        refine g_iconst dX4_fittest_50 kc_1 ?_
        refine g_goto 55 dX4_fittest_51 rfl ?_
        exact f_X4_fittest_55_ok hi0 hi1 (fun h => ih h) h
theorem f_X4_fittest_ok {i0 : Nat} {i1 : Nat} (hi0 : i0 < 2) (hi1 : i1 < 20) {σ : gSt} {r : (Int32 × gSt)} (h : f_X4_fittest i0 i1 σ = some r) : Mt l w 0 41 yX4_fittest cX4_fittest 7 (some .int) 3 70 [.ref (w.2.1 3 i0), .ref (w.2.1 10 i1)] σ (gE (some (.int r.1)) r.2) := by
  unfold f_X4_fittest at h
  refine g_start pn_X4 rfl rfl (Nat.le_of_ble_eq_true rfl) ?_
  show G l w 0 41 RX4 cX4_fittest 7 (some .int) 3 70 (gE (some (.int r.1)) r.2) 0 [some (.ref (w.2.1 3 i0)), some (.ref (w.2.1 10 i1)), none, none, none, none, none] [] σ
  refine g_iconst dX4_fittest_0 kc_0 ?_
  refine g_istore2 dX4_fittest_1 ?_
  refine g_aload_n dX4_fittest_2 rfl ?_
  refine g_aload_n dX4_fittest_3 rfl ?_
  refine g_iconst dX4_fittest_4 kc_0 ?_
  obtain ⟨p5, e5, h⟩ := obind h
  refine g_vP2 mv_X4_112 dX4_fittest_5 (ok_3 hi0) ⟨by decide, by decide⟩ (Nat.le_of_ble_eq_true rfl) (f_X4_missesOn_ok hi0 hi1 e5) ?_
  refine g_istore3 dX4_fittest_8 ?_
  refine g_iconst dX4_fittest_9 kc_1 ?_
  refine g_istore4 dX4_fittest_10 ?_
  exact f_X4_fittest_12_ok hi0 hi1 gFuel h
theorem dX4_inForest_0 : decode cX4_inForest 0 = .ok (.iconst 0, 1) := by decide +kernel
theorem dX4_inForest_1 : decode cX4_inForest 1 = .ok (.istore_n 2, 1) := by decide +kernel
theorem dX4_inForest_2 : decode cX4_inForest 2 = .ok (.iconst 0, 1) := by decide +kernel
theorem dX4_inForest_3 : decode cX4_inForest 3 = .ok (.istore_n 3, 1) := by decide +kernel
theorem dX4_inForest_4 : decode cX4_inForest 4 = .ok (.iload_n 3, 1) := by decide +kernel
theorem dX4_inForest_5 : decode cX4_inForest 5 = .ok (.aload_n 0, 1) := by decide +kernel
theorem dX4_inForest_6 : decode cX4_inForest 6 = .ok (.getfield 34, 3) := by decide +kernel
theorem dX4_inForest_9 : decode cX4_inForest 9 = .ok (.if_icmp .ge 41, 3) := by decide +kernel
theorem dX4_inForest_12 : decode cX4_inForest 12 = .ok (.iload_n 2, 1) := by decide +kernel
theorem dX4_inForest_13 : decode cX4_inForest 13 = .ok (.aload_n 0, 1) := by decide +kernel
theorem dX4_inForest_14 : decode cX4_inForest 14 = .ok (.iload_n 3, 1) := by decide +kernel
theorem dX4_inForest_15 : decode cX4_inForest 15 = .ok (.invokevirtual 53, 3) := by decide +kernel
theorem dX4_inForest_18 : decode cX4_inForest 18 = .ok (.getfield 116, 3) := by decide +kernel
theorem dX4_inForest_21 : decode cX4_inForest 21 = .ok (.iload_n 1, 1) := by decide +kernel
theorem dX4_inForest_22 : decode cX4_inForest 22 = .ok (.if_icmp .gt 19, 3) := by decide +kernel
theorem dX4_inForest_25 : decode cX4_inForest 25 = .ok (.iload_n 1, 1) := by decide +kernel
theorem dX4_inForest_26 : decode cX4_inForest 26 = .ok (.aload_n 0, 1) := by decide +kernel
theorem dX4_inForest_27 : decode cX4_inForest 27 = .ok (.iload_n 3, 1) := by decide +kernel
theorem dX4_inForest_28 : decode cX4_inForest 28 = .ok (.invokevirtual 53, 3) := by decide +kernel
theorem dX4_inForest_31 : decode cX4_inForest 31 = .ok (.getfield 119, 3) := by decide +kernel
theorem dX4_inForest_34 : decode cX4_inForest 34 = .ok (.if_icmp .ge 7, 3) := by decide +kernel
theorem dX4_inForest_37 : decode cX4_inForest 37 = .ok (.iconst 1, 1) := by decide +kernel
theorem dX4_inForest_38 : decode cX4_inForest 38 = .ok (.goto 4, 3) := by decide +kernel
theorem dX4_inForest_41 : decode cX4_inForest 41 = .ok (.iconst 0, 1) := by decide +kernel
theorem dX4_inForest_42 : decode cX4_inForest 42 = .ok (.iadd, 1) := by decide +kernel
theorem dX4_inForest_43 : decode cX4_inForest 43 = .ok (.istore_n 2, 1) := by decide +kernel
theorem dX4_inForest_44 : decode cX4_inForest 44 = .ok (.iinc 3 1, 3) := by decide +kernel
theorem dX4_inForest_47 : decode cX4_inForest 47 = .ok (.goto (-43), 3) := by decide +kernel
theorem dX4_inForest_50 : decode cX4_inForest 50 = .ok (.iload_n 2, 1) := by decide +kernel
theorem dX4_inForest_51 : decode cX4_inForest 51 = .ok (.ireturn, 1) := by decide +kernel
def f_X4_inForest_4 (i0 : Nat) (v1 : Int32) : Nat → Int32 → Int32 → gSt → Option (Int32 × gSt)
  | 0, _, _, _ => none
  | n + 1, v2, v3, σ =>
    if (σ 3 i0 4) ≤ v3 then
      some (v2, σ)
    else
      (f_X4_runnerAt i0 v3 σ).bind fun p15 =>
      if v1 < (p15.2 10 p15.1 6) then
        f_X4_inForest_4 i0 v1 n (v2 + 0) (v3 + 1) p15.2
      else
        (f_X4_runnerAt i0 v3 p15.2).bind fun p28 =>
        if (p28.2 10 p28.1 7) ≤ v1 then
          f_X4_inForest_4 i0 v1 n (v2 + 0) (v3 + 1) p28.2
        else
          f_X4_inForest_4 i0 v1 n (v2 + 1) (v3 + 1) p28.2
def f_X4_inForest (i0 : Nat) (v1 : Int32) (σ : gSt) : Option (Int32 × gSt) :=
  f_X4_inForest_4 i0 v1 gFuel 0 0 σ
theorem f_X4_inForest_4_ok {i0 : Nat} {v1 : Int32} {r : (Int32 × gSt)} (hi0 : i0 < 2) : ∀ (n : Nat) {v2 : Int32} {v3 : Int32} {σ : gSt} , f_X4_inForest_4 i0 v1 n v2 v3 σ = some r → G l w 0 41 RX4 cX4_inForest 4 (some .int) 1 21 (gE (some (.int r.1)) r.2) 4 [some (.ref (w.2.1 3 i0)), some (.int v1), some (.int v2), some (.int v3)] [] σ := by
  intro n
  induction n with
  | zero => intro v2 v3 σ h; rw [f_X4_inForest_4] at h; cases h
  | succ n ih =>
    intro v2 v3 σ h
    rw [f_X4_inForest_4] at h
    refine g_iload_n dX4_inForest_4 rfl ?_
    refine g_aload_n dX4_inForest_5 rfl ?_
    refine gI_X4_34 (ok_3 hi0) dX4_inForest_6 ?_
    refine g_icmp_ge 50 dX4_inForest_9 rfl (fun q => ?_) (fun q => ?_)
    · replace h := gif_t q h
      refine g_iload_n dX4_inForest_50 rfl ?_
      cases h
      exact g_iret dX4_inForest_51 rfl ⟨rfl, rfl⟩
    · replace h := gif_f q h
      refine g_iload_n dX4_inForest_12 rfl ?_
      refine g_aload_n dX4_inForest_13 rfl ?_
      refine g_iload_n dX4_inForest_14 rfl ?_
      obtain ⟨p15, e15, h⟩ := obind h
      refine g_vR1 mv_X4_53 dX4_inForest_15 (ok_3 hi0) ⟨by decide, by decide⟩ (Nat.le_of_ble_eq_true rfl) (f_X4_runnerAt_ok hi0 e15) (fun b15 => ?_)
      refine gI_X4_116 (ok_10 b15) dX4_inForest_18 ?_
      refine g_iload_n dX4_inForest_21 rfl ?_
      refine g_icmp_gt 41 dX4_inForest_22 rfl (fun q => ?_) (fun q => ?_)
      · replace h := gif_t q h
        refine g_iconst dX4_inForest_41 kc_0 ?_
        refine g_iadd dX4_inForest_42 ?_
        refine g_istore2 dX4_inForest_43 ?_
        refine g_inc3 kc_1 dX4_inForest_44 ?_
        refine g_goto 4 dX4_inForest_47 rfl ?_
        exact ih h
      · replace h := gif_f q h
        refine g_iload_n dX4_inForest_25 rfl ?_
        refine g_aload_n dX4_inForest_26 rfl ?_
        refine g_iload_n dX4_inForest_27 rfl ?_
        obtain ⟨p28, e28, h⟩ := obind h
        refine g_vR1 mv_X4_53 dX4_inForest_28 (ok_3 hi0) ⟨by decide, by decide⟩ (Nat.le_of_ble_eq_true rfl) (f_X4_runnerAt_ok hi0 e28) (fun b28 => ?_)
        refine gI_X4_119 (ok_10 b28) dX4_inForest_31 ?_
        refine g_icmp_ge 41 dX4_inForest_34 rfl (fun q => ?_) (fun q => ?_)
        · replace h := gif_t q h
          refine g_iconst dX4_inForest_41 kc_0 ?_
          refine g_iadd dX4_inForest_42 ?_
          refine g_istore2 dX4_inForest_43 ?_
          refine g_inc3 kc_1 dX4_inForest_44 ?_
          refine g_goto 4 dX4_inForest_47 rfl ?_
          exact ih h
        · replace h := gif_f q h
          refine g_iconst dX4_inForest_37 kc_1 ?_
          refine g_goto 42 dX4_inForest_38 rfl ?_
          refine g_iadd dX4_inForest_42 ?_
          refine g_istore2 dX4_inForest_43 ?_
          refine g_inc3 kc_1 dX4_inForest_44 ?_
          refine g_goto 4 dX4_inForest_47 rfl ?_
          exact ih h
theorem f_X4_inForest_ok {i0 : Nat} {v1 : Int32} (hi0 : i0 < 2) {σ : gSt} {r : (Int32 × gSt)} (h : f_X4_inForest i0 v1 σ = some r) : Mt l w 0 41 yX4_inForest cX4_inForest 4 (some .int) 1 21 [.ref (w.2.1 3 i0), .int v1] σ (gE (some (.int r.1)) r.2) := by
  unfold f_X4_inForest at h
  refine g_start pn_X4 rfl rfl (Nat.le_of_ble_eq_true rfl) ?_
  show G l w 0 41 RX4 cX4_inForest 4 (some .int) 1 21 (gE (some (.int r.1)) r.2) 0 [some (.ref (w.2.1 3 i0)), some (.int v1), none, none] [] σ
  refine g_iconst dX4_inForest_0 kc_0 ?_
  refine g_istore2 dX4_inForest_1 ?_
  refine g_iconst dX4_inForest_2 kc_0 ?_
  refine g_istore3 dX4_inForest_3 ?_
  exact f_X4_inForest_4_ok hi0 gFuel h
theorem dX4_fullestTime_0 : decode cX4_fullestTime 0 = .ok (.aload_n 0, 1) := by decide +kernel
theorem dX4_fullestTime_1 : decode cX4_fullestTime 1 = .ok (.iconst 0, 1) := by decide +kernel
theorem dX4_fullestTime_2 : decode cX4_fullestTime 2 = .ok (.invokevirtual 53, 3) := by decide +kernel
theorem dX4_fullestTime_5 : decode cX4_fullestTime 5 = .ok (.getfield 116, 3) := by decide +kernel
theorem dX4_fullestTime_8 : decode cX4_fullestTime 8 = .ok (.istore_n 1, 1) := by decide +kernel
theorem dX4_fullestTime_9 : decode cX4_fullestTime 9 = .ok (.iconst 1, 1) := by decide +kernel
theorem dX4_fullestTime_10 : decode cX4_fullestTime 10 = .ok (.istore_n 2, 1) := by decide +kernel
theorem dX4_fullestTime_11 : decode cX4_fullestTime 11 = .ok (.iload_n 2, 1) := by decide +kernel
theorem dX4_fullestTime_12 : decode cX4_fullestTime 12 = .ok (.aload_n 0, 1) := by decide +kernel
theorem dX4_fullestTime_13 : decode cX4_fullestTime 13 = .ok (.getfield 34, 3) := by decide +kernel
theorem dX4_fullestTime_16 : decode cX4_fullestTime 16 = .ok (.if_icmp .ge 48, 3) := by decide +kernel
theorem dX4_fullestTime_19 : decode cX4_fullestTime 19 = .ok (.aload_n 0, 1) := by decide +kernel
theorem dX4_fullestTime_20 : decode cX4_fullestTime 20 = .ok (.iload_n 2, 1) := by decide +kernel
theorem dX4_fullestTime_21 : decode cX4_fullestTime 21 = .ok (.invokevirtual 53, 3) := by decide +kernel
theorem dX4_fullestTime_24 : decode cX4_fullestTime 24 = .ok (.getfield 116, 3) := by decide +kernel
theorem dX4_fullestTime_27 : decode cX4_fullestTime 27 = .ok (.istore_n 3, 1) := by decide +kernel
theorem dX4_fullestTime_28 : decode cX4_fullestTime 28 = .ok (.aload_n 0, 1) := by decide +kernel
theorem dX4_fullestTime_29 : decode cX4_fullestTime 29 = .ok (.iload_n 3, 1) := by decide +kernel
theorem dX4_fullestTime_30 : decode cX4_fullestTime 30 = .ok (.invokevirtual 122, 3) := by decide +kernel
theorem dX4_fullestTime_33 : decode cX4_fullestTime 33 = .ok (.aload_n 0, 1) := by decide +kernel
theorem dX4_fullestTime_34 : decode cX4_fullestTime 34 = .ok (.iload_n 1, 1) := by decide +kernel
theorem dX4_fullestTime_35 : decode cX4_fullestTime 35 = .ok (.invokevirtual 122, 3) := by decide +kernel
theorem dX4_fullestTime_38 : decode cX4_fullestTime 38 = .ok (.isub, 1) := by decide +kernel
theorem dX4_fullestTime_39 : decode cX4_fullestTime 39 = .ok (.istore 4, 2) := by decide +kernel
theorem dX4_fullestTime_41 : decode cX4_fullestTime 41 = .ok (.iload 4, 2) := by decide +kernel
theorem dX4_fullestTime_43 : decode cX4_fullestTime 43 = .ok (.ifCond .gt 13, 3) := by decide +kernel
theorem dX4_fullestTime_46 : decode cX4_fullestTime 46 = .ok (.iload 4, 2) := by decide +kernel
theorem dX4_fullestTime_48 : decode cX4_fullestTime 48 = .ok (.ifCond .ne 10, 3) := by decide +kernel
theorem dX4_fullestTime_51 : decode cX4_fullestTime 51 = .ok (.iload_n 3, 1) := by decide +kernel
theorem dX4_fullestTime_52 : decode cX4_fullestTime 52 = .ok (.iload_n 1, 1) := by decide +kernel
theorem dX4_fullestTime_53 : decode cX4_fullestTime 53 = .ok (.if_icmp .ge 5, 3) := by decide +kernel
theorem dX4_fullestTime_56 : decode cX4_fullestTime 56 = .ok (.iload_n 3, 1) := by decide +kernel
theorem dX4_fullestTime_57 : decode cX4_fullestTime 57 = .ok (.istore_n 1, 1) := by decide +kernel
theorem dX4_fullestTime_58 : decode cX4_fullestTime 58 = .ok (.iinc 2 1, 3) := by decide +kernel
theorem dX4_fullestTime_61 : decode cX4_fullestTime 61 = .ok (.goto (-50), 3) := by decide +kernel
theorem dX4_fullestTime_64 : decode cX4_fullestTime 64 = .ok (.iload_n 1, 1) := by decide +kernel
theorem dX4_fullestTime_65 : decode cX4_fullestTime 65 = .ok (.ireturn, 1) := by decide +kernel
def f_X4_fullestTime_11 (i0 : Nat) : Nat → Int32 → Int32 → gSt → Option (Int32 × gSt)
  | 0, _, _, _ => none
  | n + 1, v1, v2, σ =>
    if (σ 3 i0 4) ≤ v2 then
      some (v1, σ)
    else
      (f_X4_runnerAt i0 v2 σ).bind fun p21 =>
      (f_X4_inForest i0 (p21.2 10 p21.1 6) p21.2).bind fun p30 =>
      (f_X4_inForest i0 v1 p30.2).bind fun p35 =>
      if 0 < (p30.1 - p35.1) then
        f_X4_fullestTime_11 i0 n (p21.2 10 p21.1 6) (v2 + 1) p35.2
      else
        if (p30.1 - p35.1) = 0 then
          if v1 ≤ (p21.2 10 p21.1 6) then
            f_X4_fullestTime_11 i0 n v1 (v2 + 1) p35.2
          else
            f_X4_fullestTime_11 i0 n (p21.2 10 p21.1 6) (v2 + 1) p35.2
        else
          f_X4_fullestTime_11 i0 n v1 (v2 + 1) p35.2
def f_X4_fullestTime (i0 : Nat) (σ : gSt) : Option (Int32 × gSt) :=
  (f_X4_runnerAt i0 0 σ).bind fun p2 =>
  f_X4_fullestTime_11 i0 gFuel (p2.2 10 p2.1 6) 1 p2.2
theorem f_X4_fullestTime_11_ok {i0 : Nat} {r : (Int32 × gSt)} (hi0 : i0 < 2) : ∀ (n : Nat) {v1 : Int32} {v2 : Int32} {σ : gSt} {x3 x4 : Option Value}, f_X4_fullestTime_11 i0 n v1 v2 σ = some r → G l w 0 41 RX4 cX4_fullestTime 5 (some .int) 2 44 (gE (some (.int r.1)) r.2) 11 [some (.ref (w.2.1 3 i0)), some (.int v1), some (.int v2), x3, x4] [] σ := by
  intro n
  induction n with
  | zero => intro v1 v2 σ x3 x4 h; rw [f_X4_fullestTime_11] at h; cases h
  | succ n ih =>
    intro v1 v2 σ x3 x4 h
    rw [f_X4_fullestTime_11] at h
    refine g_iload_n dX4_fullestTime_11 rfl ?_
    refine g_aload_n dX4_fullestTime_12 rfl ?_
    refine gI_X4_34 (ok_3 hi0) dX4_fullestTime_13 ?_
    refine g_icmp_ge 64 dX4_fullestTime_16 rfl (fun q => ?_) (fun q => ?_)
    · replace h := gif_t q h
      refine g_iload_n dX4_fullestTime_64 rfl ?_
      cases h
      exact g_iret dX4_fullestTime_65 rfl ⟨rfl, rfl⟩
    · replace h := gif_f q h
      refine g_aload_n dX4_fullestTime_19 rfl ?_
      refine g_iload_n dX4_fullestTime_20 rfl ?_
      obtain ⟨p21, e21, h⟩ := obind h
      refine g_vR1 mv_X4_53 dX4_fullestTime_21 (ok_3 hi0) ⟨by decide, by decide⟩ (Nat.le_of_ble_eq_true rfl) (f_X4_runnerAt_ok hi0 e21) (fun b21 => ?_)
      refine gI_X4_116 (ok_10 b21) dX4_fullestTime_24 ?_
      refine g_istore3 dX4_fullestTime_27 ?_
      refine g_aload_n dX4_fullestTime_28 rfl ?_
      refine g_iload_n dX4_fullestTime_29 rfl ?_
      obtain ⟨p30, e30, h⟩ := obind h
      refine g_vP1 mv_X4_122 dX4_fullestTime_30 (ok_3 hi0) ⟨by decide, by decide⟩ (Nat.le_of_ble_eq_true rfl) (f_X4_inForest_ok hi0 e30) ?_
      refine g_aload_n dX4_fullestTime_33 rfl ?_
      refine g_iload_n dX4_fullestTime_34 rfl ?_
      obtain ⟨p35, e35, h⟩ := obind h
      refine g_vP1 mv_X4_122 dX4_fullestTime_35 (ok_3 hi0) ⟨by decide, by decide⟩ (Nat.le_of_ble_eq_true rfl) (f_X4_inForest_ok hi0 e35) ?_
      refine g_isub dX4_fullestTime_38 ?_
      refine g_istore4 dX4_fullestTime_39 ?_
      refine g_iload dX4_fullestTime_41 rfl ?_
      refine g_if_gt 56 dX4_fullestTime_43 rfl (fun q => ?_) (fun q => ?_)
      · replace h := gif_t q h
        refine g_iload_n dX4_fullestTime_56 rfl ?_
        refine g_istore1 dX4_fullestTime_57 ?_
        refine g_inc2 kc_1 dX4_fullestTime_58 ?_
        refine g_goto 11 dX4_fullestTime_61 rfl ?_
        exact ih h
      · replace h := gif_f q h
        refine g_iload dX4_fullestTime_46 rfl ?_
        refine g_if_ne 58 dX4_fullestTime_48 rfl (fun q => ?_) (fun q => ?_)
        · replace h := gif_f q h
          refine g_inc2 kc_1 dX4_fullestTime_58 ?_
          refine g_goto 11 dX4_fullestTime_61 rfl ?_
          exact ih h
        · replace h := gif_t q h
          refine g_iload_n dX4_fullestTime_51 rfl ?_
          refine g_iload_n dX4_fullestTime_52 rfl ?_
          refine g_icmp_ge 58 dX4_fullestTime_53 rfl (fun q => ?_) (fun q => ?_)
          · replace h := gif_t q h
            refine g_inc2 kc_1 dX4_fullestTime_58 ?_
            refine g_goto 11 dX4_fullestTime_61 rfl ?_
            exact ih h
          · replace h := gif_f q h
            refine g_iload_n dX4_fullestTime_56 rfl ?_
            refine g_istore1 dX4_fullestTime_57 ?_
            refine g_inc2 kc_1 dX4_fullestTime_58 ?_
            refine g_goto 11 dX4_fullestTime_61 rfl ?_
            exact ih h
theorem f_X4_fullestTime_ok {i0 : Nat} (hi0 : i0 < 2) {σ : gSt} {r : (Int32 × gSt)} (h : f_X4_fullestTime i0 σ = some r) : Mt l w 0 41 yX4_fullestTime cX4_fullestTime 5 (some .int) 2 44 [.ref (w.2.1 3 i0)] σ (gE (some (.int r.1)) r.2) := by
  unfold f_X4_fullestTime at h
  refine g_start pn_X4 rfl rfl (Nat.le_of_ble_eq_true rfl) ?_
  show G l w 0 41 RX4 cX4_fullestTime 5 (some .int) 2 44 (gE (some (.int r.1)) r.2) 0 [some (.ref (w.2.1 3 i0)), none, none, none, none] [] σ
  refine g_aload_n dX4_fullestTime_0 rfl ?_
  refine g_iconst dX4_fullestTime_1 kc_0 ?_
  obtain ⟨p2, e2, h⟩ := obind h
  refine g_vR1 mv_X4_53 dX4_fullestTime_2 (ok_3 hi0) ⟨by decide, by decide⟩ (Nat.le_of_ble_eq_true rfl) (f_X4_runnerAt_ok hi0 e2) (fun b2 => ?_)
  refine gI_X4_116 (ok_10 b2) dX4_fullestTime_5 ?_
  refine g_istore1 dX4_fullestTime_8 ?_
  refine g_iconst dX4_fullestTime_9 kc_1 ?_
  refine g_istore2 dX4_fullestTime_10 ?_
  exact f_X4_fullestTime_11_ok hi0 gFuel h
theorem dX4_removeControl_0 : decode cX4_removeControl 0 = .ok (.aload_n 0, 1) := by decide +kernel
theorem dX4_removeControl_1 : decode cX4_removeControl 1 = .ok (.iload_n 1, 1) := by decide +kernel
theorem dX4_removeControl_2 : decode cX4_removeControl 2 = .ok (.invokevirtual 45, 3) := by decide +kernel
theorem dX4_removeControl_5 : decode cX4_removeControl 5 = .ok (.iload_n 2, 1) := by decide +kernel
theorem dX4_removeControl_6 : decode cX4_removeControl 6 = .ok (.invokevirtual 141, 3) := by decide +kernel
theorem dX4_removeControl_9 : decode cX4_removeControl 9 = .ok (.aload_n 0, 1) := by decide +kernel
theorem dX4_removeControl_10 : decode cX4_removeControl 10 = .ok (.iload_n 1, 1) := by decide +kernel
theorem dX4_removeControl_11 : decode cX4_removeControl 11 = .ok (.invokevirtual 136, 3) := by decide +kernel
theorem dX4_removeControl_14 : decode cX4_removeControl 14 = .ok (.return_, 1) := by decide +kernel
def f_X4_removeControl (i0 : Nat) (v1 : Int32) (v2 : Int32) (σ : gSt) : Option gSt :=
  (f_X4_courseAt i0 v1 σ).bind fun p2 =>
  (f_X1_remove p2.1 v2 p2.2).bind fun z6 =>
  (f_X4_matchCourse i0 v1 z6).bind fun z11 =>
  some z11
theorem f_X4_removeControl_ok {i0 : Nat} {v1 : Int32} {v2 : Int32} (hi0 : i0 < 2) {σ : gSt} {r : gSt} (h : f_X4_removeControl i0 v1 v2 σ = some r) : Mt l w 0 41 yX4_removeControl cX4_removeControl 3 none 4 95 [.ref (w.2.1 3 i0), .int v1, .int v2] σ (gE none r) := by
  unfold f_X4_removeControl at h
  refine g_start pn_X4 rfl rfl (Nat.le_of_ble_eq_true rfl) ?_
  show G l w 0 41 RX4 cX4_removeControl 3 none 4 95 (gE none r) 0 [some (.ref (w.2.1 3 i0)), some (.int v1), some (.int v2)] [] σ
  refine g_aload_n dX4_removeControl_0 rfl ?_
  refine g_iload_n dX4_removeControl_1 rfl ?_
  obtain ⟨p2, e2, h⟩ := obind h
  refine g_vR1 mv_X4_45 dX4_removeControl_2 (ok_3 hi0) ⟨by decide, by decide⟩ (Nat.le_of_ble_eq_true rfl) (f_X4_courseAt_ok hi0 e2) (fun b2 => ?_)
  refine g_iload_n dX4_removeControl_5 rfl ?_
  obtain ⟨z6, e6, h⟩ := obind h
  refine g_vU1 mv_X4_141 dX4_removeControl_6 (ok_8 b2) ⟨by decide, by decide⟩ (Nat.le_of_ble_eq_true rfl) (f_X1_remove_ok b2 e6) ?_
  refine g_aload_n dX4_removeControl_9 rfl ?_
  refine g_iload_n dX4_removeControl_10 rfl ?_
  obtain ⟨z11, e11, h⟩ := obind h
  refine g_vU1 mv_X4_136 dX4_removeControl_11 (ok_3 hi0) ⟨by decide, by decide⟩ (Nat.le_of_ble_eq_true rfl) (f_X4_matchCourse_ok hi0 e11) ?_
  cases h
  exact g_vret dX4_removeControl_14 rfl ⟨rfl, rfl⟩
theorem dX5_sortIn_0 : decode cX5_sortIn 0 = .ok (.aload_n 0, 1) := by decide +kernel
theorem dX5_sortIn_1 : decode cX5_sortIn 1 = .ok (.getfield 24, 3) := by decide +kernel
theorem dX5_sortIn_4 : decode cX5_sortIn 4 = .ok (.bipush 11, 2) := by decide +kernel
theorem dX5_sortIn_6 : decode cX5_sortIn 6 = .ok (.if_icmp .lt 4, 3) := by decide +kernel
theorem dX5_sortIn_9 : decode cX5_sortIn 9 = .ok (.return_, 1) := by decide +kernel
theorem dX5_sortIn_10 : decode cX5_sortIn 10 = .ok (.aload_n 0, 1) := by decide +kernel
theorem dX5_sortIn_11 : decode cX5_sortIn 11 = .ok (.getfield 24, 3) := by decide +kernel
theorem dX5_sortIn_14 : decode cX5_sortIn 14 = .ok (.istore_n 3, 1) := by decide +kernel
theorem dX5_sortIn_15 : decode cX5_sortIn 15 = .ok (.iload_n 3, 1) := by decide +kernel
theorem dX5_sortIn_16 : decode cX5_sortIn 16 = .ok (.ifCond .le 60, 3) := by decide +kernel
theorem dX5_sortIn_19 : decode cX5_sortIn 19 = .ok (.aload_n 0, 1) := by decide +kernel
theorem dX5_sortIn_20 : decode cX5_sortIn 20 = .ok (.getfield 18, 3) := by decide +kernel
theorem dX5_sortIn_23 : decode cX5_sortIn 23 = .ok (.iload_n 3, 1) := by decide +kernel
theorem dX5_sortIn_24 : decode cX5_sortIn 24 = .ok (.iconst 1, 1) := by decide +kernel
theorem dX5_sortIn_25 : decode cX5_sortIn 25 = .ok (.isub, 1) := by decide +kernel
theorem dX5_sortIn_26 : decode cX5_sortIn 26 = .ok (.iaload, 1) := by decide +kernel
theorem dX5_sortIn_27 : decode cX5_sortIn 27 = .ok (.iload_n 2, 1) := by decide +kernel
theorem dX5_sortIn_28 : decode cX5_sortIn 28 = .ok (.imul, 1) := by decide +kernel
theorem dX5_sortIn_29 : decode cX5_sortIn 29 = .ok (.iload_n 1, 1) := by decide +kernel
theorem dX5_sortIn_30 : decode cX5_sortIn 30 = .ok (.aload_n 0, 1) := by decide +kernel
theorem dX5_sortIn_31 : decode cX5_sortIn 31 = .ok (.getfield 21, 3) := by decide +kernel
theorem dX5_sortIn_34 : decode cX5_sortIn 34 = .ok (.iload_n 3, 1) := by decide +kernel
theorem dX5_sortIn_35 : decode cX5_sortIn 35 = .ok (.iconst 1, 1) := by decide +kernel
theorem dX5_sortIn_36 : decode cX5_sortIn 36 = .ok (.isub, 1) := by decide +kernel
theorem dX5_sortIn_37 : decode cX5_sortIn 37 = .ok (.iaload, 1) := by decide +kernel
theorem dX5_sortIn_38 : decode cX5_sortIn 38 = .ok (.imul, 1) := by decide +kernel
theorem dX5_sortIn_39 : decode cX5_sortIn 39 = .ok (.if_icmp .le 37, 3) := by decide +kernel
theorem dX5_sortIn_42 : decode cX5_sortIn 42 = .ok (.aload_n 0, 1) := by decide +kernel
theorem dX5_sortIn_43 : decode cX5_sortIn 43 = .ok (.getfield 18, 3) := by decide +kernel
theorem dX5_sortIn_46 : decode cX5_sortIn 46 = .ok (.iload_n 3, 1) := by decide +kernel
theorem dX5_sortIn_47 : decode cX5_sortIn 47 = .ok (.aload_n 0, 1) := by decide +kernel
theorem dX5_sortIn_48 : decode cX5_sortIn 48 = .ok (.getfield 18, 3) := by decide +kernel
theorem dX5_sortIn_51 : decode cX5_sortIn 51 = .ok (.iload_n 3, 1) := by decide +kernel
theorem dX5_sortIn_52 : decode cX5_sortIn 52 = .ok (.iconst 1, 1) := by decide +kernel
theorem dX5_sortIn_53 : decode cX5_sortIn 53 = .ok (.isub, 1) := by decide +kernel
theorem dX5_sortIn_54 : decode cX5_sortIn 54 = .ok (.iaload, 1) := by decide +kernel
theorem dX5_sortIn_55 : decode cX5_sortIn 55 = .ok (.iastore, 1) := by decide +kernel
theorem dX5_sortIn_56 : decode cX5_sortIn 56 = .ok (.aload_n 0, 1) := by decide +kernel
theorem dX5_sortIn_57 : decode cX5_sortIn 57 = .ok (.getfield 21, 3) := by decide +kernel
theorem dX5_sortIn_60 : decode cX5_sortIn 60 = .ok (.iload_n 3, 1) := by decide +kernel
theorem dX5_sortIn_61 : decode cX5_sortIn 61 = .ok (.aload_n 0, 1) := by decide +kernel
theorem dX5_sortIn_62 : decode cX5_sortIn 62 = .ok (.getfield 21, 3) := by decide +kernel
theorem dX5_sortIn_65 : decode cX5_sortIn 65 = .ok (.iload_n 3, 1) := by decide +kernel
theorem dX5_sortIn_66 : decode cX5_sortIn 66 = .ok (.iconst 1, 1) := by decide +kernel
theorem dX5_sortIn_67 : decode cX5_sortIn 67 = .ok (.isub, 1) := by decide +kernel
theorem dX5_sortIn_68 : decode cX5_sortIn 68 = .ok (.iaload, 1) := by decide +kernel
theorem dX5_sortIn_69 : decode cX5_sortIn 69 = .ok (.iastore, 1) := by decide +kernel
theorem dX5_sortIn_70 : decode cX5_sortIn 70 = .ok (.iinc 3 (-1), 3) := by decide +kernel
theorem dX5_sortIn_73 : decode cX5_sortIn 73 = .ok (.goto (-58), 3) := by decide +kernel
theorem dX5_sortIn_76 : decode cX5_sortIn 76 = .ok (.aload_n 0, 1) := by decide +kernel
theorem dX5_sortIn_77 : decode cX5_sortIn 77 = .ok (.getfield 18, 3) := by decide +kernel
theorem dX5_sortIn_80 : decode cX5_sortIn 80 = .ok (.iload_n 3, 1) := by decide +kernel
theorem dX5_sortIn_81 : decode cX5_sortIn 81 = .ok (.iload_n 1, 1) := by decide +kernel
theorem dX5_sortIn_82 : decode cX5_sortIn 82 = .ok (.iastore, 1) := by decide +kernel
theorem dX5_sortIn_83 : decode cX5_sortIn 83 = .ok (.aload_n 0, 1) := by decide +kernel
theorem dX5_sortIn_84 : decode cX5_sortIn 84 = .ok (.getfield 21, 3) := by decide +kernel
theorem dX5_sortIn_87 : decode cX5_sortIn 87 = .ok (.iload_n 3, 1) := by decide +kernel
theorem dX5_sortIn_88 : decode cX5_sortIn 88 = .ok (.iload_n 2, 1) := by decide +kernel
theorem dX5_sortIn_89 : decode cX5_sortIn 89 = .ok (.iastore, 1) := by decide +kernel
theorem dX5_sortIn_90 : decode cX5_sortIn 90 = .ok (.aload_n 0, 1) := by decide +kernel
theorem dX5_sortIn_91 : decode cX5_sortIn 91 = .ok (.dup, 1) := by decide +kernel
theorem dX5_sortIn_92 : decode cX5_sortIn 92 = .ok (.getfield 24, 3) := by decide +kernel
theorem dX5_sortIn_95 : decode cX5_sortIn 95 = .ok (.iconst 1, 1) := by decide +kernel
theorem dX5_sortIn_96 : decode cX5_sortIn 96 = .ok (.iadd, 1) := by decide +kernel
theorem dX5_sortIn_97 : decode cX5_sortIn 97 = .ok (.putfield 24, 3) := by decide +kernel
theorem dX5_sortIn_100 : decode cX5_sortIn 100 = .ok (.return_, 1) := by decide +kernel
def f_X5_sortIn_76 (v1 : Int32) (v2 : Int32) (v3 : Int32) (σ : gSt) : Option gSt :=
  (gst σ 20 0 11 v3 v1).bind fun z82 =>
  (gst z82 21 0 11 v3 v2).bind fun z89 =>
  some (gup z89 17 0 6 ((z89 17 0 6) + 1))
def f_X5_sortIn_15 (v1 : Int32) (v2 : Int32) : Nat → Int32 → gSt → Option gSt
  | 0, _, _ => none
  | n + 1, v3, σ =>
    if v3 ≤ 0 then
      f_X5_sortIn_76 v1 v2 v3 σ
    else
      (gld σ 20 0 11 (v3 - 1)).bind fun a26 =>
      (gld σ 21 0 11 (v3 - 1)).bind fun a37 =>
      if (a26 * v2) ≤ (v1 * a37) then
        f_X5_sortIn_76 v1 v2 v3 σ
      else
        (gld σ 20 0 11 (v3 - 1)).bind fun a54 =>
        (gst σ 20 0 11 v3 a54).bind fun z55 =>
        (gld z55 21 0 11 (v3 - 1)).bind fun a68 =>
        (gst z55 21 0 11 v3 a68).bind fun z69 =>
        f_X5_sortIn_15 v1 v2 n (v3 + (-1)) z69
def f_X5_sortIn (v1 : Int32) (v2 : Int32) (σ : gSt) : Option gSt :=
  if (σ 17 0 6) < 11 then
    f_X5_sortIn_15 v1 v2 gFuel (σ 17 0 6) σ
  else
    some σ
theorem f_X5_sortIn_76_ok {v1 : Int32} {v2 : Int32} {v3 : Int32} {r : gSt}  {σ : gSt}  (h : f_X5_sortIn_76 v1 v2 v3 σ = some r) : G l w 0 41 RX5 cX5_sortIn 4 none 0 0 (gE none r) 76 [some (.ref (w.2.1 17 0)), some (.int v1), some (.int v2), some (.int v3)] [] σ := by
  unfold f_X5_sortIn_76 at h
  refine g_aload_n dX5_sortIn_76 rfl ?_
  refine gR_X5_18 ok_17 dX5_sortIn_77 ?_
  refine g_iload_n dX5_sortIn_80 rfl ?_
  refine g_iload_n dX5_sortIn_81 rfl ?_
  obtain ⟨z82, e82, h⟩ := obind h
  refine g_stB e82 ok_20 rfl rfl (by decide) dX5_sortIn_82 ?_
  refine g_aload_n dX5_sortIn_83 rfl ?_
  refine gR_X5_21 ok_17 dX5_sortIn_84 ?_
  refine g_iload_n dX5_sortIn_87 rfl ?_
  refine g_iload_n dX5_sortIn_88 rfl ?_
  obtain ⟨z89, e89, h⟩ := obind h
  refine g_stB e89 ok_21 rfl rfl (by decide) dX5_sortIn_89 ?_
  refine g_aload_n dX5_sortIn_90 rfl ?_
  refine g_dup dX5_sortIn_91 rfl ?_
  refine gI_X5_24 ok_17 dX5_sortIn_92 ?_
  refine g_iconst dX5_sortIn_95 kc_1 ?_
  refine g_iadd dX5_sortIn_96 ?_
  refine gP_X5_24 ok_17 dX5_sortIn_97 ?_
  cases h
  exact g_vret dX5_sortIn_100 rfl ⟨rfl, rfl⟩
theorem f_X5_sortIn_15_ok {v1 : Int32} {v2 : Int32} {r : gSt}  : ∀ (n : Nat) {v3 : Int32} {σ : gSt} , f_X5_sortIn_15 v1 v2 n v3 σ = some r → G l w 0 41 RX5 cX5_sortIn 4 none 0 0 (gE none r) 15 [some (.ref (w.2.1 17 0)), some (.int v1), some (.int v2), some (.int v3)] [] σ := by
  intro n
  induction n with
  | zero => intro v3 σ h; rw [f_X5_sortIn_15] at h; cases h
  | succ n ih =>
    intro v3 σ h
    rw [f_X5_sortIn_15] at h
    refine g_iload_n dX5_sortIn_15 rfl ?_
    refine g_if_le 76 dX5_sortIn_16 rfl (fun q => ?_) (fun q => ?_)
    · replace h := gif_t q h
      exact f_X5_sortIn_76_ok h
    · replace h := gif_f q h
      refine g_aload_n dX5_sortIn_19 rfl ?_
      refine gR_X5_18 ok_17 dX5_sortIn_20 ?_
      refine g_iload_n dX5_sortIn_23 rfl ?_
      refine g_iconst dX5_sortIn_24 kc_1 ?_
      refine g_isub dX5_sortIn_25 ?_
      obtain ⟨a26, e26, h⟩ := obind h
      refine g_ldB e26 ok_20 rfl rfl (by decide) dX5_sortIn_26 ?_
      refine g_iload_n dX5_sortIn_27 rfl ?_
      refine g_imul dX5_sortIn_28 ?_
      refine g_iload_n dX5_sortIn_29 rfl ?_
      refine g_aload_n dX5_sortIn_30 rfl ?_
      refine gR_X5_21 ok_17 dX5_sortIn_31 ?_
      refine g_iload_n dX5_sortIn_34 rfl ?_
      refine g_iconst dX5_sortIn_35 kc_1 ?_
      refine g_isub dX5_sortIn_36 ?_
      obtain ⟨a37, e37, h⟩ := obind h
      refine g_ldB e37 ok_21 rfl rfl (by decide) dX5_sortIn_37 ?_
      refine g_imul dX5_sortIn_38 ?_
      refine g_icmp_le 76 dX5_sortIn_39 rfl (fun q => ?_) (fun q => ?_)
      · replace h := gif_t q h
        exact f_X5_sortIn_76_ok h
      · replace h := gif_f q h
        refine g_aload_n dX5_sortIn_42 rfl ?_
        refine gR_X5_18 ok_17 dX5_sortIn_43 ?_
        refine g_iload_n dX5_sortIn_46 rfl ?_
        refine g_aload_n dX5_sortIn_47 rfl ?_
        refine gR_X5_18 ok_17 dX5_sortIn_48 ?_
        refine g_iload_n dX5_sortIn_51 rfl ?_
        refine g_iconst dX5_sortIn_52 kc_1 ?_
        refine g_isub dX5_sortIn_53 ?_
        obtain ⟨a54, e54, h⟩ := obind h
        refine g_ldB e54 ok_20 rfl rfl (by decide) dX5_sortIn_54 ?_
        obtain ⟨z55, e55, h⟩ := obind h
        refine g_stB e55 ok_20 rfl rfl (by decide) dX5_sortIn_55 ?_
        refine g_aload_n dX5_sortIn_56 rfl ?_
        refine gR_X5_21 ok_17 dX5_sortIn_57 ?_
        refine g_iload_n dX5_sortIn_60 rfl ?_
        refine g_aload_n dX5_sortIn_61 rfl ?_
        refine gR_X5_21 ok_17 dX5_sortIn_62 ?_
        refine g_iload_n dX5_sortIn_65 rfl ?_
        refine g_iconst dX5_sortIn_66 kc_1 ?_
        refine g_isub dX5_sortIn_67 ?_
        obtain ⟨a68, e68, h⟩ := obind h
        refine g_ldB e68 ok_21 rfl rfl (by decide) dX5_sortIn_68 ?_
        obtain ⟨z69, e69, h⟩ := obind h
        refine g_stB e69 ok_21 rfl rfl (by decide) dX5_sortIn_69 ?_
        refine g_inc3 kc_m1 dX5_sortIn_70 ?_
        refine g_goto 15 dX5_sortIn_73 rfl ?_
        exact ih h
theorem f_X5_sortIn_ok {v1 : Int32} {v2 : Int32}  {σ : gSt} {r : gSt} (h : f_X5_sortIn v1 v2 σ = some r) : Mt l w 0 41 yX5_sortIn cX5_sortIn 4 none 0 0 [.ref (w.2.1 17 0), .int v1, .int v2] σ (gE none r) := by
  unfold f_X5_sortIn at h
  refine g_start pn_X5 rfl rfl (Nat.le_of_ble_eq_true rfl) ?_
  show G l w 0 41 RX5 cX5_sortIn 4 none 0 0 (gE none r) 0 [some (.ref (w.2.1 17 0)), some (.int v1), some (.int v2), none] [] σ
  refine g_aload_n dX5_sortIn_0 rfl ?_
  refine gI_X5_24 ok_17 dX5_sortIn_1 ?_
  refine g_bipush dX5_sortIn_4 kb_11 ?_
  refine g_icmp_lt 10 dX5_sortIn_6 rfl (fun q => ?_) (fun q => ?_)
  · replace h := gif_t q h
    refine g_aload_n dX5_sortIn_10 rfl ?_
    refine gI_X5_24 ok_17 dX5_sortIn_11 ?_
    refine g_istore3 dX5_sortIn_14 ?_
    exact f_X5_sortIn_15_ok gFuel h
  · replace h := gif_f q h
    cases h
    exact g_vret dX5_sortIn_9 rfl ⟨rfl, rfl⟩
theorem dX5_reduce_0 : decode cX5_reduce 0 = .ok (.iload_n 1, 1) := by decide +kernel
theorem dX5_reduce_1 : decode cX5_reduce 1 = .ok (.istore_n 3, 1) := by decide +kernel
theorem dX5_reduce_2 : decode cX5_reduce 2 = .ok (.iload_n 2, 1) := by decide +kernel
theorem dX5_reduce_3 : decode cX5_reduce 3 = .ok (.istore 4, 2) := by decide +kernel
theorem dX5_reduce_5 : decode cX5_reduce 5 = .ok (.iconst 0, 1) := by decide +kernel
theorem dX5_reduce_6 : decode cX5_reduce 6 = .ok (.istore 5, 2) := by decide +kernel
theorem dX5_reduce_8 : decode cX5_reduce 8 = .ok (.iload 5, 2) := by decide +kernel
theorem dX5_reduce_10 : decode cX5_reduce 10 = .ok (.bipush 64, 2) := by decide +kernel
theorem dX5_reduce_12 : decode cX5_reduce 12 = .ok (.if_icmp .ge 27, 3) := by decide +kernel
theorem dX5_reduce_15 : decode cX5_reduce 15 = .ok (.iload 4, 2) := by decide +kernel
theorem dX5_reduce_17 : decode cX5_reduce 17 = .ok (.ifCond .eq 22, 3) := by decide +kernel
theorem dX5_reduce_20 : decode cX5_reduce 20 = .ok (.iload_n 3, 1) := by decide +kernel
theorem dX5_reduce_21 : decode cX5_reduce 21 = .ok (.iload 4, 2) := by decide +kernel
theorem dX5_reduce_23 : decode cX5_reduce 23 = .ok (.irem, 1) := by decide +kernel
theorem dX5_reduce_24 : decode cX5_reduce 24 = .ok (.istore 6, 2) := by decide +kernel
theorem dX5_reduce_26 : decode cX5_reduce 26 = .ok (.iload 4, 2) := by decide +kernel
theorem dX5_reduce_28 : decode cX5_reduce 28 = .ok (.istore_n 3, 1) := by decide +kernel
theorem dX5_reduce_29 : decode cX5_reduce 29 = .ok (.iload 6, 2) := by decide +kernel
theorem dX5_reduce_31 : decode cX5_reduce 31 = .ok (.istore 4, 2) := by decide +kernel
theorem dX5_reduce_33 : decode cX5_reduce 33 = .ok (.iinc 5 1, 3) := by decide +kernel
theorem dX5_reduce_36 : decode cX5_reduce 36 = .ok (.goto (-28), 3) := by decide +kernel
theorem dX5_reduce_39 : decode cX5_reduce 39 = .ok (.iload_n 3, 1) := by decide +kernel
theorem dX5_reduce_40 : decode cX5_reduce 40 = .ok (.ifCond .le 17, 3) := by decide +kernel
theorem dX5_reduce_43 : decode cX5_reduce 43 = .ok (.aload_n 0, 1) := by decide +kernel
theorem dX5_reduce_44 : decode cX5_reduce 44 = .ok (.iload_n 1, 1) := by decide +kernel
theorem dX5_reduce_45 : decode cX5_reduce 45 = .ok (.iload_n 3, 1) := by decide +kernel
theorem dX5_reduce_46 : decode cX5_reduce 46 = .ok (.idiv, 1) := by decide +kernel
theorem dX5_reduce_47 : decode cX5_reduce 47 = .ok (.putfield 28, 3) := by decide +kernel
theorem dX5_reduce_50 : decode cX5_reduce 50 = .ok (.aload_n 0, 1) := by decide +kernel
theorem dX5_reduce_51 : decode cX5_reduce 51 = .ok (.iload_n 2, 1) := by decide +kernel
theorem dX5_reduce_52 : decode cX5_reduce 52 = .ok (.iload_n 3, 1) := by decide +kernel
theorem dX5_reduce_53 : decode cX5_reduce 53 = .ok (.idiv, 1) := by decide +kernel
theorem dX5_reduce_54 : decode cX5_reduce 54 = .ok (.putfield 31, 3) := by decide +kernel
theorem dX5_reduce_57 : decode cX5_reduce 57 = .ok (.return_, 1) := by decide +kernel
def f_X5_reduce_39 (v1 : Int32) (v2 : Int32) (v3 : Int32) (σ : gSt) : Option gSt :=
  if v3 ≤ 0 then
    some σ
  else
    (gdv v1 v3).bind fun a46 =>
    (gdv v2 v3).bind fun a53 =>
    some (gup (gup σ 17 0 7 a46) 17 0 8 a53)
def f_X5_reduce_8 (v1 : Int32) (v2 : Int32) : Nat → Int32 → Int32 → Int32 → gSt → Option gSt
  | 0, _, _, _, _ => none
  | n + 1, v3, v4, v5, σ =>
    if 64 ≤ v5 then
      f_X5_reduce_39 v1 v2 v3 σ
    else
      if v4 = 0 then
        f_X5_reduce_39 v1 v2 v3 σ
      else
        (grm v3 v4).bind fun a23 =>
        f_X5_reduce_8 v1 v2 n v4 a23 (v5 + 1) σ
def f_X5_reduce (v1 : Int32) (v2 : Int32) (σ : gSt) : Option gSt :=
  f_X5_reduce_8 v1 v2 gFuel v1 v2 0 σ
theorem f_X5_reduce_39_ok {v1 : Int32} {v2 : Int32} {v3 : Int32} {r : gSt}  {σ : gSt} {x4 x5 x6 : Option Value} (h : f_X5_reduce_39 v1 v2 v3 σ = some r) : G l w 0 41 RX5 cX5_reduce 7 none 0 0 (gE none r) 39 [some (.ref (w.2.1 17 0)), some (.int v1), some (.int v2), some (.int v3), x4, x5, x6] [] σ := by
  unfold f_X5_reduce_39 at h
  refine g_iload_n dX5_reduce_39 rfl ?_
  refine g_if_le 57 dX5_reduce_40 rfl (fun q => ?_) (fun q => ?_)
  · replace h := gif_t q h
    cases h
    exact g_vret dX5_reduce_57 rfl ⟨rfl, rfl⟩
  · replace h := gif_f q h
    refine g_aload_n dX5_reduce_43 rfl ?_
    refine g_iload_n dX5_reduce_44 rfl ?_
    refine g_iload_n dX5_reduce_45 rfl ?_
    obtain ⟨a46, e46, h⟩ := obind h
    refine g_dvB e46 dX5_reduce_46 ?_
    refine gP_X5_28 ok_17 dX5_reduce_47 ?_
    refine g_aload_n dX5_reduce_50 rfl ?_
    refine g_iload_n dX5_reduce_51 rfl ?_
    refine g_iload_n dX5_reduce_52 rfl ?_
    obtain ⟨a53, e53, h⟩ := obind h
    refine g_dvB e53 dX5_reduce_53 ?_
    refine gP_X5_31 ok_17 dX5_reduce_54 ?_
    cases h
    exact g_vret dX5_reduce_57 rfl ⟨rfl, rfl⟩
theorem f_X5_reduce_8_ok {v1 : Int32} {v2 : Int32} {r : gSt}  : ∀ (n : Nat) {v3 : Int32} {v4 : Int32} {v5 : Int32} {σ : gSt} {x6 : Option Value}, f_X5_reduce_8 v1 v2 n v3 v4 v5 σ = some r → G l w 0 41 RX5 cX5_reduce 7 none 0 0 (gE none r) 8 [some (.ref (w.2.1 17 0)), some (.int v1), some (.int v2), some (.int v3), some (.int v4), some (.int v5), x6] [] σ := by
  intro n
  induction n with
  | zero => intro v3 v4 v5 σ x6 h; rw [f_X5_reduce_8] at h; cases h
  | succ n ih =>
    intro v3 v4 v5 σ x6 h
    rw [f_X5_reduce_8] at h
    refine g_iload dX5_reduce_8 rfl ?_
    refine g_bipush dX5_reduce_10 kb_64 ?_
    refine g_icmp_ge 39 dX5_reduce_12 rfl (fun q => ?_) (fun q => ?_)
    · replace h := gif_t q h
      exact f_X5_reduce_39_ok h
    · replace h := gif_f q h
      refine g_iload dX5_reduce_15 rfl ?_
      refine g_if_eq 39 dX5_reduce_17 rfl (fun q => ?_) (fun q => ?_)
      · replace h := gif_t q h
        exact f_X5_reduce_39_ok h
      · replace h := gif_f q h
        refine g_iload_n dX5_reduce_20 rfl ?_
        refine g_iload dX5_reduce_21 rfl ?_
        obtain ⟨a23, e23, h⟩ := obind h
        refine g_rmB e23 dX5_reduce_23 ?_
        refine g_istore6 dX5_reduce_24 ?_
        refine g_iload dX5_reduce_26 rfl ?_
        refine g_istore3 dX5_reduce_28 ?_
        refine g_iload dX5_reduce_29 rfl ?_
        refine g_istore4 dX5_reduce_31 ?_
        refine g_inc5 kc_1 dX5_reduce_33 ?_
        refine g_goto 8 dX5_reduce_36 rfl ?_
        exact ih h
theorem f_X5_reduce_ok {v1 : Int32} {v2 : Int32}  {σ : gSt} {r : gSt} (h : f_X5_reduce v1 v2 σ = some r) : Mt l w 0 41 yX5_reduce cX5_reduce 7 none 0 0 [.ref (w.2.1 17 0), .int v1, .int v2] σ (gE none r) := by
  unfold f_X5_reduce at h
  refine g_start pn_X5 rfl rfl (Nat.le_of_ble_eq_true rfl) ?_
  show G l w 0 41 RX5 cX5_reduce 7 none 0 0 (gE none r) 0 [some (.ref (w.2.1 17 0)), some (.int v1), some (.int v2), none, none, none, none] [] σ
  refine g_iload_n dX5_reduce_0 rfl ?_
  refine g_istore3 dX5_reduce_1 ?_
  refine g_iload_n dX5_reduce_2 rfl ?_
  refine g_istore4 dX5_reduce_3 ?_
  refine g_iconst dX5_reduce_5 kc_0 ?_
  refine g_istore5 dX5_reduce_6 ?_
  exact f_X5_reduce_8_ok gFuel h
theorem dX5_reckon_0 : decode cX5_reckon 0 = .ok (.aload_n 0, 1) := by decide +kernel
theorem dX5_reckon_1 : decode cX5_reckon 1 = .ok (.iconst 0, 1) := by decide +kernel
theorem dX5_reckon_2 : decode cX5_reckon 2 = .ok (.putfield 24, 3) := by decide +kernel
theorem dX5_reckon_5 : decode cX5_reckon 5 = .ok (.aload_n 0, 1) := by decide +kernel
theorem dX5_reckon_6 : decode cX5_reckon 6 = .ok (.iconst 0, 1) := by decide +kernel
theorem dX5_reckon_7 : decode cX5_reckon 7 = .ok (.putfield 28, 3) := by decide +kernel
theorem dX5_reckon_10 : decode cX5_reckon 10 = .ok (.aload_n 0, 1) := by decide +kernel
theorem dX5_reckon_11 : decode cX5_reckon 11 = .ok (.iconst 0, 1) := by decide +kernel
theorem dX5_reckon_12 : decode cX5_reckon 12 = .ok (.putfield 31, 3) := by decide +kernel
theorem dX5_reckon_15 : decode cX5_reckon 15 = .ok (.iconst 0, 1) := by decide +kernel
theorem dX5_reckon_16 : decode cX5_reckon 16 = .ok (.istore_n 2, 1) := by decide +kernel
theorem dX5_reckon_17 : decode cX5_reckon 17 = .ok (.iload_n 2, 1) := by decide +kernel
theorem dX5_reckon_18 : decode cX5_reckon 18 = .ok (.bipush 11, 2) := by decide +kernel
theorem dX5_reckon_20 : decode cX5_reckon 20 = .ok (.if_icmp .ge 77, 3) := by decide +kernel
theorem dX5_reckon_23 : decode cX5_reckon 23 = .ok (.iload_n 2, 1) := by decide +kernel
theorem dX5_reckon_24 : decode cX5_reckon 24 = .ok (.aload_n 1, 1) := by decide +kernel
theorem dX5_reckon_25 : decode cX5_reckon 25 = .ok (.getfield 42, 3) := by decide +kernel
theorem dX5_reckon_28 : decode cX5_reckon 28 = .ok (.if_icmp .gt 11, 3) := by decide +kernel
theorem dX5_reckon_31 : decode cX5_reckon 31 = .ok (.aload_n 1, 1) := by decide +kernel
theorem dX5_reckon_32 : decode cX5_reckon 32 = .ok (.iload_n 2, 1) := by decide +kernel
theorem dX5_reckon_33 : decode cX5_reckon 33 = .ok (.invokevirtual 47, 3) := by decide +kernel
theorem dX5_reckon_36 : decode cX5_reckon 36 = .ok (.goto 4, 3) := by decide +kernel
theorem dX5_reckon_39 : decode cX5_reckon 39 = .ok (.iconst (-1), 1) := by decide +kernel
theorem dX5_reckon_40 : decode cX5_reckon 40 = .ok (.istore_n 3, 1) := by decide +kernel
theorem dX5_reckon_41 : decode cX5_reckon 41 = .ok (.iload_n 3, 1) := by decide +kernel
theorem dX5_reckon_42 : decode cX5_reckon 42 = .ok (.iconst (-1), 1) := by decide +kernel
theorem dX5_reckon_43 : decode cX5_reckon 43 = .ok (.if_icmp .ne 7, 3) := by decide +kernel
theorem dX5_reckon_46 : decode cX5_reckon 46 = .ok (.iconst (-1), 1) := by decide +kernel
theorem dX5_reckon_47 : decode cX5_reckon 47 = .ok (.goto 15, 3) := by decide +kernel
theorem dX5_reckon_50 : decode cX5_reckon 50 = .ok (.aload_n 0, 1) := by decide +kernel
theorem dX5_reckon_51 : decode cX5_reckon 51 = .ok (.getfield 38, 3) := by decide +kernel
theorem dX5_reckon_54 : decode cX5_reckon 54 = .ok (.aload_n 1, 1) := by decide +kernel
theorem dX5_reckon_55 : decode cX5_reckon 55 = .ok (.getfield 51, 3) := by decide +kernel
theorem dX5_reckon_58 : decode cX5_reckon 58 = .ok (.iload_n 2, 1) := by decide +kernel
theorem dX5_reckon_59 : decode cX5_reckon 59 = .ok (.invokevirtual 54, 3) := by decide +kernel
theorem dX5_reckon_62 : decode cX5_reckon 62 = .ok (.istore 4, 2) := by decide +kernel
theorem dX5_reckon_64 : decode cX5_reckon 64 = .ok (.aload_n 0, 1) := by decide +kernel
theorem dX5_reckon_65 : decode cX5_reckon 65 = .ok (.getfield 9, 3) := by decide +kernel
theorem dX5_reckon_68 : decode cX5_reckon 68 = .ok (.iload_n 2, 1) := by decide +kernel
theorem dX5_reckon_69 : decode cX5_reckon 69 = .ok (.iload_n 3, 1) := by decide +kernel
theorem dX5_reckon_70 : decode cX5_reckon 70 = .ok (.iastore, 1) := by decide +kernel
theorem dX5_reckon_71 : decode cX5_reckon 71 = .ok (.aload_n 0, 1) := by decide +kernel
theorem dX5_reckon_72 : decode cX5_reckon 72 = .ok (.getfield 15, 3) := by decide +kernel
theorem dX5_reckon_75 : decode cX5_reckon 75 = .ok (.iload_n 2, 1) := by decide +kernel
theorem dX5_reckon_76 : decode cX5_reckon 76 = .ok (.iload 4, 2) := by decide +kernel
theorem dX5_reckon_78 : decode cX5_reckon 78 = .ok (.iastore, 1) := by decide +kernel
theorem dX5_reckon_79 : decode cX5_reckon 79 = .ok (.iload 4, 2) := by decide +kernel
theorem dX5_reckon_81 : decode cX5_reckon 81 = .ok (.ifCond .le 10, 3) := by decide +kernel
theorem dX5_reckon_84 : decode cX5_reckon 84 = .ok (.aload_n 0, 1) := by decide +kernel
theorem dX5_reckon_85 : decode cX5_reckon 85 = .ok (.iload_n 3, 1) := by decide +kernel
theorem dX5_reckon_86 : decode cX5_reckon 86 = .ok (.iload 4, 2) := by decide +kernel
theorem dX5_reckon_88 : decode cX5_reckon 88 = .ok (.invokevirtual 60, 3) := by decide +kernel
theorem dX5_reckon_91 : decode cX5_reckon 91 = .ok (.iinc 2 1, 3) := by decide +kernel
theorem dX5_reckon_94 : decode cX5_reckon 94 = .ok (.goto (-77), 3) := by decide +kernel
theorem dX5_reckon_97 : decode cX5_reckon 97 = .ok (.aload_n 0, 1) := by decide +kernel
theorem dX5_reckon_98 : decode cX5_reckon 98 = .ok (.getfield 24, 3) := by decide +kernel
theorem dX5_reckon_101 : decode cX5_reckon 101 = .ok (.ifCond .le 12, 3) := by decide +kernel
theorem dX5_reckon_104 : decode cX5_reckon 104 = .ok (.aload_n 0, 1) := by decide +kernel
theorem dX5_reckon_105 : decode cX5_reckon 105 = .ok (.getfield 24, 3) := by decide +kernel
theorem dX5_reckon_108 : decode cX5_reckon 108 = .ok (.bipush 11, 2) := by decide +kernel
theorem dX5_reckon_110 : decode cX5_reckon 110 = .ok (.if_icmp .le 5, 3) := by decide +kernel
theorem dX5_reckon_113 : decode cX5_reckon 113 = .ok (.iconst 0, 1) := by decide +kernel
theorem dX5_reckon_114 : decode cX5_reckon 114 = .ok (.ireturn, 1) := by decide +kernel
theorem dX5_reckon_115 : decode cX5_reckon 115 = .ok (.aload_n 0, 1) := by decide +kernel
theorem dX5_reckon_116 : decode cX5_reckon 116 = .ok (.getfield 24, 3) := by decide +kernel
theorem dX5_reckon_119 : decode cX5_reckon 119 = .ok (.iconst 1, 1) := by decide +kernel
theorem dX5_reckon_120 : decode cX5_reckon 120 = .ok (.isub, 1) := by decide +kernel
theorem dX5_reckon_121 : decode cX5_reckon 121 = .ok (.iconst 2, 1) := by decide +kernel
theorem dX5_reckon_122 : decode cX5_reckon 122 = .ok (.idiv, 1) := by decide +kernel
theorem dX5_reckon_123 : decode cX5_reckon 123 = .ok (.istore_n 2, 1) := by decide +kernel
theorem dX5_reckon_124 : decode cX5_reckon 124 = .ok (.aload_n 0, 1) := by decide +kernel
theorem dX5_reckon_125 : decode cX5_reckon 125 = .ok (.aload_n 0, 1) := by decide +kernel
theorem dX5_reckon_126 : decode cX5_reckon 126 = .ok (.getfield 18, 3) := by decide +kernel
theorem dX5_reckon_129 : decode cX5_reckon 129 = .ok (.iload_n 2, 1) := by decide +kernel
theorem dX5_reckon_130 : decode cX5_reckon 130 = .ok (.iaload, 1) := by decide +kernel
theorem dX5_reckon_131 : decode cX5_reckon 131 = .ok (.aload_n 0, 1) := by decide +kernel
theorem dX5_reckon_132 : decode cX5_reckon 132 = .ok (.getfield 21, 3) := by decide +kernel
theorem dX5_reckon_135 : decode cX5_reckon 135 = .ok (.iload_n 2, 1) := by decide +kernel
theorem dX5_reckon_136 : decode cX5_reckon 136 = .ok (.iaload, 1) := by decide +kernel
theorem dX5_reckon_137 : decode cX5_reckon 137 = .ok (.invokevirtual 64, 3) := by decide +kernel
theorem dX5_reckon_140 : decode cX5_reckon 140 = .ok (.iconst 1, 1) := by decide +kernel
theorem dX5_reckon_141 : decode cX5_reckon 141 = .ok (.ireturn, 1) := by decide +kernel
def f_X5_reckon_62 (i1 : Nat) (v2 : Int32) (v3 : Int32) (k17 : Int32 → gSt → Option (Int32 × gSt)) (vs0 : Int32) (σ : gSt) : Option (Int32 × gSt) :=
  (gst σ 18 0 11 v2 v3).bind fun z70 =>
  (gst z70 19 0 11 v2 vs0).bind fun z78 =>
  if vs0 ≤ 0 then
    k17 (v2 + 1) z78
  else
    (f_X5_sortIn v3 vs0 z78).bind fun z88 =>
    k17 (v2 + 1) z88
def f_X5_reckon_40 (i1 : Nat) (v2 : Int32) (k17 : Int32 → gSt → Option (Int32 × gSt)) (vs0 : Int32) (σ : gSt) : Option (Int32 × gSt) :=
  if vs0 = (-1) then
    f_X5_reckon_62 i1 v2 vs0 k17 (-1) σ
  else
    (f_X2_bestTime (σ 10 i1 5) v2 σ).bind fun p59 =>
    f_X5_reckon_62 i1 v2 vs0 k17 p59.1 p59.2
def f_X5_reckon_17 (i1 : Nat) : Nat → Int32 → gSt → Option (Int32 × gSt)
  | 0, _, _ => none
  | n + 1, v2, σ =>
    if 11 ≤ v2 then
      if (σ 17 0 6) ≤ 0 then
        some (0, σ)
      else
        if (σ 17 0 6) ≤ 11 then
          (gdv ((σ 17 0 6) - 1) 2).bind fun a122 =>
          (gld σ 20 0 11 a122).bind fun a130 =>
          (gld σ 21 0 11 a122).bind fun a136 =>
          (f_X5_reduce a130 a136 σ).bind fun z137 =>
          some (1, z137)
        else
          some (0, σ)
    else
      if (σ 10 i1 9) < v2 then
        f_X5_reckon_40 i1 v2 (fun v2 σ => f_X5_reckon_17 i1 n v2 σ) (-1) σ
      else
        (f_X9_legTime i1 v2 σ).bind fun p33 =>
        f_X5_reckon_40 i1 v2 (fun v2 σ => f_X5_reckon_17 i1 n v2 σ) p33.1 p33.2
def f_X5_reckon (i1 : Nat) (σ : gSt) : Option (Int32 × gSt) :=
  f_X5_reckon_17 i1 gFuel 0 (gup (gup (gup σ 17 0 6 0) 17 0 7 0) 17 0 8 0)
theorem f_X5_reckon_62_ok {i1 : Nat} {v2 : Int32} {v3 : Int32} {k17 : Int32 → gSt → Option (Int32 × gSt)} {vs0 : Int32} {r : (Int32 × gSt)} (hi1 : i1 < 20) (hk17 : ∀ {v2 : Int32} {σ : gSt} {x3 x4 : Option Value}, k17 v2 σ = some r → G l w 0 41 RX5 cX5_reckon 5 (some .boolean) 3 69 (gE (some (.int r.1)) r.2) 17 [some (.ref (w.2.1 17 0)), some (.ref (w.2.1 10 i1)), some (.int v2), x3, x4] [] σ) {σ : gSt} {x4 : Option Value} (h : f_X5_reckon_62 i1 v2 v3 k17 vs0 σ = some r) : G l w 0 41 RX5 cX5_reckon 5 (some .boolean) 3 69 (gE (some (.int r.1)) r.2) 62 [some (.ref (w.2.1 17 0)), some (.ref (w.2.1 10 i1)), some (.int v2), some (.int v3), x4] [.int vs0] σ := by
  unfold f_X5_reckon_62 at h
  refine g_istore4 dX5_reckon_62 ?_
  refine g_aload_n dX5_reckon_64 rfl ?_
  refine gR_X5_9 ok_17 dX5_reckon_65 ?_
  refine g_iload_n dX5_reckon_68 rfl ?_
  refine g_iload_n dX5_reckon_69 rfl ?_
  obtain ⟨z70, e70, h⟩ := obind h
  refine g_stB e70 ok_18 rfl rfl (by decide) dX5_reckon_70 ?_
  refine g_aload_n dX5_reckon_71 rfl ?_
  refine gR_X5_15 ok_17 dX5_reckon_72 ?_
  refine g_iload_n dX5_reckon_75 rfl ?_
  refine g_iload dX5_reckon_76 rfl ?_
  obtain ⟨z78, e78, h⟩ := obind h
  refine g_stB e78 ok_19 rfl rfl (by decide) dX5_reckon_78 ?_
  refine g_iload dX5_reckon_79 rfl ?_
  refine g_if_le 91 dX5_reckon_81 rfl (fun q => ?_) (fun q => ?_)
  · replace h := gif_t q h
    refine g_inc2 kc_1 dX5_reckon_91 ?_
    refine g_goto 17 dX5_reckon_94 rfl ?_
    exact hk17 h
  · replace h := gif_f q h
    refine g_aload_n dX5_reckon_84 rfl ?_
    refine g_iload_n dX5_reckon_85 rfl ?_
    refine g_iload dX5_reckon_86 rfl ?_
    obtain ⟨z88, e88, h⟩ := obind h
    refine g_vU2 mv_X5_60 dX5_reckon_88 ok_17 ⟨by decide, by decide⟩ (Nat.le_of_ble_eq_true rfl) (f_X5_sortIn_ok e88) ?_
    refine g_inc2 kc_1 dX5_reckon_91 ?_
    refine g_goto 17 dX5_reckon_94 rfl ?_
    exact hk17 h
theorem f_X5_reckon_40_ok {i1 : Nat} {v2 : Int32} {k17 : Int32 → gSt → Option (Int32 × gSt)} {vs0 : Int32} {r : (Int32 × gSt)} (hi1 : i1 < 20) (hk17 : ∀ {v2 : Int32} {σ : gSt} {x3 x4 : Option Value}, k17 v2 σ = some r → G l w 0 41 RX5 cX5_reckon 5 (some .boolean) 3 69 (gE (some (.int r.1)) r.2) 17 [some (.ref (w.2.1 17 0)), some (.ref (w.2.1 10 i1)), some (.int v2), x3, x4] [] σ) {σ : gSt} {x3 x4 : Option Value} (h : f_X5_reckon_40 i1 v2 k17 vs0 σ = some r) : G l w 0 41 RX5 cX5_reckon 5 (some .boolean) 3 69 (gE (some (.int r.1)) r.2) 40 [some (.ref (w.2.1 17 0)), some (.ref (w.2.1 10 i1)), some (.int v2), x3, x4] [.int vs0] σ := by
  unfold f_X5_reckon_40 at h
  refine g_istore3 dX5_reckon_40 ?_
  refine g_iload_n dX5_reckon_41 rfl ?_
  refine g_iconst dX5_reckon_42 kc_m1 ?_
  refine g_icmp_ne 50 dX5_reckon_43 rfl (fun q => ?_) (fun q => ?_)
  · replace h := gif_f q h
    refine g_aload_n dX5_reckon_50 rfl ?_
    refine gR_X5_38 ok_17 dX5_reckon_51 ?_
    refine g_aload_n dX5_reckon_54 rfl ?_
    refine gI_X5_51 (ok_10 hi1) dX5_reckon_55 ?_
    refine g_iload_n dX5_reckon_58 rfl ?_
    obtain ⟨p59, e59, h⟩ := obind h
    refine g_vP2 mv_X5_54 dX5_reckon_59 ok_16 ⟨by decide, by decide⟩ (Nat.le_of_ble_eq_true rfl) (f_X2_bestTime_ok e59) ?_
    exact f_X5_reckon_62_ok hi1 hk17 h
  · replace h := gif_t q h
    refine g_iconst dX5_reckon_46 kc_m1 ?_
    refine g_goto 62 dX5_reckon_47 rfl ?_
    exact f_X5_reckon_62_ok hi1 hk17 h
theorem f_X5_reckon_17_ok {i1 : Nat} {r : (Int32 × gSt)} (hi1 : i1 < 20) : ∀ (n : Nat) {v2 : Int32} {σ : gSt} {x3 x4 : Option Value}, f_X5_reckon_17 i1 n v2 σ = some r → G l w 0 41 RX5 cX5_reckon 5 (some .boolean) 3 69 (gE (some (.int r.1)) r.2) 17 [some (.ref (w.2.1 17 0)), some (.ref (w.2.1 10 i1)), some (.int v2), x3, x4] [] σ := by
  intro n
  induction n with
  | zero => intro v2 σ x3 x4 h; rw [f_X5_reckon_17] at h; cases h
  | succ n ih =>
    intro v2 σ x3 x4 h
    rw [f_X5_reckon_17] at h
    refine g_iload_n dX5_reckon_17 rfl ?_
    refine g_bipush dX5_reckon_18 kb_11 ?_
    refine g_icmp_ge 97 dX5_reckon_20 rfl (fun q => ?_) (fun q => ?_)
    · replace h := gif_t q h
      refine g_aload_n dX5_reckon_97 rfl ?_
      refine gI_X5_24 ok_17 dX5_reckon_98 ?_
      refine g_if_le 113 dX5_reckon_101 rfl (fun q => ?_) (fun q => ?_)
      · replace h := gif_t q h
        refine g_iconst dX5_reckon_113 kc_0 ?_
        cases h
        exact g_zret0 dX5_reckon_114 rfl
      · replace h := gif_f q h
        refine g_aload_n dX5_reckon_104 rfl ?_
        refine gI_X5_24 ok_17 dX5_reckon_105 ?_
        refine g_bipush dX5_reckon_108 kb_11 ?_
        refine g_icmp_le 115 dX5_reckon_110 rfl (fun q => ?_) (fun q => ?_)
        · replace h := gif_t q h
          refine g_aload_n dX5_reckon_115 rfl ?_
          refine gI_X5_24 ok_17 dX5_reckon_116 ?_
          refine g_iconst dX5_reckon_119 kc_1 ?_
          refine g_isub dX5_reckon_120 ?_
          refine g_iconst dX5_reckon_121 kc_2 ?_
          obtain ⟨a122, e122, h⟩ := obind h
          refine g_dvB e122 dX5_reckon_122 ?_
          refine g_istore2 dX5_reckon_123 ?_
          refine g_aload_n dX5_reckon_124 rfl ?_
          refine g_aload_n dX5_reckon_125 rfl ?_
          refine gR_X5_18 ok_17 dX5_reckon_126 ?_
          refine g_iload_n dX5_reckon_129 rfl ?_
          obtain ⟨a130, e130, h⟩ := obind h
          refine g_ldB e130 ok_20 rfl rfl (by decide) dX5_reckon_130 ?_
          refine g_aload_n dX5_reckon_131 rfl ?_
          refine gR_X5_21 ok_17 dX5_reckon_132 ?_
          refine g_iload_n dX5_reckon_135 rfl ?_
          obtain ⟨a136, e136, h⟩ := obind h
          refine g_ldB e136 ok_21 rfl rfl (by decide) dX5_reckon_136 ?_
          obtain ⟨z137, e137, h⟩ := obind h
          refine g_vU2 mv_X5_64 dX5_reckon_137 ok_17 ⟨by decide, by decide⟩ (Nat.le_of_ble_eq_true rfl) (f_X5_reduce_ok e137) ?_
          refine g_iconst dX5_reckon_140 kc_1 ?_
          cases h
          exact g_zret1 dX5_reckon_141 rfl
        · replace h := gif_f q h
          refine g_iconst dX5_reckon_113 kc_0 ?_
          cases h
          exact g_zret0 dX5_reckon_114 rfl
    · replace h := gif_f q h
      refine g_iload_n dX5_reckon_23 rfl ?_
      refine g_aload_n dX5_reckon_24 rfl ?_
      refine gI_X5_42 (ok_10 hi1) dX5_reckon_25 ?_
      refine g_icmp_gt 39 dX5_reckon_28 rfl (fun q => ?_) (fun q => ?_)
      · replace h := gif_t q h
        refine g_iconst dX5_reckon_39 kc_m1 ?_
        exact f_X5_reckon_40_ok hi1 (fun h => ih h) h
      · replace h := gif_f q h
        refine g_aload_n dX5_reckon_31 rfl ?_
        refine g_iload_n dX5_reckon_32 rfl ?_
        obtain ⟨p33, e33, h⟩ := obind h
        refine g_vP1 mv_X5_47 dX5_reckon_33 (ok_10 hi1) ⟨by decide, by decide⟩ (Nat.le_of_ble_eq_true rfl) (f_X9_legTime_ok hi1 e33) ?_
        refine g_goto 40 dX5_reckon_36 rfl ?_
        exact f_X5_reckon_40_ok hi1 (fun h => ih h) h
theorem f_X5_reckon_ok {i1 : Nat} (hi1 : i1 < 20) {σ : gSt} {r : (Int32 × gSt)} (h : f_X5_reckon i1 σ = some r) : Mt l w 0 41 yX5_reckon cX5_reckon 5 (some .boolean) 3 69 [.ref (w.2.1 17 0), .ref (w.2.1 10 i1)] σ (gE (some (.int r.1)) r.2) := by
  unfold f_X5_reckon at h
  refine g_start pn_X5 rfl rfl (Nat.le_of_ble_eq_true rfl) ?_
  show G l w 0 41 RX5 cX5_reckon 5 (some .boolean) 3 69 (gE (some (.int r.1)) r.2) 0 [some (.ref (w.2.1 17 0)), some (.ref (w.2.1 10 i1)), none, none, none] [] σ
  refine g_aload_n dX5_reckon_0 rfl ?_
  refine g_iconst dX5_reckon_1 kc_0 ?_
  refine gP_X5_24 ok_17 dX5_reckon_2 ?_
  refine g_aload_n dX5_reckon_5 rfl ?_
  refine g_iconst dX5_reckon_6 kc_0 ?_
  refine gP_X5_28 ok_17 dX5_reckon_7 ?_
  refine g_aload_n dX5_reckon_10 rfl ?_
  refine g_iconst dX5_reckon_11 kc_0 ?_
  refine gP_X5_31 ok_17 dX5_reckon_12 ?_
  refine g_iconst dX5_reckon_15 kc_0 ?_
  refine g_istore2 dX5_reckon_16 ?_
  exact f_X5_reckon_17_ok hi1 gFuel h
theorem dX5_isPaced_0 : decode cX5_isPaced 0 = .ok (.iload_n 1, 1) := by decide +kernel
theorem dX5_isPaced_1 : decode cX5_isPaced 1 = .ok (.ifCond .lt 22, 3) := by decide +kernel
theorem dX5_isPaced_4 : decode cX5_isPaced 4 = .ok (.iload_n 1, 1) := by decide +kernel
theorem dX5_isPaced_5 : decode cX5_isPaced 5 = .ok (.bipush 11, 2) := by decide +kernel
theorem dX5_isPaced_7 : decode cX5_isPaced 7 = .ok (.if_icmp .ge 16, 3) := by decide +kernel
theorem dX5_isPaced_10 : decode cX5_isPaced 10 = .ok (.aload_n 0, 1) := by decide +kernel
theorem dX5_isPaced_11 : decode cX5_isPaced 11 = .ok (.getfield 15, 3) := by decide +kernel
theorem dX5_isPaced_14 : decode cX5_isPaced 14 = .ok (.iload_n 1, 1) := by decide +kernel
theorem dX5_isPaced_15 : decode cX5_isPaced 15 = .ok (.iaload, 1) := by decide +kernel
theorem dX5_isPaced_16 : decode cX5_isPaced 16 = .ok (.ifCond .le 7, 3) := by decide +kernel
theorem dX5_isPaced_19 : decode cX5_isPaced 19 = .ok (.iconst 1, 1) := by decide +kernel
theorem dX5_isPaced_20 : decode cX5_isPaced 20 = .ok (.goto 4, 3) := by decide +kernel
theorem dX5_isPaced_23 : decode cX5_isPaced 23 = .ok (.iconst 0, 1) := by decide +kernel
theorem dX5_isPaced_24 : decode cX5_isPaced 24 = .ok (.ireturn, 1) := by decide +kernel
def f_X5_isPaced (v1 : Int32) (σ : gSt) : Option (Int32 × gSt) :=
  if v1 < 0 then
    some (0, σ)
  else
    if 11 ≤ v1 then
      some (0, σ)
    else
      (gld σ 19 0 11 v1).bind fun a15 =>
      if a15 ≤ 0 then
        some (0, σ)
      else
        some (1, σ)
theorem f_X5_isPaced_ok {v1 : Int32}  {σ : gSt} {r : (Int32 × gSt)} (h : f_X5_isPaced v1 σ = some r) : Mt l w 0 41 yX5_isPaced cX5_isPaced 2 (some .boolean) 0 0 [.ref (w.2.1 17 0), .int v1] σ (gE (some (.int r.1)) r.2) := by
  unfold f_X5_isPaced at h
  refine g_start pn_X5 rfl rfl (Nat.le_of_ble_eq_true rfl) ?_
  show G l w 0 41 RX5 cX5_isPaced 2 (some .boolean) 0 0 (gE (some (.int r.1)) r.2) 0 [some (.ref (w.2.1 17 0)), some (.int v1)] [] σ
  refine g_iload_n dX5_isPaced_0 rfl ?_
  refine g_if_lt 23 dX5_isPaced_1 rfl (fun q => ?_) (fun q => ?_)
  · replace h := gif_t q h
    refine g_iconst dX5_isPaced_23 kc_0 ?_
    cases h
    exact g_zret0 dX5_isPaced_24 rfl
  · replace h := gif_f q h
    refine g_iload_n dX5_isPaced_4 rfl ?_
    refine g_bipush dX5_isPaced_5 kb_11 ?_
    refine g_icmp_ge 23 dX5_isPaced_7 rfl (fun q => ?_) (fun q => ?_)
    · replace h := gif_t q h
      refine g_iconst dX5_isPaced_23 kc_0 ?_
      cases h
      exact g_zret0 dX5_isPaced_24 rfl
    · replace h := gif_f q h
      refine g_aload_n dX5_isPaced_10 rfl ?_
      refine gR_X5_15 ok_17 dX5_isPaced_11 ?_
      refine g_iload_n dX5_isPaced_14 rfl ?_
      obtain ⟨a15, e15, h⟩ := obind h
      refine g_ldB e15 ok_19 rfl rfl (by decide) dX5_isPaced_15 ?_
      refine g_if_le 23 dX5_isPaced_16 rfl (fun q => ?_) (fun q => ?_)
      · replace h := gif_t q h
        refine g_iconst dX5_isPaced_23 kc_0 ?_
        cases h
        exact g_zret0 dX5_isPaced_24 rfl
      · replace h := gif_f q h
        refine g_iconst dX5_isPaced_19 kc_1 ?_
        refine g_goto 24 dX5_isPaced_20 rfl ?_
        cases h
        exact g_zret1 dX5_isPaced_24 rfl
theorem dX5_mistakeOn_0 : decode cX5_mistakeOn 0 = .ok (.aload_n 0, 1) := by decide +kernel
theorem dX5_mistakeOn_1 : decode cX5_mistakeOn 1 = .ok (.iload_n 1, 1) := by decide +kernel
theorem dX5_mistakeOn_2 : decode cX5_mistakeOn 2 = .ok (.invokevirtual 67, 3) := by decide +kernel
theorem dX5_mistakeOn_5 : decode cX5_mistakeOn 5 = .ok (.ifCond .eq 10, 3) := by decide +kernel
theorem dX5_mistakeOn_8 : decode cX5_mistakeOn 8 = .ok (.aload_n 0, 1) := by decide +kernel
theorem dX5_mistakeOn_9 : decode cX5_mistakeOn 9 = .ok (.getfield 31, 3) := by decide +kernel
theorem dX5_mistakeOn_12 : decode cX5_mistakeOn 12 = .ok (.ifCond .gt 5, 3) := by decide +kernel
theorem dX5_mistakeOn_15 : decode cX5_mistakeOn 15 = .ok (.iconst 0, 1) := by decide +kernel
theorem dX5_mistakeOn_16 : decode cX5_mistakeOn 16 = .ok (.ireturn, 1) := by decide +kernel
theorem dX5_mistakeOn_17 : decode cX5_mistakeOn 17 = .ok (.iconst 2, 1) := by decide +kernel
theorem dX5_mistakeOn_18 : decode cX5_mistakeOn 18 = .ok (.aload_n 0, 1) := by decide +kernel
theorem dX5_mistakeOn_19 : decode cX5_mistakeOn 19 = .ok (.getfield 28, 3) := by decide +kernel
theorem dX5_mistakeOn_22 : decode cX5_mistakeOn 22 = .ok (.imul, 1) := by decide +kernel
theorem dX5_mistakeOn_23 : decode cX5_mistakeOn 23 = .ok (.aload_n 0, 1) := by decide +kernel
theorem dX5_mistakeOn_24 : decode cX5_mistakeOn 24 = .ok (.getfield 15, 3) := by decide +kernel
theorem dX5_mistakeOn_27 : decode cX5_mistakeOn 27 = .ok (.iload_n 1, 1) := by decide +kernel
theorem dX5_mistakeOn_28 : decode cX5_mistakeOn 28 = .ok (.iaload, 1) := by decide +kernel
theorem dX5_mistakeOn_29 : decode cX5_mistakeOn 29 = .ok (.imul, 1) := by decide +kernel
theorem dX5_mistakeOn_30 : decode cX5_mistakeOn 30 = .ok (.aload_n 0, 1) := by decide +kernel
theorem dX5_mistakeOn_31 : decode cX5_mistakeOn 31 = .ok (.getfield 31, 3) := by decide +kernel
theorem dX5_mistakeOn_34 : decode cX5_mistakeOn 34 = .ok (.iadd, 1) := by decide +kernel
theorem dX5_mistakeOn_35 : decode cX5_mistakeOn 35 = .ok (.iconst 1, 1) := by decide +kernel
theorem dX5_mistakeOn_36 : decode cX5_mistakeOn 36 = .ok (.isub, 1) := by decide +kernel
theorem dX5_mistakeOn_37 : decode cX5_mistakeOn 37 = .ok (.iconst 2, 1) := by decide +kernel
theorem dX5_mistakeOn_38 : decode cX5_mistakeOn 38 = .ok (.aload_n 0, 1) := by decide +kernel
theorem dX5_mistakeOn_39 : decode cX5_mistakeOn 39 = .ok (.getfield 31, 3) := by decide +kernel
theorem dX5_mistakeOn_42 : decode cX5_mistakeOn 42 = .ok (.imul, 1) := by decide +kernel
theorem dX5_mistakeOn_43 : decode cX5_mistakeOn 43 = .ok (.idiv, 1) := by decide +kernel
theorem dX5_mistakeOn_44 : decode cX5_mistakeOn 44 = .ok (.istore_n 2, 1) := by decide +kernel
theorem dX5_mistakeOn_45 : decode cX5_mistakeOn 45 = .ok (.aload_n 0, 1) := by decide +kernel
theorem dX5_mistakeOn_46 : decode cX5_mistakeOn 46 = .ok (.getfield 9, 3) := by decide +kernel
theorem dX5_mistakeOn_49 : decode cX5_mistakeOn 49 = .ok (.iload_n 1, 1) := by decide +kernel
theorem dX5_mistakeOn_50 : decode cX5_mistakeOn 50 = .ok (.iaload, 1) := by decide +kernel
theorem dX5_mistakeOn_51 : decode cX5_mistakeOn 51 = .ok (.iload_n 2, 1) := by decide +kernel
theorem dX5_mistakeOn_52 : decode cX5_mistakeOn 52 = .ok (.isub, 1) := by decide +kernel
theorem dX5_mistakeOn_53 : decode cX5_mistakeOn 53 = .ok (.istore_n 3, 1) := by decide +kernel
theorem dX5_mistakeOn_54 : decode cX5_mistakeOn 54 = .ok (.iload_n 3, 1) := by decide +kernel
theorem dX5_mistakeOn_55 : decode cX5_mistakeOn 55 = .ok (.ifCond .le 18, 3) := by decide +kernel
theorem dX5_mistakeOn_58 : decode cX5_mistakeOn 58 = .ok (.iload_n 3, 1) := by decide +kernel
theorem dX5_mistakeOn_59 : decode cX5_mistakeOn 59 = .ok (.aload_n 0, 1) := by decide +kernel
theorem dX5_mistakeOn_60 : decode cX5_mistakeOn 60 = .ok (.getfield 34, 3) := by decide +kernel
theorem dX5_mistakeOn_63 : decode cX5_mistakeOn 63 = .ok (.getfield 71, 3) := by decide +kernel
theorem dX5_mistakeOn_66 : decode cX5_mistakeOn 66 = .ok (.if_icmp .lt 7, 3) := by decide +kernel
theorem dX5_mistakeOn_69 : decode cX5_mistakeOn 69 = .ok (.iload_n 3, 1) := by decide +kernel
theorem dX5_mistakeOn_70 : decode cX5_mistakeOn 70 = .ok (.goto 4, 3) := by decide +kernel
theorem dX5_mistakeOn_73 : decode cX5_mistakeOn 73 = .ok (.iconst 0, 1) := by decide +kernel
theorem dX5_mistakeOn_74 : decode cX5_mistakeOn 74 = .ok (.ireturn, 1) := by decide +kernel
def f_X5_mistakeOn (v1 : Int32) (σ : gSt) : Option (Int32 × gSt) :=
  (f_X5_isPaced v1 σ).bind fun p2 =>
  if p2.1 = 0 then
    some (0, p2.2)
  else
    if 0 < (p2.2 17 0 8) then
      (gld p2.2 19 0 11 v1).bind fun a28 =>
      (gdv ((((2 * (p2.2 17 0 7)) * a28) + (p2.2 17 0 8)) - 1) (2 * (p2.2 17 0 8))).bind fun a43 =>
      (gld p2.2 18 0 11 v1).bind fun a50 =>
      if (a50 - a43) ≤ 0 then
        some (0, p2.2)
      else
        if (a50 - a43) < (p2.2 3 1 6) then
          some (0, p2.2)
        else
          some ((a50 - a43), p2.2)
    else
      some (0, p2.2)
theorem f_X5_mistakeOn_ok {v1 : Int32}  {σ : gSt} {r : (Int32 × gSt)} (h : f_X5_mistakeOn v1 σ = some r) : Mt l w 0 41 yX5_mistakeOn cX5_mistakeOn 4 (some .int) 1 21 [.ref (w.2.1 17 0), .int v1] σ (gE (some (.int r.1)) r.2) := by
  unfold f_X5_mistakeOn at h
  refine g_start pn_X5 rfl rfl (Nat.le_of_ble_eq_true rfl) ?_
  show G l w 0 41 RX5 cX5_mistakeOn 4 (some .int) 1 21 (gE (some (.int r.1)) r.2) 0 [some (.ref (w.2.1 17 0)), some (.int v1), none, none] [] σ
  refine g_aload_n dX5_mistakeOn_0 rfl ?_
  refine g_iload_n dX5_mistakeOn_1 rfl ?_
  obtain ⟨p2, e2, h⟩ := obind h
  refine g_vP1 mv_X5_67 dX5_mistakeOn_2 ok_17 ⟨by decide, by decide⟩ (Nat.le_of_ble_eq_true rfl) (f_X5_isPaced_ok e2) ?_
  refine g_if_eq 15 dX5_mistakeOn_5 rfl (fun q => ?_) (fun q => ?_)
  · replace h := gif_t q h
    refine g_iconst dX5_mistakeOn_15 kc_0 ?_
    cases h
    exact g_iret dX5_mistakeOn_16 rfl ⟨rfl, rfl⟩
  · replace h := gif_f q h
    refine g_aload_n dX5_mistakeOn_8 rfl ?_
    refine gI_X5_31 ok_17 dX5_mistakeOn_9 ?_
    refine g_if_gt 17 dX5_mistakeOn_12 rfl (fun q => ?_) (fun q => ?_)
    · replace h := gif_t q h
      refine g_iconst dX5_mistakeOn_17 kc_2 ?_
      refine g_aload_n dX5_mistakeOn_18 rfl ?_
      refine gI_X5_28 ok_17 dX5_mistakeOn_19 ?_
      refine g_imul dX5_mistakeOn_22 ?_
      refine g_aload_n dX5_mistakeOn_23 rfl ?_
      refine gR_X5_15 ok_17 dX5_mistakeOn_24 ?_
      refine g_iload_n dX5_mistakeOn_27 rfl ?_
      obtain ⟨a28, e28, h⟩ := obind h
      refine g_ldB e28 ok_19 rfl rfl (by decide) dX5_mistakeOn_28 ?_
      refine g_imul dX5_mistakeOn_29 ?_
      refine g_aload_n dX5_mistakeOn_30 rfl ?_
      refine gI_X5_31 ok_17 dX5_mistakeOn_31 ?_
      refine g_iadd dX5_mistakeOn_34 ?_
      refine g_iconst dX5_mistakeOn_35 kc_1 ?_
      refine g_isub dX5_mistakeOn_36 ?_
      refine g_iconst dX5_mistakeOn_37 kc_2 ?_
      refine g_aload_n dX5_mistakeOn_38 rfl ?_
      refine gI_X5_31 ok_17 dX5_mistakeOn_39 ?_
      refine g_imul dX5_mistakeOn_42 ?_
      obtain ⟨a43, e43, h⟩ := obind h
      refine g_dvB e43 dX5_mistakeOn_43 ?_
      refine g_istore2 dX5_mistakeOn_44 ?_
      refine g_aload_n dX5_mistakeOn_45 rfl ?_
      refine gR_X5_9 ok_17 dX5_mistakeOn_46 ?_
      refine g_iload_n dX5_mistakeOn_49 rfl ?_
      obtain ⟨a50, e50, h⟩ := obind h
      refine g_ldB e50 ok_18 rfl rfl (by decide) dX5_mistakeOn_50 ?_
      refine g_iload_n dX5_mistakeOn_51 rfl ?_
      refine g_isub dX5_mistakeOn_52 ?_
      refine g_istore3 dX5_mistakeOn_53 ?_
      refine g_iload_n dX5_mistakeOn_54 rfl ?_
      refine g_if_le 73 dX5_mistakeOn_55 rfl (fun q => ?_) (fun q => ?_)
      · replace h := gif_t q h
        refine g_iconst dX5_mistakeOn_73 kc_0 ?_
        cases h
        exact g_iret dX5_mistakeOn_74 rfl ⟨rfl, rfl⟩
      · replace h := gif_f q h
        refine g_iload_n dX5_mistakeOn_58 rfl ?_
        refine g_aload_n dX5_mistakeOn_59 rfl ?_
        refine gR_X5_34 ok_17 dX5_mistakeOn_60 ?_
        refine gI_X5_71 (ok_3 (by decide)) dX5_mistakeOn_63 ?_
        refine g_icmp_lt 73 dX5_mistakeOn_66 rfl (fun q => ?_) (fun q => ?_)
        · replace h := gif_t q h
          refine g_iconst dX5_mistakeOn_73 kc_0 ?_
          cases h
          exact g_iret dX5_mistakeOn_74 rfl ⟨rfl, rfl⟩
        · replace h := gif_f q h
          refine g_iload_n dX5_mistakeOn_69 rfl ?_
          refine g_goto 74 dX5_mistakeOn_70 rfl ?_
          cases h
          exact g_iret dX5_mistakeOn_74 rfl ⟨rfl, rfl⟩
    · replace h := gif_f q h
      refine g_iconst dX5_mistakeOn_15 kc_0 ?_
      cases h
      exact g_iret dX5_mistakeOn_16 rfl ⟨rfl, rfl⟩
theorem dX5_mistakeBits_0 : decode cX5_mistakeBits 0 = .ok (.aload_n 0, 1) := by decide +kernel
theorem dX5_mistakeBits_1 : decode cX5_mistakeBits 1 = .ok (.aload_n 1, 1) := by decide +kernel
theorem dX5_mistakeBits_2 : decode cX5_mistakeBits 2 = .ok (.invokevirtual 76, 3) := by decide +kernel
theorem dX5_mistakeBits_5 : decode cX5_mistakeBits 5 = .ok (.pop, 1) := by decide +kernel
theorem dX5_mistakeBits_6 : decode cX5_mistakeBits 6 = .ok (.iconst 0, 1) := by decide +kernel
theorem dX5_mistakeBits_7 : decode cX5_mistakeBits 7 = .ok (.istore_n 2, 1) := by decide +kernel
theorem dX5_mistakeBits_8 : decode cX5_mistakeBits 8 = .ok (.iconst 0, 1) := by decide +kernel
theorem dX5_mistakeBits_9 : decode cX5_mistakeBits 9 = .ok (.istore_n 3, 1) := by decide +kernel
theorem dX5_mistakeBits_10 : decode cX5_mistakeBits 10 = .ok (.iload_n 3, 1) := by decide +kernel
theorem dX5_mistakeBits_11 : decode cX5_mistakeBits 11 = .ok (.bipush 11, 2) := by decide +kernel
theorem dX5_mistakeBits_13 : decode cX5_mistakeBits 13 = .ok (.if_icmp .ge 27, 3) := by decide +kernel
theorem dX5_mistakeBits_16 : decode cX5_mistakeBits 16 = .ok (.iload_n 2, 1) := by decide +kernel
theorem dX5_mistakeBits_17 : decode cX5_mistakeBits 17 = .ok (.aload_n 0, 1) := by decide +kernel
theorem dX5_mistakeBits_18 : decode cX5_mistakeBits 18 = .ok (.iload_n 3, 1) := by decide +kernel
theorem dX5_mistakeBits_19 : decode cX5_mistakeBits 19 = .ok (.invokevirtual 80, 3) := by decide +kernel
theorem dX5_mistakeBits_22 : decode cX5_mistakeBits 22 = .ok (.ifCond .le 9, 3) := by decide +kernel
theorem dX5_mistakeBits_25 : decode cX5_mistakeBits 25 = .ok (.iconst 1, 1) := by decide +kernel
theorem dX5_mistakeBits_26 : decode cX5_mistakeBits 26 = .ok (.iload_n 3, 1) := by decide +kernel
theorem dX5_mistakeBits_27 : decode cX5_mistakeBits 27 = .ok (.ishl, 1) := by decide +kernel
theorem dX5_mistakeBits_28 : decode cX5_mistakeBits 28 = .ok (.goto 4, 3) := by decide +kernel
theorem dX5_mistakeBits_31 : decode cX5_mistakeBits 31 = .ok (.iconst 0, 1) := by decide +kernel
theorem dX5_mistakeBits_32 : decode cX5_mistakeBits 32 = .ok (.ior, 1) := by decide +kernel
theorem dX5_mistakeBits_33 : decode cX5_mistakeBits 33 = .ok (.istore_n 2, 1) := by decide +kernel
theorem dX5_mistakeBits_34 : decode cX5_mistakeBits 34 = .ok (.iinc 3 1, 3) := by decide +kernel
theorem dX5_mistakeBits_37 : decode cX5_mistakeBits 37 = .ok (.goto (-27), 3) := by decide +kernel
theorem dX5_mistakeBits_40 : decode cX5_mistakeBits 40 = .ok (.iload_n 2, 1) := by decide +kernel
theorem dX5_mistakeBits_41 : decode cX5_mistakeBits 41 = .ok (.ireturn, 1) := by decide +kernel
def f_X5_mistakeBits_10  : Nat → Int32 → Int32 → gSt → Option (Int32 × gSt)
  | 0, _, _, _ => none
  | n + 1, v2, v3, σ =>
    if 11 ≤ v3 then
      some (v2, σ)
    else
      (f_X5_mistakeOn v3 σ).bind fun p19 =>
      if p19.1 ≤ 0 then
        f_X5_mistakeBits_10 n (v2 ||| 0) (v3 + 1) p19.2
      else
        f_X5_mistakeBits_10 n (v2 ||| (1 <<< (v3 &&& 31))) (v3 + 1) p19.2
def f_X5_mistakeBits (i1 : Nat) (σ : gSt) : Option (Int32 × gSt) :=
  (f_X5_reckon i1 σ).bind fun p2 =>
  f_X5_mistakeBits_10 gFuel 0 0 p2.2
theorem f_X5_mistakeBits_10_ok  {r : (Int32 × gSt)}  : ∀ (n : Nat) {v2 : Int32} {v3 : Int32} {σ : gSt} {x1 : Option Value}, f_X5_mistakeBits_10 n v2 v3 σ = some r → G l w 0 41 RX5 cX5_mistakeBits 4 (some .int) 4 93 (gE (some (.int r.1)) r.2) 10 [some (.ref (w.2.1 17 0)), x1, some (.int v2), some (.int v3)] [] σ := by
  intro n
  induction n with
  | zero => intro v2 v3 σ x1 h; rw [f_X5_mistakeBits_10] at h; cases h
  | succ n ih =>
    intro v2 v3 σ x1 h
    rw [f_X5_mistakeBits_10] at h
    refine g_iload_n dX5_mistakeBits_10 rfl ?_
    refine g_bipush dX5_mistakeBits_11 kb_11 ?_
    refine g_icmp_ge 40 dX5_mistakeBits_13 rfl (fun q => ?_) (fun q => ?_)
    · replace h := gif_t q h
      refine g_iload_n dX5_mistakeBits_40 rfl ?_
      cases h
      exact g_iret dX5_mistakeBits_41 rfl ⟨rfl, rfl⟩
    · replace h := gif_f q h
      refine g_iload_n dX5_mistakeBits_16 rfl ?_
      refine g_aload_n dX5_mistakeBits_17 rfl ?_
      refine g_iload_n dX5_mistakeBits_18 rfl ?_
      obtain ⟨p19, e19, h⟩ := obind h
      refine g_vP1 mv_X5_80 dX5_mistakeBits_19 ok_17 ⟨by decide, by decide⟩ (Nat.le_of_ble_eq_true rfl) (f_X5_mistakeOn_ok e19) ?_
      refine g_if_le 31 dX5_mistakeBits_22 rfl (fun q => ?_) (fun q => ?_)
      · replace h := gif_t q h
        refine g_iconst dX5_mistakeBits_31 kc_0 ?_
        refine g_ior dX5_mistakeBits_32 ?_
        refine g_istore2 dX5_mistakeBits_33 ?_
        refine g_inc3 kc_1 dX5_mistakeBits_34 ?_
        refine g_goto 10 dX5_mistakeBits_37 rfl ?_
        exact ih h
      · replace h := gif_f q h
        refine g_iconst dX5_mistakeBits_25 kc_1 ?_
        refine g_iload_n dX5_mistakeBits_26 rfl ?_
        refine g_ishl dX5_mistakeBits_27 ?_
        refine g_goto 32 dX5_mistakeBits_28 rfl ?_
        refine g_ior dX5_mistakeBits_32 ?_
        refine g_istore2 dX5_mistakeBits_33 ?_
        refine g_inc3 kc_1 dX5_mistakeBits_34 ?_
        refine g_goto 10 dX5_mistakeBits_37 rfl ?_
        exact ih h
theorem f_X5_mistakeBits_ok {i1 : Nat} (hi1 : i1 < 20) {σ : gSt} {r : (Int32 × gSt)} (h : f_X5_mistakeBits i1 σ = some r) : Mt l w 0 41 yX5_mistakeBits cX5_mistakeBits 4 (some .int) 4 93 [.ref (w.2.1 17 0), .ref (w.2.1 10 i1)] σ (gE (some (.int r.1)) r.2) := by
  unfold f_X5_mistakeBits at h
  refine g_start pn_X5 rfl rfl (Nat.le_of_ble_eq_true rfl) ?_
  show G l w 0 41 RX5 cX5_mistakeBits 4 (some .int) 4 93 (gE (some (.int r.1)) r.2) 0 [some (.ref (w.2.1 17 0)), some (.ref (w.2.1 10 i1)), none, none] [] σ
  refine g_aload_n dX5_mistakeBits_0 rfl ?_
  refine g_aload_n dX5_mistakeBits_1 rfl ?_
  obtain ⟨p2, e2, h⟩ := obind h
  refine g_vP1 mv_X5_76 dX5_mistakeBits_2 ok_17 ⟨by decide, by decide⟩ (Nat.le_of_ble_eq_true rfl) (f_X5_reckon_ok hi1 e2) ?_
  refine g_pop dX5_mistakeBits_5 rfl ?_
  refine g_iconst dX5_mistakeBits_6 kc_0 ?_
  refine g_istore2 dX5_mistakeBits_7 ?_
  refine g_iconst dX5_mistakeBits_8 kc_0 ?_
  refine g_istore3 dX5_mistakeBits_9 ?_
  exact f_X5_mistakeBits_10_ok gFuel h
theorem dX5_cleanTime_0 : decode cX5_cleanTime 0 = .ok (.aload_n 0, 1) := by decide +kernel
theorem dX5_cleanTime_1 : decode cX5_cleanTime 1 = .ok (.aload_n 1, 1) := by decide +kernel
theorem dX5_cleanTime_2 : decode cX5_cleanTime 2 = .ok (.invokevirtual 76, 3) := by decide +kernel
theorem dX5_cleanTime_5 : decode cX5_cleanTime 5 = .ok (.pop, 1) := by decide +kernel
theorem dX5_cleanTime_6 : decode cX5_cleanTime 6 = .ok (.aload_n 1, 1) := by decide +kernel
theorem dX5_cleanTime_7 : decode cX5_cleanTime 7 = .ok (.invokevirtual 83, 3) := by decide +kernel
theorem dX5_cleanTime_10 : decode cX5_cleanTime 10 = .ok (.istore_n 2, 1) := by decide +kernel
theorem dX5_cleanTime_11 : decode cX5_cleanTime 11 = .ok (.iconst 0, 1) := by decide +kernel
theorem dX5_cleanTime_12 : decode cX5_cleanTime 12 = .ok (.istore_n 3, 1) := by decide +kernel
theorem dX5_cleanTime_13 : decode cX5_cleanTime 13 = .ok (.iload_n 3, 1) := by decide +kernel
theorem dX5_cleanTime_14 : decode cX5_cleanTime 14 = .ok (.bipush 11, 2) := by decide +kernel
theorem dX5_cleanTime_16 : decode cX5_cleanTime 16 = .ok (.if_icmp .ge 17, 3) := by decide +kernel
theorem dX5_cleanTime_19 : decode cX5_cleanTime 19 = .ok (.iload_n 2, 1) := by decide +kernel
theorem dX5_cleanTime_20 : decode cX5_cleanTime 20 = .ok (.aload_n 0, 1) := by decide +kernel
theorem dX5_cleanTime_21 : decode cX5_cleanTime 21 = .ok (.iload_n 3, 1) := by decide +kernel
theorem dX5_cleanTime_22 : decode cX5_cleanTime 22 = .ok (.invokevirtual 80, 3) := by decide +kernel
theorem dX5_cleanTime_25 : decode cX5_cleanTime 25 = .ok (.isub, 1) := by decide +kernel
theorem dX5_cleanTime_26 : decode cX5_cleanTime 26 = .ok (.istore_n 2, 1) := by decide +kernel
theorem dX5_cleanTime_27 : decode cX5_cleanTime 27 = .ok (.iinc 3 1, 3) := by decide +kernel
theorem dX5_cleanTime_30 : decode cX5_cleanTime 30 = .ok (.goto (-17), 3) := by decide +kernel
theorem dX5_cleanTime_33 : decode cX5_cleanTime 33 = .ok (.iload_n 2, 1) := by decide +kernel
theorem dX5_cleanTime_34 : decode cX5_cleanTime 34 = .ok (.ireturn, 1) := by decide +kernel
def f_X5_cleanTime_13  : Nat → Int32 → Int32 → gSt → Option (Int32 × gSt)
  | 0, _, _, _ => none
  | n + 1, v2, v3, σ =>
    if 11 ≤ v3 then
      some (v2, σ)
    else
      (f_X5_mistakeOn v3 σ).bind fun p22 =>
      f_X5_cleanTime_13 n (v2 - p22.1) (v3 + 1) p22.2
def f_X5_cleanTime (i1 : Nat) (σ : gSt) : Option (Int32 × gSt) :=
  (f_X5_reckon i1 σ).bind fun p2 =>
  (f_X9_total i1 p2.2).bind fun p7 =>
  f_X5_cleanTime_13 gFuel p7.1 0 p7.2
theorem f_X5_cleanTime_13_ok  {r : (Int32 × gSt)}  : ∀ (n : Nat) {v2 : Int32} {v3 : Int32} {σ : gSt} {x1 : Option Value}, f_X5_cleanTime_13 n v2 v3 σ = some r → G l w 0 41 RX5 cX5_cleanTime 4 (some .int) 4 93 (gE (some (.int r.1)) r.2) 13 [some (.ref (w.2.1 17 0)), x1, some (.int v2), some (.int v3)] [] σ := by
  intro n
  induction n with
  | zero => intro v2 v3 σ x1 h; rw [f_X5_cleanTime_13] at h; cases h
  | succ n ih =>
    intro v2 v3 σ x1 h
    rw [f_X5_cleanTime_13] at h
    refine g_iload_n dX5_cleanTime_13 rfl ?_
    refine g_bipush dX5_cleanTime_14 kb_11 ?_
    refine g_icmp_ge 33 dX5_cleanTime_16 rfl (fun q => ?_) (fun q => ?_)
    · replace h := gif_t q h
      refine g_iload_n dX5_cleanTime_33 rfl ?_
      cases h
      exact g_iret dX5_cleanTime_34 rfl ⟨rfl, rfl⟩
    · replace h := gif_f q h
      refine g_iload_n dX5_cleanTime_19 rfl ?_
      refine g_aload_n dX5_cleanTime_20 rfl ?_
      refine g_iload_n dX5_cleanTime_21 rfl ?_
      obtain ⟨p22, e22, h⟩ := obind h
      refine g_vP1 mv_X5_80 dX5_cleanTime_22 ok_17 ⟨by decide, by decide⟩ (Nat.le_of_ble_eq_true rfl) (f_X5_mistakeOn_ok e22) ?_
      refine g_isub dX5_cleanTime_25 ?_
      refine g_istore2 dX5_cleanTime_26 ?_
      refine g_inc3 kc_1 dX5_cleanTime_27 ?_
      refine g_goto 13 dX5_cleanTime_30 rfl ?_
      exact ih h
theorem f_X5_cleanTime_ok {i1 : Nat} (hi1 : i1 < 20) {σ : gSt} {r : (Int32 × gSt)} (h : f_X5_cleanTime i1 σ = some r) : Mt l w 0 41 yX5_cleanTime cX5_cleanTime 4 (some .int) 4 93 [.ref (w.2.1 17 0), .ref (w.2.1 10 i1)] σ (gE (some (.int r.1)) r.2) := by
  unfold f_X5_cleanTime at h
  refine g_start pn_X5 rfl rfl (Nat.le_of_ble_eq_true rfl) ?_
  show G l w 0 41 RX5 cX5_cleanTime 4 (some .int) 4 93 (gE (some (.int r.1)) r.2) 0 [some (.ref (w.2.1 17 0)), some (.ref (w.2.1 10 i1)), none, none] [] σ
  refine g_aload_n dX5_cleanTime_0 rfl ?_
  refine g_aload_n dX5_cleanTime_1 rfl ?_
  obtain ⟨p2, e2, h⟩ := obind h
  refine g_vP1 mv_X5_76 dX5_cleanTime_2 ok_17 ⟨by decide, by decide⟩ (Nat.le_of_ble_eq_true rfl) (f_X5_reckon_ok hi1 e2) ?_
  refine g_pop dX5_cleanTime_5 rfl ?_
  refine g_aload_n dX5_cleanTime_6 rfl ?_
  obtain ⟨p7, e7, h⟩ := obind h
  refine g_vP0 mv_X5_83 dX5_cleanTime_7 (ok_10 hi1) ⟨by decide, by decide⟩ (Nat.le_of_ble_eq_true rfl) (f_X9_total_ok hi1 e7) ?_
  refine g_istore2 dX5_cleanTime_10 ?_
  refine g_iconst dX5_cleanTime_11 kc_0 ?_
  refine g_istore3 dX5_cleanTime_12 ?_
  exact f_X5_cleanTime_13_ok gFuel h
theorem dX5_placeByClean_0 : decode cX5_placeByClean 0 = .ok (.iconst 1, 1) := by decide +kernel
theorem dX5_placeByClean_1 : decode cX5_placeByClean 1 = .ok (.istore_n 3, 1) := by decide +kernel
theorem dX5_placeByClean_2 : decode cX5_placeByClean 2 = .ok (.iconst 0, 1) := by decide +kernel
theorem dX5_placeByClean_3 : decode cX5_placeByClean 3 = .ok (.istore 4, 2) := by decide +kernel
theorem dX5_placeByClean_5 : decode cX5_placeByClean 5 = .ok (.iload 4, 2) := by decide +kernel
theorem dX5_placeByClean_7 : decode cX5_placeByClean 7 = .ok (.aload_n 0, 1) := by decide +kernel
theorem dX5_placeByClean_8 : decode cX5_placeByClean 8 = .ok (.getfield 34, 3) := by decide +kernel
theorem dX5_placeByClean_11 : decode cX5_placeByClean 11 = .ok (.getfield 87, 3) := by decide +kernel
theorem dX5_placeByClean_14 : decode cX5_placeByClean 14 = .ok (.if_icmp .ge 50, 3) := by decide +kernel
theorem dX5_placeByClean_17 : decode cX5_placeByClean 17 = .ok (.iload_n 3, 1) := by decide +kernel
theorem dX5_placeByClean_18 : decode cX5_placeByClean 18 = .ok (.aload_n 0, 1) := by decide +kernel
theorem dX5_placeByClean_19 : decode cX5_placeByClean 19 = .ok (.getfield 34, 3) := by decide +kernel
theorem dX5_placeByClean_22 : decode cX5_placeByClean 22 = .ok (.iload 4, 2) := by decide +kernel
theorem dX5_placeByClean_24 : decode cX5_placeByClean 24 = .ok (.aload_n 1, 1) := by decide +kernel
theorem dX5_placeByClean_25 : decode cX5_placeByClean 25 = .ok (.getfield 51, 3) := by decide +kernel
theorem dX5_placeByClean_28 : decode cX5_placeByClean 28 = .ok (.invokevirtual 90, 3) := by decide +kernel
theorem dX5_placeByClean_31 : decode cX5_placeByClean 31 = .ok (.ifCond .eq 24, 3) := by decide +kernel
theorem dX5_placeByClean_34 : decode cX5_placeByClean 34 = .ok (.aload_n 0, 1) := by decide +kernel
theorem dX5_placeByClean_35 : decode cX5_placeByClean 35 = .ok (.aload_n 0, 1) := by decide +kernel
theorem dX5_placeByClean_36 : decode cX5_placeByClean 36 = .ok (.getfield 34, 3) := by decide +kernel
theorem dX5_placeByClean_39 : decode cX5_placeByClean 39 = .ok (.iload 4, 2) := by decide +kernel
theorem dX5_placeByClean_41 : decode cX5_placeByClean 41 = .ok (.invokevirtual 94, 3) := by decide +kernel
theorem dX5_placeByClean_44 : decode cX5_placeByClean 44 = .ok (.invokevirtual 98, 3) := by decide +kernel
theorem dX5_placeByClean_47 : decode cX5_placeByClean 47 = .ok (.iload_n 2, 1) := by decide +kernel
theorem dX5_placeByClean_48 : decode cX5_placeByClean 48 = .ok (.if_icmp .ge 7, 3) := by decide +kernel
theorem dX5_placeByClean_51 : decode cX5_placeByClean 51 = .ok (.iconst 1, 1) := by decide +kernel
theorem dX5_placeByClean_52 : decode cX5_placeByClean 52 = .ok (.goto 4, 3) := by decide +kernel
theorem dX5_placeByClean_55 : decode cX5_placeByClean 55 = .ok (.iconst 0, 1) := by decide +kernel
theorem dX5_placeByClean_56 : decode cX5_placeByClean 56 = .ok (.iadd, 1) := by decide +kernel
theorem dX5_placeByClean_57 : decode cX5_placeByClean 57 = .ok (.istore_n 3, 1) := by decide +kernel
theorem dX5_placeByClean_58 : decode cX5_placeByClean 58 = .ok (.iinc 4 1, 3) := by decide +kernel
theorem dX5_placeByClean_61 : decode cX5_placeByClean 61 = .ok (.goto (-56), 3) := by decide +kernel
theorem dX5_placeByClean_64 : decode cX5_placeByClean 64 = .ok (.iload_n 3, 1) := by decide +kernel
theorem dX5_placeByClean_65 : decode cX5_placeByClean 65 = .ok (.ireturn, 1) := by decide +kernel
def f_X5_placeByClean_5 (i1 : Nat) (v2 : Int32) : Nat → Int32 → Int32 → gSt → Option (Int32 × gSt)
  | 0, _, _, _ => none
  | n + 1, v3, v4, σ =>
    if (σ 3 1 4) ≤ v4 then
      some (v3, σ)
    else
      (f_X4_isValidOf 1 v4 (σ 10 i1 5) σ).bind fun p28 =>
      if p28.1 = 0 then
        f_X5_placeByClean_5 i1 v2 n (v3 + 0) (v4 + 1) p28.2
      else
        (f_X4_runnerAt 1 v4 p28.2).bind fun p41 =>
        (f_X5_cleanTime p41.1 p41.2).bind fun p44 =>
        if v2 ≤ p44.1 then
          f_X5_placeByClean_5 i1 v2 n (v3 + 0) (v4 + 1) p44.2
        else
          f_X5_placeByClean_5 i1 v2 n (v3 + 1) (v4 + 1) p44.2
def f_X5_placeByClean (i1 : Nat) (v2 : Int32) (σ : gSt) : Option (Int32 × gSt) :=
  f_X5_placeByClean_5 i1 v2 gFuel 1 0 σ
theorem f_X5_placeByClean_5_ok {i1 : Nat} {v2 : Int32} {r : (Int32 × gSt)} (hi1 : i1 < 20) : ∀ (n : Nat) {v3 : Int32} {v4 : Int32} {σ : gSt} , f_X5_placeByClean_5 i1 v2 n v3 v4 σ = some r → G l w 0 41 RX5 cX5_placeByClean 5 (some .int) 5 116 (gE (some (.int r.1)) r.2) 5 [some (.ref (w.2.1 17 0)), some (.ref (w.2.1 10 i1)), some (.int v2), some (.int v3), some (.int v4)] [] σ := by
  intro n
  induction n with
  | zero => intro v3 v4 σ h; rw [f_X5_placeByClean_5] at h; cases h
  | succ n ih =>
    intro v3 v4 σ h
    rw [f_X5_placeByClean_5] at h
    refine g_iload dX5_placeByClean_5 rfl ?_
    refine g_aload_n dX5_placeByClean_7 rfl ?_
    refine gR_X5_34 ok_17 dX5_placeByClean_8 ?_
    refine gI_X5_87 (ok_3 (by decide)) dX5_placeByClean_11 ?_
    refine g_icmp_ge 64 dX5_placeByClean_14 rfl (fun q => ?_) (fun q => ?_)
    · replace h := gif_t q h
      refine g_iload_n dX5_placeByClean_64 rfl ?_
      cases h
      exact g_iret dX5_placeByClean_65 rfl ⟨rfl, rfl⟩
    · replace h := gif_f q h
      refine g_iload_n dX5_placeByClean_17 rfl ?_
      refine g_aload_n dX5_placeByClean_18 rfl ?_
      refine gR_X5_34 ok_17 dX5_placeByClean_19 ?_
      refine g_iload dX5_placeByClean_22 rfl ?_
      refine g_aload_n dX5_placeByClean_24 rfl ?_
      refine gI_X5_51 (ok_10 hi1) dX5_placeByClean_25 ?_
      obtain ⟨p28, e28, h⟩ := obind h
      refine g_vP2 mv_X5_90 dX5_placeByClean_28 (ok_3 (by decide)) ⟨by decide, by decide⟩ (Nat.le_of_ble_eq_true rfl) (f_X4_isValidOf_ok (by decide) e28) ?_
      refine g_if_eq 55 dX5_placeByClean_31 rfl (fun q => ?_) (fun q => ?_)
      · replace h := gif_t q h
        refine g_iconst dX5_placeByClean_55 kc_0 ?_
        refine g_iadd dX5_placeByClean_56 ?_
        refine g_istore3 dX5_placeByClean_57 ?_
        refine g_inc4 kc_1 dX5_placeByClean_58 ?_
        refine g_goto 5 dX5_placeByClean_61 rfl ?_
        exact ih h
      · replace h := gif_f q h
        refine g_aload_n dX5_placeByClean_34 rfl ?_
        refine g_aload_n dX5_placeByClean_35 rfl ?_
        refine gR_X5_34 ok_17 dX5_placeByClean_36 ?_
        refine g_iload dX5_placeByClean_39 rfl ?_
        obtain ⟨p41, e41, h⟩ := obind h
        refine g_vR1 mv_X5_94 dX5_placeByClean_41 (ok_3 (by decide)) ⟨by decide, by decide⟩ (Nat.le_of_ble_eq_true rfl) (f_X4_runnerAt_ok (by decide) e41) (fun b41 => ?_)
        obtain ⟨p44, e44, h⟩ := obind h
        refine g_vP1 mv_X5_98 dX5_placeByClean_44 ok_17 ⟨by decide, by decide⟩ (Nat.le_of_ble_eq_true rfl) (f_X5_cleanTime_ok b41 e44) ?_
        refine g_iload_n dX5_placeByClean_47 rfl ?_
        refine g_icmp_ge 55 dX5_placeByClean_48 rfl (fun q => ?_) (fun q => ?_)
        · replace h := gif_t q h
          refine g_iconst dX5_placeByClean_55 kc_0 ?_
          refine g_iadd dX5_placeByClean_56 ?_
          refine g_istore3 dX5_placeByClean_57 ?_
          refine g_inc4 kc_1 dX5_placeByClean_58 ?_
          refine g_goto 5 dX5_placeByClean_61 rfl ?_
          exact ih h
        · replace h := gif_f q h
          refine g_iconst dX5_placeByClean_51 kc_1 ?_
          refine g_goto 56 dX5_placeByClean_52 rfl ?_
          refine g_iadd dX5_placeByClean_56 ?_
          refine g_istore3 dX5_placeByClean_57 ?_
          refine g_inc4 kc_1 dX5_placeByClean_58 ?_
          refine g_goto 5 dX5_placeByClean_61 rfl ?_
          exact ih h
theorem f_X5_placeByClean_ok {i1 : Nat} {v2 : Int32} (hi1 : i1 < 20) {σ : gSt} {r : (Int32 × gSt)} (h : f_X5_placeByClean i1 v2 σ = some r) : Mt l w 0 41 yX5_placeByClean cX5_placeByClean 5 (some .int) 5 116 [.ref (w.2.1 17 0), .ref (w.2.1 10 i1), .int v2] σ (gE (some (.int r.1)) r.2) := by
  unfold f_X5_placeByClean at h
  refine g_start pn_X5 rfl rfl (Nat.le_of_ble_eq_true rfl) ?_
  show G l w 0 41 RX5 cX5_placeByClean 5 (some .int) 5 116 (gE (some (.int r.1)) r.2) 0 [some (.ref (w.2.1 17 0)), some (.ref (w.2.1 10 i1)), some (.int v2), none, none] [] σ
  refine g_iconst dX5_placeByClean_0 kc_1 ?_
  refine g_istore3 dX5_placeByClean_1 ?_
  refine g_iconst dX5_placeByClean_2 kc_0 ?_
  refine g_istore4 dX5_placeByClean_3 ?_
  exact f_X5_placeByClean_5_ok hi1 gFuel h
theorem dX9_controlOf_0 : decode cX9_controlOf 0 = .ok (.iload_n 1, 1) := by decide +kernel
theorem dX9_controlOf_1 : decode cX9_controlOf 1 = .ok (.ifCond .lt 29, 3) := by decide +kernel
theorem dX9_controlOf_4 : decode cX9_controlOf 4 = .ok (.iload_n 1, 1) := by decide +kernel
theorem dX9_controlOf_5 : decode cX9_controlOf 5 = .ok (.aload_n 0, 1) := by decide +kernel
theorem dX9_controlOf_6 : decode cX9_controlOf 6 = .ok (.getfield 39, 3) := by decide +kernel
theorem dX9_controlOf_9 : decode cX9_controlOf 9 = .ok (.if_icmp .ge 21, 3) := by decide +kernel
theorem dX9_controlOf_12 : decode cX9_controlOf 12 = .ok (.iload_n 1, 1) := by decide +kernel
theorem dX9_controlOf_13 : decode cX9_controlOf 13 = .ok (.aload_n 0, 1) := by decide +kernel
theorem dX9_controlOf_14 : decode cX9_controlOf 14 = .ok (.getfield 18, 3) := by decide +kernel
theorem dX9_controlOf_17 : decode cX9_controlOf 17 = .ok (.arraylength, 1) := by decide +kernel
theorem dX9_controlOf_18 : decode cX9_controlOf 18 = .ok (.if_icmp .ge 12, 3) := by decide +kernel
theorem dX9_controlOf_21 : decode cX9_controlOf 21 = .ok (.aload_n 0, 1) := by decide +kernel
theorem dX9_controlOf_22 : decode cX9_controlOf 22 = .ok (.getfield 18, 3) := by decide +kernel
theorem dX9_controlOf_25 : decode cX9_controlOf 25 = .ok (.iload_n 1, 1) := by decide +kernel
theorem dX9_controlOf_26 : decode cX9_controlOf 26 = .ok (.iaload, 1) := by decide +kernel
theorem dX9_controlOf_27 : decode cX9_controlOf 27 = .ok (.goto 4, 3) := by decide +kernel
theorem dX9_controlOf_30 : decode cX9_controlOf 30 = .ok (.iconst (-1), 1) := by decide +kernel
theorem dX9_controlOf_31 : decode cX9_controlOf 31 = .ok (.ireturn, 1) := by decide +kernel
def f_X9_controlOf (i0 : Nat) (v1 : Int32) (σ : gSt) : Option (Int32 × gSt) :=
  if v1 < 0 then
    some ((-1), σ)
  else
    if (σ 10 i0 8) ≤ v1 then
      some ((-1), σ)
    else
      if 16 ≤ v1 then
        some ((-1), σ)
      else
        (gld σ 13 i0 16 v1).bind fun a26 =>
        some (a26, σ)
theorem f_X9_controlOf_ok {i0 : Nat} {v1 : Int32} (hi0 : i0 < 20) {σ : gSt} {r : (Int32 × gSt)} (h : f_X9_controlOf i0 v1 σ = some r) : Mt l w 0 41 yX9_controlOf cX9_controlOf 2 (some .int) 0 0 [.ref (w.2.1 10 i0), .int v1] σ (gE (some (.int r.1)) r.2) := by
  unfold f_X9_controlOf at h
  refine g_start pn_X9 rfl rfl (Nat.le_of_ble_eq_true rfl) ?_
  show G l w 0 41 RX9 cX9_controlOf 2 (some .int) 0 0 (gE (some (.int r.1)) r.2) 0 [some (.ref (w.2.1 10 i0)), some (.int v1)] [] σ
  refine g_iload_n dX9_controlOf_0 rfl ?_
  refine g_if_lt 30 dX9_controlOf_1 rfl (fun q => ?_) (fun q => ?_)
  · replace h := gif_t q h
    refine g_iconst dX9_controlOf_30 kc_m1 ?_
    cases h
    exact g_iret dX9_controlOf_31 rfl ⟨rfl, rfl⟩
  · replace h := gif_f q h
    refine g_iload_n dX9_controlOf_4 rfl ?_
    refine g_aload_n dX9_controlOf_5 rfl ?_
    refine gI_X9_39 (ok_10 hi0) dX9_controlOf_6 ?_
    refine g_icmp_ge 30 dX9_controlOf_9 rfl (fun q => ?_) (fun q => ?_)
    · replace h := gif_t q h
      refine g_iconst dX9_controlOf_30 kc_m1 ?_
      cases h
      exact g_iret dX9_controlOf_31 rfl ⟨rfl, rfl⟩
    · replace h := gif_f q h
      refine g_iload_n dX9_controlOf_12 rfl ?_
      refine g_aload_n dX9_controlOf_13 rfl ?_
      refine gR_X9_18 (ok_10 hi0) dX9_controlOf_14 ?_
      refine g_alenL nc_16 rfl rfl (ok_13 hi0) dX9_controlOf_17 ?_
      refine g_icmp_ge 30 dX9_controlOf_18 rfl (fun q => ?_) (fun q => ?_)
      · replace h := gif_t q h
        refine g_iconst dX9_controlOf_30 kc_m1 ?_
        cases h
        exact g_iret dX9_controlOf_31 rfl ⟨rfl, rfl⟩
      · replace h := gif_f q h
        refine g_aload_n dX9_controlOf_21 rfl ?_
        refine gR_X9_18 (ok_10 hi0) dX9_controlOf_22 ?_
        refine g_iload_n dX9_controlOf_25 rfl ?_
        obtain ⟨a26, e26, h⟩ := obind h
        refine g_ldB e26 (ok_13 hi0) rfl rfl (by decide) dX9_controlOf_26 ?_
        refine g_goto 31 dX9_controlOf_27 rfl ?_
        cases h
        exact g_iret dX9_controlOf_31 rfl ⟨rfl, rfl⟩
theorem dX6_sortIn_0 : decode cX6_sortIn 0 = .ok (.aload_n 0, 1) := by decide +kernel
theorem dX6_sortIn_1 : decode cX6_sortIn 1 = .ok (.getfield 18, 3) := by decide +kernel
theorem dX6_sortIn_4 : decode cX6_sortIn 4 = .ok (.bipush 100, 2) := by decide +kernel
theorem dX6_sortIn_6 : decode cX6_sortIn 6 = .ok (.if_icmp .lt 4, 3) := by decide +kernel
theorem dX6_sortIn_9 : decode cX6_sortIn 9 = .ok (.return_, 1) := by decide +kernel
theorem dX6_sortIn_10 : decode cX6_sortIn 10 = .ok (.aload_n 0, 1) := by decide +kernel
theorem dX6_sortIn_11 : decode cX6_sortIn 11 = .ok (.getfield 18, 3) := by decide +kernel
theorem dX6_sortIn_14 : decode cX6_sortIn 14 = .ok (.istore_n 3, 1) := by decide +kernel
theorem dX6_sortIn_15 : decode cX6_sortIn 15 = .ok (.iload_n 3, 1) := by decide +kernel
theorem dX6_sortIn_16 : decode cX6_sortIn 16 = .ok (.ifCond .le 49, 3) := by decide +kernel
theorem dX6_sortIn_19 : decode cX6_sortIn 19 = .ok (.aload_n 0, 1) := by decide +kernel
theorem dX6_sortIn_20 : decode cX6_sortIn 20 = .ok (.getfield 11, 3) := by decide +kernel
theorem dX6_sortIn_23 : decode cX6_sortIn 23 = .ok (.iload_n 3, 1) := by decide +kernel
theorem dX6_sortIn_24 : decode cX6_sortIn 24 = .ok (.iconst 1, 1) := by decide +kernel
theorem dX6_sortIn_25 : decode cX6_sortIn 25 = .ok (.isub, 1) := by decide +kernel
theorem dX6_sortIn_26 : decode cX6_sortIn 26 = .ok (.iaload, 1) := by decide +kernel
theorem dX6_sortIn_27 : decode cX6_sortIn 27 = .ok (.iload_n 1, 1) := by decide +kernel
theorem dX6_sortIn_28 : decode cX6_sortIn 28 = .ok (.if_icmp .le 37, 3) := by decide +kernel
theorem dX6_sortIn_31 : decode cX6_sortIn 31 = .ok (.aload_n 0, 1) := by decide +kernel
theorem dX6_sortIn_32 : decode cX6_sortIn 32 = .ok (.getfield 11, 3) := by decide +kernel
theorem dX6_sortIn_35 : decode cX6_sortIn 35 = .ok (.iload_n 3, 1) := by decide +kernel
theorem dX6_sortIn_36 : decode cX6_sortIn 36 = .ok (.aload_n 0, 1) := by decide +kernel
theorem dX6_sortIn_37 : decode cX6_sortIn 37 = .ok (.getfield 11, 3) := by decide +kernel
theorem dX6_sortIn_40 : decode cX6_sortIn 40 = .ok (.iload_n 3, 1) := by decide +kernel
theorem dX6_sortIn_41 : decode cX6_sortIn 41 = .ok (.iconst 1, 1) := by decide +kernel
theorem dX6_sortIn_42 : decode cX6_sortIn 42 = .ok (.isub, 1) := by decide +kernel
theorem dX6_sortIn_43 : decode cX6_sortIn 43 = .ok (.iaload, 1) := by decide +kernel
theorem dX6_sortIn_44 : decode cX6_sortIn 44 = .ok (.iastore, 1) := by decide +kernel
theorem dX6_sortIn_45 : decode cX6_sortIn 45 = .ok (.aload_n 0, 1) := by decide +kernel
theorem dX6_sortIn_46 : decode cX6_sortIn 46 = .ok (.getfield 15, 3) := by decide +kernel
theorem dX6_sortIn_49 : decode cX6_sortIn 49 = .ok (.iload_n 3, 1) := by decide +kernel
theorem dX6_sortIn_50 : decode cX6_sortIn 50 = .ok (.aload_n 0, 1) := by decide +kernel
theorem dX6_sortIn_51 : decode cX6_sortIn 51 = .ok (.getfield 15, 3) := by decide +kernel
theorem dX6_sortIn_54 : decode cX6_sortIn 54 = .ok (.iload_n 3, 1) := by decide +kernel
theorem dX6_sortIn_55 : decode cX6_sortIn 55 = .ok (.iconst 1, 1) := by decide +kernel
theorem dX6_sortIn_56 : decode cX6_sortIn 56 = .ok (.isub, 1) := by decide +kernel
theorem dX6_sortIn_57 : decode cX6_sortIn 57 = .ok (.iaload, 1) := by decide +kernel
theorem dX6_sortIn_58 : decode cX6_sortIn 58 = .ok (.iastore, 1) := by decide +kernel
theorem dX6_sortIn_59 : decode cX6_sortIn 59 = .ok (.iinc 3 (-1), 3) := by decide +kernel
theorem dX6_sortIn_62 : decode cX6_sortIn 62 = .ok (.goto (-47), 3) := by decide +kernel
theorem dX6_sortIn_65 : decode cX6_sortIn 65 = .ok (.aload_n 0, 1) := by decide +kernel
theorem dX6_sortIn_66 : decode cX6_sortIn 66 = .ok (.getfield 11, 3) := by decide +kernel
theorem dX6_sortIn_69 : decode cX6_sortIn 69 = .ok (.iload_n 3, 1) := by decide +kernel
theorem dX6_sortIn_70 : decode cX6_sortIn 70 = .ok (.iload_n 1, 1) := by decide +kernel
theorem dX6_sortIn_71 : decode cX6_sortIn 71 = .ok (.iastore, 1) := by decide +kernel
theorem dX6_sortIn_72 : decode cX6_sortIn 72 = .ok (.aload_n 0, 1) := by decide +kernel
theorem dX6_sortIn_73 : decode cX6_sortIn 73 = .ok (.getfield 15, 3) := by decide +kernel
theorem dX6_sortIn_76 : decode cX6_sortIn 76 = .ok (.iload_n 3, 1) := by decide +kernel
theorem dX6_sortIn_77 : decode cX6_sortIn 77 = .ok (.iload_n 2, 1) := by decide +kernel
theorem dX6_sortIn_78 : decode cX6_sortIn 78 = .ok (.iastore, 1) := by decide +kernel
theorem dX6_sortIn_79 : decode cX6_sortIn 79 = .ok (.aload_n 0, 1) := by decide +kernel
theorem dX6_sortIn_80 : decode cX6_sortIn 80 = .ok (.dup, 1) := by decide +kernel
theorem dX6_sortIn_81 : decode cX6_sortIn 81 = .ok (.getfield 18, 3) := by decide +kernel
theorem dX6_sortIn_84 : decode cX6_sortIn 84 = .ok (.iconst 1, 1) := by decide +kernel
theorem dX6_sortIn_85 : decode cX6_sortIn 85 = .ok (.iadd, 1) := by decide +kernel
theorem dX6_sortIn_86 : decode cX6_sortIn 86 = .ok (.putfield 18, 3) := by decide +kernel
theorem dX6_sortIn_89 : decode cX6_sortIn 89 = .ok (.return_, 1) := by decide +kernel
def f_X6_sortIn_65 (v1 : Int32) (v2 : Int32) (v3 : Int32) (σ : gSt) : Option gSt :=
  (gst σ 23 0 100 v3 v1).bind fun z71 =>
  (gst z71 24 0 100 v3 v2).bind fun z78 =>
  some (gup z78 22 0 3 ((z78 22 0 3) + 1))
def f_X6_sortIn_15 (v1 : Int32) (v2 : Int32) : Nat → Int32 → gSt → Option gSt
  | 0, _, _ => none
  | n + 1, v3, σ =>
    if v3 ≤ 0 then
      f_X6_sortIn_65 v1 v2 v3 σ
    else
      (gld σ 23 0 100 (v3 - 1)).bind fun a26 =>
      if a26 ≤ v1 then
        f_X6_sortIn_65 v1 v2 v3 σ
      else
        (gld σ 23 0 100 (v3 - 1)).bind fun a43 =>
        (gst σ 23 0 100 v3 a43).bind fun z44 =>
        (gld z44 24 0 100 (v3 - 1)).bind fun a57 =>
        (gst z44 24 0 100 v3 a57).bind fun z58 =>
        f_X6_sortIn_15 v1 v2 n (v3 + (-1)) z58
def f_X6_sortIn (v1 : Int32) (v2 : Int32) (σ : gSt) : Option gSt :=
  if (σ 22 0 3) < 100 then
    f_X6_sortIn_15 v1 v2 gFuel (σ 22 0 3) σ
  else
    some σ
theorem f_X6_sortIn_65_ok {v1 : Int32} {v2 : Int32} {v3 : Int32} {r : gSt}  {σ : gSt}  (h : f_X6_sortIn_65 v1 v2 v3 σ = some r) : G l w 0 41 RX6 cX6_sortIn 4 none 0 0 (gE none r) 65 [some (.ref (w.2.1 22 0)), some (.int v1), some (.int v2), some (.int v3)] [] σ := by
  unfold f_X6_sortIn_65 at h
  refine g_aload_n dX6_sortIn_65 rfl ?_
  refine gR_X6_11 ok_22 dX6_sortIn_66 ?_
  refine g_iload_n dX6_sortIn_69 rfl ?_
  refine g_iload_n dX6_sortIn_70 rfl ?_
  obtain ⟨z71, e71, h⟩ := obind h
  refine g_stB e71 ok_23 rfl rfl (by decide) dX6_sortIn_71 ?_
  refine g_aload_n dX6_sortIn_72 rfl ?_
  refine gR_X6_15 ok_22 dX6_sortIn_73 ?_
  refine g_iload_n dX6_sortIn_76 rfl ?_
  refine g_iload_n dX6_sortIn_77 rfl ?_
  obtain ⟨z78, e78, h⟩ := obind h
  refine g_stB e78 ok_24 rfl rfl (by decide) dX6_sortIn_78 ?_
  refine g_aload_n dX6_sortIn_79 rfl ?_
  refine g_dup dX6_sortIn_80 rfl ?_
  refine gI_X6_18 ok_22 dX6_sortIn_81 ?_
  refine g_iconst dX6_sortIn_84 kc_1 ?_
  refine g_iadd dX6_sortIn_85 ?_
  refine gP_X6_18 ok_22 dX6_sortIn_86 ?_
  cases h
  exact g_vret dX6_sortIn_89 rfl ⟨rfl, rfl⟩
theorem f_X6_sortIn_15_ok {v1 : Int32} {v2 : Int32} {r : gSt}  : ∀ (n : Nat) {v3 : Int32} {σ : gSt} , f_X6_sortIn_15 v1 v2 n v3 σ = some r → G l w 0 41 RX6 cX6_sortIn 4 none 0 0 (gE none r) 15 [some (.ref (w.2.1 22 0)), some (.int v1), some (.int v2), some (.int v3)] [] σ := by
  intro n
  induction n with
  | zero => intro v3 σ h; rw [f_X6_sortIn_15] at h; cases h
  | succ n ih =>
    intro v3 σ h
    rw [f_X6_sortIn_15] at h
    refine g_iload_n dX6_sortIn_15 rfl ?_
    refine g_if_le 65 dX6_sortIn_16 rfl (fun q => ?_) (fun q => ?_)
    · replace h := gif_t q h
      exact f_X6_sortIn_65_ok h
    · replace h := gif_f q h
      refine g_aload_n dX6_sortIn_19 rfl ?_
      refine gR_X6_11 ok_22 dX6_sortIn_20 ?_
      refine g_iload_n dX6_sortIn_23 rfl ?_
      refine g_iconst dX6_sortIn_24 kc_1 ?_
      refine g_isub dX6_sortIn_25 ?_
      obtain ⟨a26, e26, h⟩ := obind h
      refine g_ldB e26 ok_23 rfl rfl (by decide) dX6_sortIn_26 ?_
      refine g_iload_n dX6_sortIn_27 rfl ?_
      refine g_icmp_le 65 dX6_sortIn_28 rfl (fun q => ?_) (fun q => ?_)
      · replace h := gif_t q h
        exact f_X6_sortIn_65_ok h
      · replace h := gif_f q h
        refine g_aload_n dX6_sortIn_31 rfl ?_
        refine gR_X6_11 ok_22 dX6_sortIn_32 ?_
        refine g_iload_n dX6_sortIn_35 rfl ?_
        refine g_aload_n dX6_sortIn_36 rfl ?_
        refine gR_X6_11 ok_22 dX6_sortIn_37 ?_
        refine g_iload_n dX6_sortIn_40 rfl ?_
        refine g_iconst dX6_sortIn_41 kc_1 ?_
        refine g_isub dX6_sortIn_42 ?_
        obtain ⟨a43, e43, h⟩ := obind h
        refine g_ldB e43 ok_23 rfl rfl (by decide) dX6_sortIn_43 ?_
        obtain ⟨z44, e44, h⟩ := obind h
        refine g_stB e44 ok_23 rfl rfl (by decide) dX6_sortIn_44 ?_
        refine g_aload_n dX6_sortIn_45 rfl ?_
        refine gR_X6_15 ok_22 dX6_sortIn_46 ?_
        refine g_iload_n dX6_sortIn_49 rfl ?_
        refine g_aload_n dX6_sortIn_50 rfl ?_
        refine gR_X6_15 ok_22 dX6_sortIn_51 ?_
        refine g_iload_n dX6_sortIn_54 rfl ?_
        refine g_iconst dX6_sortIn_55 kc_1 ?_
        refine g_isub dX6_sortIn_56 ?_
        obtain ⟨a57, e57, h⟩ := obind h
        refine g_ldB e57 ok_24 rfl rfl (by decide) dX6_sortIn_57 ?_
        obtain ⟨z58, e58, h⟩ := obind h
        refine g_stB e58 ok_24 rfl rfl (by decide) dX6_sortIn_58 ?_
        refine g_inc3 kc_m1 dX6_sortIn_59 ?_
        refine g_goto 15 dX6_sortIn_62 rfl ?_
        exact ih h
theorem f_X6_sortIn_ok {v1 : Int32} {v2 : Int32}  {σ : gSt} {r : gSt} (h : f_X6_sortIn v1 v2 σ = some r) : Mt l w 0 41 yX6_sortIn cX6_sortIn 4 none 0 0 [.ref (w.2.1 22 0), .int v1, .int v2] σ (gE none r) := by
  unfold f_X6_sortIn at h
  refine g_start pn_X6 rfl rfl (Nat.le_of_ble_eq_true rfl) ?_
  show G l w 0 41 RX6 cX6_sortIn 4 none 0 0 (gE none r) 0 [some (.ref (w.2.1 22 0)), some (.int v1), some (.int v2), none] [] σ
  refine g_aload_n dX6_sortIn_0 rfl ?_
  refine gI_X6_18 ok_22 dX6_sortIn_1 ?_
  refine g_bipush dX6_sortIn_4 kb_100 ?_
  refine g_icmp_lt 10 dX6_sortIn_6 rfl (fun q => ?_) (fun q => ?_)
  · replace h := gif_t q h
    refine g_aload_n dX6_sortIn_10 rfl ?_
    refine gI_X6_18 ok_22 dX6_sortIn_11 ?_
    refine g_istore3 dX6_sortIn_14 ?_
    exact f_X6_sortIn_15_ok gFuel h
  · replace h := gif_f q h
    cases h
    exact g_vret dX6_sortIn_9 rfl ⟨rfl, rfl⟩
theorem dX6_gather_0 : decode cX6_gather 0 = .ok (.aload_n 0, 1) := by decide +kernel
theorem dX6_gather_1 : decode cX6_gather 1 = .ok (.iconst 0, 1) := by decide +kernel
theorem dX6_gather_2 : decode cX6_gather 2 = .ok (.putfield 18, 3) := by decide +kernel
theorem dX6_gather_5 : decode cX6_gather 5 = .ok (.iconst 0, 1) := by decide +kernel
theorem dX6_gather_6 : decode cX6_gather 6 = .ok (.istore_n 2, 1) := by decide +kernel
theorem dX6_gather_7 : decode cX6_gather 7 = .ok (.iload_n 2, 1) := by decide +kernel
theorem dX6_gather_8 : decode cX6_gather 8 = .ok (.aload_n 0, 1) := by decide +kernel
theorem dX6_gather_9 : decode cX6_gather 9 = .ok (.getfield 28, 3) := by decide +kernel
theorem dX6_gather_12 : decode cX6_gather 12 = .ok (.getfield 32, 3) := by decide +kernel
theorem dX6_gather_15 : decode cX6_gather 15 = .ok (.if_icmp .ge 67, 3) := by decide +kernel
theorem dX6_gather_18 : decode cX6_gather 18 = .ok (.aload_n 0, 1) := by decide +kernel
theorem dX6_gather_19 : decode cX6_gather 19 = .ok (.getfield 28, 3) := by decide +kernel
theorem dX6_gather_22 : decode cX6_gather 22 = .ok (.iload_n 2, 1) := by decide +kernel
theorem dX6_gather_23 : decode cX6_gather 23 = .ok (.invokevirtual 37, 3) := by decide +kernel
theorem dX6_gather_26 : decode cX6_gather 26 = .ok (.astore_n 3, 1) := by decide +kernel
theorem dX6_gather_27 : decode cX6_gather 27 = .ok (.iconst 0, 1) := by decide +kernel
theorem dX6_gather_28 : decode cX6_gather 28 = .ok (.istore 4, 2) := by decide +kernel
theorem dX6_gather_30 : decode cX6_gather 30 = .ok (.iload 4, 2) := by decide +kernel
theorem dX6_gather_32 : decode cX6_gather 32 = .ok (.aload_n 3, 1) := by decide +kernel
theorem dX6_gather_33 : decode cX6_gather 33 = .ok (.getfield 41, 3) := by decide +kernel
theorem dX6_gather_36 : decode cX6_gather 36 = .ok (.if_icmp .ge 40, 3) := by decide +kernel
theorem dX6_gather_39 : decode cX6_gather 39 = .ok (.aload_n 3, 1) := by decide +kernel
theorem dX6_gather_40 : decode cX6_gather 40 = .ok (.iload 4, 2) := by decide +kernel
theorem dX6_gather_42 : decode cX6_gather 42 = .ok (.invokevirtual 46, 3) := by decide +kernel
theorem dX6_gather_45 : decode cX6_gather 45 = .ok (.iload_n 1, 1) := by decide +kernel
theorem dX6_gather_46 : decode cX6_gather 46 = .ok (.if_icmp .ne 24, 3) := by decide +kernel
theorem dX6_gather_49 : decode cX6_gather 49 = .ok (.aload_n 3, 1) := by decide +kernel
theorem dX6_gather_50 : decode cX6_gather 50 = .ok (.iload 4, 2) := by decide +kernel
theorem dX6_gather_52 : decode cX6_gather 52 = .ok (.invokevirtual 50, 3) := by decide +kernel
theorem dX6_gather_55 : decode cX6_gather 55 = .ok (.iconst (-1), 1) := by decide +kernel
theorem dX6_gather_56 : decode cX6_gather 56 = .ok (.if_icmp .eq 14, 3) := by decide +kernel
theorem dX6_gather_59 : decode cX6_gather 59 = .ok (.aload_n 0, 1) := by decide +kernel
theorem dX6_gather_60 : decode cX6_gather 60 = .ok (.aload_n 3, 1) := by decide +kernel
theorem dX6_gather_61 : decode cX6_gather 61 = .ok (.iload 4, 2) := by decide +kernel
theorem dX6_gather_63 : decode cX6_gather 63 = .ok (.invokevirtual 53, 3) := by decide +kernel
theorem dX6_gather_66 : decode cX6_gather 66 = .ok (.iload_n 2, 1) := by decide +kernel
theorem dX6_gather_67 : decode cX6_gather 67 = .ok (.invokevirtual 56, 3) := by decide +kernel
theorem dX6_gather_70 : decode cX6_gather 70 = .ok (.iinc 4 1, 3) := by decide +kernel
theorem dX6_gather_73 : decode cX6_gather 73 = .ok (.goto (-43), 3) := by decide +kernel
theorem dX6_gather_76 : decode cX6_gather 76 = .ok (.iinc 2 1, 3) := by decide +kernel
theorem dX6_gather_79 : decode cX6_gather 79 = .ok (.goto (-72), 3) := by decide +kernel
theorem dX6_gather_82 : decode cX6_gather 82 = .ok (.return_, 1) := by decide +kernel
def f_X6_gather_30 (v1 : Int32) (v2 : Int32) (i3 : Nat) (k7 : Int32 → gSt → Option gSt) : Nat → Int32 → gSt → Option gSt
  | 0, _, _ => none
  | n + 1, v4, σ =>
    if (σ 10 i3 8) ≤ v4 then
      k7 (v2 + 1) σ
    else
      (f_X9_codeOf i3 v4 σ).bind fun p42 =>
      if p42.1 = v1 then
        (f_X9_controlOf i3 v4 p42.2).bind fun p52 =>
        if p52.1 = (-1) then
          f_X6_gather_30 v1 v2 i3 k7 n (v4 + 1) p52.2
        else
          (f_X9_timeOf i3 v4 p52.2).bind fun p63 =>
          (f_X6_sortIn p63.1 v2 p63.2).bind fun z67 =>
          f_X6_gather_30 v1 v2 i3 k7 n (v4 + 1) z67
      else
        f_X6_gather_30 v1 v2 i3 k7 n (v4 + 1) p42.2
def f_X6_gather_7 (v1 : Int32) : Nat → Int32 → gSt → Option gSt
  | 0, _, _ => none
  | n + 1, v2, σ =>
    if (σ 3 1 4) ≤ v2 then
      some σ
    else
      (f_X4_runnerAt 1 v2 σ).bind fun p23 =>
      f_X6_gather_30 v1 v2 p23.1 (fun v2 σ => f_X6_gather_7 v1 n v2 σ) gFuel 0 p23.2
def f_X6_gather (v1 : Int32) (σ : gSt) : Option gSt :=
  f_X6_gather_7 v1 gFuel 0 (gup σ 22 0 3 0)
theorem f_X6_gather_30_ok {v1 : Int32} {v2 : Int32} {i3 : Nat} {k7 : Int32 → gSt → Option gSt} {r : gSt} (hi3 : i3 < 20) (hk7 : ∀ {v2 : Int32} {σ : gSt} {x3 x4 : Option Value}, k7 v2 σ = some r → G l w 0 41 RX6 cX6_gather 5 none 1 23 (gE none r) 7 [some (.ref (w.2.1 22 0)), some (.int v1), some (.int v2), x3, x4] [] σ) : ∀ (n : Nat) {v4 : Int32} {σ : gSt} , f_X6_gather_30 v1 v2 i3 k7 n v4 σ = some r → G l w 0 41 RX6 cX6_gather 5 none 1 23 (gE none r) 30 [some (.ref (w.2.1 22 0)), some (.int v1), some (.int v2), some (.ref (w.2.1 10 i3)), some (.int v4)] [] σ := by
  intro n
  induction n with
  | zero => intro v4 σ h; rw [f_X6_gather_30] at h; cases h
  | succ n ih =>
    intro v4 σ h
    rw [f_X6_gather_30] at h
    refine g_iload dX6_gather_30 rfl ?_
    refine g_aload_n dX6_gather_32 rfl ?_
    refine gI_X6_41 (ok_10 hi3) dX6_gather_33 ?_
    refine g_icmp_ge 76 dX6_gather_36 rfl (fun q => ?_) (fun q => ?_)
    · replace h := gif_t q h
      refine g_inc2 kc_1 dX6_gather_76 ?_
      refine g_goto 7 dX6_gather_79 rfl ?_
      exact hk7 h
    · replace h := gif_f q h
      refine g_aload_n dX6_gather_39 rfl ?_
      refine g_iload dX6_gather_40 rfl ?_
      obtain ⟨p42, e42, h⟩ := obind h
      refine g_vP1 mv_X6_46 dX6_gather_42 (ok_10 hi3) ⟨by decide, by decide⟩ (Nat.le_of_ble_eq_true rfl) (f_X9_codeOf_ok hi3 e42) ?_
      refine g_iload_n dX6_gather_45 rfl ?_
      refine g_icmp_ne 70 dX6_gather_46 rfl (fun q => ?_) (fun q => ?_)
      · replace h := gif_f q h
        refine g_inc4 kc_1 dX6_gather_70 ?_
        refine g_goto 30 dX6_gather_73 rfl ?_
        exact ih h
      · replace h := gif_t q h
        refine g_aload_n dX6_gather_49 rfl ?_
        refine g_iload dX6_gather_50 rfl ?_
        obtain ⟨p52, e52, h⟩ := obind h
        refine g_vP1 mv_X6_50 dX6_gather_52 (ok_10 hi3) ⟨by decide, by decide⟩ (Nat.le_of_ble_eq_true rfl) (f_X9_controlOf_ok hi3 e52) ?_
        refine g_iconst dX6_gather_55 kc_m1 ?_
        refine g_icmp_eq 70 dX6_gather_56 rfl (fun q => ?_) (fun q => ?_)
        · replace h := gif_t q h
          refine g_inc4 kc_1 dX6_gather_70 ?_
          refine g_goto 30 dX6_gather_73 rfl ?_
          exact ih h
        · replace h := gif_f q h
          refine g_aload_n dX6_gather_59 rfl ?_
          refine g_aload_n dX6_gather_60 rfl ?_
          refine g_iload dX6_gather_61 rfl ?_
          obtain ⟨p63, e63, h⟩ := obind h
          refine g_vP1 mv_X6_53 dX6_gather_63 (ok_10 hi3) ⟨by decide, by decide⟩ (Nat.le_of_ble_eq_true rfl) (f_X9_timeOf_ok hi3 e63) ?_
          refine g_iload_n dX6_gather_66 rfl ?_
          obtain ⟨z67, e67, h⟩ := obind h
          refine g_vU2 mv_X6_56 dX6_gather_67 ok_22 ⟨by decide, by decide⟩ (Nat.le_of_ble_eq_true rfl) (f_X6_sortIn_ok e67) ?_
          refine g_inc4 kc_1 dX6_gather_70 ?_
          refine g_goto 30 dX6_gather_73 rfl ?_
          exact ih h
theorem f_X6_gather_7_ok {v1 : Int32} {r : gSt}  : ∀ (n : Nat) {v2 : Int32} {σ : gSt} {x3 x4 : Option Value}, f_X6_gather_7 v1 n v2 σ = some r → G l w 0 41 RX6 cX6_gather 5 none 1 23 (gE none r) 7 [some (.ref (w.2.1 22 0)), some (.int v1), some (.int v2), x3, x4] [] σ := by
  intro n
  induction n with
  | zero => intro v2 σ x3 x4 h; rw [f_X6_gather_7] at h; cases h
  | succ n ih =>
    intro v2 σ x3 x4 h
    rw [f_X6_gather_7] at h
    refine g_iload_n dX6_gather_7 rfl ?_
    refine g_aload_n dX6_gather_8 rfl ?_
    refine gR_X6_28 ok_22 dX6_gather_9 ?_
    refine gI_X6_32 (ok_3 (by decide)) dX6_gather_12 ?_
    refine g_icmp_ge 82 dX6_gather_15 rfl (fun q => ?_) (fun q => ?_)
    · replace h := gif_t q h
      cases h
      exact g_vret dX6_gather_82 rfl ⟨rfl, rfl⟩
    · replace h := gif_f q h
      refine g_aload_n dX6_gather_18 rfl ?_
      refine gR_X6_28 ok_22 dX6_gather_19 ?_
      refine g_iload_n dX6_gather_22 rfl ?_
      obtain ⟨p23, e23, h⟩ := obind h
      refine g_vR1 mv_X6_37 dX6_gather_23 (ok_3 (by decide)) ⟨by decide, by decide⟩ (Nat.le_of_ble_eq_true rfl) (f_X4_runnerAt_ok (by decide) e23) (fun b23 => ?_)
      refine g_astore3 dX6_gather_26 ?_
      refine g_iconst dX6_gather_27 kc_0 ?_
      refine g_istore4 dX6_gather_28 ?_
      exact f_X6_gather_30_ok b23 (fun h => ih h) gFuel h
theorem f_X6_gather_ok {v1 : Int32}  {σ : gSt} {r : gSt} (h : f_X6_gather v1 σ = some r) : Mt l w 0 41 yX6_gather cX6_gather 5 none 1 23 [.ref (w.2.1 22 0), .int v1] σ (gE none r) := by
  unfold f_X6_gather at h
  refine g_start pn_X6 rfl rfl (Nat.le_of_ble_eq_true rfl) ?_
  show G l w 0 41 RX6 cX6_gather 5 none 1 23 (gE none r) 0 [some (.ref (w.2.1 22 0)), some (.int v1), none, none, none] [] σ
  refine g_aload_n dX6_gather_0 rfl ?_
  refine g_iconst dX6_gather_1 kc_0 ?_
  refine gP_X6_18 ok_22 dX6_gather_2 ?_
  refine g_iconst dX6_gather_5 kc_0 ?_
  refine g_istore2 dX6_gather_6 ?_
  exact f_X6_gather_7_ok gFuel h
theorem dX6_timeOf_0 : decode cX6_timeOf 0 = .ok (.iload_n 1, 1) := by decide +kernel
theorem dX6_timeOf_1 : decode cX6_timeOf 1 = .ok (.ifCond .lt 26, 3) := by decide +kernel
theorem dX6_timeOf_4 : decode cX6_timeOf 4 = .ok (.iload_n 1, 1) := by decide +kernel
theorem dX6_timeOf_5 : decode cX6_timeOf 5 = .ok (.aload_n 0, 1) := by decide +kernel
theorem dX6_timeOf_6 : decode cX6_timeOf 6 = .ok (.getfield 18, 3) := by decide +kernel
theorem dX6_timeOf_9 : decode cX6_timeOf 9 = .ok (.if_icmp .ge 18, 3) := by decide +kernel
theorem dX6_timeOf_12 : decode cX6_timeOf 12 = .ok (.iload_n 1, 1) := by decide +kernel
theorem dX6_timeOf_13 : decode cX6_timeOf 13 = .ok (.bipush 100, 2) := by decide +kernel
theorem dX6_timeOf_15 : decode cX6_timeOf 15 = .ok (.if_icmp .ge 12, 3) := by decide +kernel
theorem dX6_timeOf_18 : decode cX6_timeOf 18 = .ok (.aload_n 0, 1) := by decide +kernel
theorem dX6_timeOf_19 : decode cX6_timeOf 19 = .ok (.getfield 11, 3) := by decide +kernel
theorem dX6_timeOf_22 : decode cX6_timeOf 22 = .ok (.iload_n 1, 1) := by decide +kernel
theorem dX6_timeOf_23 : decode cX6_timeOf 23 = .ok (.iaload, 1) := by decide +kernel
theorem dX6_timeOf_24 : decode cX6_timeOf 24 = .ok (.goto 4, 3) := by decide +kernel
theorem dX6_timeOf_27 : decode cX6_timeOf 27 = .ok (.iconst (-1), 1) := by decide +kernel
theorem dX6_timeOf_28 : decode cX6_timeOf 28 = .ok (.ireturn, 1) := by decide +kernel
def f_X6_timeOf (v1 : Int32) (σ : gSt) : Option (Int32 × gSt) :=
  if v1 < 0 then
    some ((-1), σ)
  else
    if (σ 22 0 3) ≤ v1 then
      some ((-1), σ)
    else
      if 100 ≤ v1 then
        some ((-1), σ)
      else
        (gld σ 23 0 100 v1).bind fun a23 =>
        some (a23, σ)
theorem f_X6_timeOf_ok {v1 : Int32}  {σ : gSt} {r : (Int32 × gSt)} (h : f_X6_timeOf v1 σ = some r) : Mt l w 0 41 yX6_timeOf cX6_timeOf 2 (some .int) 0 0 [.ref (w.2.1 22 0), .int v1] σ (gE (some (.int r.1)) r.2) := by
  unfold f_X6_timeOf at h
  refine g_start pn_X6 rfl rfl (Nat.le_of_ble_eq_true rfl) ?_
  show G l w 0 41 RX6 cX6_timeOf 2 (some .int) 0 0 (gE (some (.int r.1)) r.2) 0 [some (.ref (w.2.1 22 0)), some (.int v1)] [] σ
  refine g_iload_n dX6_timeOf_0 rfl ?_
  refine g_if_lt 27 dX6_timeOf_1 rfl (fun q => ?_) (fun q => ?_)
  · replace h := gif_t q h
    refine g_iconst dX6_timeOf_27 kc_m1 ?_
    cases h
    exact g_iret dX6_timeOf_28 rfl ⟨rfl, rfl⟩
  · replace h := gif_f q h
    refine g_iload_n dX6_timeOf_4 rfl ?_
    refine g_aload_n dX6_timeOf_5 rfl ?_
    refine gI_X6_18 ok_22 dX6_timeOf_6 ?_
    refine g_icmp_ge 27 dX6_timeOf_9 rfl (fun q => ?_) (fun q => ?_)
    · replace h := gif_t q h
      refine g_iconst dX6_timeOf_27 kc_m1 ?_
      cases h
      exact g_iret dX6_timeOf_28 rfl ⟨rfl, rfl⟩
    · replace h := gif_f q h
      refine g_iload_n dX6_timeOf_12 rfl ?_
      refine g_bipush dX6_timeOf_13 kb_100 ?_
      refine g_icmp_ge 27 dX6_timeOf_15 rfl (fun q => ?_) (fun q => ?_)
      · replace h := gif_t q h
        refine g_iconst dX6_timeOf_27 kc_m1 ?_
        cases h
        exact g_iret dX6_timeOf_28 rfl ⟨rfl, rfl⟩
      · replace h := gif_f q h
        refine g_aload_n dX6_timeOf_18 rfl ?_
        refine gR_X6_11 ok_22 dX6_timeOf_19 ?_
        refine g_iload_n dX6_timeOf_22 rfl ?_
        obtain ⟨a23, e23, h⟩ := obind h
        refine g_ldB e23 ok_23 rfl rfl (by decide) dX6_timeOf_23 ?_
        refine g_goto 28 dX6_timeOf_24 rfl ?_
        cases h
        exact g_iret dX6_timeOf_28 rfl ⟨rfl, rfl⟩
theorem dX6_seek_0 : decode cX6_seek 0 = .ok (.iconst 0, 1) := by decide +kernel
theorem dX6_seek_1 : decode cX6_seek 1 = .ok (.istore_n 2, 1) := by decide +kernel
theorem dX6_seek_2 : decode cX6_seek 2 = .ok (.iconst 0, 1) := by decide +kernel
theorem dX6_seek_3 : decode cX6_seek 3 = .ok (.istore_n 3, 1) := by decide +kernel
theorem dX6_seek_4 : decode cX6_seek 4 = .ok (.iconst 1, 1) := by decide +kernel
theorem dX6_seek_5 : decode cX6_seek 5 = .ok (.istore 4, 2) := by decide +kernel
theorem dX6_seek_7 : decode cX6_seek 7 = .ok (.iload 4, 2) := by decide +kernel
theorem dX6_seek_9 : decode cX6_seek 9 = .ok (.aload_n 0, 1) := by decide +kernel
theorem dX6_seek_10 : decode cX6_seek 10 = .ok (.getfield 18, 3) := by decide +kernel
theorem dX6_seek_13 : decode cX6_seek 13 = .ok (.if_icmp .gt 87, 3) := by decide +kernel
theorem dX6_seek_16 : decode cX6_seek 16 = .ok (.iload 4, 2) := by decide +kernel
theorem dX6_seek_18 : decode cX6_seek 18 = .ok (.aload_n 0, 1) := by decide +kernel
theorem dX6_seek_19 : decode cX6_seek 19 = .ok (.getfield 18, 3) := by decide +kernel
theorem dX6_seek_22 : decode cX6_seek 22 = .ok (.if_icmp .ge 32, 3) := by decide +kernel
theorem dX6_seek_25 : decode cX6_seek 25 = .ok (.aload_n 0, 1) := by decide +kernel
theorem dX6_seek_26 : decode cX6_seek 26 = .ok (.iload 4, 2) := by decide +kernel
theorem dX6_seek_28 : decode cX6_seek 28 = .ok (.invokevirtual 60, 3) := by decide +kernel
theorem dX6_seek_31 : decode cX6_seek 31 = .ok (.aload_n 0, 1) := by decide +kernel
theorem dX6_seek_32 : decode cX6_seek 32 = .ok (.iload 4, 2) := by decide +kernel
theorem dX6_seek_34 : decode cX6_seek 34 = .ok (.iconst 1, 1) := by decide +kernel
theorem dX6_seek_35 : decode cX6_seek 35 = .ok (.isub, 1) := by decide +kernel
theorem dX6_seek_36 : decode cX6_seek 36 = .ok (.invokevirtual 60, 3) := by decide +kernel
theorem dX6_seek_39 : decode cX6_seek 39 = .ok (.isub, 1) := by decide +kernel
theorem dX6_seek_40 : decode cX6_seek 40 = .ok (.aload_n 0, 1) := by decide +kernel
theorem dX6_seek_41 : decode cX6_seek 41 = .ok (.getfield 28, 3) := by decide +kernel
theorem dX6_seek_44 : decode cX6_seek 44 = .ok (.getfield 61, 3) := by decide +kernel
theorem dX6_seek_47 : decode cX6_seek 47 = .ok (.if_icmp .gt 7, 3) := by decide +kernel
theorem dX6_seek_50 : decode cX6_seek 50 = .ok (.iconst 1, 1) := by decide +kernel
theorem dX6_seek_51 : decode cX6_seek 51 = .ok (.goto 4, 3) := by decide +kernel
theorem dX6_seek_54 : decode cX6_seek 54 = .ok (.iconst 0, 1) := by decide +kernel
theorem dX6_seek_55 : decode cX6_seek 55 = .ok (.istore 5, 2) := by decide +kernel
theorem dX6_seek_57 : decode cX6_seek 57 = .ok (.iload 5, 2) := by decide +kernel
theorem dX6_seek_59 : decode cX6_seek 59 = .ok (.ifCond .ne 35, 3) := by decide +kernel
theorem dX6_seek_62 : decode cX6_seek 62 = .ok (.iload 4, 2) := by decide +kernel
theorem dX6_seek_64 : decode cX6_seek 64 = .ok (.iload_n 3, 1) := by decide +kernel
theorem dX6_seek_65 : decode cX6_seek 65 = .ok (.isub, 1) := by decide +kernel
theorem dX6_seek_66 : decode cX6_seek 66 = .ok (.iconst 2, 1) := by decide +kernel
theorem dX6_seek_67 : decode cX6_seek 67 = .ok (.if_icmp .lt 24, 3) := by decide +kernel
theorem dX6_seek_70 : decode cX6_seek 70 = .ok (.iload_n 2, 1) := by decide +kernel
theorem dX6_seek_71 : decode cX6_seek 71 = .ok (.iload_n 1, 1) := by decide +kernel
theorem dX6_seek_72 : decode cX6_seek 72 = .ok (.if_icmp .ne 16, 3) := by decide +kernel
theorem dX6_seek_75 : decode cX6_seek 75 = .ok (.aload_n 0, 1) := by decide +kernel
theorem dX6_seek_76 : decode cX6_seek 76 = .ok (.iload_n 3, 1) := by decide +kernel
theorem dX6_seek_77 : decode cX6_seek 77 = .ok (.putfield 22, 3) := by decide +kernel
theorem dX6_seek_80 : decode cX6_seek 80 = .ok (.aload_n 0, 1) := by decide +kernel
theorem dX6_seek_81 : decode cX6_seek 81 = .ok (.iload 4, 2) := by decide +kernel
theorem dX6_seek_83 : decode cX6_seek 83 = .ok (.iconst 1, 1) := by decide +kernel
theorem dX6_seek_84 : decode cX6_seek 84 = .ok (.isub, 1) := by decide +kernel
theorem dX6_seek_85 : decode cX6_seek 85 = .ok (.putfield 25, 3) := by decide +kernel
theorem dX6_seek_88 : decode cX6_seek 88 = .ok (.iinc 2 1, 3) := by decide +kernel
theorem dX6_seek_91 : decode cX6_seek 91 = .ok (.iload 4, 2) := by decide +kernel
theorem dX6_seek_93 : decode cX6_seek 93 = .ok (.istore_n 3, 1) := by decide +kernel
theorem dX6_seek_94 : decode cX6_seek 94 = .ok (.iinc 4 1, 3) := by decide +kernel
theorem dX6_seek_97 : decode cX6_seek 97 = .ok (.goto (-90), 3) := by decide +kernel
theorem dX6_seek_100 : decode cX6_seek 100 = .ok (.iload_n 2, 1) := by decide +kernel
theorem dX6_seek_101 : decode cX6_seek 101 = .ok (.ireturn, 1) := by decide +kernel
def f_X6_seek_55 (v1 : Int32) (v2 : Int32) (v3 : Int32) (v4 : Int32) (k7 : Int32 → Int32 → Int32 → gSt → Option (Int32 × gSt)) (vs0 : Int32) (σ : gSt) : Option (Int32 × gSt) :=
  if vs0 = 0 then
    if (v4 - v3) < 2 then
      k7 v2 v4 (v4 + 1) σ
    else
      if v2 = v1 then
        k7 (v2 + 1) v4 (v4 + 1) (gup (gup σ 22 0 4 v3) 22 0 5 (v4 - 1))
      else
        k7 (v2 + 1) v4 (v4 + 1) σ
  else
    k7 v2 v3 (v4 + 1) σ
def f_X6_seek_54 (v1 : Int32) (v2 : Int32) (v3 : Int32) (v4 : Int32) (k7 : Int32 → Int32 → Int32 → gSt → Option (Int32 × gSt)) (σ : gSt) : Option (Int32 × gSt) :=
  f_X6_seek_55 v1 v2 v3 v4 k7 0 σ
def f_X6_seek_7 (v1 : Int32) : Nat → Int32 → Int32 → Int32 → gSt → Option (Int32 × gSt)
  | 0, _, _, _, _ => none
  | n + 1, v2, v3, v4, σ =>
    if (σ 22 0 3) < v4 then
      some (v2, σ)
    else
      if (σ 22 0 3) ≤ v4 then
        f_X6_seek_54 v1 v2 v3 v4 (fun v2 v3 v4 σ => f_X6_seek_7 v1 n v2 v3 v4 σ) σ
      else
        (f_X6_timeOf v4 σ).bind fun p28 =>
        (f_X6_timeOf (v4 - 1) p28.2).bind fun p36 =>
        if (p36.2 3 1 5) < (p28.1 - p36.1) then
          f_X6_seek_54 v1 v2 v3 v4 (fun v2 v3 v4 σ => f_X6_seek_7 v1 n v2 v3 v4 σ) p36.2
        else
          f_X6_seek_55 v1 v2 v3 v4 (fun v2 v3 v4 σ => f_X6_seek_7 v1 n v2 v3 v4 σ) 1 p36.2
def f_X6_seek (v1 : Int32) (σ : gSt) : Option (Int32 × gSt) :=
  f_X6_seek_7 v1 gFuel 0 0 1 σ
theorem f_X6_seek_55_ok {v1 : Int32} {v2 : Int32} {v3 : Int32} {v4 : Int32} {k7 : Int32 → Int32 → Int32 → gSt → Option (Int32 × gSt)} {vs0 : Int32} {r : (Int32 × gSt)} (hk7 : ∀ {v2 : Int32} {v3 : Int32} {v4 : Int32} {σ : gSt} {x5 : Option Value}, k7 v2 v3 v4 σ = some r → G l w 0 41 RX6 cX6_seek 6 (some .int) 1 21 (gE (some (.int r.1)) r.2) 7 [some (.ref (w.2.1 22 0)), some (.int v1), some (.int v2), some (.int v3), some (.int v4), x5] [] σ) {σ : gSt} {x5 : Option Value} (h : f_X6_seek_55 v1 v2 v3 v4 k7 vs0 σ = some r) : G l w 0 41 RX6 cX6_seek 6 (some .int) 1 21 (gE (some (.int r.1)) r.2) 55 [some (.ref (w.2.1 22 0)), some (.int v1), some (.int v2), some (.int v3), some (.int v4), x5] [.int vs0] σ := by
  unfold f_X6_seek_55 at h
  refine g_istore5 dX6_seek_55 ?_
  refine g_iload dX6_seek_57 rfl ?_
  refine g_if_ne 94 dX6_seek_59 rfl (fun q => ?_) (fun q => ?_)
  · replace h := gif_f q h
    refine g_inc4 kc_1 dX6_seek_94 ?_
    refine g_goto 7 dX6_seek_97 rfl ?_
    exact hk7 h
  · replace h := gif_t q h
    refine g_iload dX6_seek_62 rfl ?_
    refine g_iload_n dX6_seek_64 rfl ?_
    refine g_isub dX6_seek_65 ?_
    refine g_iconst dX6_seek_66 kc_2 ?_
    refine g_icmp_lt 91 dX6_seek_67 rfl (fun q => ?_) (fun q => ?_)
    · replace h := gif_t q h
      refine g_iload dX6_seek_91 rfl ?_
      refine g_istore3 dX6_seek_93 ?_
      refine g_inc4 kc_1 dX6_seek_94 ?_
      refine g_goto 7 dX6_seek_97 rfl ?_
      exact hk7 h
    · replace h := gif_f q h
      refine g_iload_n dX6_seek_70 rfl ?_
      refine g_iload_n dX6_seek_71 rfl ?_
      refine g_icmp_ne 88 dX6_seek_72 rfl (fun q => ?_) (fun q => ?_)
      · replace h := gif_f q h
        refine g_inc2 kc_1 dX6_seek_88 ?_
        refine g_iload dX6_seek_91 rfl ?_
        refine g_istore3 dX6_seek_93 ?_
        refine g_inc4 kc_1 dX6_seek_94 ?_
        refine g_goto 7 dX6_seek_97 rfl ?_
        exact hk7 h
      · replace h := gif_t q h
        refine g_aload_n dX6_seek_75 rfl ?_
        refine g_iload_n dX6_seek_76 rfl ?_
        refine gP_X6_22 ok_22 dX6_seek_77 ?_
        refine g_aload_n dX6_seek_80 rfl ?_
        refine g_iload dX6_seek_81 rfl ?_
        refine g_iconst dX6_seek_83 kc_1 ?_
        refine g_isub dX6_seek_84 ?_
        refine gP_X6_25 ok_22 dX6_seek_85 ?_
        refine g_inc2 kc_1 dX6_seek_88 ?_
        refine g_iload dX6_seek_91 rfl ?_
        refine g_istore3 dX6_seek_93 ?_
        refine g_inc4 kc_1 dX6_seek_94 ?_
        refine g_goto 7 dX6_seek_97 rfl ?_
        exact hk7 h
theorem f_X6_seek_54_ok {v1 : Int32} {v2 : Int32} {v3 : Int32} {v4 : Int32} {k7 : Int32 → Int32 → Int32 → gSt → Option (Int32 × gSt)} {r : (Int32 × gSt)} (hk7 : ∀ {v2 : Int32} {v3 : Int32} {v4 : Int32} {σ : gSt} {x5 : Option Value}, k7 v2 v3 v4 σ = some r → G l w 0 41 RX6 cX6_seek 6 (some .int) 1 21 (gE (some (.int r.1)) r.2) 7 [some (.ref (w.2.1 22 0)), some (.int v1), some (.int v2), some (.int v3), some (.int v4), x5] [] σ) {σ : gSt} {x5 : Option Value} (h : f_X6_seek_54 v1 v2 v3 v4 k7 σ = some r) : G l w 0 41 RX6 cX6_seek 6 (some .int) 1 21 (gE (some (.int r.1)) r.2) 54 [some (.ref (w.2.1 22 0)), some (.int v1), some (.int v2), some (.int v3), some (.int v4), x5] [] σ := by
  unfold f_X6_seek_54 at h
  refine g_iconst dX6_seek_54 kc_0 ?_
  exact f_X6_seek_55_ok hk7 h
theorem f_X6_seek_7_ok {v1 : Int32} {r : (Int32 × gSt)}  : ∀ (n : Nat) {v2 : Int32} {v3 : Int32} {v4 : Int32} {σ : gSt} {x5 : Option Value}, f_X6_seek_7 v1 n v2 v3 v4 σ = some r → G l w 0 41 RX6 cX6_seek 6 (some .int) 1 21 (gE (some (.int r.1)) r.2) 7 [some (.ref (w.2.1 22 0)), some (.int v1), some (.int v2), some (.int v3), some (.int v4), x5] [] σ := by
  intro n
  induction n with
  | zero => intro v2 v3 v4 σ x5 h; rw [f_X6_seek_7] at h; cases h
  | succ n ih =>
    intro v2 v3 v4 σ x5 h
    rw [f_X6_seek_7] at h
    refine g_iload dX6_seek_7 rfl ?_
    refine g_aload_n dX6_seek_9 rfl ?_
    refine gI_X6_18 ok_22 dX6_seek_10 ?_
    refine g_icmp_gt 100 dX6_seek_13 rfl (fun q => ?_) (fun q => ?_)
    · replace h := gif_t q h
      refine g_iload_n dX6_seek_100 rfl ?_
      cases h
      exact g_iret dX6_seek_101 rfl ⟨rfl, rfl⟩
    · replace h := gif_f q h
      refine g_iload dX6_seek_16 rfl ?_
      refine g_aload_n dX6_seek_18 rfl ?_
      refine gI_X6_18 ok_22 dX6_seek_19 ?_
      refine g_icmp_ge 54 dX6_seek_22 rfl (fun q => ?_) (fun q => ?_)
      · replace h := gif_t q h
        exact f_X6_seek_54_ok (fun h => ih h) h
      · replace h := gif_f q h
        refine g_aload_n dX6_seek_25 rfl ?_
        refine g_iload dX6_seek_26 rfl ?_
        obtain ⟨p28, e28, h⟩ := obind h
        refine g_vP1 mv_X6_60 dX6_seek_28 ok_22 ⟨by decide, by decide⟩ (Nat.le_of_ble_eq_true rfl) (f_X6_timeOf_ok e28) ?_
        refine g_aload_n dX6_seek_31 rfl ?_
        refine g_iload dX6_seek_32 rfl ?_
        refine g_iconst dX6_seek_34 kc_1 ?_
        refine g_isub dX6_seek_35 ?_
        obtain ⟨p36, e36, h⟩ := obind h
        refine g_vP1 mv_X6_60 dX6_seek_36 ok_22 ⟨by decide, by decide⟩ (Nat.le_of_ble_eq_true rfl) (f_X6_timeOf_ok e36) ?_
        refine g_isub dX6_seek_39 ?_
        refine g_aload_n dX6_seek_40 rfl ?_
        refine gR_X6_28 ok_22 dX6_seek_41 ?_
        refine gI_X6_61 (ok_3 (by decide)) dX6_seek_44 ?_
        refine g_icmp_gt 54 dX6_seek_47 rfl (fun q => ?_) (fun q => ?_)
        · replace h := gif_t q h
          exact f_X6_seek_54_ok (fun h => ih h) h
        · replace h := gif_f q h
          refine g_iconst dX6_seek_50 kc_1 ?_
          refine g_goto 55 dX6_seek_51 rfl ?_
          exact f_X6_seek_55_ok (fun h => ih h) h
theorem f_X6_seek_ok {v1 : Int32}  {σ : gSt} {r : (Int32 × gSt)} (h : f_X6_seek v1 σ = some r) : Mt l w 0 41 yX6_seek cX6_seek 6 (some .int) 1 21 [.ref (w.2.1 22 0), .int v1] σ (gE (some (.int r.1)) r.2) := by
  unfold f_X6_seek at h
  refine g_start pn_X6 rfl rfl (Nat.le_of_ble_eq_true rfl) ?_
  show G l w 0 41 RX6 cX6_seek 6 (some .int) 1 21 (gE (some (.int r.1)) r.2) 0 [some (.ref (w.2.1 22 0)), some (.int v1), none, none, none, none] [] σ
  refine g_iconst dX6_seek_0 kc_0 ?_
  refine g_istore2 dX6_seek_1 ?_
  refine g_iconst dX6_seek_2 kc_0 ?_
  refine g_istore3 dX6_seek_3 ?_
  refine g_iconst dX6_seek_4 kc_1 ?_
  refine g_istore4 dX6_seek_5 ?_
  exact f_X6_seek_7_ok gFuel h
end MI
