section MI
variable {l : Launch} {w : gWd}
theorem dX11_move_0 : decode cX11_move 0 = .ok (.aload_n 0, 1) := by decide +kernel
theorem dX11_move_1 : decode cX11_move 1 = .ok (.getfield 32, 3) := by decide +kernel
theorem dX11_move_4 : decode cX11_move 4 = .ok (.iload_n 1, 1) := by decide +kernel
theorem dX11_move_5 : decode cX11_move 5 = .ok (.invokevirtual 171, 3) := by decide +kernel
theorem dX11_move_8 : decode cX11_move 8 = .ok (.ifCond .eq 14, 3) := by decide +kernel
theorem dX11_move_11 : decode cX11_move 11 = .ok (.aload_n 0, 1) := by decide +kernel
theorem dX11_move_12 : decode cX11_move 12 = .ok (.getfield 32, 3) := by decide +kernel
theorem dX11_move_15 : decode cX11_move 15 = .ok (.iload_n 2, 1) := by decide +kernel
theorem dX11_move_16 : decode cX11_move 16 = .ok (.invokevirtual 140, 3) := by decide +kernel
theorem dX11_move_19 : decode cX11_move 19 = .ok (.ifCond .ne 9, 3) := by decide +kernel
theorem dX11_move_22 : decode cX11_move 22 = .ok (.aload_n 0, 1) := by decide +kernel
theorem dX11_move_23 : decode cX11_move 23 = .ok (.iconst 1, 1) := by decide +kernel
theorem dX11_move_24 : decode cX11_move 24 = .ok (.invokevirtual 91, 3) := by decide +kernel
theorem dX11_move_27 : decode cX11_move 27 = .ok (.ireturn, 1) := by decide +kernel
theorem dX11_move_28 : decode cX11_move 28 = .ok (.aload_n 0, 1) := by decide +kernel
theorem dX11_move_29 : decode cX11_move 29 = .ok (.getfield 32, 3) := by decide +kernel
theorem dX11_move_32 : decode cX11_move 32 = .ok (.iload_n 1, 1) := by decide +kernel
theorem dX11_move_33 : decode cX11_move 33 = .ok (.invokevirtual 174, 3) := by decide +kernel
theorem dX11_move_36 : decode cX11_move 36 = .ok (.getfield 178, 3) := by decide +kernel
theorem dX11_move_39 : decode cX11_move 39 = .ok (.istore_n 3, 1) := by decide +kernel
theorem dX11_move_40 : decode cX11_move 40 = .ok (.aload_n 0, 1) := by decide +kernel
theorem dX11_move_41 : decode cX11_move 41 = .ok (.getfield 32, 3) := by decide +kernel
theorem dX11_move_44 : decode cX11_move 44 = .ok (.iload_n 1, 1) := by decide +kernel
theorem dX11_move_45 : decode cX11_move 45 = .ok (.iload_n 2, 1) := by decide +kernel
theorem dX11_move_46 : decode cX11_move 46 = .ok (.invokevirtual 398, 3) := by decide +kernel
theorem dX11_move_49 : decode cX11_move 49 = .ok (.aload_n 0, 1) := by decide +kernel
theorem dX11_move_50 : decode cX11_move 50 = .ok (.getfield 70, 3) := by decide +kernel
theorem dX11_move_53 : decode cX11_move 53 = .ok (.iconst 4, 1) := by decide +kernel
theorem dX11_move_54 : decode cX11_move 54 = .ok (.iload_n 1, 1) := by decide +kernel
theorem dX11_move_55 : decode cX11_move 55 = .ok (.iload_n 3, 1) := by decide +kernel
theorem dX11_move_56 : decode cX11_move 56 = .ok (.iconst 0, 1) := by decide +kernel
theorem dX11_move_57 : decode cX11_move 57 = .ok (.iconst 0, 1) := by decide +kernel
theorem dX11_move_58 : decode cX11_move 58 = .ok (.invokevirtual 390, 3) := by decide +kernel
theorem dX11_move_61 : decode cX11_move 61 = .ok (.aload_n 0, 1) := by decide +kernel
theorem dX11_move_62 : decode cX11_move 62 = .ok (.iload_n 3, 1) := by decide +kernel
theorem dX11_move_63 : decode cX11_move 63 = .ok (.invokevirtual 114, 3) := by decide +kernel
theorem dX11_move_66 : decode cX11_move 66 = .ok (.ireturn, 1) := by decide +kernel
def f_X11_move (v1 : Int32) (v2 : Int32) (σ : gSt) : Option (Int32 × gSt) :=
  (f_X4_hasRunner 1 v1 σ).bind fun p5 =>
  if p5.1 = 0 then
    (f_X11_refused 1 p5.2).bind fun p24 =>
    some (p24.1, p24.2)
  else
    (f_X4_hasCourse 1 v2 p5.2).bind fun p16 =>
    if p16.1 = 0 then
      (f_X11_refused 1 p16.2).bind fun p24 =>
      some (p24.1, p24.2)
    else
      (f_X4_runnerAt 1 v1 p16.2).bind fun p33 =>
      (f_X4_assign 1 v1 v2 p33.2).bind fun z46 =>
      (f_X0_keep 4 v1 (p33.2 10 p33.1 5) 0 0 z46).bind fun z58 =>
      (f_X11_answered (p33.2 10 p33.1 5) z58).bind fun p63 =>
      some (p63.1, p63.2)
theorem f_X11_move_ok {v1 : Int32} {v2 : Int32}  {σ : gSt} {r : (Int32 × gSt)} (h : f_X11_move v1 v2 σ = some r) : Mt l w 0 41 yX11_move cX11_move 4 (some .int) 5 116 [.ref (w.2.1 0 0), .int v1, .int v2] σ (gE (some (.int r.1)) r.2) := by
  unfold f_X11_move at h
  refine g_start pn_X11 rfl rfl (Nat.le_of_ble_eq_true rfl) ?_
  show G l w 0 41 RX11 cX11_move 4 (some .int) 5 116 (gE (some (.int r.1)) r.2) 0 [some (.ref (w.2.1 0 0)), some (.int v1), some (.int v2), none] [] σ
  refine g_aload_n dX11_move_0 rfl ?_
  refine gR_X11_32 ok_0 dX11_move_1 ?_
  refine g_iload_n dX11_move_4 rfl ?_
  obtain ⟨p5, e5, h⟩ := obind h
  refine g_vP1 mv_X11_171 dX11_move_5 (ok_3 (by decide)) ⟨by decide, by decide⟩ (Nat.le_of_ble_eq_true rfl) (f_X4_hasRunner_ok (by decide) e5) ?_
  refine g_if_eq 22 dX11_move_8 rfl (fun q => ?_) (fun q => ?_)
  · replace h := gif_t q h
    refine g_aload_n dX11_move_22 rfl ?_
    refine g_iconst dX11_move_23 kc_1 ?_
    obtain ⟨p24, e24, h⟩ := obind h
    refine g_vP1 mv_X11_91 dX11_move_24 ok_0 ⟨by decide, by decide⟩ (Nat.le_of_ble_eq_true rfl) (f_X11_refused_ok e24) ?_
    cases h
    exact g_iret dX11_move_27 rfl ⟨rfl, rfl⟩
  · replace h := gif_f q h
    refine g_aload_n dX11_move_11 rfl ?_
    refine gR_X11_32 ok_0 dX11_move_12 ?_
    refine g_iload_n dX11_move_15 rfl ?_
    obtain ⟨p16, e16, h⟩ := obind h
    refine g_vP1 mv_X11_140 dX11_move_16 (ok_3 (by decide)) ⟨by decide, by decide⟩ (Nat.le_of_ble_eq_true rfl) (f_X4_hasCourse_ok (by decide) e16) ?_
    refine g_if_ne 28 dX11_move_19 rfl (fun q => ?_) (fun q => ?_)
    · replace h := gif_f q h
      refine g_aload_n dX11_move_28 rfl ?_
      refine gR_X11_32 ok_0 dX11_move_29 ?_
      refine g_iload_n dX11_move_32 rfl ?_
      obtain ⟨p33, e33, h⟩ := obind h
      refine g_vR1 mv_X11_174 dX11_move_33 (ok_3 (by decide)) ⟨by decide, by decide⟩ (Nat.le_of_ble_eq_true rfl) (f_X4_runnerAt_ok (by decide) e33) (fun b33 => ?_)
      refine gI_X11_178 (ok_10 b33) dX11_move_36 ?_
      refine g_istore3 dX11_move_39 ?_
      refine g_aload_n dX11_move_40 rfl ?_
      refine gR_X11_32 ok_0 dX11_move_41 ?_
      refine g_iload_n dX11_move_44 rfl ?_
      refine g_iload_n dX11_move_45 rfl ?_
      obtain ⟨z46, e46, h⟩ := obind h
      refine g_vU2 mv_X11_398 dX11_move_46 (ok_3 (by decide)) ⟨by decide, by decide⟩ (Nat.le_of_ble_eq_true rfl) (f_X4_assign_ok (by decide) e46) ?_
      refine g_aload_n dX11_move_49 rfl ?_
      refine gR_X11_70 ok_0 dX11_move_50 ?_
      refine g_iconst dX11_move_53 kc_4 ?_
      refine g_iload_n dX11_move_54 rfl ?_
      refine g_iload_n dX11_move_55 rfl ?_
      refine g_iconst dX11_move_56 kc_0 ?_
      refine g_iconst dX11_move_57 kc_0 ?_
      obtain ⟨z58, e58, h⟩ := obind h
      refine g_vU5 mv_X11_390 dX11_move_58 ok_26 ⟨by decide, by decide⟩ (Nat.le_of_ble_eq_true rfl) (f_X0_keep_ok e58) ?_
      refine g_aload_n dX11_move_61 rfl ?_
      refine g_iload_n dX11_move_62 rfl ?_
      obtain ⟨p63, e63, h⟩ := obind h
      refine g_vP1 mv_X11_114 dX11_move_63 ok_0 ⟨by decide, by decide⟩ (Nat.le_of_ble_eq_true rfl) (f_X11_answered_ok e63) ?_
      cases h
      exact g_iret dX11_move_66 rfl ⟨rfl, rfl⟩
    · replace h := gif_t q h
      refine g_aload_n dX11_move_22 rfl ?_
      refine g_iconst dX11_move_23 kc_1 ?_
      obtain ⟨p24, e24, h⟩ := obind h
      refine g_vP1 mv_X11_91 dX11_move_24 ok_0 ⟨by decide, by decide⟩ (Nat.le_of_ble_eq_true rfl) (f_X11_refused_ok e24) ?_
      cases h
      exact g_iret dX11_move_27 rfl ⟨rfl, rfl⟩
theorem dX11_become_0 : decode cX11_become 0 = .ok (.aload_n 0, 1) := by decide +kernel
theorem dX11_become_1 : decode cX11_become 1 = .ok (.getfield 32, 3) := by decide +kernel
theorem dX11_become_4 : decode cX11_become 4 = .ok (.invokevirtual 117, 3) := by decide +kernel
theorem dX11_become_7 : decode cX11_become 7 = .ok (.ifCond .eq 12, 3) := by decide +kernel
theorem dX11_become_10 : decode cX11_become 10 = .ok (.iload_n 1, 1) := by decide +kernel
theorem dX11_become_11 : decode cX11_become 11 = .ok (.ifCond .lt 8, 3) := by decide +kernel
theorem dX11_become_14 : decode cX11_become 14 = .ok (.iload_n 1, 1) := by decide +kernel
theorem dX11_become_15 : decode cX11_become 15 = .ok (.iconst 1, 1) := by decide +kernel
theorem dX11_become_16 : decode cX11_become 16 = .ok (.if_icmp .le 9, 3) := by decide +kernel
theorem dX11_become_19 : decode cX11_become 19 = .ok (.aload_n 0, 1) := by decide +kernel
theorem dX11_become_20 : decode cX11_become 20 = .ok (.iconst 1, 1) := by decide +kernel
theorem dX11_become_21 : decode cX11_become 21 = .ok (.invokevirtual 91, 3) := by decide +kernel
theorem dX11_become_24 : decode cX11_become 24 = .ok (.ireturn, 1) := by decide +kernel
theorem dX11_become_25 : decode cX11_become 25 = .ok (.iload_n 2, 1) := by decide +kernel
theorem dX11_become_26 : decode cX11_become 26 = .ok (.ifCond .lt 10, 3) := by decide +kernel
theorem dX11_become_29 : decode cX11_become 29 = .ok (.iload_n 2, 1) := by decide +kernel
theorem dX11_become_30 : decode cX11_become 30 = .ok (.sipush 600, 3) := by decide +kernel
theorem dX11_become_33 : decode cX11_become 33 = .ok (.if_icmp .le 9, 3) := by decide +kernel
theorem dX11_become_36 : decode cX11_become 36 = .ok (.aload_n 0, 1) := by decide +kernel
theorem dX11_become_37 : decode cX11_become 37 = .ok (.iconst 2, 1) := by decide +kernel
theorem dX11_become_38 : decode cX11_become 38 = .ok (.invokevirtual 91, 3) := by decide +kernel
theorem dX11_become_41 : decode cX11_become 41 = .ok (.ireturn, 1) := by decide +kernel
theorem dX11_become_42 : decode cX11_become 42 = .ok (.iload_n 1, 1) := by decide +kernel
theorem dX11_become_43 : decode cX11_become 43 = .ok (.ifCond .ne 13, 3) := by decide +kernel
theorem dX11_become_46 : decode cX11_become 46 = .ok (.aload_n 0, 1) := by decide +kernel
theorem dX11_become_47 : decode cX11_become 47 = .ok (.getfield 32, 3) := by decide +kernel
theorem dX11_become_50 : decode cX11_become 50 = .ok (.getfield 124, 3) := by decide +kernel
theorem dX11_become_53 : decode cX11_become 53 = .ok (.goto 10, 3) := by decide +kernel
theorem dX11_become_56 : decode cX11_become 56 = .ok (.aload_n 0, 1) := by decide +kernel
theorem dX11_become_57 : decode cX11_become 57 = .ok (.getfield 32, 3) := by decide +kernel
theorem dX11_become_60 : decode cX11_become 60 = .ok (.getfield 127, 3) := by decide +kernel
theorem dX11_become_63 : decode cX11_become 63 = .ok (.istore_n 3, 1) := by decide +kernel
theorem dX11_become_64 : decode cX11_become 64 = .ok (.aload_n 0, 1) := by decide +kernel
theorem dX11_become_65 : decode cX11_become 65 = .ok (.getfield 32, 3) := by decide +kernel
theorem dX11_become_68 : decode cX11_become 68 = .ok (.iload_n 1, 1) := by decide +kernel
theorem dX11_become_69 : decode cX11_become 69 = .ok (.iload_n 2, 1) := by decide +kernel
theorem dX11_become_70 : decode cX11_become 70 = .ok (.invokevirtual 401, 3) := by decide +kernel
theorem dX11_become_73 : decode cX11_become 73 = .ok (.aload_n 0, 1) := by decide +kernel
theorem dX11_become_74 : decode cX11_become 74 = .ok (.getfield 70, 3) := by decide +kernel
theorem dX11_become_77 : decode cX11_become 77 = .ok (.iconst 5, 1) := by decide +kernel
theorem dX11_become_78 : decode cX11_become 78 = .ok (.iload_n 1, 1) := by decide +kernel
theorem dX11_become_79 : decode cX11_become 79 = .ok (.iload_n 3, 1) := by decide +kernel
theorem dX11_become_80 : decode cX11_become 80 = .ok (.iconst 0, 1) := by decide +kernel
theorem dX11_become_81 : decode cX11_become 81 = .ok (.iconst 0, 1) := by decide +kernel
theorem dX11_become_82 : decode cX11_become 82 = .ok (.invokevirtual 390, 3) := by decide +kernel
theorem dX11_become_85 : decode cX11_become 85 = .ok (.aload_n 0, 1) := by decide +kernel
theorem dX11_become_86 : decode cX11_become 86 = .ok (.iload_n 3, 1) := by decide +kernel
theorem dX11_become_87 : decode cX11_become 87 = .ok (.invokevirtual 114, 3) := by decide +kernel
theorem dX11_become_90 : decode cX11_become 90 = .ok (.ireturn, 1) := by decide +kernel
def f_X11_become_63 (v1 : Int32) (v2 : Int32) (vs0 : Int32) (σ : gSt) : Option (Int32 × gSt) :=
  (f_X4_widen 1 v1 v2 σ).bind fun z70 =>
  (f_X0_keep 5 v1 vs0 0 0 z70).bind fun z82 =>
  (f_X11_answered vs0 z82).bind fun p87 =>
  some (p87.1, p87.2)
def f_X11_become (v1 : Int32) (v2 : Int32) (σ : gSt) : Option (Int32 × gSt) :=
  (f_X4_isTold 1 σ).bind fun p4 =>
  if p4.1 = 0 then
    (f_X11_refused 1 p4.2).bind fun p21 =>
    some (p21.1, p21.2)
  else
    if v1 < 0 then
      (f_X11_refused 1 p4.2).bind fun p21 =>
      some (p21.1, p21.2)
    else
      if v1 ≤ 1 then
        if v2 < 0 then
          (f_X11_refused 2 p4.2).bind fun p38 =>
          some (p38.1, p38.2)
        else
          if v2 ≤ 600 then
            if v1 = 0 then
              f_X11_become_63 v1 v2 (p4.2 3 1 5) p4.2
            else
              f_X11_become_63 v1 v2 (p4.2 3 1 6) p4.2
          else
            (f_X11_refused 2 p4.2).bind fun p38 =>
            some (p38.1, p38.2)
      else
        (f_X11_refused 1 p4.2).bind fun p21 =>
        some (p21.1, p21.2)
theorem f_X11_become_63_ok {v1 : Int32} {v2 : Int32} {vs0 : Int32} {r : (Int32 × gSt)}  {σ : gSt} {x3 : Option Value} (h : f_X11_become_63 v1 v2 vs0 σ = some r) : G l w 0 41 RX11 cX11_become 4 (some .int) 2 85 (gE (some (.int r.1)) r.2) 63 [some (.ref (w.2.1 0 0)), some (.int v1), some (.int v2), x3] [.int vs0] σ := by
  unfold f_X11_become_63 at h
  refine g_istore3 dX11_become_63 ?_
  refine g_aload_n dX11_become_64 rfl ?_
  refine gR_X11_32 ok_0 dX11_become_65 ?_
  refine g_iload_n dX11_become_68 rfl ?_
  refine g_iload_n dX11_become_69 rfl ?_
  obtain ⟨z70, e70, h⟩ := obind h
  refine g_vU2 mv_X11_401 dX11_become_70 (ok_3 (by decide)) ⟨by decide, by decide⟩ (Nat.le_of_ble_eq_true rfl) (f_X4_widen_ok (by decide) e70) ?_
  refine g_aload_n dX11_become_73 rfl ?_
  refine gR_X11_70 ok_0 dX11_become_74 ?_
  refine g_iconst dX11_become_77 kc_5 ?_
  refine g_iload_n dX11_become_78 rfl ?_
  refine g_iload_n dX11_become_79 rfl ?_
  refine g_iconst dX11_become_80 kc_0 ?_
  refine g_iconst dX11_become_81 kc_0 ?_
  obtain ⟨z82, e82, h⟩ := obind h
  refine g_vU5 mv_X11_390 dX11_become_82 ok_26 ⟨by decide, by decide⟩ (Nat.le_of_ble_eq_true rfl) (f_X0_keep_ok e82) ?_
  refine g_aload_n dX11_become_85 rfl ?_
  refine g_iload_n dX11_become_86 rfl ?_
  obtain ⟨p87, e87, h⟩ := obind h
  refine g_vP1 mv_X11_114 dX11_become_87 ok_0 ⟨by decide, by decide⟩ (Nat.le_of_ble_eq_true rfl) (f_X11_answered_ok e87) ?_
  cases h
  exact g_iret dX11_become_90 rfl ⟨rfl, rfl⟩
theorem f_X11_become_ok {v1 : Int32} {v2 : Int32}  {σ : gSt} {r : (Int32 × gSt)} (h : f_X11_become v1 v2 σ = some r) : Mt l w 0 41 yX11_become cX11_become 4 (some .int) 2 85 [.ref (w.2.1 0 0), .int v1, .int v2] σ (gE (some (.int r.1)) r.2) := by
  unfold f_X11_become at h
  refine g_start pn_X11 rfl rfl (Nat.le_of_ble_eq_true rfl) ?_
  show G l w 0 41 RX11 cX11_become 4 (some .int) 2 85 (gE (some (.int r.1)) r.2) 0 [some (.ref (w.2.1 0 0)), some (.int v1), some (.int v2), none] [] σ
  refine g_aload_n dX11_become_0 rfl ?_
  refine gR_X11_32 ok_0 dX11_become_1 ?_
  obtain ⟨p4, e4, h⟩ := obind h
  refine g_vP0 mv_X11_117 dX11_become_4 (ok_3 (by decide)) ⟨by decide, by decide⟩ (Nat.le_of_ble_eq_true rfl) (f_X4_isTold_ok (by decide) e4) ?_
  refine g_if_eq 19 dX11_become_7 rfl (fun q => ?_) (fun q => ?_)
  · replace h := gif_t q h
    refine g_aload_n dX11_become_19 rfl ?_
    refine g_iconst dX11_become_20 kc_1 ?_
    obtain ⟨p21, e21, h⟩ := obind h
    refine g_vP1 mv_X11_91 dX11_become_21 ok_0 ⟨by decide, by decide⟩ (Nat.le_of_ble_eq_true rfl) (f_X11_refused_ok e21) ?_
    cases h
    exact g_iret dX11_become_24 rfl ⟨rfl, rfl⟩
  · replace h := gif_f q h
    refine g_iload_n dX11_become_10 rfl ?_
    refine g_if_lt 19 dX11_become_11 rfl (fun q => ?_) (fun q => ?_)
    · replace h := gif_t q h
      refine g_aload_n dX11_become_19 rfl ?_
      refine g_iconst dX11_become_20 kc_1 ?_
      obtain ⟨p21, e21, h⟩ := obind h
      refine g_vP1 mv_X11_91 dX11_become_21 ok_0 ⟨by decide, by decide⟩ (Nat.le_of_ble_eq_true rfl) (f_X11_refused_ok e21) ?_
      cases h
      exact g_iret dX11_become_24 rfl ⟨rfl, rfl⟩
    · replace h := gif_f q h
      refine g_iload_n dX11_become_14 rfl ?_
      refine g_iconst dX11_become_15 kc_1 ?_
      refine g_icmp_le 25 dX11_become_16 rfl (fun q => ?_) (fun q => ?_)
      · replace h := gif_t q h
        refine g_iload_n dX11_become_25 rfl ?_
        refine g_if_lt 36 dX11_become_26 rfl (fun q => ?_) (fun q => ?_)
        · replace h := gif_t q h
          refine g_aload_n dX11_become_36 rfl ?_
          refine g_iconst dX11_become_37 kc_2 ?_
          obtain ⟨p38, e38, h⟩ := obind h
          refine g_vP1 mv_X11_91 dX11_become_38 ok_0 ⟨by decide, by decide⟩ (Nat.le_of_ble_eq_true rfl) (f_X11_refused_ok e38) ?_
          cases h
          exact g_iret dX11_become_41 rfl ⟨rfl, rfl⟩
        · replace h := gif_f q h
          refine g_iload_n dX11_become_29 rfl ?_
          refine g_sipush dX11_become_30 ks_600 ?_
          refine g_icmp_le 42 dX11_become_33 rfl (fun q => ?_) (fun q => ?_)
          · replace h := gif_t q h
            refine g_iload_n dX11_become_42 rfl ?_
            refine g_if_ne 56 dX11_become_43 rfl (fun q => ?_) (fun q => ?_)
            · replace h := gif_f q h
              refine g_aload_n dX11_become_56 rfl ?_
              refine gR_X11_32 ok_0 dX11_become_57 ?_
              refine gI_X11_127 (ok_3 (by decide)) dX11_become_60 ?_
              exact f_X11_become_63_ok h
            · replace h := gif_t q h
              refine g_aload_n dX11_become_46 rfl ?_
              refine gR_X11_32 ok_0 dX11_become_47 ?_
              refine gI_X11_124 (ok_3 (by decide)) dX11_become_50 ?_
              refine g_goto 63 dX11_become_53 rfl ?_
              exact f_X11_become_63_ok h
          · replace h := gif_f q h
            refine g_aload_n dX11_become_36 rfl ?_
            refine g_iconst dX11_become_37 kc_2 ?_
            obtain ⟨p38, e38, h⟩ := obind h
            refine g_vP1 mv_X11_91 dX11_become_38 ok_0 ⟨by decide, by decide⟩ (Nat.le_of_ble_eq_true rfl) (f_X11_refused_ok e38) ?_
            cases h
            exact g_iret dX11_become_41 rfl ⟨rfl, rfl⟩
      · replace h := gif_f q h
        refine g_aload_n dX11_become_19 rfl ?_
        refine g_iconst dX11_become_20 kc_1 ?_
        obtain ⟨p21, e21, h⟩ := obind h
        refine g_vP1 mv_X11_91 dX11_become_21 ok_0 ⟨by decide, by decide⟩ (Nat.le_of_ble_eq_true rfl) (f_X11_refused_ok e21) ?_
        cases h
        exact g_iret dX11_become_24 rfl ⟨rfl, rfl⟩
theorem dX11_recode_0 : decode cX11_recode 0 = .ok (.aload_n 0, 1) := by decide +kernel
theorem dX11_recode_1 : decode cX11_recode 1 = .ok (.getfield 32, 3) := by decide +kernel
theorem dX11_recode_4 : decode cX11_recode 4 = .ok (.iload_n 1, 1) := by decide +kernel
theorem dX11_recode_5 : decode cX11_recode 5 = .ok (.iload_n 2, 1) := by decide +kernel
theorem dX11_recode_6 : decode cX11_recode 6 = .ok (.invokevirtual 164, 3) := by decide +kernel
theorem dX11_recode_9 : decode cX11_recode 9 = .ok (.ifCond .ne 9, 3) := by decide +kernel
theorem dX11_recode_12 : decode cX11_recode 12 = .ok (.aload_n 0, 1) := by decide +kernel
theorem dX11_recode_13 : decode cX11_recode 13 = .ok (.iconst 1, 1) := by decide +kernel
theorem dX11_recode_14 : decode cX11_recode 14 = .ok (.invokevirtual 91, 3) := by decide +kernel
theorem dX11_recode_17 : decode cX11_recode 17 = .ok (.ireturn, 1) := by decide +kernel
theorem dX11_recode_18 : decode cX11_recode 18 = .ok (.iload_n 3, 1) := by decide +kernel
theorem dX11_recode_19 : decode cX11_recode 19 = .ok (.invokestatic 314, 3) := by decide +kernel
theorem dX11_recode_22 : decode cX11_recode 22 = .ok (.ifCond .ne 9, 3) := by decide +kernel
theorem dX11_recode_25 : decode cX11_recode 25 = .ok (.aload_n 0, 1) := by decide +kernel
theorem dX11_recode_26 : decode cX11_recode 26 = .ok (.iconst 2, 1) := by decide +kernel
theorem dX11_recode_27 : decode cX11_recode 27 = .ok (.invokevirtual 91, 3) := by decide +kernel
theorem dX11_recode_30 : decode cX11_recode 30 = .ok (.ireturn, 1) := by decide +kernel
theorem dX11_recode_31 : decode cX11_recode 31 = .ok (.aload_n 0, 1) := by decide +kernel
theorem dX11_recode_32 : decode cX11_recode 32 = .ok (.getfield 32, 3) := by decide +kernel
theorem dX11_recode_35 : decode cX11_recode 35 = .ok (.iload_n 1, 1) := by decide +kernel
theorem dX11_recode_36 : decode cX11_recode 36 = .ok (.invokevirtual 143, 3) := by decide +kernel
theorem dX11_recode_39 : decode cX11_recode 39 = .ok (.astore 4, 2) := by decide +kernel
theorem dX11_recode_41 : decode cX11_recode 41 = .ok (.aload 4, 2) := by decide +kernel
theorem dX11_recode_43 : decode cX11_recode 43 = .ok (.iload_n 2, 1) := by decide +kernel
theorem dX11_recode_44 : decode cX11_recode 44 = .ok (.iconst 1, 1) := by decide +kernel
theorem dX11_recode_45 : decode cX11_recode 45 = .ok (.isub, 1) := by decide +kernel
theorem dX11_recode_46 : decode cX11_recode 46 = .ok (.iload_n 3, 1) := by decide +kernel
theorem dX11_recode_47 : decode cX11_recode 47 = .ok (.invokevirtual 404, 3) := by decide +kernel
theorem dX11_recode_50 : decode cX11_recode 50 = .ok (.ifCond .ne 15, 3) := by decide +kernel
theorem dX11_recode_53 : decode cX11_recode 53 = .ok (.aload 4, 2) := by decide +kernel
theorem dX11_recode_55 : decode cX11_recode 55 = .ok (.iload_n 2, 1) := by decide +kernel
theorem dX11_recode_56 : decode cX11_recode 56 = .ok (.iconst 1, 1) := by decide +kernel
theorem dX11_recode_57 : decode cX11_recode 57 = .ok (.iadd, 1) := by decide +kernel
theorem dX11_recode_58 : decode cX11_recode 58 = .ok (.iload_n 3, 1) := by decide +kernel
theorem dX11_recode_59 : decode cX11_recode 59 = .ok (.invokevirtual 404, 3) := by decide +kernel
theorem dX11_recode_62 : decode cX11_recode 62 = .ok (.ifCond .eq 9, 3) := by decide +kernel
theorem dX11_recode_65 : decode cX11_recode 65 = .ok (.aload_n 0, 1) := by decide +kernel
theorem dX11_recode_66 : decode cX11_recode 66 = .ok (.iconst 5, 1) := by decide +kernel
theorem dX11_recode_67 : decode cX11_recode 67 = .ok (.invokevirtual 91, 3) := by decide +kernel
theorem dX11_recode_70 : decode cX11_recode 70 = .ok (.ireturn, 1) := by decide +kernel
theorem dX11_recode_71 : decode cX11_recode 71 = .ok (.aload 4, 2) := by decide +kernel
theorem dX11_recode_73 : decode cX11_recode 73 = .ok (.iload_n 2, 1) := by decide +kernel
theorem dX11_recode_74 : decode cX11_recode 74 = .ok (.invokevirtual 168, 3) := by decide +kernel
theorem dX11_recode_77 : decode cX11_recode 77 = .ok (.istore 5, 2) := by decide +kernel
theorem dX11_recode_79 : decode cX11_recode 79 = .ok (.aload_n 0, 1) := by decide +kernel
theorem dX11_recode_80 : decode cX11_recode 80 = .ok (.getfield 32, 3) := by decide +kernel
theorem dX11_recode_83 : decode cX11_recode 83 = .ok (.iload_n 1, 1) := by decide +kernel
theorem dX11_recode_84 : decode cX11_recode 84 = .ok (.iload_n 2, 1) := by decide +kernel
theorem dX11_recode_85 : decode cX11_recode 85 = .ok (.iload_n 3, 1) := by decide +kernel
theorem dX11_recode_86 : decode cX11_recode 86 = .ok (.invokevirtual 406, 3) := by decide +kernel
theorem dX11_recode_89 : decode cX11_recode 89 = .ok (.aload_n 0, 1) := by decide +kernel
theorem dX11_recode_90 : decode cX11_recode 90 = .ok (.getfield 70, 3) := by decide +kernel
theorem dX11_recode_93 : decode cX11_recode 93 = .ok (.bipush 6, 2) := by decide +kernel
theorem dX11_recode_95 : decode cX11_recode 95 = .ok (.iload_n 1, 1) := by decide +kernel
theorem dX11_recode_96 : decode cX11_recode 96 = .ok (.iload_n 2, 1) := by decide +kernel
theorem dX11_recode_97 : decode cX11_recode 97 = .ok (.iload 5, 2) := by decide +kernel
theorem dX11_recode_99 : decode cX11_recode 99 = .ok (.iconst 0, 1) := by decide +kernel
theorem dX11_recode_100 : decode cX11_recode 100 = .ok (.invokevirtual 390, 3) := by decide +kernel
theorem dX11_recode_103 : decode cX11_recode 103 = .ok (.aload_n 0, 1) := by decide +kernel
theorem dX11_recode_104 : decode cX11_recode 104 = .ok (.iload 5, 2) := by decide +kernel
theorem dX11_recode_106 : decode cX11_recode 106 = .ok (.invokevirtual 114, 3) := by decide +kernel
theorem dX11_recode_109 : decode cX11_recode 109 = .ok (.ireturn, 1) := by decide +kernel
def f_X11_recode (v1 : Int32) (v2 : Int32) (v3 : Int32) (σ : gSt) : Option (Int32 × gSt) :=
  (f_X4_hasControl 1 v1 v2 σ).bind fun p6 =>
  if p6.1 = 0 then
    (f_X11_refused 1 p6.2).bind fun p14 =>
    some (p14.1, p14.2)
  else
    (f_X11_isCode v3 p6.2).bind fun p19 =>
    if p19.1 = 0 then
      (f_X11_refused 2 p19.2).bind fun p27 =>
      some (p27.1, p27.2)
    else
      (f_X4_courseAt 1 v1 p19.2).bind fun p36 =>
      (f_X1_isCode p36.1 (v2 - 1) v3 p36.2).bind fun p47 =>
      if p47.1 = 0 then
        (f_X1_isCode p36.1 (v2 + 1) v3 p47.2).bind fun p59 =>
        if p59.1 = 0 then
          (f_X1_codeAt p36.1 v2 p59.2).bind fun p74 =>
          (f_X4_setCode 1 v1 v2 v3 p74.2).bind fun z86 =>
          (f_X0_keep 6 v1 v2 p74.1 0 z86).bind fun z100 =>
          (f_X11_answered p74.1 z100).bind fun p106 =>
          some (p106.1, p106.2)
        else
          (f_X11_refused 5 p59.2).bind fun p67 =>
          some (p67.1, p67.2)
      else
        (f_X11_refused 5 p47.2).bind fun p67 =>
        some (p67.1, p67.2)
theorem f_X11_recode_ok {v1 : Int32} {v2 : Int32} {v3 : Int32}  {σ : gSt} {r : (Int32 × gSt)} (h : f_X11_recode v1 v2 v3 σ = some r) : Mt l w 0 41 yX11_recode cX11_recode 6 (some .int) 5 118 [.ref (w.2.1 0 0), .int v1, .int v2, .int v3] σ (gE (some (.int r.1)) r.2) := by
  unfold f_X11_recode at h
  refine g_start pn_X11 rfl rfl (Nat.le_of_ble_eq_true rfl) ?_
  show G l w 0 41 RX11 cX11_recode 6 (some .int) 5 118 (gE (some (.int r.1)) r.2) 0 [some (.ref (w.2.1 0 0)), some (.int v1), some (.int v2), some (.int v3), none, none] [] σ
  refine g_aload_n dX11_recode_0 rfl ?_
  refine gR_X11_32 ok_0 dX11_recode_1 ?_
  refine g_iload_n dX11_recode_4 rfl ?_
  refine g_iload_n dX11_recode_5 rfl ?_
  obtain ⟨p6, e6, h⟩ := obind h
  refine g_vP2 mv_X11_164 dX11_recode_6 (ok_3 (by decide)) ⟨by decide, by decide⟩ (Nat.le_of_ble_eq_true rfl) (f_X4_hasControl_ok (by decide) e6) ?_
  refine g_if_ne 18 dX11_recode_9 rfl (fun q => ?_) (fun q => ?_)
  · replace h := gif_f q h
    refine g_iload_n dX11_recode_18 rfl ?_
    obtain ⟨p19, e19, h⟩ := obind h
    refine g_sP1 ms_X11_314 dX11_recode_19 ⟨by decide, by decide⟩ (Nat.le_of_ble_eq_true rfl) (f_X11_isCode_ok e19) ?_
    refine g_if_ne 31 dX11_recode_22 rfl (fun q => ?_) (fun q => ?_)
    · replace h := gif_f q h
      refine g_aload_n dX11_recode_31 rfl ?_
      refine gR_X11_32 ok_0 dX11_recode_32 ?_
      refine g_iload_n dX11_recode_35 rfl ?_
      obtain ⟨p36, e36, h⟩ := obind h
      refine g_vR1 mv_X11_143 dX11_recode_36 (ok_3 (by decide)) ⟨by decide, by decide⟩ (Nat.le_of_ble_eq_true rfl) (f_X4_courseAt_ok (by decide) e36) (fun b36 => ?_)
      refine g_astore4 dX11_recode_39 ?_
      refine g_aload dX11_recode_41 rfl ?_
      refine g_iload_n dX11_recode_43 rfl ?_
      refine g_iconst dX11_recode_44 kc_1 ?_
      refine g_isub dX11_recode_45 ?_
      refine g_iload_n dX11_recode_46 rfl ?_
      obtain ⟨p47, e47, h⟩ := obind h
      refine g_vP2 mv_X11_404 dX11_recode_47 (ok_8 b36) ⟨by decide, by decide⟩ (Nat.le_of_ble_eq_true rfl) (f_X1_isCode_ok b36 e47) ?_
      refine g_if_ne 65 dX11_recode_50 rfl (fun q => ?_) (fun q => ?_)
      · replace h := gif_f q h
        refine g_aload_n dX11_recode_65 rfl ?_
        refine g_iconst dX11_recode_66 kc_5 ?_
        obtain ⟨p67, e67, h⟩ := obind h
        refine g_vP1 mv_X11_91 dX11_recode_67 ok_0 ⟨by decide, by decide⟩ (Nat.le_of_ble_eq_true rfl) (f_X11_refused_ok e67) ?_
        cases h
        exact g_iret dX11_recode_70 rfl ⟨rfl, rfl⟩
      · replace h := gif_t q h
        refine g_aload dX11_recode_53 rfl ?_
        refine g_iload_n dX11_recode_55 rfl ?_
        refine g_iconst dX11_recode_56 kc_1 ?_
        refine g_iadd dX11_recode_57 ?_
        refine g_iload_n dX11_recode_58 rfl ?_
        obtain ⟨p59, e59, h⟩ := obind h
        refine g_vP2 mv_X11_404 dX11_recode_59 (ok_8 b36) ⟨by decide, by decide⟩ (Nat.le_of_ble_eq_true rfl) (f_X1_isCode_ok b36 e59) ?_
        refine g_if_eq 71 dX11_recode_62 rfl (fun q => ?_) (fun q => ?_)
        · replace h := gif_t q h
          refine g_aload dX11_recode_71 rfl ?_
          refine g_iload_n dX11_recode_73 rfl ?_
          obtain ⟨p74, e74, h⟩ := obind h
          refine g_vP1 mv_X11_168 dX11_recode_74 (ok_8 b36) ⟨by decide, by decide⟩ (Nat.le_of_ble_eq_true rfl) (f_X1_codeAt_ok b36 e74) ?_
          refine g_istore5 dX11_recode_77 ?_
          refine g_aload_n dX11_recode_79 rfl ?_
          refine gR_X11_32 ok_0 dX11_recode_80 ?_
          refine g_iload_n dX11_recode_83 rfl ?_
          refine g_iload_n dX11_recode_84 rfl ?_
          refine g_iload_n dX11_recode_85 rfl ?_
          obtain ⟨z86, e86, h⟩ := obind h
          refine g_vU3 mv_X11_406 dX11_recode_86 (ok_3 (by decide)) ⟨by decide, by decide⟩ (Nat.le_of_ble_eq_true rfl) (f_X4_setCode_ok (by decide) e86) ?_
          refine g_aload_n dX11_recode_89 rfl ?_
          refine gR_X11_70 ok_0 dX11_recode_90 ?_
          refine g_bipush dX11_recode_93 kb_6 ?_
          refine g_iload_n dX11_recode_95 rfl ?_
          refine g_iload_n dX11_recode_96 rfl ?_
          refine g_iload dX11_recode_97 rfl ?_
          refine g_iconst dX11_recode_99 kc_0 ?_
          obtain ⟨z100, e100, h⟩ := obind h
          refine g_vU5 mv_X11_390 dX11_recode_100 ok_26 ⟨by decide, by decide⟩ (Nat.le_of_ble_eq_true rfl) (f_X0_keep_ok e100) ?_
          refine g_aload_n dX11_recode_103 rfl ?_
          refine g_iload dX11_recode_104 rfl ?_
          obtain ⟨p106, e106, h⟩ := obind h
          refine g_vP1 mv_X11_114 dX11_recode_106 ok_0 ⟨by decide, by decide⟩ (Nat.le_of_ble_eq_true rfl) (f_X11_answered_ok e106) ?_
          cases h
          exact g_iret dX11_recode_109 rfl ⟨rfl, rfl⟩
        · replace h := gif_f q h
          refine g_aload_n dX11_recode_65 rfl ?_
          refine g_iconst dX11_recode_66 kc_5 ?_
          obtain ⟨p67, e67, h⟩ := obind h
          refine g_vP1 mv_X11_91 dX11_recode_67 ok_0 ⟨by decide, by decide⟩ (Nat.le_of_ble_eq_true rfl) (f_X11_refused_ok e67) ?_
          cases h
          exact g_iret dX11_recode_70 rfl ⟨rfl, rfl⟩
    · replace h := gif_t q h
      refine g_aload_n dX11_recode_25 rfl ?_
      refine g_iconst dX11_recode_26 kc_2 ?_
      obtain ⟨p27, e27, h⟩ := obind h
      refine g_vP1 mv_X11_91 dX11_recode_27 ok_0 ⟨by decide, by decide⟩ (Nat.le_of_ble_eq_true rfl) (f_X11_refused_ok e27) ?_
      cases h
      exact g_iret dX11_recode_30 rfl ⟨rfl, rfl⟩
  · replace h := gif_t q h
    refine g_aload_n dX11_recode_12 rfl ?_
    refine g_iconst dX11_recode_13 kc_1 ?_
    obtain ⟨p14, e14, h⟩ := obind h
    refine g_vP1 mv_X11_91 dX11_recode_14 ok_0 ⟨by decide, by decide⟩ (Nat.le_of_ble_eq_true rfl) (f_X11_refused_ok e14) ?_
    cases h
    exact g_iret dX11_recode_17 rfl ⟨rfl, rfl⟩
theorem dX11_cancel_0 : decode cX11_cancel 0 = .ok (.aload_n 0, 1) := by decide +kernel
theorem dX11_cancel_1 : decode cX11_cancel 1 = .ok (.getfield 32, 3) := by decide +kernel
theorem dX11_cancel_4 : decode cX11_cancel 4 = .ok (.iload_n 1, 1) := by decide +kernel
theorem dX11_cancel_5 : decode cX11_cancel 5 = .ok (.iload_n 2, 1) := by decide +kernel
theorem dX11_cancel_6 : decode cX11_cancel 6 = .ok (.invokevirtual 164, 3) := by decide +kernel
theorem dX11_cancel_9 : decode cX11_cancel 9 = .ok (.ifCond .ne 9, 3) := by decide +kernel
theorem dX11_cancel_12 : decode cX11_cancel 12 = .ok (.aload_n 0, 1) := by decide +kernel
theorem dX11_cancel_13 : decode cX11_cancel 13 = .ok (.iconst 1, 1) := by decide +kernel
theorem dX11_cancel_14 : decode cX11_cancel 14 = .ok (.invokevirtual 91, 3) := by decide +kernel
theorem dX11_cancel_17 : decode cX11_cancel 17 = .ok (.ireturn, 1) := by decide +kernel
theorem dX11_cancel_18 : decode cX11_cancel 18 = .ok (.aload_n 0, 1) := by decide +kernel
theorem dX11_cancel_19 : decode cX11_cancel 19 = .ok (.getfield 32, 3) := by decide +kernel
theorem dX11_cancel_22 : decode cX11_cancel 22 = .ok (.iload_n 1, 1) := by decide +kernel
theorem dX11_cancel_23 : decode cX11_cancel 23 = .ok (.invokevirtual 143, 3) := by decide +kernel
theorem dX11_cancel_26 : decode cX11_cancel 26 = .ok (.astore_n 3, 1) := by decide +kernel
theorem dX11_cancel_27 : decode cX11_cancel 27 = .ok (.aload_n 3, 1) := by decide +kernel
theorem dX11_cancel_28 : decode cX11_cancel 28 = .ok (.getfield 147, 3) := by decide +kernel
theorem dX11_cancel_31 : decode cX11_cancel 31 = .ok (.iconst 1, 1) := by decide +kernel
theorem dX11_cancel_32 : decode cX11_cancel 32 = .ok (.if_icmp .eq 24, 3) := by decide +kernel
theorem dX11_cancel_35 : decode cX11_cancel 35 = .ok (.iload_n 2, 1) := by decide +kernel
theorem dX11_cancel_36 : decode cX11_cancel 36 = .ok (.ifCond .le 26, 3) := by decide +kernel
theorem dX11_cancel_39 : decode cX11_cancel 39 = .ok (.aload_n 3, 1) := by decide +kernel
theorem dX11_cancel_40 : decode cX11_cancel 40 = .ok (.iload_n 2, 1) := by decide +kernel
theorem dX11_cancel_41 : decode cX11_cancel 41 = .ok (.iconst 1, 1) := by decide +kernel
theorem dX11_cancel_42 : decode cX11_cancel 42 = .ok (.iadd, 1) := by decide +kernel
theorem dX11_cancel_43 : decode cX11_cancel 43 = .ok (.aload_n 3, 1) := by decide +kernel
theorem dX11_cancel_44 : decode cX11_cancel 44 = .ok (.iload_n 2, 1) := by decide +kernel
theorem dX11_cancel_45 : decode cX11_cancel 45 = .ok (.iconst 1, 1) := by decide +kernel
theorem dX11_cancel_46 : decode cX11_cancel 46 = .ok (.isub, 1) := by decide +kernel
theorem dX11_cancel_47 : decode cX11_cancel 47 = .ok (.invokevirtual 168, 3) := by decide +kernel
theorem dX11_cancel_50 : decode cX11_cancel 50 = .ok (.invokevirtual 404, 3) := by decide +kernel
theorem dX11_cancel_53 : decode cX11_cancel 53 = .ok (.ifCond .eq 9, 3) := by decide +kernel
theorem dX11_cancel_56 : decode cX11_cancel 56 = .ok (.aload_n 0, 1) := by decide +kernel
theorem dX11_cancel_57 : decode cX11_cancel 57 = .ok (.iconst 5, 1) := by decide +kernel
theorem dX11_cancel_58 : decode cX11_cancel 58 = .ok (.invokevirtual 91, 3) := by decide +kernel
theorem dX11_cancel_61 : decode cX11_cancel 61 = .ok (.ireturn, 1) := by decide +kernel
theorem dX11_cancel_62 : decode cX11_cancel 62 = .ok (.aload_n 0, 1) := by decide +kernel
theorem dX11_cancel_63 : decode cX11_cancel 63 = .ok (.getfield 70, 3) := by decide +kernel
theorem dX11_cancel_66 : decode cX11_cancel 66 = .ok (.bipush 7, 2) := by decide +kernel
theorem dX11_cancel_68 : decode cX11_cancel 68 = .ok (.iload_n 1, 1) := by decide +kernel
theorem dX11_cancel_69 : decode cX11_cancel 69 = .ok (.iload_n 2, 1) := by decide +kernel
theorem dX11_cancel_70 : decode cX11_cancel 70 = .ok (.aload_n 3, 1) := by decide +kernel
theorem dX11_cancel_71 : decode cX11_cancel 71 = .ok (.iload_n 2, 1) := by decide +kernel
theorem dX11_cancel_72 : decode cX11_cancel 72 = .ok (.invokevirtual 168, 3) := by decide +kernel
theorem dX11_cancel_75 : decode cX11_cancel 75 = .ok (.iconst 0, 1) := by decide +kernel
theorem dX11_cancel_76 : decode cX11_cancel 76 = .ok (.invokevirtual 390, 3) := by decide +kernel
theorem dX11_cancel_79 : decode cX11_cancel 79 = .ok (.aload_n 0, 1) := by decide +kernel
theorem dX11_cancel_80 : decode cX11_cancel 80 = .ok (.getfield 32, 3) := by decide +kernel
theorem dX11_cancel_83 : decode cX11_cancel 83 = .ok (.iload_n 1, 1) := by decide +kernel
theorem dX11_cancel_84 : decode cX11_cancel 84 = .ok (.iload_n 2, 1) := by decide +kernel
theorem dX11_cancel_85 : decode cX11_cancel 85 = .ok (.invokevirtual 410, 3) := by decide +kernel
theorem dX11_cancel_88 : decode cX11_cancel 88 = .ok (.aload_n 0, 1) := by decide +kernel
theorem dX11_cancel_89 : decode cX11_cancel 89 = .ok (.aload_n 3, 1) := by decide +kernel
theorem dX11_cancel_90 : decode cX11_cancel 90 = .ok (.getfield 147, 3) := by decide +kernel
theorem dX11_cancel_93 : decode cX11_cancel 93 = .ok (.invokevirtual 114, 3) := by decide +kernel
theorem dX11_cancel_96 : decode cX11_cancel 96 = .ok (.ireturn, 1) := by decide +kernel
def f_X11_cancel_62 (v1 : Int32) (v2 : Int32) (i3 : Nat) (σ : gSt) : Option (Int32 × gSt) :=
  (f_X1_codeAt i3 v2 σ).bind fun p72 =>
  (f_X0_keep 7 v1 v2 p72.1 0 p72.2).bind fun z76 =>
  (f_X4_removeControl 1 v1 v2 z76).bind fun z85 =>
  (f_X11_answered (z85 8 i3 2) z85).bind fun p93 =>
  some (p93.1, p93.2)
def f_X11_cancel (v1 : Int32) (v2 : Int32) (σ : gSt) : Option (Int32 × gSt) :=
  (f_X4_hasControl 1 v1 v2 σ).bind fun p6 =>
  if p6.1 = 0 then
    (f_X11_refused 1 p6.2).bind fun p14 =>
    some (p14.1, p14.2)
  else
    (f_X4_courseAt 1 v1 p6.2).bind fun p23 =>
    if (p23.2 8 p23.1 2) = 1 then
      (f_X11_refused 5 p23.2).bind fun p58 =>
      some (p58.1, p58.2)
    else
      if v2 ≤ 0 then
        f_X11_cancel_62 v1 v2 p23.1 p23.2
      else
        (f_X1_codeAt p23.1 (v2 - 1) p23.2).bind fun p47 =>
        (f_X1_isCode p23.1 (v2 + 1) p47.1 p47.2).bind fun p50 =>
        if p50.1 = 0 then
          f_X11_cancel_62 v1 v2 p23.1 p50.2
        else
          (f_X11_refused 5 p50.2).bind fun p58 =>
          some (p58.1, p58.2)
theorem f_X11_cancel_62_ok {v1 : Int32} {v2 : Int32} {i3 : Nat} {r : (Int32 × gSt)} (hi3 : i3 < 6) {σ : gSt}  (h : f_X11_cancel_62 v1 v2 i3 σ = some r) : G l w 0 41 RX11 cX11_cancel 4 (some .int) 5 117 (gE (some (.int r.1)) r.2) 62 [some (.ref (w.2.1 0 0)), some (.int v1), some (.int v2), some (.ref (w.2.1 8 i3))] [] σ := by
  unfold f_X11_cancel_62 at h
  refine g_aload_n dX11_cancel_62 rfl ?_
  refine gR_X11_70 ok_0 dX11_cancel_63 ?_
  refine g_bipush dX11_cancel_66 kb_7 ?_
  refine g_iload_n dX11_cancel_68 rfl ?_
  refine g_iload_n dX11_cancel_69 rfl ?_
  refine g_aload_n dX11_cancel_70 rfl ?_
  refine g_iload_n dX11_cancel_71 rfl ?_
  obtain ⟨p72, e72, h⟩ := obind h
  refine g_vP1 mv_X11_168 dX11_cancel_72 (ok_8 hi3) ⟨by decide, by decide⟩ (Nat.le_of_ble_eq_true rfl) (f_X1_codeAt_ok hi3 e72) ?_
  refine g_iconst dX11_cancel_75 kc_0 ?_
  obtain ⟨z76, e76, h⟩ := obind h
  refine g_vU5 mv_X11_390 dX11_cancel_76 ok_26 ⟨by decide, by decide⟩ (Nat.le_of_ble_eq_true rfl) (f_X0_keep_ok e76) ?_
  refine g_aload_n dX11_cancel_79 rfl ?_
  refine gR_X11_32 ok_0 dX11_cancel_80 ?_
  refine g_iload_n dX11_cancel_83 rfl ?_
  refine g_iload_n dX11_cancel_84 rfl ?_
  obtain ⟨z85, e85, h⟩ := obind h
  refine g_vU2 mv_X11_410 dX11_cancel_85 (ok_3 (by decide)) ⟨by decide, by decide⟩ (Nat.le_of_ble_eq_true rfl) (f_X4_removeControl_ok (by decide) e85) ?_
  refine g_aload_n dX11_cancel_88 rfl ?_
  refine g_aload_n dX11_cancel_89 rfl ?_
  refine gI_X11_147 (ok_8 hi3) dX11_cancel_90 ?_
  obtain ⟨p93, e93, h⟩ := obind h
  refine g_vP1 mv_X11_114 dX11_cancel_93 ok_0 ⟨by decide, by decide⟩ (Nat.le_of_ble_eq_true rfl) (f_X11_answered_ok e93) ?_
  cases h
  exact g_iret dX11_cancel_96 rfl ⟨rfl, rfl⟩
theorem f_X11_cancel_ok {v1 : Int32} {v2 : Int32}  {σ : gSt} {r : (Int32 × gSt)} (h : f_X11_cancel v1 v2 σ = some r) : Mt l w 0 41 yX11_cancel cX11_cancel 4 (some .int) 5 117 [.ref (w.2.1 0 0), .int v1, .int v2] σ (gE (some (.int r.1)) r.2) := by
  unfold f_X11_cancel at h
  refine g_start pn_X11 rfl rfl (Nat.le_of_ble_eq_true rfl) ?_
  show G l w 0 41 RX11 cX11_cancel 4 (some .int) 5 117 (gE (some (.int r.1)) r.2) 0 [some (.ref (w.2.1 0 0)), some (.int v1), some (.int v2), none] [] σ
  refine g_aload_n dX11_cancel_0 rfl ?_
  refine gR_X11_32 ok_0 dX11_cancel_1 ?_
  refine g_iload_n dX11_cancel_4 rfl ?_
  refine g_iload_n dX11_cancel_5 rfl ?_
  obtain ⟨p6, e6, h⟩ := obind h
  refine g_vP2 mv_X11_164 dX11_cancel_6 (ok_3 (by decide)) ⟨by decide, by decide⟩ (Nat.le_of_ble_eq_true rfl) (f_X4_hasControl_ok (by decide) e6) ?_
  refine g_if_ne 18 dX11_cancel_9 rfl (fun q => ?_) (fun q => ?_)
  · replace h := gif_f q h
    refine g_aload_n dX11_cancel_18 rfl ?_
    refine gR_X11_32 ok_0 dX11_cancel_19 ?_
    refine g_iload_n dX11_cancel_22 rfl ?_
    obtain ⟨p23, e23, h⟩ := obind h
    refine g_vR1 mv_X11_143 dX11_cancel_23 (ok_3 (by decide)) ⟨by decide, by decide⟩ (Nat.le_of_ble_eq_true rfl) (f_X4_courseAt_ok (by decide) e23) (fun b23 => ?_)
    refine g_astore3 dX11_cancel_26 ?_
    refine g_aload_n dX11_cancel_27 rfl ?_
    refine gI_X11_147 (ok_8 b23) dX11_cancel_28 ?_
    refine g_iconst dX11_cancel_31 kc_1 ?_
    refine g_icmp_eq 56 dX11_cancel_32 rfl (fun q => ?_) (fun q => ?_)
    · replace h := gif_t q h
      refine g_aload_n dX11_cancel_56 rfl ?_
      refine g_iconst dX11_cancel_57 kc_5 ?_
      obtain ⟨p58, e58, h⟩ := obind h
      refine g_vP1 mv_X11_91 dX11_cancel_58 ok_0 ⟨by decide, by decide⟩ (Nat.le_of_ble_eq_true rfl) (f_X11_refused_ok e58) ?_
      cases h
      exact g_iret dX11_cancel_61 rfl ⟨rfl, rfl⟩
    · replace h := gif_f q h
      refine g_iload_n dX11_cancel_35 rfl ?_
      refine g_if_le 62 dX11_cancel_36 rfl (fun q => ?_) (fun q => ?_)
      · replace h := gif_t q h
        exact f_X11_cancel_62_ok b23 h
      · replace h := gif_f q h
        refine g_aload_n dX11_cancel_39 rfl ?_
        refine g_iload_n dX11_cancel_40 rfl ?_
        refine g_iconst dX11_cancel_41 kc_1 ?_
        refine g_iadd dX11_cancel_42 ?_
        refine g_aload_n dX11_cancel_43 rfl ?_
        refine g_iload_n dX11_cancel_44 rfl ?_
        refine g_iconst dX11_cancel_45 kc_1 ?_
        refine g_isub dX11_cancel_46 ?_
        obtain ⟨p47, e47, h⟩ := obind h
        refine g_vP1 mv_X11_168 dX11_cancel_47 (ok_8 b23) ⟨by decide, by decide⟩ (Nat.le_of_ble_eq_true rfl) (f_X1_codeAt_ok b23 e47) ?_
        obtain ⟨p50, e50, h⟩ := obind h
        refine g_vP2 mv_X11_404 dX11_cancel_50 (ok_8 b23) ⟨by decide, by decide⟩ (Nat.le_of_ble_eq_true rfl) (f_X1_isCode_ok b23 e50) ?_
        refine g_if_eq 62 dX11_cancel_53 rfl (fun q => ?_) (fun q => ?_)
        · replace h := gif_t q h
          exact f_X11_cancel_62_ok b23 h
        · replace h := gif_f q h
          refine g_aload_n dX11_cancel_56 rfl ?_
          refine g_iconst dX11_cancel_57 kc_5 ?_
          obtain ⟨p58, e58, h⟩ := obind h
          refine g_vP1 mv_X11_91 dX11_cancel_58 ok_0 ⟨by decide, by decide⟩ (Nat.le_of_ble_eq_true rfl) (f_X11_refused_ok e58) ?_
          cases h
          exact g_iret dX11_cancel_61 rfl ⟨rfl, rfl⟩
  · replace h := gif_t q h
    refine g_aload_n dX11_cancel_12 rfl ?_
    refine g_iconst dX11_cancel_13 kc_1 ?_
    obtain ⟨p14, e14, h⟩ := obind h
    refine g_vP1 mv_X11_91 dX11_cancel_14 ok_0 ⟨by decide, by decide⟩ (Nat.le_of_ble_eq_true rfl) (f_X11_refused_ok e14) ?_
    cases h
    exact g_iret dX11_cancel_17 rfl ⟨rfl, rfl⟩
theorem dX11_undo_0 : decode cX11_undo 0 = .ok (.aload_n 0, 1) := by decide +kernel
theorem dX11_undo_1 : decode cX11_undo 1 = .ok (.getfield 32, 3) := by decide +kernel
theorem dX11_undo_4 : decode cX11_undo 4 = .ok (.invokevirtual 117, 3) := by decide +kernel
theorem dX11_undo_7 : decode cX11_undo 7 = .ok (.ifCond .ne 9, 3) := by decide +kernel
theorem dX11_undo_10 : decode cX11_undo 10 = .ok (.aload_n 0, 1) := by decide +kernel
theorem dX11_undo_11 : decode cX11_undo 11 = .ok (.iconst 1, 1) := by decide +kernel
theorem dX11_undo_12 : decode cX11_undo 12 = .ok (.invokevirtual 91, 3) := by decide +kernel
theorem dX11_undo_15 : decode cX11_undo 15 = .ok (.ireturn, 1) := by decide +kernel
theorem dX11_undo_16 : decode cX11_undo 16 = .ok (.aload_n 0, 1) := by decide +kernel
theorem dX11_undo_17 : decode cX11_undo 17 = .ok (.getfield 70, 3) := by decide +kernel
theorem dX11_undo_20 : decode cX11_undo 20 = .ok (.getfield 137, 3) := by decide +kernel
theorem dX11_undo_23 : decode cX11_undo 23 = .ok (.ifCond .ne 9, 3) := by decide +kernel
theorem dX11_undo_26 : decode cX11_undo 26 = .ok (.aload_n 0, 1) := by decide +kernel
theorem dX11_undo_27 : decode cX11_undo 27 = .ok (.iconst 5, 1) := by decide +kernel
theorem dX11_undo_28 : decode cX11_undo 28 = .ok (.invokevirtual 91, 3) := by decide +kernel
theorem dX11_undo_31 : decode cX11_undo 31 = .ok (.ireturn, 1) := by decide +kernel
theorem dX11_undo_32 : decode cX11_undo 32 = .ok (.aload_n 0, 1) := by decide +kernel
theorem dX11_undo_33 : decode cX11_undo 33 = .ok (.getfield 70, 3) := by decide +kernel
theorem dX11_undo_36 : decode cX11_undo 36 = .ok (.invokevirtual 413, 3) := by decide +kernel
theorem dX11_undo_39 : decode cX11_undo 39 = .ok (.aload_n 0, 1) := by decide +kernel
theorem dX11_undo_40 : decode cX11_undo 40 = .ok (.aload_n 0, 1) := by decide +kernel
theorem dX11_undo_41 : decode cX11_undo 41 = .ok (.getfield 70, 3) := by decide +kernel
theorem dX11_undo_44 : decode cX11_undo 44 = .ok (.getfield 137, 3) := by decide +kernel
theorem dX11_undo_47 : decode cX11_undo 47 = .ok (.invokevirtual 114, 3) := by decide +kernel
theorem dX11_undo_50 : decode cX11_undo 50 = .ok (.ireturn, 1) := by decide +kernel
def f_X11_undo (σ : gSt) : Option (Int32 × gSt) :=
  (f_X4_isTold 1 σ).bind fun p4 =>
  if p4.1 = 0 then
    (f_X11_refused 1 p4.2).bind fun p12 =>
    some (p12.1, p12.2)
  else
    if (p4.2 26 0 2) = 0 then
      (f_X11_refused 5 p4.2).bind fun p28 =>
      some (p28.1, p28.2)
    else
      (f_X0_takeBack p4.2).bind fun z36 =>
      (f_X11_answered (z36 26 0 2) z36).bind fun p47 =>
      some (p47.1, p47.2)
theorem f_X11_undo_ok   {σ : gSt} {r : (Int32 × gSt)} (h : f_X11_undo σ = some r) : Mt l w 0 41 yX11_undo cX11_undo 1 (some .int) 6 140 [.ref (w.2.1 0 0)] σ (gE (some (.int r.1)) r.2) := by
  unfold f_X11_undo at h
  refine g_start pn_X11 rfl rfl (Nat.le_of_ble_eq_true rfl) ?_
  show G l w 0 41 RX11 cX11_undo 1 (some .int) 6 140 (gE (some (.int r.1)) r.2) 0 [some (.ref (w.2.1 0 0))] [] σ
  refine g_aload_n dX11_undo_0 rfl ?_
  refine gR_X11_32 ok_0 dX11_undo_1 ?_
  obtain ⟨p4, e4, h⟩ := obind h
  refine g_vP0 mv_X11_117 dX11_undo_4 (ok_3 (by decide)) ⟨by decide, by decide⟩ (Nat.le_of_ble_eq_true rfl) (f_X4_isTold_ok (by decide) e4) ?_
  refine g_if_ne 16 dX11_undo_7 rfl (fun q => ?_) (fun q => ?_)
  · replace h := gif_f q h
    refine g_aload_n dX11_undo_16 rfl ?_
    refine gR_X11_70 ok_0 dX11_undo_17 ?_
    refine gI_X11_137 ok_26 dX11_undo_20 ?_
    refine g_if_ne 32 dX11_undo_23 rfl (fun q => ?_) (fun q => ?_)
    · replace h := gif_f q h
      refine g_aload_n dX11_undo_32 rfl ?_
      refine gR_X11_70 ok_0 dX11_undo_33 ?_
      obtain ⟨z36, e36, h⟩ := obind h
      refine g_vU0 mv_X11_413 dX11_undo_36 ok_26 ⟨by decide, by decide⟩ (Nat.le_of_ble_eq_true rfl) (f_X0_takeBack_ok e36) ?_
      refine g_aload_n dX11_undo_39 rfl ?_
      refine g_aload_n dX11_undo_40 rfl ?_
      refine gR_X11_70 ok_0 dX11_undo_41 ?_
      refine gI_X11_137 ok_26 dX11_undo_44 ?_
      obtain ⟨p47, e47, h⟩ := obind h
      refine g_vP1 mv_X11_114 dX11_undo_47 ok_0 ⟨by decide, by decide⟩ (Nat.le_of_ble_eq_true rfl) (f_X11_answered_ok e47) ?_
      cases h
      exact g_iret dX11_undo_50 rfl ⟨rfl, rfl⟩
    · replace h := gif_t q h
      refine g_aload_n dX11_undo_26 rfl ?_
      refine g_iconst dX11_undo_27 kc_5 ?_
      obtain ⟨p28, e28, h⟩ := obind h
      refine g_vP1 mv_X11_91 dX11_undo_28 ok_0 ⟨by decide, by decide⟩ (Nat.le_of_ble_eq_true rfl) (f_X11_refused_ok e28) ?_
      cases h
      exact g_iret dX11_undo_31 rfl ⟨rfl, rfl⟩
  · replace h := gif_t q h
    refine g_aload_n dX11_undo_10 rfl ?_
    refine g_iconst dX11_undo_11 kc_1 ?_
    obtain ⟨p12, e12, h⟩ := obind h
    refine g_vP1 mv_X11_91 dX11_undo_12 ok_0 ⟨by decide, by decide⟩ (Nat.le_of_ble_eq_true rfl) (f_X11_refused_ok e12) ?_
    cases h
    exact g_iret dX11_undo_15 rfl ⟨rfl, rfl⟩
theorem dX11_size_0 : decode cX11_size 0 = .ok (.aload_n 0, 1) := by decide +kernel
theorem dX11_size_1 : decode cX11_size 1 = .ok (.getfield 12, 3) := by decide +kernel
theorem dX11_size_4 : decode cX11_size 4 = .ok (.getfield 84, 3) := by decide +kernel
theorem dX11_size_7 : decode cX11_size 7 = .ok (.ireturn, 1) := by decide +kernel
def f_X11_size (σ : gSt) : Option (Int32 × gSt) :=
  some ((σ 1 0 1), σ)
theorem f_X11_size_ok   {σ : gSt} {r : (Int32 × gSt)} (h : f_X11_size σ = some r) : Mt l w 0 41 yX11_size cX11_size 1 (some .int) 0 0 [.ref (w.2.1 0 0)] σ (gE (some (.int r.1)) r.2) := by
  unfold f_X11_size at h
  refine g_start pn_X11 rfl rfl (Nat.le_of_ble_eq_true rfl) ?_
  show G l w 0 41 RX11 cX11_size 1 (some .int) 0 0 (gE (some (.int r.1)) r.2) 0 [some (.ref (w.2.1 0 0))] [] σ
  refine g_aload_n dX11_size_0 rfl ?_
  refine gR_X11_12 ok_0 dX11_size_1 ?_
  refine gI_X11_84 ok_1 dX11_size_4 ?_
  cases h
  exact g_iret dX11_size_7 rfl ⟨rfl, rfl⟩
theorem dX11_trouble_0 : decode cX11_trouble 0 = .ok (.aload_n 0, 1) := by decide +kernel
theorem dX11_trouble_1 : decode cX11_trouble 1 = .ok (.getfield 74, 3) := by decide +kernel
theorem dX11_trouble_4 : decode cX11_trouble 4 = .ok (.ireturn, 1) := by decide +kernel
def f_X11_trouble (σ : gSt) : Option (Int32 × gSt) :=
  some ((σ 0 0 9), σ)
theorem f_X11_trouble_ok   {σ : gSt} {r : (Int32 × gSt)} (h : f_X11_trouble σ = some r) : Mt l w 0 41 yX11_trouble cX11_trouble 1 (some .int) 0 0 [.ref (w.2.1 0 0)] σ (gE (some (.int r.1)) r.2) := by
  unfold f_X11_trouble at h
  refine g_start pn_X11 rfl rfl (Nat.le_of_ble_eq_true rfl) ?_
  show G l w 0 41 RX11 cX11_trouble 1 (some .int) 0 0 (gE (some (.int r.1)) r.2) 0 [some (.ref (w.2.1 0 0))] [] σ
  refine g_aload_n dX11_trouble_0 rfl ?_
  refine gI_X11_74 ok_0 dX11_trouble_1 ?_
  cases h
  exact g_iret dX11_trouble_4 rfl ⟨rfl, rfl⟩
theorem dX12_thrown_0 : decode cX12_thrown 0 = .ok (.aload_n 0, 1) := by decide +kernel
theorem dX12_thrown_1 : decode cX12_thrown 1 = .ok (.getfield 50, 3) := by decide +kernel
theorem dX12_thrown_4 : decode cX12_thrown 4 = .ok (.ireturn, 1) := by decide +kernel
def f_X12_thrown (σ : gSt) : Option (Int32 × gSt) :=
  some ((σ 28 0 0), σ)
theorem f_X12_thrown_ok   {σ : gSt} {r : (Int32 × gSt)} (h : f_X12_thrown σ = some r) : Mt l w 0 41 yX12_thrown cX12_thrown 1 (some .int) 0 0 [.ref (w.2.1 28 0)] σ (gE (some (.int r.1)) r.2) := by
  unfold f_X12_thrown at h
  refine g_start pn_X12 rfl rfl (Nat.le_of_ble_eq_true rfl) ?_
  show G l w 0 41 RX12 cX12_thrown 1 (some .int) 0 0 (gE (some (.int r.1)) r.2) 0 [some (.ref (w.2.1 28 0))] [] σ
  refine g_aload_n dX12_thrown_0 rfl ?_
  refine gI_X12_50 ok_28 dX12_thrown_1 ?_
  cases h
  exact g_iret dX12_thrown_4 rfl ⟨rfl, rfl⟩
theorem dX12_in_0 : decode cX12_in 0 = .ok (.iload_n 0, 1) := by decide +kernel
theorem dX12_in_1 : decode cX12_in 1 = .ok (.iload_n 1, 1) := by decide +kernel
theorem dX12_in_2 : decode cX12_in 2 = .ok (.if_icmp .lt 12, 3) := by decide +kernel
theorem dX12_in_5 : decode cX12_in 5 = .ok (.iload_n 0, 1) := by decide +kernel
theorem dX12_in_6 : decode cX12_in 6 = .ok (.iload_n 2, 1) := by decide +kernel
theorem dX12_in_7 : decode cX12_in 7 = .ok (.if_icmp .gt 7, 3) := by decide +kernel
theorem dX12_in_10 : decode cX12_in 10 = .ok (.iconst 1, 1) := by decide +kernel
theorem dX12_in_11 : decode cX12_in 11 = .ok (.goto 4, 3) := by decide +kernel
theorem dX12_in_14 : decode cX12_in 14 = .ok (.iconst 0, 1) := by decide +kernel
theorem dX12_in_15 : decode cX12_in 15 = .ok (.ireturn, 1) := by decide +kernel
def f_X12_in (v0 : Int32) (v1 : Int32) (v2 : Int32) (σ : gSt) : Option (Int32 × gSt) :=
  if v0 < v1 then
    some (0, σ)
  else
    if v2 < v0 then
      some (0, σ)
    else
      some (1, σ)
theorem f_X12_in_ok {v0 : Int32} {v1 : Int32} {v2 : Int32}  {σ : gSt} {r : (Int32 × gSt)} (h : f_X12_in v0 v1 v2 σ = some r) : Mt l w 0 41 yX12_in cX12_in 3 (some .boolean) 0 0 [.int v0, .int v1, .int v2] σ (gE (some (.int r.1)) r.2) := by
  unfold f_X12_in at h
  refine g_start pn_X12 rfl rfl (Nat.le_of_ble_eq_true rfl) ?_
  show G l w 0 41 RX12 cX12_in 3 (some .boolean) 0 0 (gE (some (.int r.1)) r.2) 0 [some (.int v0), some (.int v1), some (.int v2)] [] σ
  refine g_iload_n dX12_in_0 rfl ?_
  refine g_iload_n dX12_in_1 rfl ?_
  refine g_icmp_lt 14 dX12_in_2 rfl (fun q => ?_) (fun q => ?_)
  · replace h := gif_t q h
    refine g_iconst dX12_in_14 kc_0 ?_
    cases h
    exact g_zret0 dX12_in_15 rfl
  · replace h := gif_f q h
    refine g_iload_n dX12_in_5 rfl ?_
    refine g_iload_n dX12_in_6 rfl ?_
    refine g_icmp_gt 14 dX12_in_7 rfl (fun q => ?_) (fun q => ?_)
    · replace h := gif_t q h
      refine g_iconst dX12_in_14 kc_0 ?_
      cases h
      exact g_zret0 dX12_in_15 rfl
    · replace h := gif_f q h
      refine g_iconst dX12_in_10 kc_1 ?_
      refine g_goto 15 dX12_in_11 rfl ?_
      cases h
      exact g_zret1 dX12_in_15 rfl
theorem dX12_no_0 : decode cX12_no 0 = .ok (.aload_n 0, 1) := by decide +kernel
theorem dX12_no_1 : decode cX12_no 1 = .ok (.iload_n 1, 1) := by decide +kernel
theorem dX12_no_2 : decode cX12_no 2 = .ok (.putfield 53, 3) := by decide +kernel
theorem dX12_no_5 : decode cX12_no 5 = .ok (.iconst (-1), 1) := by decide +kernel
theorem dX12_no_6 : decode cX12_no 6 = .ok (.ireturn, 1) := by decide +kernel
def f_X12_no (v1 : Int32) (σ : gSt) : Option (Int32 × gSt) :=
  some ((-1), (gup σ 28 0 1 v1))
theorem f_X12_no_ok {v1 : Int32}  {σ : gSt} {r : (Int32 × gSt)} (h : f_X12_no v1 σ = some r) : Mt l w 0 41 yX12_no cX12_no 2 (some .int) 0 0 [.ref (w.2.1 28 0), .int v1] σ (gE (some (.int r.1)) r.2) := by
  unfold f_X12_no at h
  refine g_start pn_X12 rfl rfl (Nat.le_of_ble_eq_true rfl) ?_
  show G l w 0 41 RX12 cX12_no 2 (some .int) 0 0 (gE (some (.int r.1)) r.2) 0 [some (.ref (w.2.1 28 0)), some (.int v1)] [] σ
  refine g_aload_n dX12_no_0 rfl ?_
  refine g_iload_n dX12_no_1 rfl ?_
  refine gP_X12_53 ok_28 dX12_no_2 ?_
  refine g_iconst dX12_no_5 kc_m1 ?_
  cases h
  exact g_iret dX12_no_6 rfl ⟨rfl, rfl⟩
theorem dX12_isRefused_0 : decode cX12_isRefused 0 = .ok (.aload_n 0, 1) := by decide +kernel
theorem dX12_isRefused_1 : decode cX12_isRefused 1 = .ok (.iconst 0, 1) := by decide +kernel
theorem dX12_isRefused_2 : decode cX12_isRefused 2 = .ok (.putfield 50, 3) := by decide +kernel
theorem dX12_isRefused_5 : decode cX12_isRefused 5 = .ok (.aload_n 0, 1) := by decide +kernel
theorem dX12_isRefused_6 : decode cX12_isRefused 6 = .ok (.iconst (-1), 1) := by decide +kernel
theorem dX12_isRefused_7 : decode cX12_isRefused 7 = .ok (.putfield 9, 3) := by decide +kernel
theorem dX12_isRefused_10 : decode cX12_isRefused 10 = .ok (.aload_n 0, 1) := by decide +kernel
theorem dX12_isRefused_11 : decode cX12_isRefused 11 = .ok (.iload_n 1, 1) := by decide +kernel
theorem dX12_isRefused_12 : decode cX12_isRefused 12 = .ok (.putfield 53, 3) := by decide +kernel
theorem dX12_isRefused_15 : decode cX12_isRefused 15 = .ok (.iload_n 1, 1) := by decide +kernel
theorem dX12_isRefused_16 : decode cX12_isRefused 16 = .ok (.ifCond .eq 7, 3) := by decide +kernel
theorem dX12_isRefused_19 : decode cX12_isRefused 19 = .ok (.iconst 1, 1) := by decide +kernel
theorem dX12_isRefused_20 : decode cX12_isRefused 20 = .ok (.goto 4, 3) := by decide +kernel
theorem dX12_isRefused_23 : decode cX12_isRefused 23 = .ok (.iconst 0, 1) := by decide +kernel
theorem dX12_isRefused_24 : decode cX12_isRefused 24 = .ok (.ireturn, 1) := by decide +kernel
def f_X12_isRefused (v1 : Int32) (σ : gSt) : Option (Int32 × gSt) :=
  if v1 = 0 then
    some (0, (gup (gup (gup σ 28 0 0 0) 28 0 3 (-1)) 28 0 1 v1))
  else
    some (1, (gup (gup (gup σ 28 0 0 0) 28 0 3 (-1)) 28 0 1 v1))
theorem f_X12_isRefused_ok {v1 : Int32}  {σ : gSt} {r : (Int32 × gSt)} (h : f_X12_isRefused v1 σ = some r) : Mt l w 0 41 yX12_isRefused cX12_isRefused 2 (some .boolean) 0 0 [.ref (w.2.1 28 0), .int v1] σ (gE (some (.int r.1)) r.2) := by
  unfold f_X12_isRefused at h
  refine g_start pn_X12 rfl rfl (Nat.le_of_ble_eq_true rfl) ?_
  show G l w 0 41 RX12 cX12_isRefused 2 (some .boolean) 0 0 (gE (some (.int r.1)) r.2) 0 [some (.ref (w.2.1 28 0)), some (.int v1)] [] σ
  refine g_aload_n dX12_isRefused_0 rfl ?_
  refine g_iconst dX12_isRefused_1 kc_0 ?_
  refine gP_X12_50 ok_28 dX12_isRefused_2 ?_
  refine g_aload_n dX12_isRefused_5 rfl ?_
  refine g_iconst dX12_isRefused_6 kc_m1 ?_
  refine gP_X12_9 ok_28 dX12_isRefused_7 ?_
  refine g_aload_n dX12_isRefused_10 rfl ?_
  refine g_iload_n dX12_isRefused_11 rfl ?_
  refine gP_X12_53 ok_28 dX12_isRefused_12 ?_
  refine g_iload_n dX12_isRefused_15 rfl ?_
  refine g_if_eq 23 dX12_isRefused_16 rfl (fun q => ?_) (fun q => ?_)
  · replace h := gif_t q h
    refine g_iconst dX12_isRefused_23 kc_0 ?_
    cases h
    exact g_zret0 dX12_isRefused_24 rfl
  · replace h := gif_f q h
    refine g_iconst dX12_isRefused_19 kc_1 ?_
    refine g_goto 24 dX12_isRefused_20 rfl ?_
    cases h
    exact g_zret1 dX12_isRefused_24 rfl
theorem dX12_unless_0 : decode cX12_unless 0 = .ok (.iload_n 0, 1) := by decide +kernel
theorem dX12_unless_1 : decode cX12_unless 1 = .ok (.ifCond .eq 7, 3) := by decide +kernel
theorem dX12_unless_4 : decode cX12_unless 4 = .ok (.iconst 0, 1) := by decide +kernel
theorem dX12_unless_5 : decode cX12_unless 5 = .ok (.goto 4, 3) := by decide +kernel
theorem dX12_unless_8 : decode cX12_unless 8 = .ok (.iconst 1, 1) := by decide +kernel
theorem dX12_unless_9 : decode cX12_unless 9 = .ok (.ireturn, 1) := by decide +kernel
def f_X12_unless (v0 : Int32) (σ : gSt) : Option (Int32 × gSt) :=
  if v0 = 0 then
    some (1, σ)
  else
    some (0, σ)
theorem f_X12_unless_ok {v0 : Int32}  {σ : gSt} {r : (Int32 × gSt)} (h : f_X12_unless v0 σ = some r) : Mt l w 0 41 yX12_unless cX12_unless 1 (some .int) 0 0 [.int v0] σ (gE (some (.int r.1)) r.2) := by
  unfold f_X12_unless at h
  refine g_start pn_X12 rfl rfl (Nat.le_of_ble_eq_true rfl) ?_
  show G l w 0 41 RX12 cX12_unless 1 (some .int) 0 0 (gE (some (.int r.1)) r.2) 0 [some (.int v0)] [] σ
  refine g_iload_n dX12_unless_0 rfl ?_
  refine g_if_eq 8 dX12_unless_1 rfl (fun q => ?_) (fun q => ?_)
  · replace h := gif_t q h
    refine g_iconst dX12_unless_8 kc_1 ?_
    cases h
    exact g_iret dX12_unless_9 rfl ⟨rfl, rfl⟩
  · replace h := gif_f q h
    refine g_iconst dX12_unless_4 kc_0 ?_
    refine g_goto 9 dX12_unless_5 rfl ?_
    cases h
    exact g_iret dX12_unless_9 rfl ⟨rfl, rfl⟩
theorem dX12_unless__0 : decode cX12_unless_ 0 = .ok (.iload_n 0, 1) := by decide +kernel
theorem dX12_unless__1 : decode cX12_unless_ 1 = .ok (.ifCond .ne 7, 3) := by decide +kernel
theorem dX12_unless__4 : decode cX12_unless_ 4 = .ok (.iconst 1, 1) := by decide +kernel
theorem dX12_unless__5 : decode cX12_unless_ 5 = .ok (.goto 12, 3) := by decide +kernel
theorem dX12_unless__8 : decode cX12_unless_ 8 = .ok (.iload_n 1, 1) := by decide +kernel
theorem dX12_unless__9 : decode cX12_unless_ 9 = .ok (.ifCond .eq 7, 3) := by decide +kernel
theorem dX12_unless__12 : decode cX12_unless_ 12 = .ok (.iconst 0, 1) := by decide +kernel
theorem dX12_unless__13 : decode cX12_unless_ 13 = .ok (.goto 4, 3) := by decide +kernel
theorem dX12_unless__16 : decode cX12_unless_ 16 = .ok (.iconst 2, 1) := by decide +kernel
theorem dX12_unless__17 : decode cX12_unless_ 17 = .ok (.ireturn, 1) := by decide +kernel
def f_X12_unless_ (v0 : Int32) (v1 : Int32) (σ : gSt) : Option (Int32 × gSt) :=
  if v0 = 0 then
    some (1, σ)
  else
    if v1 = 0 then
      some (2, σ)
    else
      some (0, σ)
theorem f_X12_unless__ok {v0 : Int32} {v1 : Int32}  {σ : gSt} {r : (Int32 × gSt)} (h : f_X12_unless_ v0 v1 σ = some r) : Mt l w 0 41 yX12_unless_ cX12_unless_ 2 (some .int) 0 0 [.int v0, .int v1] σ (gE (some (.int r.1)) r.2) := by
  unfold f_X12_unless_ at h
  refine g_start pn_X12 rfl rfl (Nat.le_of_ble_eq_true rfl) ?_
  show G l w 0 41 RX12 cX12_unless_ 2 (some .int) 0 0 (gE (some (.int r.1)) r.2) 0 [some (.int v0), some (.int v1)] [] σ
  refine g_iload_n dX12_unless__0 rfl ?_
  refine g_if_ne 8 dX12_unless__1 rfl (fun q => ?_) (fun q => ?_)
  · replace h := gif_f q h
    refine g_iload_n dX12_unless__8 rfl ?_
    refine g_if_eq 16 dX12_unless__9 rfl (fun q => ?_) (fun q => ?_)
    · replace h := gif_t q h
      refine g_iconst dX12_unless__16 kc_2 ?_
      cases h
      exact g_iret dX12_unless__17 rfl ⟨rfl, rfl⟩
    · replace h := gif_f q h
      refine g_iconst dX12_unless__12 kc_0 ?_
      refine g_goto 17 dX12_unless__13 rfl ?_
      cases h
      exact g_iret dX12_unless__17 rfl ⟨rfl, rfl⟩
  · replace h := gif_t q h
    refine g_iconst dX12_unless__4 kc_1 ?_
    refine g_goto 17 dX12_unless__5 rfl ?_
    cases h
    exact g_iret dX12_unless__17 rfl ⟨rfl, rfl⟩
theorem dX12_laysWord_0 : decode cX12_laysWord 0 = .ok (.iconst 0, 1) := by decide +kernel
theorem dX12_laysWord_1 : decode cX12_laysWord 1 = .ok (.istore_n 2, 1) := by decide +kernel
theorem dX12_laysWord_2 : decode cX12_laysWord 2 = .ok (.iload_n 2, 1) := by decide +kernel
theorem dX12_laysWord_3 : decode cX12_laysWord 3 = .ok (.iconst 4, 1) := by decide +kernel
theorem dX12_laysWord_4 : decode cX12_laysWord 4 = .ok (.if_icmp .ge 33, 3) := by decide +kernel
theorem dX12_laysWord_7 : decode cX12_laysWord 7 = .ok (.aload_n 0, 1) := by decide +kernel
theorem dX12_laysWord_8 : decode cX12_laysWord 8 = .ok (.getfield 13, 3) := by decide +kernel
theorem dX12_laysWord_11 : decode cX12_laysWord 11 = .ok (.aload_n 0, 1) := by decide +kernel
theorem dX12_laysWord_12 : decode cX12_laysWord 12 = .ok (.getfield 56, 3) := by decide +kernel
theorem dX12_laysWord_15 : decode cX12_laysWord 15 = .ok (.iload_n 2, 1) := by decide +kernel
theorem dX12_laysWord_16 : decode cX12_laysWord 16 = .ok (.iadd, 1) := by decide +kernel
theorem dX12_laysWord_17 : decode cX12_laysWord 17 = .ok (.iload_n 1, 1) := by decide +kernel
theorem dX12_laysWord_18 : decode cX12_laysWord 18 = .ok (.bipush 24, 2) := by decide +kernel
theorem dX12_laysWord_20 : decode cX12_laysWord 20 = .ok (.bipush 8, 2) := by decide +kernel
theorem dX12_laysWord_22 : decode cX12_laysWord 22 = .ok (.iload_n 2, 1) := by decide +kernel
theorem dX12_laysWord_23 : decode cX12_laysWord 23 = .ok (.imul, 1) := by decide +kernel
theorem dX12_laysWord_24 : decode cX12_laysWord 24 = .ok (.isub, 1) := by decide +kernel
theorem dX12_laysWord_25 : decode cX12_laysWord 25 = .ok (.ishr, 1) := by decide +kernel
theorem dX12_laysWord_26 : decode cX12_laysWord 26 = .ok (.sipush 255, 3) := by decide +kernel
theorem dX12_laysWord_29 : decode cX12_laysWord 29 = .ok (.iand, 1) := by decide +kernel
theorem dX12_laysWord_30 : decode cX12_laysWord 30 = .ok (.iastore, 1) := by decide +kernel
theorem dX12_laysWord_31 : decode cX12_laysWord 31 = .ok (.iinc 2 1, 3) := by decide +kernel
theorem dX12_laysWord_34 : decode cX12_laysWord 34 = .ok (.goto (-32), 3) := by decide +kernel
theorem dX12_laysWord_37 : decode cX12_laysWord 37 = .ok (.aload_n 0, 1) := by decide +kernel
theorem dX12_laysWord_38 : decode cX12_laysWord 38 = .ok (.dup, 1) := by decide +kernel
theorem dX12_laysWord_39 : decode cX12_laysWord 39 = .ok (.getfield 56, 3) := by decide +kernel
theorem dX12_laysWord_42 : decode cX12_laysWord 42 = .ok (.iconst 4, 1) := by decide +kernel
theorem dX12_laysWord_43 : decode cX12_laysWord 43 = .ok (.iadd, 1) := by decide +kernel
theorem dX12_laysWord_44 : decode cX12_laysWord 44 = .ok (.putfield 56, 3) := by decide +kernel
theorem dX12_laysWord_47 : decode cX12_laysWord 47 = .ok (.return_, 1) := by decide +kernel
def f_X12_laysWord_2 (v1 : Int32) : Nat → Int32 → gSt → Option gSt
  | 0, _, _ => none
  | n + 1, v2, σ =>
    if 4 ≤ v2 then
      some (gup σ 28 0 5 ((σ 28 0 5) + 4))
    else
      (gst σ 29 0 900 ((σ 28 0 5) + v2) ((v1 >>> ((24 - (8 * v2)) &&& 31)) &&& 255)).bind fun z30 =>
      f_X12_laysWord_2 v1 n (v2 + 1) z30
def f_X12_laysWord (v1 : Int32) (σ : gSt) : Option gSt :=
  f_X12_laysWord_2 v1 gFuel 0 σ
theorem f_X12_laysWord_2_ok {v1 : Int32} {r : gSt}  : ∀ (n : Nat) {v2 : Int32} {σ : gSt} , f_X12_laysWord_2 v1 n v2 σ = some r → G l w 0 41 RX12 cX12_laysWord 3 none 0 0 (gE none r) 2 [some (.ref (w.2.1 28 0)), some (.int v1), some (.int v2)] [] σ := by
  intro n
  induction n with
  | zero => intro v2 σ h; rw [f_X12_laysWord_2] at h; cases h
  | succ n ih =>
    intro v2 σ h
    rw [f_X12_laysWord_2] at h
    refine g_iload_n dX12_laysWord_2 rfl ?_
    refine g_iconst dX12_laysWord_3 kc_4 ?_
    refine g_icmp_ge 37 dX12_laysWord_4 rfl (fun q => ?_) (fun q => ?_)
    · replace h := gif_t q h
      refine g_aload_n dX12_laysWord_37 rfl ?_
      refine g_dup dX12_laysWord_38 rfl ?_
      refine gI_X12_56 ok_28 dX12_laysWord_39 ?_
      refine g_iconst dX12_laysWord_42 kc_4 ?_
      refine g_iadd dX12_laysWord_43 ?_
      refine gP_X12_56 ok_28 dX12_laysWord_44 ?_
      cases h
      exact g_vret dX12_laysWord_47 rfl ⟨rfl, rfl⟩
    · replace h := gif_f q h
      refine g_aload_n dX12_laysWord_7 rfl ?_
      refine gR_X12_13 ok_28 dX12_laysWord_8 ?_
      refine g_aload_n dX12_laysWord_11 rfl ?_
      refine gI_X12_56 ok_28 dX12_laysWord_12 ?_
      refine g_iload_n dX12_laysWord_15 rfl ?_
      refine g_iadd dX12_laysWord_16 ?_
      refine g_iload_n dX12_laysWord_17 rfl ?_
      refine g_bipush dX12_laysWord_18 kb_24 ?_
      refine g_bipush dX12_laysWord_20 kb_8 ?_
      refine g_iload_n dX12_laysWord_22 rfl ?_
      refine g_imul dX12_laysWord_23 ?_
      refine g_isub dX12_laysWord_24 ?_
      refine g_ishr dX12_laysWord_25 ?_
      refine g_sipush dX12_laysWord_26 ks_255 ?_
      refine g_iand dX12_laysWord_29 ?_
      obtain ⟨z30, e30, h⟩ := obind h
      refine g_stB e30 ok_29 rfl rfl (by decide) dX12_laysWord_30 ?_
      refine g_inc2 kc_1 dX12_laysWord_31 ?_
      refine g_goto 2 dX12_laysWord_34 rfl ?_
      exact ih h
theorem f_X12_laysWord_ok {v1 : Int32}  {σ : gSt} {r : gSt} (h : f_X12_laysWord v1 σ = some r) : Mt l w 0 41 yX12_laysWord cX12_laysWord 3 none 0 0 [.ref (w.2.1 28 0), .int v1] σ (gE none r) := by
  unfold f_X12_laysWord at h
  refine g_start pn_X12 rfl rfl (Nat.le_of_ble_eq_true rfl) ?_
  show G l w 0 41 RX12 cX12_laysWord 3 none 0 0 (gE none r) 0 [some (.ref (w.2.1 28 0)), some (.int v1), none] [] σ
  refine g_iconst dX12_laysWord_0 kc_0 ?_
  refine g_istore2 dX12_laysWord_1 ?_
  exact f_X12_laysWord_2_ok gFuel h
theorem dX12_feed_0 : decode cX12_feed 0 = .ok (.aload_n 0, 1) := by decide +kernel
theorem dX12_feed_1 : decode cX12_feed 1 = .ok (.iconst 0, 1) := by decide +kernel
theorem dX12_feed_2 : decode cX12_feed 2 = .ok (.putfield 50, 3) := by decide +kernel
theorem dX12_feed_5 : decode cX12_feed 5 = .ok (.aload_n 0, 1) := by decide +kernel
theorem dX12_feed_6 : decode cX12_feed 6 = .ok (.getfield 56, 3) := by decide +kernel
theorem dX12_feed_9 : decode cX12_feed 9 = .ok (.sipush 880, 3) := by decide +kernel
theorem dX12_feed_12 : decode cX12_feed 12 = .ok (.if_icmp .le 5, 3) := by decide +kernel
theorem dX12_feed_15 : decode cX12_feed 15 = .ok (.iconst (-1), 1) := by decide +kernel
theorem dX12_feed_16 : decode cX12_feed 16 = .ok (.ireturn, 1) := by decide +kernel
theorem dX12_feed_17 : decode cX12_feed 17 = .ok (.aload_n 0, 1) := by decide +kernel
theorem dX12_feed_18 : decode cX12_feed 18 = .ok (.iload_n 1, 1) := by decide +kernel
theorem dX12_feed_19 : decode cX12_feed 19 = .ok (.invokevirtual 59, 3) := by decide +kernel
theorem dX12_feed_22 : decode cX12_feed 22 = .ok (.aload_n 0, 1) := by decide +kernel
theorem dX12_feed_23 : decode cX12_feed 23 = .ok (.iload_n 2, 1) := by decide +kernel
theorem dX12_feed_24 : decode cX12_feed 24 = .ok (.invokevirtual 59, 3) := by decide +kernel
theorem dX12_feed_27 : decode cX12_feed 27 = .ok (.aload_n 0, 1) := by decide +kernel
theorem dX12_feed_28 : decode cX12_feed 28 = .ok (.iload_n 3, 1) := by decide +kernel
theorem dX12_feed_29 : decode cX12_feed 29 = .ok (.invokevirtual 59, 3) := by decide +kernel
theorem dX12_feed_32 : decode cX12_feed 32 = .ok (.aload_n 0, 1) := by decide +kernel
theorem dX12_feed_33 : decode cX12_feed 33 = .ok (.iload 4, 2) := by decide +kernel
theorem dX12_feed_35 : decode cX12_feed 35 = .ok (.invokevirtual 59, 3) := by decide +kernel
theorem dX12_feed_38 : decode cX12_feed 38 = .ok (.aload_n 0, 1) := by decide +kernel
theorem dX12_feed_39 : decode cX12_feed 39 = .ok (.iload 5, 2) := by decide +kernel
theorem dX12_feed_41 : decode cX12_feed 41 = .ok (.invokevirtual 59, 3) := by decide +kernel
theorem dX12_feed_44 : decode cX12_feed 44 = .ok (.aload_n 0, 1) := by decide +kernel
theorem dX12_feed_45 : decode cX12_feed 45 = .ok (.getfield 56, 3) := by decide +kernel
theorem dX12_feed_48 : decode cX12_feed 48 = .ok (.ireturn, 1) := by decide +kernel
def f_X12_feed (v1 : Int32) (v2 : Int32) (v3 : Int32) (v4 : Int32) (v5 : Int32) (σ : gSt) : Option (Int32 × gSt) :=
  if ((gup σ 28 0 0 0) 28 0 5) ≤ 880 then
    (f_X12_laysWord v1 (gup σ 28 0 0 0)).bind fun z19 =>
    (f_X12_laysWord v2 z19).bind fun z24 =>
    (f_X12_laysWord v3 z24).bind fun z29 =>
    (f_X12_laysWord v4 z29).bind fun z35 =>
    (f_X12_laysWord v5 z35).bind fun z41 =>
    some ((z41 28 0 5), z41)
  else
    some ((-1), (gup σ 28 0 0 0))
theorem f_X12_feed_ok {v1 : Int32} {v2 : Int32} {v3 : Int32} {v4 : Int32} {v5 : Int32}  {σ : gSt} {r : (Int32 × gSt)} (h : f_X12_feed v1 v2 v3 v4 v5 σ = some r) : Mt l w 0 41 yX12_feed cX12_feed 6 (some .int) 1 22 [.ref (w.2.1 28 0), .int v1, .int v2, .int v3, .int v4, .int v5] σ (gE (some (.int r.1)) r.2) := by
  unfold f_X12_feed at h
  refine g_start pn_X12 rfl rfl (Nat.le_of_ble_eq_true rfl) ?_
  show G l w 0 41 RX12 cX12_feed 6 (some .int) 1 22 (gE (some (.int r.1)) r.2) 0 [some (.ref (w.2.1 28 0)), some (.int v1), some (.int v2), some (.int v3), some (.int v4), some (.int v5)] [] σ
  refine g_aload_n dX12_feed_0 rfl ?_
  refine g_iconst dX12_feed_1 kc_0 ?_
  refine gP_X12_50 ok_28 dX12_feed_2 ?_
  refine g_aload_n dX12_feed_5 rfl ?_
  refine gI_X12_56 ok_28 dX12_feed_6 ?_
  refine g_sipush dX12_feed_9 ks_880 ?_
  refine g_icmp_le 17 dX12_feed_12 rfl (fun q => ?_) (fun q => ?_)
  · replace h := gif_t q h
    refine g_aload_n dX12_feed_17 rfl ?_
    refine g_iload_n dX12_feed_18 rfl ?_
    obtain ⟨z19, e19, h⟩ := obind h
    refine g_vU1 mv_X12_59 dX12_feed_19 ok_28 ⟨by decide, by decide⟩ (Nat.le_of_ble_eq_true rfl) (f_X12_laysWord_ok e19) ?_
    refine g_aload_n dX12_feed_22 rfl ?_
    refine g_iload_n dX12_feed_23 rfl ?_
    obtain ⟨z24, e24, h⟩ := obind h
    refine g_vU1 mv_X12_59 dX12_feed_24 ok_28 ⟨by decide, by decide⟩ (Nat.le_of_ble_eq_true rfl) (f_X12_laysWord_ok e24) ?_
    refine g_aload_n dX12_feed_27 rfl ?_
    refine g_iload_n dX12_feed_28 rfl ?_
    obtain ⟨z29, e29, h⟩ := obind h
    refine g_vU1 mv_X12_59 dX12_feed_29 ok_28 ⟨by decide, by decide⟩ (Nat.le_of_ble_eq_true rfl) (f_X12_laysWord_ok e29) ?_
    refine g_aload_n dX12_feed_32 rfl ?_
    refine g_iload dX12_feed_33 rfl ?_
    obtain ⟨z35, e35, h⟩ := obind h
    refine g_vU1 mv_X12_59 dX12_feed_35 ok_28 ⟨by decide, by decide⟩ (Nat.le_of_ble_eq_true rfl) (f_X12_laysWord_ok e35) ?_
    refine g_aload_n dX12_feed_38 rfl ?_
    refine g_iload dX12_feed_39 rfl ?_
    obtain ⟨z41, e41, h⟩ := obind h
    refine g_vU1 mv_X12_59 dX12_feed_41 ok_28 ⟨by decide, by decide⟩ (Nat.le_of_ble_eq_true rfl) (f_X12_laysWord_ok e41) ?_
    refine g_aload_n dX12_feed_44 rfl ?_
    refine gI_X12_56 ok_28 dX12_feed_45 ?_
    cases h
    exact g_iret dX12_feed_48 rfl ⟨rfl, rfl⟩
  · replace h := gif_f q h
    refine g_iconst dX12_feed_15 kc_m1 ?_
    cases h
    exact g_iret dX12_feed_16 rfl ⟨rfl, rfl⟩
theorem dX12_see_0 : decode cX12_see 0 = .ok (.iload_n 1, 1) := by decide +kernel
theorem dX12_see_1 : decode cX12_see 1 = .ok (.aload_n 0, 1) := by decide +kernel
theorem dX12_see_2 : decode cX12_see 2 = .ok (.getfield 63, 3) := by decide +kernel
theorem dX12_see_5 : decode cX12_see 5 = .ok (.if_icmp .ge 12, 3) := by decide +kernel
theorem dX12_see_8 : decode cX12_see 8 = .ok (.aload_n 0, 1) := by decide +kernel
theorem dX12_see_9 : decode cX12_see 9 = .ok (.getfield 13, 3) := by decide +kernel
theorem dX12_see_12 : decode cX12_see 12 = .ok (.iload_n 1, 1) := by decide +kernel
theorem dX12_see_13 : decode cX12_see 13 = .ok (.iaload, 1) := by decide +kernel
theorem dX12_see_14 : decode cX12_see 14 = .ok (.goto 4, 3) := by decide +kernel
theorem dX12_see_17 : decode cX12_see 17 = .ok (.iconst (-1), 1) := by decide +kernel
theorem dX12_see_18 : decode cX12_see 18 = .ok (.ireturn, 1) := by decide +kernel
def f_X12_see (v1 : Int32) (σ : gSt) : Option (Int32 × gSt) :=
  if (σ 28 0 11) ≤ v1 then
    some ((-1), σ)
  else
    (gld σ 29 0 900 v1).bind fun a13 =>
    some (a13, σ)
theorem f_X12_see_ok {v1 : Int32}  {σ : gSt} {r : (Int32 × gSt)} (h : f_X12_see v1 σ = some r) : Mt l w 0 41 yX12_see cX12_see 2 (some .int) 0 0 [.ref (w.2.1 28 0), .int v1] σ (gE (some (.int r.1)) r.2) := by
  unfold f_X12_see at h
  refine g_start pn_X12 rfl rfl (Nat.le_of_ble_eq_true rfl) ?_
  show G l w 0 41 RX12 cX12_see 2 (some .int) 0 0 (gE (some (.int r.1)) r.2) 0 [some (.ref (w.2.1 28 0)), some (.int v1)] [] σ
  refine g_iload_n dX12_see_0 rfl ?_
  refine g_aload_n dX12_see_1 rfl ?_
  refine gI_X12_63 ok_28 dX12_see_2 ?_
  refine g_icmp_ge 17 dX12_see_5 rfl (fun q => ?_) (fun q => ?_)
  · replace h := gif_t q h
    refine g_iconst dX12_see_17 kc_m1 ?_
    cases h
    exact g_iret dX12_see_18 rfl ⟨rfl, rfl⟩
  · replace h := gif_f q h
    refine g_aload_n dX12_see_8 rfl ?_
    refine gR_X12_13 ok_28 dX12_see_9 ?_
    refine g_iload_n dX12_see_12 rfl ?_
    obtain ⟨a13, e13, h⟩ := obind h
    refine g_ldB e13 ok_29 rfl rfl (by decide) dX12_see_13 ?_
    refine g_goto 18 dX12_see_14 rfl ?_
    cases h
    exact g_iret dX12_see_18 rfl ⟨rfl, rfl⟩
theorem dX12_goesOn_0 : decode cX12_goesOn 0 = .ok (.aload_n 0, 1) := by decide +kernel
theorem dX12_goesOn_1 : decode cX12_goesOn 1 = .ok (.aload_n 0, 1) := by decide +kernel
theorem dX12_goesOn_2 : decode cX12_goesOn 2 = .ok (.getfield 66, 3) := by decide +kernel
theorem dX12_goesOn_5 : decode cX12_goesOn 5 = .ok (.invokevirtual 69, 3) := by decide +kernel
theorem dX12_goesOn_8 : decode cX12_goesOn 8 = .ok (.bipush 32, 2) := by decide +kernel
theorem dX12_goesOn_10 : decode cX12_goesOn 10 = .ok (.if_icmp .ne 16, 3) := by decide +kernel
theorem dX12_goesOn_13 : decode cX12_goesOn 13 = .ok (.aload_n 0, 1) := by decide +kernel
theorem dX12_goesOn_14 : decode cX12_goesOn 14 = .ok (.dup, 1) := by decide +kernel
theorem dX12_goesOn_15 : decode cX12_goesOn 15 = .ok (.getfield 66, 3) := by decide +kernel
theorem dX12_goesOn_18 : decode cX12_goesOn 18 = .ok (.iconst 1, 1) := by decide +kernel
theorem dX12_goesOn_19 : decode cX12_goesOn 19 = .ok (.iadd, 1) := by decide +kernel
theorem dX12_goesOn_20 : decode cX12_goesOn 20 = .ok (.putfield 66, 3) := by decide +kernel
theorem dX12_goesOn_23 : decode cX12_goesOn 23 = .ok (.goto (-23), 3) := by decide +kernel
theorem dX12_goesOn_26 : decode cX12_goesOn 26 = .ok (.aload_n 0, 1) := by decide +kernel
theorem dX12_goesOn_27 : decode cX12_goesOn 27 = .ok (.aload_n 0, 1) := by decide +kernel
theorem dX12_goesOn_28 : decode cX12_goesOn 28 = .ok (.getfield 66, 3) := by decide +kernel
theorem dX12_goesOn_31 : decode cX12_goesOn 31 = .ok (.putfield 73, 3) := by decide +kernel
theorem dX12_goesOn_34 : decode cX12_goesOn 34 = .ok (.aload_n 0, 1) := by decide +kernel
theorem dX12_goesOn_35 : decode cX12_goesOn 35 = .ok (.aload_n 0, 1) := by decide +kernel
theorem dX12_goesOn_36 : decode cX12_goesOn 36 = .ok (.getfield 66, 3) := by decide +kernel
theorem dX12_goesOn_39 : decode cX12_goesOn 39 = .ok (.invokevirtual 69, 3) := by decide +kernel
theorem dX12_goesOn_42 : decode cX12_goesOn 42 = .ok (.istore_n 1, 1) := by decide +kernel
theorem dX12_goesOn_43 : decode cX12_goesOn 43 = .ok (.iload_n 1, 1) := by decide +kernel
theorem dX12_goesOn_44 : decode cX12_goesOn 44 = .ok (.iconst (-1), 1) := by decide +kernel
theorem dX12_goesOn_45 : decode cX12_goesOn 45 = .ok (.if_icmp .ne 9, 3) := by decide +kernel
theorem dX12_goesOn_48 : decode cX12_goesOn 48 = .ok (.aload_n 0, 1) := by decide +kernel
theorem dX12_goesOn_49 : decode cX12_goesOn 49 = .ok (.iconst 0, 1) := by decide +kernel
theorem dX12_goesOn_50 : decode cX12_goesOn 50 = .ok (.putfield 76, 3) := by decide +kernel
theorem dX12_goesOn_53 : decode cX12_goesOn 53 = .ok (.return_, 1) := by decide +kernel
theorem dX12_goesOn_54 : decode cX12_goesOn 54 = .ok (.iload_n 1, 1) := by decide +kernel
theorem dX12_goesOn_55 : decode cX12_goesOn 55 = .ok (.bipush 97, 2) := by decide +kernel
theorem dX12_goesOn_57 : decode cX12_goesOn 57 = .ok (.bipush 122, 2) := by decide +kernel
theorem dX12_goesOn_59 : decode cX12_goesOn 59 = .ok (.invokestatic 79, 3) := by decide +kernel
theorem dX12_goesOn_62 : decode cX12_goesOn 62 = .ok (.ifCond .eq 58, 3) := by decide +kernel
theorem dX12_goesOn_65 : decode cX12_goesOn 65 = .ok (.aload_n 0, 1) := by decide +kernel
theorem dX12_goesOn_66 : decode cX12_goesOn 66 = .ok (.aload_n 0, 1) := by decide +kernel
theorem dX12_goesOn_67 : decode cX12_goesOn 67 = .ok (.getfield 66, 3) := by decide +kernel
theorem dX12_goesOn_70 : decode cX12_goesOn 70 = .ok (.invokevirtual 69, 3) := by decide +kernel
theorem dX12_goesOn_73 : decode cX12_goesOn 73 = .ok (.bipush 97, 2) := by decide +kernel
theorem dX12_goesOn_75 : decode cX12_goesOn 75 = .ok (.bipush 122, 2) := by decide +kernel
theorem dX12_goesOn_77 : decode cX12_goesOn 77 = .ok (.invokestatic 79, 3) := by decide +kernel
theorem dX12_goesOn_80 : decode cX12_goesOn 80 = .ok (.ifCond .eq 16, 3) := by decide +kernel
theorem dX12_goesOn_83 : decode cX12_goesOn 83 = .ok (.aload_n 0, 1) := by decide +kernel
theorem dX12_goesOn_84 : decode cX12_goesOn 84 = .ok (.dup, 1) := by decide +kernel
theorem dX12_goesOn_85 : decode cX12_goesOn 85 = .ok (.getfield 66, 3) := by decide +kernel
theorem dX12_goesOn_88 : decode cX12_goesOn 88 = .ok (.iconst 1, 1) := by decide +kernel
theorem dX12_goesOn_89 : decode cX12_goesOn 89 = .ok (.iadd, 1) := by decide +kernel
theorem dX12_goesOn_90 : decode cX12_goesOn 90 = .ok (.putfield 66, 3) := by decide +kernel
theorem dX12_goesOn_93 : decode cX12_goesOn 93 = .ok (.goto (-28), 3) := by decide +kernel
theorem dX12_goesOn_96 : decode cX12_goesOn 96 = .ok (.aload_n 0, 1) := by decide +kernel
theorem dX12_goesOn_97 : decode cX12_goesOn 97 = .ok (.aload_n 0, 1) := by decide +kernel
theorem dX12_goesOn_98 : decode cX12_goesOn 98 = .ok (.getfield 66, 3) := by decide +kernel
theorem dX12_goesOn_101 : decode cX12_goesOn 101 = .ok (.aload_n 0, 1) := by decide +kernel
theorem dX12_goesOn_102 : decode cX12_goesOn 102 = .ok (.getfield 73, 3) := by decide +kernel
theorem dX12_goesOn_105 : decode cX12_goesOn 105 = .ok (.isub, 1) := by decide +kernel
theorem dX12_goesOn_106 : decode cX12_goesOn 106 = .ok (.bipush 6, 2) := by decide +kernel
theorem dX12_goesOn_108 : decode cX12_goesOn 108 = .ok (.if_icmp .le 7, 3) := by decide +kernel
theorem dX12_goesOn_111 : decode cX12_goesOn 111 = .ok (.iconst 1, 1) := by decide +kernel
theorem dX12_goesOn_112 : decode cX12_goesOn 112 = .ok (.goto 4, 3) := by decide +kernel
theorem dX12_goesOn_115 : decode cX12_goesOn 115 = .ok (.iconst 2, 1) := by decide +kernel
theorem dX12_goesOn_116 : decode cX12_goesOn 116 = .ok (.putfield 76, 3) := by decide +kernel
theorem dX12_goesOn_119 : decode cX12_goesOn 119 = .ok (.return_, 1) := by decide +kernel
theorem dX12_goesOn_120 : decode cX12_goesOn 120 = .ok (.iload_n 1, 1) := by decide +kernel
theorem dX12_goesOn_121 : decode cX12_goesOn 121 = .ok (.bipush 48, 2) := by decide +kernel
theorem dX12_goesOn_123 : decode cX12_goesOn 123 = .ok (.bipush 57, 2) := by decide +kernel
theorem dX12_goesOn_125 : decode cX12_goesOn 125 = .ok (.invokestatic 79, 3) := by decide +kernel
theorem dX12_goesOn_128 : decode cX12_goesOn 128 = .ok (.ifCond .eq 105, 3) := by decide +kernel
theorem dX12_goesOn_131 : decode cX12_goesOn 131 = .ok (.aload_n 0, 1) := by decide +kernel
theorem dX12_goesOn_132 : decode cX12_goesOn 132 = .ok (.iconst 0, 1) := by decide +kernel
theorem dX12_goesOn_133 : decode cX12_goesOn 133 = .ok (.putfield 83, 3) := by decide +kernel
theorem dX12_goesOn_136 : decode cX12_goesOn 136 = .ok (.aload_n 0, 1) := by decide +kernel
theorem dX12_goesOn_137 : decode cX12_goesOn 137 = .ok (.aload_n 0, 1) := by decide +kernel
theorem dX12_goesOn_138 : decode cX12_goesOn 138 = .ok (.getfield 66, 3) := by decide +kernel
theorem dX12_goesOn_141 : decode cX12_goesOn 141 = .ok (.invokevirtual 69, 3) := by decide +kernel
theorem dX12_goesOn_144 : decode cX12_goesOn 144 = .ok (.bipush 48, 2) := by decide +kernel
theorem dX12_goesOn_146 : decode cX12_goesOn 146 = .ok (.bipush 57, 2) := by decide +kernel
theorem dX12_goesOn_148 : decode cX12_goesOn 148 = .ok (.invokestatic 79, 3) := by decide +kernel
theorem dX12_goesOn_151 : decode cX12_goesOn 151 = .ok (.ifCond .eq 59, 3) := by decide +kernel
theorem dX12_goesOn_154 : decode cX12_goesOn 154 = .ok (.aload_n 0, 1) := by decide +kernel
theorem dX12_goesOn_155 : decode cX12_goesOn 155 = .ok (.aload_n 0, 1) := by decide +kernel
theorem dX12_goesOn_156 : decode cX12_goesOn 156 = .ok (.getfield 66, 3) := by decide +kernel
theorem dX12_goesOn_159 : decode cX12_goesOn 159 = .ok (.aload_n 0, 1) := by decide +kernel
theorem dX12_goesOn_160 : decode cX12_goesOn 160 = .ok (.getfield 73, 3) := by decide +kernel
theorem dX12_goesOn_163 : decode cX12_goesOn 163 = .ok (.isub, 1) := by decide +kernel
theorem dX12_goesOn_164 : decode cX12_goesOn 164 = .ok (.iconst 4, 1) := by decide +kernel
theorem dX12_goesOn_165 : decode cX12_goesOn 165 = .ok (.if_icmp .ge 25, 3) := by decide +kernel
theorem dX12_goesOn_168 : decode cX12_goesOn 168 = .ok (.bipush 10, 2) := by decide +kernel
theorem dX12_goesOn_170 : decode cX12_goesOn 170 = .ok (.aload_n 0, 1) := by decide +kernel
theorem dX12_goesOn_171 : decode cX12_goesOn 171 = .ok (.getfield 83, 3) := by decide +kernel
theorem dX12_goesOn_174 : decode cX12_goesOn 174 = .ok (.imul, 1) := by decide +kernel
theorem dX12_goesOn_175 : decode cX12_goesOn 175 = .ok (.aload_n 0, 1) := by decide +kernel
theorem dX12_goesOn_176 : decode cX12_goesOn 176 = .ok (.aload_n 0, 1) := by decide +kernel
theorem dX12_goesOn_177 : decode cX12_goesOn 177 = .ok (.getfield 66, 3) := by decide +kernel
theorem dX12_goesOn_180 : decode cX12_goesOn 180 = .ok (.invokevirtual 69, 3) := by decide +kernel
theorem dX12_goesOn_183 : decode cX12_goesOn 183 = .ok (.iadd, 1) := by decide +kernel
theorem dX12_goesOn_184 : decode cX12_goesOn 184 = .ok (.bipush 48, 2) := by decide +kernel
theorem dX12_goesOn_186 : decode cX12_goesOn 186 = .ok (.isub, 1) := by decide +kernel
theorem dX12_goesOn_187 : decode cX12_goesOn 187 = .ok (.goto 7, 3) := by decide +kernel
theorem dX12_goesOn_190 : decode cX12_goesOn 190 = .ok (.aload_n 0, 1) := by decide +kernel
theorem dX12_goesOn_191 : decode cX12_goesOn 191 = .ok (.getfield 83, 3) := by decide +kernel
theorem dX12_goesOn_194 : decode cX12_goesOn 194 = .ok (.putfield 83, 3) := by decide +kernel
theorem dX12_goesOn_197 : decode cX12_goesOn 197 = .ok (.aload_n 0, 1) := by decide +kernel
theorem dX12_goesOn_198 : decode cX12_goesOn 198 = .ok (.dup, 1) := by decide +kernel
theorem dX12_goesOn_199 : decode cX12_goesOn 199 = .ok (.getfield 66, 3) := by decide +kernel
theorem dX12_goesOn_202 : decode cX12_goesOn 202 = .ok (.iconst 1, 1) := by decide +kernel
theorem dX12_goesOn_203 : decode cX12_goesOn 203 = .ok (.iadd, 1) := by decide +kernel
theorem dX12_goesOn_204 : decode cX12_goesOn 204 = .ok (.putfield 66, 3) := by decide +kernel
theorem dX12_goesOn_207 : decode cX12_goesOn 207 = .ok (.goto (-71), 3) := by decide +kernel
theorem dX12_goesOn_210 : decode cX12_goesOn 210 = .ok (.aload_n 0, 1) := by decide +kernel
theorem dX12_goesOn_211 : decode cX12_goesOn 211 = .ok (.aload_n 0, 1) := by decide +kernel
theorem dX12_goesOn_212 : decode cX12_goesOn 212 = .ok (.getfield 66, 3) := by decide +kernel
theorem dX12_goesOn_215 : decode cX12_goesOn 215 = .ok (.aload_n 0, 1) := by decide +kernel
theorem dX12_goesOn_216 : decode cX12_goesOn 216 = .ok (.getfield 73, 3) := by decide +kernel
theorem dX12_goesOn_219 : decode cX12_goesOn 219 = .ok (.isub, 1) := by decide +kernel
theorem dX12_goesOn_220 : decode cX12_goesOn 220 = .ok (.iconst 4, 1) := by decide +kernel
theorem dX12_goesOn_221 : decode cX12_goesOn 221 = .ok (.if_icmp .le 7, 3) := by decide +kernel
theorem dX12_goesOn_224 : decode cX12_goesOn 224 = .ok (.iconst 1, 1) := by decide +kernel
theorem dX12_goesOn_225 : decode cX12_goesOn 225 = .ok (.goto 4, 3) := by decide +kernel
theorem dX12_goesOn_228 : decode cX12_goesOn 228 = .ok (.iconst 3, 1) := by decide +kernel
theorem dX12_goesOn_229 : decode cX12_goesOn 229 = .ok (.putfield 76, 3) := by decide +kernel
theorem dX12_goesOn_232 : decode cX12_goesOn 232 = .ok (.return_, 1) := by decide +kernel
theorem dX12_goesOn_233 : decode cX12_goesOn 233 = .ok (.aload_n 0, 1) := by decide +kernel
theorem dX12_goesOn_234 : decode cX12_goesOn 234 = .ok (.dup, 1) := by decide +kernel
theorem dX12_goesOn_235 : decode cX12_goesOn 235 = .ok (.getfield 66, 3) := by decide +kernel
theorem dX12_goesOn_238 : decode cX12_goesOn 238 = .ok (.iconst 1, 1) := by decide +kernel
theorem dX12_goesOn_239 : decode cX12_goesOn 239 = .ok (.iadd, 1) := by decide +kernel
theorem dX12_goesOn_240 : decode cX12_goesOn 240 = .ok (.putfield 66, 3) := by decide +kernel
theorem dX12_goesOn_243 : decode cX12_goesOn 243 = .ok (.aload_n 0, 1) := by decide +kernel
theorem dX12_goesOn_244 : decode cX12_goesOn 244 = .ok (.iload_n 1, 1) := by decide +kernel
theorem dX12_goesOn_245 : decode cX12_goesOn 245 = .ok (.bipush 59, 2) := by decide +kernel
theorem dX12_goesOn_247 : decode cX12_goesOn 247 = .ok (.if_icmp .eq 15, 3) := by decide +kernel
theorem dX12_goesOn_250 : decode cX12_goesOn 250 = .ok (.iload_n 1, 1) := by decide +kernel
theorem dX12_goesOn_251 : decode cX12_goesOn 251 = .ok (.bipush 44, 2) := by decide +kernel
theorem dX12_goesOn_253 : decode cX12_goesOn 253 = .ok (.if_icmp .eq 9, 3) := by decide +kernel
theorem dX12_goesOn_256 : decode cX12_goesOn 256 = .ok (.iload_n 1, 1) := by decide +kernel
theorem dX12_goesOn_257 : decode cX12_goesOn 257 = .ok (.bipush 58, 2) := by decide +kernel
theorem dX12_goesOn_259 : decode cX12_goesOn 259 = .ok (.if_icmp .ne 7, 3) := by decide +kernel
theorem dX12_goesOn_262 : decode cX12_goesOn 262 = .ok (.iload_n 1, 1) := by decide +kernel
theorem dX12_goesOn_263 : decode cX12_goesOn 263 = .ok (.goto 4, 3) := by decide +kernel
theorem dX12_goesOn_266 : decode cX12_goesOn 266 = .ok (.iconst 1, 1) := by decide +kernel
theorem dX12_goesOn_267 : decode cX12_goesOn 267 = .ok (.putfield 76, 3) := by decide +kernel
theorem dX12_goesOn_270 : decode cX12_goesOn 270 = .ok (.return_, 1) := by decide +kernel
def f_X12_goesOn_136  : Nat → gSt → Option gSt
  | 0, _ => none
  | n + 1, σ =>
    (f_X12_see (σ 28 0 13) σ).bind fun p141 =>
    (f_X12_in p141.1 48 57 p141.2).bind fun p148 =>
    if p148.1 = 0 then
      if ((p148.2 28 0 13) - (p148.2 28 0 12)) ≤ 4 then
        some (gup p148.2 28 0 14 3)
      else
        some (gup p148.2 28 0 14 1)
    else
      if 4 ≤ ((p148.2 28 0 13) - (p148.2 28 0 12)) then
        f_X12_goesOn_136 n (gup (gup p148.2 28 0 15 (p148.2 28 0 15)) 28 0 13 (((gup p148.2 28 0 15 (p148.2 28 0 15)) 28 0 13) + 1))
      else
        (f_X12_see (p148.2 28 0 13) p148.2).bind fun p180 =>
        f_X12_goesOn_136 n (gup (gup p180.2 28 0 15 (((10 * (p148.2 28 0 15)) + p180.1) - 48)) 28 0 13 (((gup p180.2 28 0 15 (((10 * (p148.2 28 0 15)) + p180.1) - 48)) 28 0 13) + 1))
def f_X12_goesOn_65  : Nat → gSt → Option gSt
  | 0, _ => none
  | n + 1, σ =>
    (f_X12_see (σ 28 0 13) σ).bind fun p70 =>
    (f_X12_in p70.1 97 122 p70.2).bind fun p77 =>
    if p77.1 = 0 then
      if ((p77.2 28 0 13) - (p77.2 28 0 12)) ≤ 6 then
        some (gup p77.2 28 0 14 2)
      else
        some (gup p77.2 28 0 14 1)
    else
      f_X12_goesOn_65 n (gup p77.2 28 0 13 ((p77.2 28 0 13) + 1))
def f_X12_goesOn_0  : Nat → gSt → Option gSt
  | 0, _ => none
  | n + 1, σ =>
    (f_X12_see (σ 28 0 13) σ).bind fun p5 =>
    if p5.1 = 32 then
      f_X12_goesOn_0 n (gup p5.2 28 0 13 ((p5.2 28 0 13) + 1))
    else
      (f_X12_see ((gup p5.2 28 0 12 (p5.2 28 0 13)) 28 0 13) (gup p5.2 28 0 12 (p5.2 28 0 13))).bind fun p39 =>
      if p39.1 = (-1) then
        some (gup p39.2 28 0 14 0)
      else
        (f_X12_in p39.1 97 122 p39.2).bind fun p59 =>
        if p59.1 = 0 then
          (f_X12_in p39.1 48 57 p59.2).bind fun p125 =>
          if p125.1 = 0 then
            if p39.1 = 59 then
              some (gup (gup p125.2 28 0 13 ((p125.2 28 0 13) + 1)) 28 0 14 p39.1)
            else
              if p39.1 = 44 then
                some (gup (gup p125.2 28 0 13 ((p125.2 28 0 13) + 1)) 28 0 14 p39.1)
              else
                if p39.1 = 58 then
                  some (gup (gup p125.2 28 0 13 ((p125.2 28 0 13) + 1)) 28 0 14 p39.1)
                else
                  some (gup (gup p125.2 28 0 13 ((p125.2 28 0 13) + 1)) 28 0 14 1)
          else
            f_X12_goesOn_136 gFuel (gup p125.2 28 0 15 0)
        else
          f_X12_goesOn_65 gFuel p59.2
def f_X12_goesOn (σ : gSt) : Option gSt :=
  f_X12_goesOn_0 gFuel σ
theorem f_X12_goesOn_136_ok  {r : gSt}  : ∀ (n : Nat)  {σ : gSt} {x1 : Option Value}, f_X12_goesOn_136 n σ = some r → G l w 0 41 RX12 cX12_goesOn 2 none 1 22 (gE none r) 136 [some (.ref (w.2.1 28 0)), x1] [] σ := by
  intro n
  induction n with
  | zero => intro σ x1 h; rw [f_X12_goesOn_136] at h; cases h
  | succ n ih =>
    intro σ x1 h
    rw [f_X12_goesOn_136] at h
    refine g_aload_n dX12_goesOn_136 rfl ?_
    refine g_aload_n dX12_goesOn_137 rfl ?_
    refine gI_X12_66 ok_28 dX12_goesOn_138 ?_
    obtain ⟨p141, e141, h⟩ := obind h
    refine g_vP1 mv_X12_69 dX12_goesOn_141 ok_28 ⟨by decide, by decide⟩ (Nat.le_of_ble_eq_true rfl) (f_X12_see_ok e141) ?_
    refine g_bipush dX12_goesOn_144 kb_48 ?_
    refine g_bipush dX12_goesOn_146 kb_57 ?_
    obtain ⟨p148, e148, h⟩ := obind h
    refine g_sP3 ms_X12_79 dX12_goesOn_148 ⟨by decide, by decide⟩ (Nat.le_of_ble_eq_true rfl) (f_X12_in_ok e148) ?_
    refine g_if_eq 210 dX12_goesOn_151 rfl (fun q => ?_) (fun q => ?_)
    · replace h := gif_t q h
      refine g_aload_n dX12_goesOn_210 rfl ?_
      refine g_aload_n dX12_goesOn_211 rfl ?_
      refine gI_X12_66 ok_28 dX12_goesOn_212 ?_
      refine g_aload_n dX12_goesOn_215 rfl ?_
      refine gI_X12_73 ok_28 dX12_goesOn_216 ?_
      refine g_isub dX12_goesOn_219 ?_
      refine g_iconst dX12_goesOn_220 kc_4 ?_
      refine g_icmp_le 228 dX12_goesOn_221 rfl (fun q => ?_) (fun q => ?_)
      · replace h := gif_t q h
        refine g_iconst dX12_goesOn_228 kc_3 ?_
        refine gP_X12_76 ok_28 dX12_goesOn_229 ?_
        cases h
        exact g_vret dX12_goesOn_232 rfl ⟨rfl, rfl⟩
      · replace h := gif_f q h
        refine g_iconst dX12_goesOn_224 kc_1 ?_
        refine g_goto 229 dX12_goesOn_225 rfl ?_
        refine gP_X12_76 ok_28 dX12_goesOn_229 ?_
        cases h
        exact g_vret dX12_goesOn_232 rfl ⟨rfl, rfl⟩
    · replace h := gif_f q h
      refine g_aload_n dX12_goesOn_154 rfl ?_
      refine g_aload_n dX12_goesOn_155 rfl ?_
      refine gI_X12_66 ok_28 dX12_goesOn_156 ?_
      refine g_aload_n dX12_goesOn_159 rfl ?_
      refine gI_X12_73 ok_28 dX12_goesOn_160 ?_
      refine g_isub dX12_goesOn_163 ?_
      refine g_iconst dX12_goesOn_164 kc_4 ?_
      refine g_icmp_ge 190 dX12_goesOn_165 rfl (fun q => ?_) (fun q => ?_)
      · replace h := gif_t q h
        refine g_aload_n dX12_goesOn_190 rfl ?_
        refine gI_X12_83 ok_28 dX12_goesOn_191 ?_
        refine gP_X12_83 ok_28 dX12_goesOn_194 ?_
        refine g_aload_n dX12_goesOn_197 rfl ?_
        refine g_dup dX12_goesOn_198 rfl ?_
        refine gI_X12_66 ok_28 dX12_goesOn_199 ?_
        refine g_iconst dX12_goesOn_202 kc_1 ?_
        refine g_iadd dX12_goesOn_203 ?_
        refine gP_X12_66 ok_28 dX12_goesOn_204 ?_
        refine g_goto 136 dX12_goesOn_207 rfl ?_
        exact ih h
      · replace h := gif_f q h
        refine g_bipush dX12_goesOn_168 kb_10 ?_
        refine g_aload_n dX12_goesOn_170 rfl ?_
        refine gI_X12_83 ok_28 dX12_goesOn_171 ?_
        refine g_imul dX12_goesOn_174 ?_
        refine g_aload_n dX12_goesOn_175 rfl ?_
        refine g_aload_n dX12_goesOn_176 rfl ?_
        refine gI_X12_66 ok_28 dX12_goesOn_177 ?_
        obtain ⟨p180, e180, h⟩ := obind h
        refine g_vP1 mv_X12_69 dX12_goesOn_180 ok_28 ⟨by decide, by decide⟩ (Nat.le_of_ble_eq_true rfl) (f_X12_see_ok e180) ?_
        refine g_iadd dX12_goesOn_183 ?_
        refine g_bipush dX12_goesOn_184 kb_48 ?_
        refine g_isub dX12_goesOn_186 ?_
        refine g_goto 194 dX12_goesOn_187 rfl ?_
        refine gP_X12_83 ok_28 dX12_goesOn_194 ?_
        refine g_aload_n dX12_goesOn_197 rfl ?_
        refine g_dup dX12_goesOn_198 rfl ?_
        refine gI_X12_66 ok_28 dX12_goesOn_199 ?_
        refine g_iconst dX12_goesOn_202 kc_1 ?_
        refine g_iadd dX12_goesOn_203 ?_
        refine gP_X12_66 ok_28 dX12_goesOn_204 ?_
        refine g_goto 136 dX12_goesOn_207 rfl ?_
        exact ih h
theorem f_X12_goesOn_65_ok  {r : gSt}  : ∀ (n : Nat)  {σ : gSt} {x1 : Option Value}, f_X12_goesOn_65 n σ = some r → G l w 0 41 RX12 cX12_goesOn 2 none 1 22 (gE none r) 65 [some (.ref (w.2.1 28 0)), x1] [] σ := by
  intro n
  induction n with
  | zero => intro σ x1 h; rw [f_X12_goesOn_65] at h; cases h
  | succ n ih =>
    intro σ x1 h
    rw [f_X12_goesOn_65] at h
    refine g_aload_n dX12_goesOn_65 rfl ?_
    refine g_aload_n dX12_goesOn_66 rfl ?_
    refine gI_X12_66 ok_28 dX12_goesOn_67 ?_
    obtain ⟨p70, e70, h⟩ := obind h
    refine g_vP1 mv_X12_69 dX12_goesOn_70 ok_28 ⟨by decide, by decide⟩ (Nat.le_of_ble_eq_true rfl) (f_X12_see_ok e70) ?_
    refine g_bipush dX12_goesOn_73 kb_97 ?_
    refine g_bipush dX12_goesOn_75 kb_122 ?_
    obtain ⟨p77, e77, h⟩ := obind h
    refine g_sP3 ms_X12_79 dX12_goesOn_77 ⟨by decide, by decide⟩ (Nat.le_of_ble_eq_true rfl) (f_X12_in_ok e77) ?_
    refine g_if_eq 96 dX12_goesOn_80 rfl (fun q => ?_) (fun q => ?_)
    · replace h := gif_t q h
      refine g_aload_n dX12_goesOn_96 rfl ?_
      refine g_aload_n dX12_goesOn_97 rfl ?_
      refine gI_X12_66 ok_28 dX12_goesOn_98 ?_
      refine g_aload_n dX12_goesOn_101 rfl ?_
      refine gI_X12_73 ok_28 dX12_goesOn_102 ?_
      refine g_isub dX12_goesOn_105 ?_
      refine g_bipush dX12_goesOn_106 kb_6 ?_
      refine g_icmp_le 115 dX12_goesOn_108 rfl (fun q => ?_) (fun q => ?_)
      · replace h := gif_t q h
        refine g_iconst dX12_goesOn_115 kc_2 ?_
        refine gP_X12_76 ok_28 dX12_goesOn_116 ?_
        cases h
        exact g_vret dX12_goesOn_119 rfl ⟨rfl, rfl⟩
      · replace h := gif_f q h
        refine g_iconst dX12_goesOn_111 kc_1 ?_
        refine g_goto 116 dX12_goesOn_112 rfl ?_
        refine gP_X12_76 ok_28 dX12_goesOn_116 ?_
        cases h
        exact g_vret dX12_goesOn_119 rfl ⟨rfl, rfl⟩
    · replace h := gif_f q h
      refine g_aload_n dX12_goesOn_83 rfl ?_
      refine g_dup dX12_goesOn_84 rfl ?_
      refine gI_X12_66 ok_28 dX12_goesOn_85 ?_
      refine g_iconst dX12_goesOn_88 kc_1 ?_
      refine g_iadd dX12_goesOn_89 ?_
      refine gP_X12_66 ok_28 dX12_goesOn_90 ?_
      refine g_goto 65 dX12_goesOn_93 rfl ?_
      exact ih h
theorem f_X12_goesOn_0_ok  {r : gSt}  : ∀ (n : Nat)  {σ : gSt} {x1 : Option Value}, f_X12_goesOn_0 n σ = some r → G l w 0 41 RX12 cX12_goesOn 2 none 1 22 (gE none r) 0 [some (.ref (w.2.1 28 0)), x1] [] σ := by
  intro n
  induction n with
  | zero => intro σ x1 h; rw [f_X12_goesOn_0] at h; cases h
  | succ n ih =>
    intro σ x1 h
    rw [f_X12_goesOn_0] at h
    refine g_aload_n dX12_goesOn_0 rfl ?_
    refine g_aload_n dX12_goesOn_1 rfl ?_
    refine gI_X12_66 ok_28 dX12_goesOn_2 ?_
    obtain ⟨p5, e5, h⟩ := obind h
    refine g_vP1 mv_X12_69 dX12_goesOn_5 ok_28 ⟨by decide, by decide⟩ (Nat.le_of_ble_eq_true rfl) (f_X12_see_ok e5) ?_
    refine g_bipush dX12_goesOn_8 kb_32 ?_
    refine g_icmp_ne 26 dX12_goesOn_10 rfl (fun q => ?_) (fun q => ?_)
    · replace h := gif_f q h
      refine g_aload_n dX12_goesOn_26 rfl ?_
      refine g_aload_n dX12_goesOn_27 rfl ?_
      refine gI_X12_66 ok_28 dX12_goesOn_28 ?_
      refine gP_X12_73 ok_28 dX12_goesOn_31 ?_
      refine g_aload_n dX12_goesOn_34 rfl ?_
      refine g_aload_n dX12_goesOn_35 rfl ?_
      refine gI_X12_66 ok_28 dX12_goesOn_36 ?_
      obtain ⟨p39, e39, h⟩ := obind h
      refine g_vP1 mv_X12_69 dX12_goesOn_39 ok_28 ⟨by decide, by decide⟩ (Nat.le_of_ble_eq_true rfl) (f_X12_see_ok e39) ?_
      refine g_istore1 dX12_goesOn_42 ?_
      refine g_iload_n dX12_goesOn_43 rfl ?_
      refine g_iconst dX12_goesOn_44 kc_m1 ?_
      refine g_icmp_ne 54 dX12_goesOn_45 rfl (fun q => ?_) (fun q => ?_)
      · replace h := gif_f q h
        refine g_iload_n dX12_goesOn_54 rfl ?_
        refine g_bipush dX12_goesOn_55 kb_97 ?_
        refine g_bipush dX12_goesOn_57 kb_122 ?_
        obtain ⟨p59, e59, h⟩ := obind h
        refine g_sP3 ms_X12_79 dX12_goesOn_59 ⟨by decide, by decide⟩ (Nat.le_of_ble_eq_true rfl) (f_X12_in_ok e59) ?_
        refine g_if_eq 120 dX12_goesOn_62 rfl (fun q => ?_) (fun q => ?_)
        · replace h := gif_t q h
          refine g_iload_n dX12_goesOn_120 rfl ?_
          refine g_bipush dX12_goesOn_121 kb_48 ?_
          refine g_bipush dX12_goesOn_123 kb_57 ?_
          obtain ⟨p125, e125, h⟩ := obind h
          refine g_sP3 ms_X12_79 dX12_goesOn_125 ⟨by decide, by decide⟩ (Nat.le_of_ble_eq_true rfl) (f_X12_in_ok e125) ?_
          refine g_if_eq 233 dX12_goesOn_128 rfl (fun q => ?_) (fun q => ?_)
          · replace h := gif_t q h
            refine g_aload_n dX12_goesOn_233 rfl ?_
            refine g_dup dX12_goesOn_234 rfl ?_
            refine gI_X12_66 ok_28 dX12_goesOn_235 ?_
            refine g_iconst dX12_goesOn_238 kc_1 ?_
            refine g_iadd dX12_goesOn_239 ?_
            refine gP_X12_66 ok_28 dX12_goesOn_240 ?_
            refine g_aload_n dX12_goesOn_243 rfl ?_
            refine g_iload_n dX12_goesOn_244 rfl ?_
            refine g_bipush dX12_goesOn_245 kb_59 ?_
            refine g_icmp_eq 262 dX12_goesOn_247 rfl (fun q => ?_) (fun q => ?_)
            · replace h := gif_t q h
              refine g_iload_n dX12_goesOn_262 rfl ?_
              refine g_goto 267 dX12_goesOn_263 rfl ?_
              refine gP_X12_76 ok_28 dX12_goesOn_267 ?_
              cases h
              exact g_vret dX12_goesOn_270 rfl ⟨rfl, rfl⟩
            · replace h := gif_f q h
              refine g_iload_n dX12_goesOn_250 rfl ?_
              refine g_bipush dX12_goesOn_251 kb_44 ?_
              refine g_icmp_eq 262 dX12_goesOn_253 rfl (fun q => ?_) (fun q => ?_)
              · replace h := gif_t q h
                refine g_iload_n dX12_goesOn_262 rfl ?_
                refine g_goto 267 dX12_goesOn_263 rfl ?_
                refine gP_X12_76 ok_28 dX12_goesOn_267 ?_
                cases h
                exact g_vret dX12_goesOn_270 rfl ⟨rfl, rfl⟩
              · replace h := gif_f q h
                refine g_iload_n dX12_goesOn_256 rfl ?_
                refine g_bipush dX12_goesOn_257 kb_58 ?_
                refine g_icmp_ne 266 dX12_goesOn_259 rfl (fun q => ?_) (fun q => ?_)
                · replace h := gif_f q h
                  refine g_iconst dX12_goesOn_266 kc_1 ?_
                  refine gP_X12_76 ok_28 dX12_goesOn_267 ?_
                  cases h
                  exact g_vret dX12_goesOn_270 rfl ⟨rfl, rfl⟩
                · replace h := gif_t q h
                  refine g_iload_n dX12_goesOn_262 rfl ?_
                  refine g_goto 267 dX12_goesOn_263 rfl ?_
                  refine gP_X12_76 ok_28 dX12_goesOn_267 ?_
                  cases h
                  exact g_vret dX12_goesOn_270 rfl ⟨rfl, rfl⟩
          · replace h := gif_f q h
            refine g_aload_n dX12_goesOn_131 rfl ?_
            refine g_iconst dX12_goesOn_132 kc_0 ?_
            refine gP_X12_83 ok_28 dX12_goesOn_133 ?_
            exact f_X12_goesOn_136_ok gFuel h
        · replace h := gif_f q h
          exact f_X12_goesOn_65_ok gFuel h
      · replace h := gif_t q h
        refine g_aload_n dX12_goesOn_48 rfl ?_
        refine g_iconst dX12_goesOn_49 kc_0 ?_
        refine gP_X12_76 ok_28 dX12_goesOn_50 ?_
        cases h
        exact g_vret dX12_goesOn_53 rfl ⟨rfl, rfl⟩
    · replace h := gif_t q h
      refine g_aload_n dX12_goesOn_13 rfl ?_
      refine g_dup dX12_goesOn_14 rfl ?_
      refine gI_X12_66 ok_28 dX12_goesOn_15 ?_
      refine g_iconst dX12_goesOn_18 kc_1 ?_
      refine g_iadd dX12_goesOn_19 ?_
      refine gP_X12_66 ok_28 dX12_goesOn_20 ?_
      refine g_goto 0 dX12_goesOn_23 rfl ?_
      exact ih h
theorem f_X12_goesOn_ok   {σ : gSt} {r : gSt} (h : f_X12_goesOn σ = some r) : Mt l w 0 41 yX12_goesOn cX12_goesOn 2 none 1 22 [.ref (w.2.1 28 0)] σ (gE none r) := by
  unfold f_X12_goesOn at h
  refine g_start pn_X12 rfl rfl (Nat.le_of_ble_eq_true rfl) ?_
  show G l w 0 41 RX12 cX12_goesOn 2 none 1 22 (gE none r) 0 [some (.ref (w.2.1 28 0)), none] [] σ
  exact f_X12_goesOn_0_ok gFuel h
theorem dX12_errs_0 : decode cX12_errs 0 = .ok (.aload_n 0, 1) := by decide +kernel
theorem dX12_errs_1 : decode cX12_errs 1 = .ok (.iload_n 1, 1) := by decide +kernel
theorem dX12_errs_2 : decode cX12_errs 2 = .ok (.putfield 96, 3) := by decide +kernel
theorem dX12_errs_5 : decode cX12_errs 5 = .ok (.aload_n 0, 1) := by decide +kernel
theorem dX12_errs_6 : decode cX12_errs 6 = .ok (.aload_n 0, 1) := by decide +kernel
theorem dX12_errs_7 : decode cX12_errs 7 = .ok (.getfield 73, 3) := by decide +kernel
theorem dX12_errs_10 : decode cX12_errs 10 = .ok (.putfield 99, 3) := by decide +kernel
theorem dX12_errs_13 : decode cX12_errs 13 = .ok (.iconst 0, 1) := by decide +kernel
theorem dX12_errs_14 : decode cX12_errs 14 = .ok (.ireturn, 1) := by decide +kernel
def f_X12_errs (v1 : Int32) (σ : gSt) : Option (Int32 × gSt) :=
  some (0, (gup (gup σ 28 0 17 v1) 28 0 18 ((gup σ 28 0 17 v1) 28 0 12)))
theorem f_X12_errs_ok {v1 : Int32}  {σ : gSt} {r : (Int32 × gSt)} (h : f_X12_errs v1 σ = some r) : Mt l w 0 41 yX12_errs cX12_errs 2 (some .boolean) 0 0 [.ref (w.2.1 28 0), .int v1] σ (gE (some (.int r.1)) r.2) := by
  unfold f_X12_errs at h
  refine g_start pn_X12 rfl rfl (Nat.le_of_ble_eq_true rfl) ?_
  show G l w 0 41 RX12 cX12_errs 2 (some .boolean) 0 0 (gE (some (.int r.1)) r.2) 0 [some (.ref (w.2.1 28 0)), some (.int v1)] [] σ
  refine g_aload_n dX12_errs_0 rfl ?_
  refine g_iload_n dX12_errs_1 rfl ?_
  refine gP_X12_96 ok_28 dX12_errs_2 ?_
  refine g_aload_n dX12_errs_5 rfl ?_
  refine g_aload_n dX12_errs_6 rfl ?_
  refine gI_X12_73 ok_28 dX12_errs_7 ?_
  refine gP_X12_99 ok_28 dX12_errs_10 ?_
  refine g_iconst dX12_errs_13 kc_0 ?_
  cases h
  exact g_zret0 dX12_errs_14 rfl
theorem dX12_isAt_0 : decode cX12_isAt 0 = .ok (.iload 4, 2) := by decide +kernel
theorem dX12_isAt_2 : decode cX12_isAt 2 = .ok (.iload_n 3, 1) := by decide +kernel
theorem dX12_isAt_3 : decode cX12_isAt 3 = .ok (.isub, 1) := by decide +kernel
theorem dX12_isAt_4 : decode cX12_isAt 4 = .ok (.bipush 6, 2) := by decide +kernel
theorem dX12_isAt_6 : decode cX12_isAt 6 = .ok (.if_icmp .gt 7, 3) := by decide +kernel
theorem dX12_isAt_9 : decode cX12_isAt 9 = .ok (.iconst 1, 1) := by decide +kernel
theorem dX12_isAt_10 : decode cX12_isAt 10 = .ok (.goto 4, 3) := by decide +kernel
theorem dX12_isAt_13 : decode cX12_isAt 13 = .ok (.iconst 0, 1) := by decide +kernel
theorem dX12_isAt_14 : decode cX12_isAt 14 = .ok (.istore 5, 2) := by decide +kernel
theorem dX12_isAt_16 : decode cX12_isAt 16 = .ok (.iconst 0, 1) := by decide +kernel
theorem dX12_isAt_17 : decode cX12_isAt 17 = .ok (.istore 6, 2) := by decide +kernel
theorem dX12_isAt_19 : decode cX12_isAt 19 = .ok (.iload 6, 2) := by decide +kernel
theorem dX12_isAt_21 : decode cX12_isAt 21 = .ok (.bipush 6, 2) := by decide +kernel
theorem dX12_isAt_23 : decode cX12_isAt 23 = .ok (.if_icmp .ge 84, 3) := by decide +kernel
theorem dX12_isAt_26 : decode cX12_isAt 26 = .ok (.iload_n 3, 1) := by decide +kernel
theorem dX12_isAt_27 : decode cX12_isAt 27 = .ok (.iload 6, 2) := by decide +kernel
theorem dX12_isAt_29 : decode cX12_isAt 29 = .ok (.iadd, 1) := by decide +kernel
theorem dX12_isAt_30 : decode cX12_isAt 30 = .ok (.iload 4, 2) := by decide +kernel
theorem dX12_isAt_32 : decode cX12_isAt 32 = .ok (.if_icmp .ge 7, 3) := by decide +kernel
theorem dX12_isAt_35 : decode cX12_isAt 35 = .ok (.iconst 1, 1) := by decide +kernel
theorem dX12_isAt_36 : decode cX12_isAt 36 = .ok (.goto 4, 3) := by decide +kernel
theorem dX12_isAt_39 : decode cX12_isAt 39 = .ok (.iconst 0, 1) := by decide +kernel
theorem dX12_isAt_40 : decode cX12_isAt 40 = .ok (.istore 7, 2) := by decide +kernel
theorem dX12_isAt_42 : decode cX12_isAt 42 = .ok (.iload 5, 2) := by decide +kernel
theorem dX12_isAt_44 : decode cX12_isAt 44 = .ok (.ifCond .eq 54, 3) := by decide +kernel
theorem dX12_isAt_47 : decode cX12_isAt 47 = .ok (.iload 7, 2) := by decide +kernel
theorem dX12_isAt_49 : decode cX12_isAt 49 = .ok (.ifCond .eq 36, 3) := by decide +kernel
theorem dX12_isAt_52 : decode cX12_isAt 52 = .ok (.aload_n 0, 1) := by decide +kernel
theorem dX12_isAt_53 : decode cX12_isAt 53 = .ok (.getfield 13, 3) := by decide +kernel
theorem dX12_isAt_56 : decode cX12_isAt 56 = .ok (.iload_n 3, 1) := by decide +kernel
theorem dX12_isAt_57 : decode cX12_isAt 57 = .ok (.iload 6, 2) := by decide +kernel
theorem dX12_isAt_59 : decode cX12_isAt 59 = .ok (.iadd, 1) := by decide +kernel
theorem dX12_isAt_60 : decode cX12_isAt 60 = .ok (.iaload, 1) := by decide +kernel
theorem dX12_isAt_61 : decode cX12_isAt 61 = .ok (.ifCond .eq 37, 3) := by decide +kernel
theorem dX12_isAt_64 : decode cX12_isAt 64 = .ok (.aload_n 1, 1) := by decide +kernel
theorem dX12_isAt_65 : decode cX12_isAt 65 = .ok (.iload_n 2, 1) := by decide +kernel
theorem dX12_isAt_66 : decode cX12_isAt 66 = .ok (.iload 6, 2) := by decide +kernel
theorem dX12_isAt_68 : decode cX12_isAt 68 = .ok (.iadd, 1) := by decide +kernel
theorem dX12_isAt_69 : decode cX12_isAt 69 = .ok (.iaload, 1) := by decide +kernel
theorem dX12_isAt_70 : decode cX12_isAt 70 = .ok (.aload_n 0, 1) := by decide +kernel
theorem dX12_isAt_71 : decode cX12_isAt 71 = .ok (.getfield 13, 3) := by decide +kernel
theorem dX12_isAt_74 : decode cX12_isAt 74 = .ok (.iload_n 3, 1) := by decide +kernel
theorem dX12_isAt_75 : decode cX12_isAt 75 = .ok (.iload 6, 2) := by decide +kernel
theorem dX12_isAt_77 : decode cX12_isAt 77 = .ok (.iadd, 1) := by decide +kernel
theorem dX12_isAt_78 : decode cX12_isAt 78 = .ok (.iaload, 1) := by decide +kernel
theorem dX12_isAt_79 : decode cX12_isAt 79 = .ok (.if_icmp .ne 19, 3) := by decide +kernel
theorem dX12_isAt_82 : decode cX12_isAt 82 = .ok (.goto 12, 3) := by decide +kernel
theorem dX12_isAt_85 : decode cX12_isAt 85 = .ok (.aload_n 1, 1) := by decide +kernel
theorem dX12_isAt_86 : decode cX12_isAt 86 = .ok (.iload_n 2, 1) := by decide +kernel
theorem dX12_isAt_87 : decode cX12_isAt 87 = .ok (.iload 6, 2) := by decide +kernel
theorem dX12_isAt_89 : decode cX12_isAt 89 = .ok (.iadd, 1) := by decide +kernel
theorem dX12_isAt_90 : decode cX12_isAt 90 = .ok (.iaload, 1) := by decide +kernel
theorem dX12_isAt_91 : decode cX12_isAt 91 = .ok (.ifCond .ne 7, 3) := by decide +kernel
theorem dX12_isAt_94 : decode cX12_isAt 94 = .ok (.iconst 1, 1) := by decide +kernel
theorem dX12_isAt_95 : decode cX12_isAt 95 = .ok (.goto 4, 3) := by decide +kernel
theorem dX12_isAt_98 : decode cX12_isAt 98 = .ok (.iconst 0, 1) := by decide +kernel
theorem dX12_isAt_99 : decode cX12_isAt 99 = .ok (.istore 5, 2) := by decide +kernel
theorem dX12_isAt_101 : decode cX12_isAt 101 = .ok (.iinc 6 1, 3) := by decide +kernel
theorem dX12_isAt_104 : decode cX12_isAt 104 = .ok (.goto (-85), 3) := by decide +kernel
theorem dX12_isAt_107 : decode cX12_isAt 107 = .ok (.iload 5, 2) := by decide +kernel
theorem dX12_isAt_109 : decode cX12_isAt 109 = .ok (.ireturn, 1) := by decide +kernel
def f_X12_isAt_k33_40 (v2 : Int32) (v3 : Int32) (v4 : Int32) (v5 : Int32) (v6 : Int32) (k19 : Int32 → Int32 → gSt → Option (Int32 × gSt)) (vs0 : Int32) (σ : gSt) : Option (Int32 × gSt) :=
  if v5 = 0 then
    k19 0 (v6 + 1) σ
  else
    if vs0 = 0 then
      (gld σ 33 0 78 (v2 + v6)).bind fun a90 =>
      if a90 = 0 then
        k19 1 (v6 + 1) σ
      else
        k19 0 (v6 + 1) σ
    else
      (gld σ 29 0 900 (v3 + v6)).bind fun a60 =>
      if a60 = 0 then
        k19 0 (v6 + 1) σ
      else
        (gld σ 33 0 78 (v2 + v6)).bind fun a69 =>
        (gld σ 29 0 900 (v3 + v6)).bind fun a78 =>
        if a69 = a78 then
          k19 1 (v6 + 1) σ
        else
          k19 0 (v6 + 1) σ
def f_X12_isAt_k33_19 (v2 : Int32) (v3 : Int32) (v4 : Int32) : Nat → Int32 → Int32 → gSt → Option (Int32 × gSt)
  | 0, _, _, _ => none
  | n + 1, v5, v6, σ =>
    if 6 ≤ v6 then
      gzr v5 σ
    else
      if v4 ≤ (v3 + v6) then
        f_X12_isAt_k33_40 v2 v3 v4 v5 v6 (fun v5 v6 σ => f_X12_isAt_k33_19 v2 v3 v4 n v5 v6 σ) 0 σ
      else
        f_X12_isAt_k33_40 v2 v3 v4 v5 v6 (fun v5 v6 σ => f_X12_isAt_k33_19 v2 v3 v4 n v5 v6 σ) 1 σ
def f_X12_isAt_k33 (v2 : Int32) (v3 : Int32) (v4 : Int32) (σ : gSt) : Option (Int32 × gSt) :=
  if 6 < (v4 - v3) then
    f_X12_isAt_k33_19 v2 v3 v4 gFuel 0 0 σ
  else
    f_X12_isAt_k33_19 v2 v3 v4 gFuel 1 0 σ
theorem f_X12_isAt_k33_40_ok {v2 : Int32} {v3 : Int32} {v4 : Int32} {v5 : Int32} {v6 : Int32} {k19 : Int32 → Int32 → gSt → Option (Int32 × gSt)} {vs0 : Int32} {r : (Int32 × gSt)} (hk19 : ∀ {v5 : Int32} {v6 : Int32} {σ : gSt} {x7 : Option Value}, k19 v5 v6 σ = some r → G l w 0 41 RX12 cX12_isAt 8 (some .boolean) 0 0 (gE (some (.int r.1)) r.2) 19 [some (.ref (w.2.1 28 0)), some (.ref (w.2.1 33 0)), some (.int v2), some (.int v3), some (.int v4), some (.int v5), some (.int v6), x7] [] σ) {σ : gSt} {x7 : Option Value} (h : f_X12_isAt_k33_40 v2 v3 v4 v5 v6 k19 vs0 σ = some r) : G l w 0 41 RX12 cX12_isAt 8 (some .boolean) 0 0 (gE (some (.int r.1)) r.2) 40 [some (.ref (w.2.1 28 0)), some (.ref (w.2.1 33 0)), some (.int v2), some (.int v3), some (.int v4), some (.int v5), some (.int v6), x7] [.int vs0] σ := by
  unfold f_X12_isAt_k33_40 at h
  refine g_istore7 dX12_isAt_40 ?_
  refine g_iload dX12_isAt_42 rfl ?_
  refine g_if_eq 98 dX12_isAt_44 rfl (fun q => ?_) (fun q => ?_)
  · replace h := gif_t q h
    refine g_iconst dX12_isAt_98 kc_0 ?_
    refine g_istore5 dX12_isAt_99 ?_
    refine g_inc6 kc_1 dX12_isAt_101 ?_
    refine g_goto 19 dX12_isAt_104 rfl ?_
    exact hk19 h
  · replace h := gif_f q h
    refine g_iload dX12_isAt_47 rfl ?_
    refine g_if_eq 85 dX12_isAt_49 rfl (fun q => ?_) (fun q => ?_)
    · replace h := gif_t q h
      refine g_aload_n dX12_isAt_85 rfl ?_
      refine g_iload_n dX12_isAt_86 rfl ?_
      refine g_iload dX12_isAt_87 rfl ?_
      refine g_iadd dX12_isAt_89 ?_
      obtain ⟨a90, e90, h⟩ := obind h
      refine g_ldB e90 ok_33 rfl rfl (by decide) dX12_isAt_90 ?_
      refine g_if_ne 98 dX12_isAt_91 rfl (fun q => ?_) (fun q => ?_)
      · replace h := gif_f q h
        refine g_iconst dX12_isAt_98 kc_0 ?_
        refine g_istore5 dX12_isAt_99 ?_
        refine g_inc6 kc_1 dX12_isAt_101 ?_
        refine g_goto 19 dX12_isAt_104 rfl ?_
        exact hk19 h
      · replace h := gif_t q h
        refine g_iconst dX12_isAt_94 kc_1 ?_
        refine g_goto 99 dX12_isAt_95 rfl ?_
        refine g_istore5 dX12_isAt_99 ?_
        refine g_inc6 kc_1 dX12_isAt_101 ?_
        refine g_goto 19 dX12_isAt_104 rfl ?_
        exact hk19 h
    · replace h := gif_f q h
      refine g_aload_n dX12_isAt_52 rfl ?_
      refine gR_X12_13 ok_28 dX12_isAt_53 ?_
      refine g_iload_n dX12_isAt_56 rfl ?_
      refine g_iload dX12_isAt_57 rfl ?_
      refine g_iadd dX12_isAt_59 ?_
      obtain ⟨a60, e60, h⟩ := obind h
      refine g_ldB e60 ok_29 rfl rfl (by decide) dX12_isAt_60 ?_
      refine g_if_eq 98 dX12_isAt_61 rfl (fun q => ?_) (fun q => ?_)
      · replace h := gif_t q h
        refine g_iconst dX12_isAt_98 kc_0 ?_
        refine g_istore5 dX12_isAt_99 ?_
        refine g_inc6 kc_1 dX12_isAt_101 ?_
        refine g_goto 19 dX12_isAt_104 rfl ?_
        exact hk19 h
      · replace h := gif_f q h
        refine g_aload_n dX12_isAt_64 rfl ?_
        refine g_iload_n dX12_isAt_65 rfl ?_
        refine g_iload dX12_isAt_66 rfl ?_
        refine g_iadd dX12_isAt_68 ?_
        obtain ⟨a69, e69, h⟩ := obind h
        refine g_ldB e69 ok_33 rfl rfl (by decide) dX12_isAt_69 ?_
        refine g_aload_n dX12_isAt_70 rfl ?_
        refine gR_X12_13 ok_28 dX12_isAt_71 ?_
        refine g_iload_n dX12_isAt_74 rfl ?_
        refine g_iload dX12_isAt_75 rfl ?_
        refine g_iadd dX12_isAt_77 ?_
        obtain ⟨a78, e78, h⟩ := obind h
        refine g_ldB e78 ok_29 rfl rfl (by decide) dX12_isAt_78 ?_
        refine g_icmp_ne 98 dX12_isAt_79 rfl (fun q => ?_) (fun q => ?_)
        · replace h := gif_f q h
          refine g_iconst dX12_isAt_98 kc_0 ?_
          refine g_istore5 dX12_isAt_99 ?_
          refine g_inc6 kc_1 dX12_isAt_101 ?_
          refine g_goto 19 dX12_isAt_104 rfl ?_
          exact hk19 h
        · replace h := gif_t q h
          refine g_goto 94 dX12_isAt_82 rfl ?_
          refine g_iconst dX12_isAt_94 kc_1 ?_
          refine g_goto 99 dX12_isAt_95 rfl ?_
          refine g_istore5 dX12_isAt_99 ?_
          refine g_inc6 kc_1 dX12_isAt_101 ?_
          refine g_goto 19 dX12_isAt_104 rfl ?_
          exact hk19 h
theorem f_X12_isAt_k33_19_ok {v2 : Int32} {v3 : Int32} {v4 : Int32} {r : (Int32 × gSt)}  : ∀ (n : Nat) {v5 : Int32} {v6 : Int32} {σ : gSt} {x7 : Option Value}, f_X12_isAt_k33_19 v2 v3 v4 n v5 v6 σ = some r → G l w 0 41 RX12 cX12_isAt 8 (some .boolean) 0 0 (gE (some (.int r.1)) r.2) 19 [some (.ref (w.2.1 28 0)), some (.ref (w.2.1 33 0)), some (.int v2), some (.int v3), some (.int v4), some (.int v5), some (.int v6), x7] [] σ := by
  intro n
  induction n with
  | zero => intro v5 v6 σ x7 h; rw [f_X12_isAt_k33_19] at h; cases h
  | succ n ih =>
    intro v5 v6 σ x7 h
    rw [f_X12_isAt_k33_19] at h
    refine g_iload dX12_isAt_19 rfl ?_
    refine g_bipush dX12_isAt_21 kb_6 ?_
    refine g_icmp_ge 107 dX12_isAt_23 rfl (fun q => ?_) (fun q => ?_)
    · replace h := gif_t q h
      refine g_iload dX12_isAt_107 rfl ?_
      exact g_zretG h dX12_isAt_109 rfl
    · replace h := gif_f q h
      refine g_iload_n dX12_isAt_26 rfl ?_
      refine g_iload dX12_isAt_27 rfl ?_
      refine g_iadd dX12_isAt_29 ?_
      refine g_iload dX12_isAt_30 rfl ?_
      refine g_icmp_ge 39 dX12_isAt_32 rfl (fun q => ?_) (fun q => ?_)
      · replace h := gif_t q h
        refine g_iconst dX12_isAt_39 kc_0 ?_
        exact f_X12_isAt_k33_40_ok (fun h => ih h) h
      · replace h := gif_f q h
        refine g_iconst dX12_isAt_35 kc_1 ?_
        refine g_goto 40 dX12_isAt_36 rfl ?_
        exact f_X12_isAt_k33_40_ok (fun h => ih h) h
theorem f_X12_isAt_k33_ok {v2 : Int32} {v3 : Int32} {v4 : Int32}  {σ : gSt} {r : (Int32 × gSt)} (h : f_X12_isAt_k33 v2 v3 v4 σ = some r) : Mt l w 0 41 yX12_isAt cX12_isAt 8 (some .boolean) 0 0 [.ref (w.2.1 28 0), .ref (w.2.1 33 0), .int v2, .int v3, .int v4] σ (gE (some (.int r.1)) r.2) := by
  unfold f_X12_isAt_k33 at h
  refine g_start pn_X12 rfl rfl (Nat.le_of_ble_eq_true rfl) ?_
  show G l w 0 41 RX12 cX12_isAt 8 (some .boolean) 0 0 (gE (some (.int r.1)) r.2) 0 [some (.ref (w.2.1 28 0)), some (.ref (w.2.1 33 0)), some (.int v2), some (.int v3), some (.int v4), none, none, none] [] σ
  refine g_iload dX12_isAt_0 rfl ?_
  refine g_iload_n dX12_isAt_2 rfl ?_
  refine g_isub dX12_isAt_3 ?_
  refine g_bipush dX12_isAt_4 kb_6 ?_
  refine g_icmp_gt 13 dX12_isAt_6 rfl (fun q => ?_) (fun q => ?_)
  · replace h := gif_t q h
    refine g_iconst dX12_isAt_13 kc_0 ?_
    refine g_istore5 dX12_isAt_14 ?_
    refine g_iconst dX12_isAt_16 kc_0 ?_
    refine g_istore6 dX12_isAt_17 ?_
    exact f_X12_isAt_k33_19_ok gFuel h
  · replace h := gif_f q h
    refine g_iconst dX12_isAt_9 kc_1 ?_
    refine g_goto 14 dX12_isAt_10 rfl ?_
    refine g_istore5 dX12_isAt_14 ?_
    refine g_iconst dX12_isAt_16 kc_0 ?_
    refine g_istore6 dX12_isAt_17 ?_
    exact f_X12_isAt_k33_19_ok gFuel h
theorem dX12_namedHere_0 : decode cX12_namedHere 0 = .ok (.iconst 0, 1) := by decide +kernel
theorem dX12_namedHere_1 : decode cX12_namedHere 1 = .ok (.istore_n 3, 1) := by decide +kernel
theorem dX12_namedHere_2 : decode cX12_namedHere 2 = .ok (.iload_n 3, 1) := by decide +kernel
theorem dX12_namedHere_3 : decode cX12_namedHere 3 = .ok (.iload_n 2, 1) := by decide +kernel
theorem dX12_namedHere_4 : decode cX12_namedHere 4 = .ok (.if_icmp .ge 36, 3) := by decide +kernel
theorem dX12_namedHere_7 : decode cX12_namedHere 7 = .ok (.aload_n 0, 1) := by decide +kernel
theorem dX12_namedHere_8 : decode cX12_namedHere 8 = .ok (.aload_n 0, 1) := by decide +kernel
theorem dX12_namedHere_9 : decode cX12_namedHere 9 = .ok (.getfield 26, 3) := by decide +kernel
theorem dX12_namedHere_12 : decode cX12_namedHere 12 = .ok (.bipush 6, 2) := by decide +kernel
theorem dX12_namedHere_14 : decode cX12_namedHere 14 = .ok (.iload_n 1, 1) := by decide +kernel
theorem dX12_namedHere_15 : decode cX12_namedHere 15 = .ok (.iload_n 3, 1) := by decide +kernel
theorem dX12_namedHere_16 : decode cX12_namedHere 16 = .ok (.iadd, 1) := by decide +kernel
theorem dX12_namedHere_17 : decode cX12_namedHere 17 = .ok (.imul, 1) := by decide +kernel
theorem dX12_namedHere_18 : decode cX12_namedHere 18 = .ok (.aload_n 0, 1) := by decide +kernel
theorem dX12_namedHere_19 : decode cX12_namedHere 19 = .ok (.getfield 73, 3) := by decide +kernel
theorem dX12_namedHere_22 : decode cX12_namedHere 22 = .ok (.aload_n 0, 1) := by decide +kernel
theorem dX12_namedHere_23 : decode cX12_namedHere 23 = .ok (.getfield 66, 3) := by decide +kernel
theorem dX12_namedHere_26 : decode cX12_namedHere 26 = .ok (.invokevirtual 114, 3) := by decide +kernel
theorem dX12_namedHere_29 : decode cX12_namedHere 29 = .ok (.ifCond .eq 5, 3) := by decide +kernel
theorem dX12_namedHere_32 : decode cX12_namedHere 32 = .ok (.iload_n 3, 1) := by decide +kernel
theorem dX12_namedHere_33 : decode cX12_namedHere 33 = .ok (.ireturn, 1) := by decide +kernel
theorem dX12_namedHere_34 : decode cX12_namedHere 34 = .ok (.iinc 3 1, 3) := by decide +kernel
theorem dX12_namedHere_37 : decode cX12_namedHere 37 = .ok (.goto (-35), 3) := by decide +kernel
theorem dX12_namedHere_40 : decode cX12_namedHere 40 = .ok (.iconst (-1), 1) := by decide +kernel
theorem dX12_namedHere_41 : decode cX12_namedHere 41 = .ok (.ireturn, 1) := by decide +kernel
def f_X12_namedHere_2 (v1 : Int32) (v2 : Int32) : Nat → Int32 → gSt → Option (Int32 × gSt)
  | 0, _, _ => none
  | n + 1, v3, σ =>
    if v2 ≤ v3 then
      some ((-1), σ)
    else
      (f_X12_isAt_k33 (6 * (v1 + v3)) (σ 28 0 12) (σ 28 0 13) σ).bind fun p26 =>
      if p26.1 = 0 then
        f_X12_namedHere_2 v1 v2 n (v3 + 1) p26.2
      else
        some (v3, p26.2)
def f_X12_namedHere (v1 : Int32) (v2 : Int32) (σ : gSt) : Option (Int32 × gSt) :=
  f_X12_namedHere_2 v1 v2 gFuel 0 σ
theorem f_X12_namedHere_2_ok {v1 : Int32} {v2 : Int32} {r : (Int32 × gSt)}  : ∀ (n : Nat) {v3 : Int32} {σ : gSt} , f_X12_namedHere_2 v1 v2 n v3 σ = some r → G l w 0 41 RX12 cX12_namedHere 4 (some .int) 1 27 (gE (some (.int r.1)) r.2) 2 [some (.ref (w.2.1 28 0)), some (.int v1), some (.int v2), some (.int v3)] [] σ := by
  intro n
  induction n with
  | zero => intro v3 σ h; rw [f_X12_namedHere_2] at h; cases h
  | succ n ih =>
    intro v3 σ h
    rw [f_X12_namedHere_2] at h
    refine g_iload_n dX12_namedHere_2 rfl ?_
    refine g_iload_n dX12_namedHere_3 rfl ?_
    refine g_icmp_ge 40 dX12_namedHere_4 rfl (fun q => ?_) (fun q => ?_)
    · replace h := gif_t q h
      refine g_iconst dX12_namedHere_40 kc_m1 ?_
      cases h
      exact g_iret dX12_namedHere_41 rfl ⟨rfl, rfl⟩
    · replace h := gif_f q h
      refine g_aload_n dX12_namedHere_7 rfl ?_
      refine g_aload_n dX12_namedHere_8 rfl ?_
      refine gR_X12_26 ok_28 dX12_namedHere_9 ?_
      refine g_bipush dX12_namedHere_12 kb_6 ?_
      refine g_iload_n dX12_namedHere_14 rfl ?_
      refine g_iload_n dX12_namedHere_15 rfl ?_
      refine g_iadd dX12_namedHere_16 ?_
      refine g_imul dX12_namedHere_17 ?_
      refine g_aload_n dX12_namedHere_18 rfl ?_
      refine gI_X12_73 ok_28 dX12_namedHere_19 ?_
      refine g_aload_n dX12_namedHere_22 rfl ?_
      refine gI_X12_66 ok_28 dX12_namedHere_23 ?_
      obtain ⟨p26, e26, h⟩ := obind h
      refine g_vP4 mv_X12_114 dX12_namedHere_26 ok_28 ⟨by decide, by decide⟩ (Nat.le_of_ble_eq_true rfl) (f_X12_isAt_k33_ok e26) ?_
      refine g_if_eq 34 dX12_namedHere_29 rfl (fun q => ?_) (fun q => ?_)
      · replace h := gif_t q h
        refine g_inc3 kc_1 dX12_namedHere_34 ?_
        refine g_goto 2 dX12_namedHere_37 rfl ?_
        exact ih h
      · replace h := gif_f q h
        refine g_iload_n dX12_namedHere_32 rfl ?_
        cases h
        exact g_iret dX12_namedHere_33 rfl ⟨rfl, rfl⟩
theorem f_X12_namedHere_ok {v1 : Int32} {v2 : Int32}  {σ : gSt} {r : (Int32 × gSt)} (h : f_X12_namedHere v1 v2 σ = some r) : Mt l w 0 41 yX12_namedHere cX12_namedHere 4 (some .int) 1 27 [.ref (w.2.1 28 0), .int v1, .int v2] σ (gE (some (.int r.1)) r.2) := by
  unfold f_X12_namedHere at h
  refine g_start pn_X12 rfl rfl (Nat.le_of_ble_eq_true rfl) ?_
  show G l w 0 41 RX12 cX12_namedHere 4 (some .int) 1 27 (gE (some (.int r.1)) r.2) 0 [some (.ref (w.2.1 28 0)), some (.int v1), some (.int v2), none] [] σ
  refine g_iconst dX12_namedHere_0 kc_0 ?_
  refine g_istore3 dX12_namedHere_1 ?_
  exact f_X12_namedHere_2_ok gFuel h
theorem dX12_takes_0 : decode cX12_takes 0 = .ok (.aload_n 0, 1) := by decide +kernel
theorem dX12_takes_1 : decode cX12_takes 1 = .ok (.getfield 76, 3) := by decide +kernel
theorem dX12_takes_4 : decode cX12_takes 4 = .ok (.iconst 3, 1) := by decide +kernel
theorem dX12_takes_5 : decode cX12_takes 5 = .ok (.if_icmp .eq 9, 3) := by decide +kernel
theorem dX12_takes_8 : decode cX12_takes 8 = .ok (.aload_n 0, 1) := by decide +kernel
theorem dX12_takes_9 : decode cX12_takes 9 = .ok (.iconst 1, 1) := by decide +kernel
theorem dX12_takes_10 : decode cX12_takes 10 = .ok (.invokevirtual 125, 3) := by decide +kernel
theorem dX12_takes_13 : decode cX12_takes 13 = .ok (.ireturn, 1) := by decide +kernel
theorem dX12_takes_14 : decode cX12_takes 14 = .ok (.aload_n 0, 1) := by decide +kernel
theorem dX12_takes_15 : decode cX12_takes 15 = .ok (.getfield 83, 3) := by decide +kernel
theorem dX12_takes_18 : decode cX12_takes 18 = .ok (.iload_n 2, 1) := by decide +kernel
theorem dX12_takes_19 : decode cX12_takes 19 = .ok (.iload_n 3, 1) := by decide +kernel
theorem dX12_takes_20 : decode cX12_takes 20 = .ok (.invokestatic 79, 3) := by decide +kernel
theorem dX12_takes_23 : decode cX12_takes 23 = .ok (.ifCond .ne 9, 3) := by decide +kernel
theorem dX12_takes_26 : decode cX12_takes 26 = .ok (.aload_n 0, 1) := by decide +kernel
theorem dX12_takes_27 : decode cX12_takes 27 = .ok (.iconst 2, 1) := by decide +kernel
theorem dX12_takes_28 : decode cX12_takes 28 = .ok (.invokevirtual 125, 3) := by decide +kernel
theorem dX12_takes_31 : decode cX12_takes 31 = .ok (.ireturn, 1) := by decide +kernel
theorem dX12_takes_32 : decode cX12_takes 32 = .ok (.aload_n 0, 1) := by decide +kernel
theorem dX12_takes_33 : decode cX12_takes 33 = .ok (.getfield 20, 3) := by decide +kernel
theorem dX12_takes_36 : decode cX12_takes 36 = .ok (.iload_n 1, 1) := by decide +kernel
theorem dX12_takes_37 : decode cX12_takes 37 = .ok (.aload_n 0, 1) := by decide +kernel
theorem dX12_takes_38 : decode cX12_takes 38 = .ok (.getfield 83, 3) := by decide +kernel
theorem dX12_takes_41 : decode cX12_takes 41 = .ok (.iastore, 1) := by decide +kernel
theorem dX12_takes_42 : decode cX12_takes 42 = .ok (.aload_n 0, 1) := by decide +kernel
theorem dX12_takes_43 : decode cX12_takes 43 = .ok (.invokevirtual 118, 3) := by decide +kernel
theorem dX12_takes_46 : decode cX12_takes 46 = .ok (.iconst 1, 1) := by decide +kernel
theorem dX12_takes_47 : decode cX12_takes 47 = .ok (.ireturn, 1) := by decide +kernel
def f_X12_takes (v1 : Int32) (v2 : Int32) (v3 : Int32) (σ : gSt) : Option (Int32 × gSt) :=
  if (σ 28 0 14) = 3 then
    (f_X12_in (σ 28 0 15) v2 v3 σ).bind fun p20 =>
    if p20.1 = 0 then
      (f_X12_errs 2 p20.2).bind fun p28 =>
      gzr p28.1 p28.2
    else
      (gst p20.2 31 0 397 v1 (p20.2 28 0 15)).bind fun z41 =>
      (f_X12_goesOn z41).bind fun z43 =>
      some (1, z43)
  else
    (f_X12_errs 1 σ).bind fun p10 =>
    gzr p10.1 p10.2
theorem f_X12_takes_ok {v1 : Int32} {v2 : Int32} {v3 : Int32}  {σ : gSt} {r : (Int32 × gSt)} (h : f_X12_takes v1 v2 v3 σ = some r) : Mt l w 0 41 yX12_takes cX12_takes 4 (some .boolean) 2 43 [.ref (w.2.1 28 0), .int v1, .int v2, .int v3] σ (gE (some (.int r.1)) r.2) := by
  unfold f_X12_takes at h
  refine g_start pn_X12 rfl rfl (Nat.le_of_ble_eq_true rfl) ?_
  show G l w 0 41 RX12 cX12_takes 4 (some .boolean) 2 43 (gE (some (.int r.1)) r.2) 0 [some (.ref (w.2.1 28 0)), some (.int v1), some (.int v2), some (.int v3)] [] σ
  refine g_aload_n dX12_takes_0 rfl ?_
  refine gI_X12_76 ok_28 dX12_takes_1 ?_
  refine g_iconst dX12_takes_4 kc_3 ?_
  refine g_icmp_eq 14 dX12_takes_5 rfl (fun q => ?_) (fun q => ?_)
  · replace h := gif_t q h
    refine g_aload_n dX12_takes_14 rfl ?_
    refine gI_X12_83 ok_28 dX12_takes_15 ?_
    refine g_iload_n dX12_takes_18 rfl ?_
    refine g_iload_n dX12_takes_19 rfl ?_
    obtain ⟨p20, e20, h⟩ := obind h
    refine g_sP3 ms_X12_79 dX12_takes_20 ⟨by decide, by decide⟩ (Nat.le_of_ble_eq_true rfl) (f_X12_in_ok e20) ?_
    refine g_if_ne 32 dX12_takes_23 rfl (fun q => ?_) (fun q => ?_)
    · replace h := gif_f q h
      refine g_aload_n dX12_takes_32 rfl ?_
      refine gR_X12_20 ok_28 dX12_takes_33 ?_
      refine g_iload_n dX12_takes_36 rfl ?_
      refine g_aload_n dX12_takes_37 rfl ?_
      refine gI_X12_83 ok_28 dX12_takes_38 ?_
      obtain ⟨z41, e41, h⟩ := obind h
      refine g_stB e41 ok_31 rfl rfl (by decide) dX12_takes_41 ?_
      refine g_aload_n dX12_takes_42 rfl ?_
      obtain ⟨z43, e43, h⟩ := obind h
      refine g_vU0 mv_X12_118 dX12_takes_43 ok_28 ⟨by decide, by decide⟩ (Nat.le_of_ble_eq_true rfl) (f_X12_goesOn_ok e43) ?_
      refine g_iconst dX12_takes_46 kc_1 ?_
      cases h
      exact g_zret1 dX12_takes_47 rfl
    · replace h := gif_t q h
      refine g_aload_n dX12_takes_26 rfl ?_
      refine g_iconst dX12_takes_27 kc_2 ?_
      obtain ⟨p28, e28, h⟩ := obind h
      refine g_vP1 mv_X12_125 dX12_takes_28 ok_28 ⟨by decide, by decide⟩ (Nat.le_of_ble_eq_true rfl) (f_X12_errs_ok e28) ?_
      exact g_zretG h dX12_takes_31 rfl
  · replace h := gif_f q h
    refine g_aload_n dX12_takes_8 rfl ?_
    refine g_iconst dX12_takes_9 kc_1 ?_
    obtain ⟨p10, e10, h⟩ := obind h
    refine g_vP1 mv_X12_125 dX12_takes_10 ok_28 ⟨by decide, by decide⟩ (Nat.le_of_ble_eq_true rfl) (f_X12_errs_ok e10) ?_
    exact g_zretG h dX12_takes_13 rfl
theorem dX12_readPunch_0 : decode cX12_readPunch 0 = .ok (.aload_n 0, 1) := by decide +kernel
theorem dX12_readPunch_1 : decode cX12_readPunch 1 = .ok (.getfield 20, 3) := by decide +kernel
theorem dX12_readPunch_4 : decode cX12_readPunch 4 = .ok (.bipush 67, 2) := by decide +kernel
theorem dX12_readPunch_6 : decode cX12_readPunch 6 = .ok (.iload_n 1, 1) := by decide +kernel
theorem dX12_readPunch_7 : decode cX12_readPunch 7 = .ok (.iadd, 1) := by decide +kernel
theorem dX12_readPunch_8 : decode cX12_readPunch 8 = .ok (.iaload, 1) := by decide +kernel
theorem dX12_readPunch_9 : decode cX12_readPunch 9 = .ok (.istore_n 2, 1) := by decide +kernel
theorem dX12_readPunch_10 : decode cX12_readPunch 10 = .ok (.aload_n 0, 1) := by decide +kernel
theorem dX12_readPunch_11 : decode cX12_readPunch 11 = .ok (.getfield 76, 3) := by decide +kernel
theorem dX12_readPunch_14 : decode cX12_readPunch 14 = .ok (.iconst 3, 1) := by decide +kernel
theorem dX12_readPunch_15 : decode cX12_readPunch 15 = .ok (.if_icmp .eq 9, 3) := by decide +kernel
theorem dX12_readPunch_18 : decode cX12_readPunch 18 = .ok (.aload_n 0, 1) := by decide +kernel
theorem dX12_readPunch_19 : decode cX12_readPunch 19 = .ok (.iconst 1, 1) := by decide +kernel
theorem dX12_readPunch_20 : decode cX12_readPunch 20 = .ok (.invokevirtual 125, 3) := by decide +kernel
theorem dX12_readPunch_23 : decode cX12_readPunch 23 = .ok (.ireturn, 1) := by decide +kernel
theorem dX12_readPunch_24 : decode cX12_readPunch 24 = .ok (.aload_n 0, 1) := by decide +kernel
theorem dX12_readPunch_25 : decode cX12_readPunch 25 = .ok (.getfield 83, 3) := by decide +kernel
theorem dX12_readPunch_28 : decode cX12_readPunch 28 = .ok (.iconst 1, 1) := by decide +kernel
theorem dX12_readPunch_29 : decode cX12_readPunch 29 = .ok (.bipush 99, 2) := by decide +kernel
theorem dX12_readPunch_31 : decode cX12_readPunch 31 = .ok (.invokestatic 79, 3) := by decide +kernel
theorem dX12_readPunch_34 : decode cX12_readPunch 34 = .ok (.ifCond .ne 9, 3) := by decide +kernel
theorem dX12_readPunch_37 : decode cX12_readPunch 37 = .ok (.aload_n 0, 1) := by decide +kernel
theorem dX12_readPunch_38 : decode cX12_readPunch 38 = .ok (.iconst 2, 1) := by decide +kernel
theorem dX12_readPunch_39 : decode cX12_readPunch 39 = .ok (.invokevirtual 125, 3) := by decide +kernel
theorem dX12_readPunch_42 : decode cX12_readPunch 42 = .ok (.ireturn, 1) := by decide +kernel
theorem dX12_readPunch_43 : decode cX12_readPunch 43 = .ok (.iload_n 2, 1) := by decide +kernel
theorem dX12_readPunch_44 : decode cX12_readPunch 44 = .ok (.bipush 16, 2) := by decide +kernel
theorem dX12_readPunch_46 : decode cX12_readPunch 46 = .ok (.if_icmp .ne 9, 3) := by decide +kernel
theorem dX12_readPunch_49 : decode cX12_readPunch 49 = .ok (.aload_n 0, 1) := by decide +kernel
theorem dX12_readPunch_50 : decode cX12_readPunch 50 = .ok (.iconst 4, 1) := by decide +kernel
theorem dX12_readPunch_51 : decode cX12_readPunch 51 = .ok (.invokevirtual 125, 3) := by decide +kernel
theorem dX12_readPunch_54 : decode cX12_readPunch 54 = .ok (.ireturn, 1) := by decide +kernel
theorem dX12_readPunch_55 : decode cX12_readPunch 55 = .ok (.bipush 16, 2) := by decide +kernel
theorem dX12_readPunch_57 : decode cX12_readPunch 57 = .ok (.iload_n 1, 1) := by decide +kernel
theorem dX12_readPunch_58 : decode cX12_readPunch 58 = .ok (.imul, 1) := by decide +kernel
theorem dX12_readPunch_59 : decode cX12_readPunch 59 = .ok (.iload_n 2, 1) := by decide +kernel
theorem dX12_readPunch_60 : decode cX12_readPunch 60 = .ok (.iadd, 1) := by decide +kernel
theorem dX12_readPunch_61 : decode cX12_readPunch 61 = .ok (.istore_n 3, 1) := by decide +kernel
theorem dX12_readPunch_62 : decode cX12_readPunch 62 = .ok (.iload_n 2, 1) := by decide +kernel
theorem dX12_readPunch_63 : decode cX12_readPunch 63 = .ok (.ifCond .ne 15, 3) := by decide +kernel
theorem dX12_readPunch_66 : decode cX12_readPunch 66 = .ok (.aload_n 0, 1) := by decide +kernel
theorem dX12_readPunch_67 : decode cX12_readPunch 67 = .ok (.getfield 20, 3) := by decide +kernel
theorem dX12_readPunch_70 : decode cX12_readPunch 70 = .ok (.bipush 47, 2) := by decide +kernel
theorem dX12_readPunch_72 : decode cX12_readPunch 72 = .ok (.iload_n 1, 1) := by decide +kernel
theorem dX12_readPunch_73 : decode cX12_readPunch 73 = .ok (.iadd, 1) := by decide +kernel
theorem dX12_readPunch_74 : decode cX12_readPunch 74 = .ok (.iaload, 1) := by decide +kernel
theorem dX12_readPunch_75 : decode cX12_readPunch 75 = .ok (.goto 15, 3) := by decide +kernel
theorem dX12_readPunch_78 : decode cX12_readPunch 78 = .ok (.aload_n 0, 1) := by decide +kernel
theorem dX12_readPunch_79 : decode cX12_readPunch 79 = .ok (.getfield 20, 3) := by decide +kernel
theorem dX12_readPunch_82 : decode cX12_readPunch 82 = .ok (.sipush 237, 3) := by decide +kernel
theorem dX12_readPunch_85 : decode cX12_readPunch 85 = .ok (.iload_n 3, 1) := by decide +kernel
theorem dX12_readPunch_86 : decode cX12_readPunch 86 = .ok (.iadd, 1) := by decide +kernel
theorem dX12_readPunch_87 : decode cX12_readPunch 87 = .ok (.iconst 1, 1) := by decide +kernel
theorem dX12_readPunch_88 : decode cX12_readPunch 88 = .ok (.isub, 1) := by decide +kernel
theorem dX12_readPunch_89 : decode cX12_readPunch 89 = .ok (.iaload, 1) := by decide +kernel
theorem dX12_readPunch_90 : decode cX12_readPunch 90 = .ok (.istore 4, 2) := by decide +kernel
theorem dX12_readPunch_92 : decode cX12_readPunch 92 = .ok (.aload_n 0, 1) := by decide +kernel
theorem dX12_readPunch_93 : decode cX12_readPunch 93 = .ok (.bipush 77, 2) := by decide +kernel
theorem dX12_readPunch_95 : decode cX12_readPunch 95 = .ok (.iload_n 3, 1) := by decide +kernel
theorem dX12_readPunch_96 : decode cX12_readPunch 96 = .ok (.iadd, 1) := by decide +kernel
theorem dX12_readPunch_97 : decode cX12_readPunch 97 = .ok (.iconst 1, 1) := by decide +kernel
theorem dX12_readPunch_98 : decode cX12_readPunch 98 = .ok (.bipush 99, 2) := by decide +kernel
theorem dX12_readPunch_100 : decode cX12_readPunch 100 = .ok (.invokevirtual 136, 3) := by decide +kernel
theorem dX12_readPunch_103 : decode cX12_readPunch 103 = .ok (.ifCond .eq 26, 3) := by decide +kernel
theorem dX12_readPunch_106 : decode cX12_readPunch 106 = .ok (.aload_n 0, 1) := by decide +kernel
theorem dX12_readPunch_107 : decode cX12_readPunch 107 = .ok (.sipush 237, 3) := by decide +kernel
theorem dX12_readPunch_110 : decode cX12_readPunch 110 = .ok (.iload_n 3, 1) := by decide +kernel
theorem dX12_readPunch_111 : decode cX12_readPunch 111 = .ok (.iadd, 1) := by decide +kernel
theorem dX12_readPunch_112 : decode cX12_readPunch 112 = .ok (.iload 4, 2) := by decide +kernel
theorem dX12_readPunch_114 : decode cX12_readPunch 114 = .ok (.aload_n 0, 1) := by decide +kernel
theorem dX12_readPunch_115 : decode cX12_readPunch 115 = .ok (.getfield 20, 3) := by decide +kernel
theorem dX12_readPunch_118 : decode cX12_readPunch 118 = .ok (.bipush 57, 2) := by decide +kernel
theorem dX12_readPunch_120 : decode cX12_readPunch 120 = .ok (.iload_n 1, 1) := by decide +kernel
theorem dX12_readPunch_121 : decode cX12_readPunch 121 = .ok (.iadd, 1) := by decide +kernel
theorem dX12_readPunch_122 : decode cX12_readPunch 122 = .ok (.iaload, 1) := by decide +kernel
theorem dX12_readPunch_123 : decode cX12_readPunch 123 = .ok (.invokevirtual 136, 3) := by decide +kernel
theorem dX12_readPunch_126 : decode cX12_readPunch 126 = .ok (.ifCond .ne 5, 3) := by decide +kernel
theorem dX12_readPunch_129 : decode cX12_readPunch 129 = .ok (.iconst 0, 1) := by decide +kernel
theorem dX12_readPunch_130 : decode cX12_readPunch 130 = .ok (.ireturn, 1) := by decide +kernel
theorem dX12_readPunch_131 : decode cX12_readPunch 131 = .ok (.aload_n 0, 1) := by decide +kernel
theorem dX12_readPunch_132 : decode cX12_readPunch 132 = .ok (.getfield 20, 3) := by decide +kernel
theorem dX12_readPunch_135 : decode cX12_readPunch 135 = .ok (.bipush 67, 2) := by decide +kernel
theorem dX12_readPunch_137 : decode cX12_readPunch 137 = .ok (.iload_n 1, 1) := by decide +kernel
theorem dX12_readPunch_138 : decode cX12_readPunch 138 = .ok (.iadd, 1) := by decide +kernel
theorem dX12_readPunch_139 : decode cX12_readPunch 139 = .ok (.dup2, 1) := by decide +kernel
theorem dX12_readPunch_140 : decode cX12_readPunch 140 = .ok (.iaload, 1) := by decide +kernel
theorem dX12_readPunch_141 : decode cX12_readPunch 141 = .ok (.iconst 1, 1) := by decide +kernel
theorem dX12_readPunch_142 : decode cX12_readPunch 142 = .ok (.iadd, 1) := by decide +kernel
theorem dX12_readPunch_143 : decode cX12_readPunch 143 = .ok (.iastore, 1) := by decide +kernel
theorem dX12_readPunch_144 : decode cX12_readPunch 144 = .ok (.iconst 1, 1) := by decide +kernel
theorem dX12_readPunch_145 : decode cX12_readPunch 145 = .ok (.ireturn, 1) := by decide +kernel
def f_X12_readPunch_90 (v1 : Int32) (v3 : Int32) (vs0 : Int32) (σ : gSt) : Option (Int32 × gSt) :=
  (f_X12_takes (77 + v3) 1 99 σ).bind fun p100 =>
  if p100.1 = 0 then
    some (0, p100.2)
  else
    (gld p100.2 31 0 397 (57 + v1)).bind fun a122 =>
    (f_X12_takes (237 + v3) vs0 a122 p100.2).bind fun p123 =>
    if p123.1 = 0 then
      some (0, p123.2)
    else
      (gld p123.2 31 0 397 (67 + v1)).bind fun a140 =>
      (gst p123.2 31 0 397 (67 + v1) (a140 + 1)).bind fun z143 =>
      some (1, z143)
def f_X12_readPunch (v1 : Int32) (σ : gSt) : Option (Int32 × gSt) :=
  (gld σ 31 0 397 (67 + v1)).bind fun a8 =>
  if (σ 28 0 14) = 3 then
    (f_X12_in (σ 28 0 15) 1 99 σ).bind fun p31 =>
    if p31.1 = 0 then
      (f_X12_errs 2 p31.2).bind fun p39 =>
      gzr p39.1 p39.2
    else
      if a8 = 16 then
        (f_X12_errs 4 p31.2).bind fun p51 =>
        gzr p51.1 p51.2
      else
        if a8 = 0 then
          (gld p31.2 31 0 397 (47 + v1)).bind fun a74 =>
          f_X12_readPunch_90 v1 ((16 * v1) + a8) a74 p31.2
        else
          (gld p31.2 31 0 397 ((237 + ((16 * v1) + a8)) - 1)).bind fun a89 =>
          f_X12_readPunch_90 v1 ((16 * v1) + a8) a89 p31.2
  else
    (f_X12_errs 1 σ).bind fun p20 =>
    gzr p20.1 p20.2
theorem f_X12_readPunch_90_ok {v1 : Int32} {v3 : Int32} {vs0 : Int32} {r : (Int32 × gSt)}  {σ : gSt} {x2 x4 : Option Value} (h : f_X12_readPunch_90 v1 v3 vs0 σ = some r) : G l w 0 41 RX12 cX12_readPunch 5 (some .boolean) 3 66 (gE (some (.int r.1)) r.2) 90 [some (.ref (w.2.1 28 0)), some (.int v1), x2, some (.int v3), x4] [.int vs0] σ := by
  unfold f_X12_readPunch_90 at h
  refine g_istore4 dX12_readPunch_90 ?_
  refine g_aload_n dX12_readPunch_92 rfl ?_
  refine g_bipush dX12_readPunch_93 kb_77 ?_
  refine g_iload_n dX12_readPunch_95 rfl ?_
  refine g_iadd dX12_readPunch_96 ?_
  refine g_iconst dX12_readPunch_97 kc_1 ?_
  refine g_bipush dX12_readPunch_98 kb_99 ?_
  obtain ⟨p100, e100, h⟩ := obind h
  refine g_vP3 mv_X12_136 dX12_readPunch_100 ok_28 ⟨by decide, by decide⟩ (Nat.le_of_ble_eq_true rfl) (f_X12_takes_ok e100) ?_
  refine g_if_eq 129 dX12_readPunch_103 rfl (fun q => ?_) (fun q => ?_)
  · replace h := gif_t q h
    refine g_iconst dX12_readPunch_129 kc_0 ?_
    cases h
    exact g_zret0 dX12_readPunch_130 rfl
  · replace h := gif_f q h
    refine g_aload_n dX12_readPunch_106 rfl ?_
    refine g_sipush dX12_readPunch_107 ks_237 ?_
    refine g_iload_n dX12_readPunch_110 rfl ?_
    refine g_iadd dX12_readPunch_111 ?_
    refine g_iload dX12_readPunch_112 rfl ?_
    refine g_aload_n dX12_readPunch_114 rfl ?_
    refine gR_X12_20 ok_28 dX12_readPunch_115 ?_
    refine g_bipush dX12_readPunch_118 kb_57 ?_
    refine g_iload_n dX12_readPunch_120 rfl ?_
    refine g_iadd dX12_readPunch_121 ?_
    obtain ⟨a122, e122, h⟩ := obind h
    refine g_ldB e122 ok_31 rfl rfl (by decide) dX12_readPunch_122 ?_
    obtain ⟨p123, e123, h⟩ := obind h
    refine g_vP3 mv_X12_136 dX12_readPunch_123 ok_28 ⟨by decide, by decide⟩ (Nat.le_of_ble_eq_true rfl) (f_X12_takes_ok e123) ?_
    refine g_if_ne 131 dX12_readPunch_126 rfl (fun q => ?_) (fun q => ?_)
    · replace h := gif_f q h
      refine g_aload_n dX12_readPunch_131 rfl ?_
      refine gR_X12_20 ok_28 dX12_readPunch_132 ?_
      refine g_bipush dX12_readPunch_135 kb_67 ?_
      refine g_iload_n dX12_readPunch_137 rfl ?_
      refine g_iadd dX12_readPunch_138 ?_
      refine g_dup2 dX12_readPunch_139 rfl rfl ?_
      obtain ⟨a140, e140, h⟩ := obind h
      refine g_ldB e140 ok_31 rfl rfl (by decide) dX12_readPunch_140 ?_
      refine g_iconst dX12_readPunch_141 kc_1 ?_
      refine g_iadd dX12_readPunch_142 ?_
      obtain ⟨z143, e143, h⟩ := obind h
      refine g_stB e143 ok_31 rfl rfl (by decide) dX12_readPunch_143 ?_
      refine g_iconst dX12_readPunch_144 kc_1 ?_
      cases h
      exact g_zret1 dX12_readPunch_145 rfl
    · replace h := gif_t q h
      refine g_iconst dX12_readPunch_129 kc_0 ?_
      cases h
      exact g_zret0 dX12_readPunch_130 rfl
theorem f_X12_readPunch_ok {v1 : Int32}  {σ : gSt} {r : (Int32 × gSt)} (h : f_X12_readPunch v1 σ = some r) : Mt l w 0 41 yX12_readPunch cX12_readPunch 5 (some .boolean) 3 66 [.ref (w.2.1 28 0), .int v1] σ (gE (some (.int r.1)) r.2) := by
  unfold f_X12_readPunch at h
  refine g_start pn_X12 rfl rfl (Nat.le_of_ble_eq_true rfl) ?_
  show G l w 0 41 RX12 cX12_readPunch 5 (some .boolean) 3 66 (gE (some (.int r.1)) r.2) 0 [some (.ref (w.2.1 28 0)), some (.int v1), none, none, none] [] σ
  refine g_aload_n dX12_readPunch_0 rfl ?_
  refine gR_X12_20 ok_28 dX12_readPunch_1 ?_
  refine g_bipush dX12_readPunch_4 kb_67 ?_
  refine g_iload_n dX12_readPunch_6 rfl ?_
  refine g_iadd dX12_readPunch_7 ?_
  obtain ⟨a8, e8, h⟩ := obind h
  refine g_ldB e8 ok_31 rfl rfl (by decide) dX12_readPunch_8 ?_
  refine g_istore2 dX12_readPunch_9 ?_
  refine g_aload_n dX12_readPunch_10 rfl ?_
  refine gI_X12_76 ok_28 dX12_readPunch_11 ?_
  refine g_iconst dX12_readPunch_14 kc_3 ?_
  refine g_icmp_eq 24 dX12_readPunch_15 rfl (fun q => ?_) (fun q => ?_)
  · replace h := gif_t q h
    refine g_aload_n dX12_readPunch_24 rfl ?_
    refine gI_X12_83 ok_28 dX12_readPunch_25 ?_
    refine g_iconst dX12_readPunch_28 kc_1 ?_
    refine g_bipush dX12_readPunch_29 kb_99 ?_
    obtain ⟨p31, e31, h⟩ := obind h
    refine g_sP3 ms_X12_79 dX12_readPunch_31 ⟨by decide, by decide⟩ (Nat.le_of_ble_eq_true rfl) (f_X12_in_ok e31) ?_
    refine g_if_ne 43 dX12_readPunch_34 rfl (fun q => ?_) (fun q => ?_)
    · replace h := gif_f q h
      refine g_iload_n dX12_readPunch_43 rfl ?_
      refine g_bipush dX12_readPunch_44 kb_16 ?_
      refine g_icmp_ne 55 dX12_readPunch_46 rfl (fun q => ?_) (fun q => ?_)
      · replace h := gif_f q h
        refine g_bipush dX12_readPunch_55 kb_16 ?_
        refine g_iload_n dX12_readPunch_57 rfl ?_
        refine g_imul dX12_readPunch_58 ?_
        refine g_iload_n dX12_readPunch_59 rfl ?_
        refine g_iadd dX12_readPunch_60 ?_
        refine g_istore3 dX12_readPunch_61 ?_
        refine g_iload_n dX12_readPunch_62 rfl ?_
        refine g_if_ne 78 dX12_readPunch_63 rfl (fun q => ?_) (fun q => ?_)
        · replace h := gif_f q h
          refine g_aload_n dX12_readPunch_78 rfl ?_
          refine gR_X12_20 ok_28 dX12_readPunch_79 ?_
          refine g_sipush dX12_readPunch_82 ks_237 ?_
          refine g_iload_n dX12_readPunch_85 rfl ?_
          refine g_iadd dX12_readPunch_86 ?_
          refine g_iconst dX12_readPunch_87 kc_1 ?_
          refine g_isub dX12_readPunch_88 ?_
          obtain ⟨a89, e89, h⟩ := obind h
          refine g_ldB e89 ok_31 rfl rfl (by decide) dX12_readPunch_89 ?_
          exact f_X12_readPunch_90_ok h
        · replace h := gif_t q h
          refine g_aload_n dX12_readPunch_66 rfl ?_
          refine gR_X12_20 ok_28 dX12_readPunch_67 ?_
          refine g_bipush dX12_readPunch_70 kb_47 ?_
          refine g_iload_n dX12_readPunch_72 rfl ?_
          refine g_iadd dX12_readPunch_73 ?_
          obtain ⟨a74, e74, h⟩ := obind h
          refine g_ldB e74 ok_31 rfl rfl (by decide) dX12_readPunch_74 ?_
          refine g_goto 90 dX12_readPunch_75 rfl ?_
          exact f_X12_readPunch_90_ok h
      · replace h := gif_t q h
        refine g_aload_n dX12_readPunch_49 rfl ?_
        refine g_iconst dX12_readPunch_50 kc_4 ?_
        obtain ⟨p51, e51, h⟩ := obind h
        refine g_vP1 mv_X12_125 dX12_readPunch_51 ok_28 ⟨by decide, by decide⟩ (Nat.le_of_ble_eq_true rfl) (f_X12_errs_ok e51) ?_
        exact g_zretG h dX12_readPunch_54 rfl
    · replace h := gif_t q h
      refine g_aload_n dX12_readPunch_37 rfl ?_
      refine g_iconst dX12_readPunch_38 kc_2 ?_
      obtain ⟨p39, e39, h⟩ := obind h
      refine g_vP1 mv_X12_125 dX12_readPunch_39 ok_28 ⟨by decide, by decide⟩ (Nat.le_of_ble_eq_true rfl) (f_X12_errs_ok e39) ?_
      exact g_zretG h dX12_readPunch_42 rfl
  · replace h := gif_f q h
    refine g_aload_n dX12_readPunch_18 rfl ?_
    refine g_iconst dX12_readPunch_19 kc_1 ?_
    obtain ⟨p20, e20, h⟩ := obind h
    refine g_vP1 mv_X12_125 dX12_readPunch_20 ok_28 ⟨by decide, by decide⟩ (Nat.le_of_ble_eq_true rfl) (f_X12_errs_ok e20) ?_
    exact g_zretG h dX12_readPunch_23 rfl
theorem dX12_readOnce_0 : decode cX12_readOnce 0 = .ok (.aload_n 0, 1) := by decide +kernel
theorem dX12_readOnce_1 : decode cX12_readOnce 1 = .ok (.getfield 142, 3) := by decide +kernel
theorem dX12_readOnce_4 : decode cX12_readOnce 4 = .ok (.iload_n 1, 1) := by decide +kernel
theorem dX12_readOnce_5 : decode cX12_readOnce 5 = .ok (.ishr, 1) := by decide +kernel
theorem dX12_readOnce_6 : decode cX12_readOnce 6 = .ok (.iconst 1, 1) := by decide +kernel
theorem dX12_readOnce_7 : decode cX12_readOnce 7 = .ok (.iand, 1) := by decide +kernel
theorem dX12_readOnce_8 : decode cX12_readOnce 8 = .ok (.iconst 1, 1) := by decide +kernel
theorem dX12_readOnce_9 : decode cX12_readOnce 9 = .ok (.if_icmp .ne 9, 3) := by decide +kernel
theorem dX12_readOnce_12 : decode cX12_readOnce 12 = .ok (.aload_n 0, 1) := by decide +kernel
theorem dX12_readOnce_13 : decode cX12_readOnce 13 = .ok (.iconst 3, 1) := by decide +kernel
theorem dX12_readOnce_14 : decode cX12_readOnce 14 = .ok (.invokevirtual 125, 3) := by decide +kernel
theorem dX12_readOnce_17 : decode cX12_readOnce 17 = .ok (.ireturn, 1) := by decide +kernel
theorem dX12_readOnce_18 : decode cX12_readOnce 18 = .ok (.aload_n 0, 1) := by decide +kernel
theorem dX12_readOnce_19 : decode cX12_readOnce 19 = .ok (.dup, 1) := by decide +kernel
theorem dX12_readOnce_20 : decode cX12_readOnce 20 = .ok (.getfield 142, 3) := by decide +kernel
theorem dX12_readOnce_23 : decode cX12_readOnce 23 = .ok (.iconst 1, 1) := by decide +kernel
theorem dX12_readOnce_24 : decode cX12_readOnce 24 = .ok (.iload_n 1, 1) := by decide +kernel
theorem dX12_readOnce_25 : decode cX12_readOnce 25 = .ok (.ishl, 1) := by decide +kernel
theorem dX12_readOnce_26 : decode cX12_readOnce 26 = .ok (.ior, 1) := by decide +kernel
theorem dX12_readOnce_27 : decode cX12_readOnce 27 = .ok (.putfield 142, 3) := by decide +kernel
theorem dX12_readOnce_30 : decode cX12_readOnce 30 = .ok (.aload_n 0, 1) := by decide +kernel
theorem dX12_readOnce_31 : decode cX12_readOnce 31 = .ok (.invokevirtual 118, 3) := by decide +kernel
theorem dX12_readOnce_34 : decode cX12_readOnce 34 = .ok (.aload_n 0, 1) := by decide +kernel
theorem dX12_readOnce_35 : decode cX12_readOnce 35 = .ok (.iload_n 1, 1) := by decide +kernel
theorem dX12_readOnce_36 : decode cX12_readOnce 36 = .ok (.iconst 0, 1) := by decide +kernel
theorem dX12_readOnce_37 : decode cX12_readOnce 37 = .ok (.sipush 600, 3) := by decide +kernel
theorem dX12_readOnce_40 : decode cX12_readOnce 40 = .ok (.invokevirtual 136, 3) := by decide +kernel
theorem dX12_readOnce_43 : decode cX12_readOnce 43 = .ok (.ireturn, 1) := by decide +kernel
def f_X12_readOnce (v1 : Int32) (σ : gSt) : Option (Int32 × gSt) :=
  if (((σ 28 0 16) >>> (v1 &&& 31)) &&& 1) = 1 then
    (f_X12_errs 3 σ).bind fun p14 =>
    gzr p14.1 p14.2
  else
    (f_X12_goesOn (gup σ 28 0 16 ((σ 28 0 16) ||| (1 <<< (v1 &&& 31))))).bind fun z31 =>
    (f_X12_takes v1 0 600 z31).bind fun p40 =>
    gzr p40.1 p40.2
theorem f_X12_readOnce_ok {v1 : Int32}  {σ : gSt} {r : (Int32 × gSt)} (h : f_X12_readOnce v1 σ = some r) : Mt l w 0 41 yX12_readOnce cX12_readOnce 2 (some .boolean) 3 66 [.ref (w.2.1 28 0), .int v1] σ (gE (some (.int r.1)) r.2) := by
  unfold f_X12_readOnce at h
  refine g_start pn_X12 rfl rfl (Nat.le_of_ble_eq_true rfl) ?_
  show G l w 0 41 RX12 cX12_readOnce 2 (some .boolean) 3 66 (gE (some (.int r.1)) r.2) 0 [some (.ref (w.2.1 28 0)), some (.int v1)] [] σ
  refine g_aload_n dX12_readOnce_0 rfl ?_
  refine gI_X12_142 ok_28 dX12_readOnce_1 ?_
  refine g_iload_n dX12_readOnce_4 rfl ?_
  refine g_ishr dX12_readOnce_5 ?_
  refine g_iconst dX12_readOnce_6 kc_1 ?_
  refine g_iand dX12_readOnce_7 ?_
  refine g_iconst dX12_readOnce_8 kc_1 ?_
  refine g_icmp_ne 18 dX12_readOnce_9 rfl (fun q => ?_) (fun q => ?_)
  · replace h := gif_f q h
    refine g_aload_n dX12_readOnce_18 rfl ?_
    refine g_dup dX12_readOnce_19 rfl ?_
    refine gI_X12_142 ok_28 dX12_readOnce_20 ?_
    refine g_iconst dX12_readOnce_23 kc_1 ?_
    refine g_iload_n dX12_readOnce_24 rfl ?_
    refine g_ishl dX12_readOnce_25 ?_
    refine g_ior dX12_readOnce_26 ?_
    refine gP_X12_142 ok_28 dX12_readOnce_27 ?_
    refine g_aload_n dX12_readOnce_30 rfl ?_
    obtain ⟨z31, e31, h⟩ := obind h
    refine g_vU0 mv_X12_118 dX12_readOnce_31 ok_28 ⟨by decide, by decide⟩ (Nat.le_of_ble_eq_true rfl) (f_X12_goesOn_ok e31) ?_
    refine g_aload_n dX12_readOnce_34 rfl ?_
    refine g_iload_n dX12_readOnce_35 rfl ?_
    refine g_iconst dX12_readOnce_36 kc_0 ?_
    refine g_sipush dX12_readOnce_37 ks_600 ?_
    obtain ⟨p40, e40, h⟩ := obind h
    refine g_vP3 mv_X12_136 dX12_readOnce_40 ok_28 ⟨by decide, by decide⟩ (Nat.le_of_ble_eq_true rfl) (f_X12_takes_ok e40) ?_
    exact g_zretG h dX12_readOnce_43 rfl
  · replace h := gif_t q h
    refine g_aload_n dX12_readOnce_12 rfl ?_
    refine g_iconst dX12_readOnce_13 kc_3 ?_
    obtain ⟨p14, e14, h⟩ := obind h
    refine g_vP1 mv_X12_125 dX12_readOnce_14 ok_28 ⟨by decide, by decide⟩ (Nat.le_of_ble_eq_true rfl) (f_X12_errs_ok e14) ?_
    exact g_zretG h dX12_readOnce_17 rfl
theorem dX12_lays_0 : decode cX12_lays 0 = .ok (.iconst 0, 1) := by decide +kernel
theorem dX12_lays_1 : decode cX12_lays 1 = .ok (.istore 5, 2) := by decide +kernel
theorem dX12_lays_3 : decode cX12_lays 3 = .ok (.iload 5, 2) := by decide +kernel
theorem dX12_lays_5 : decode cX12_lays 5 = .ok (.iload 4, 2) := by decide +kernel
theorem dX12_lays_7 : decode cX12_lays 7 = .ok (.if_icmp .ge 21, 3) := by decide +kernel
theorem dX12_lays_10 : decode cX12_lays 10 = .ok (.aload_n 0, 1) := by decide +kernel
theorem dX12_lays_11 : decode cX12_lays 11 = .ok (.iload_n 1, 1) := by decide +kernel
theorem dX12_lays_12 : decode cX12_lays 12 = .ok (.iload 5, 2) := by decide +kernel
theorem dX12_lays_14 : decode cX12_lays 14 = .ok (.iadd, 1) := by decide +kernel
theorem dX12_lays_15 : decode cX12_lays 15 = .ok (.aload_n 2, 1) := by decide +kernel
theorem dX12_lays_16 : decode cX12_lays 16 = .ok (.iload_n 3, 1) := by decide +kernel
theorem dX12_lays_17 : decode cX12_lays 17 = .ok (.iload 5, 2) := by decide +kernel
theorem dX12_lays_19 : decode cX12_lays 19 = .ok (.iadd, 1) := by decide +kernel
theorem dX12_lays_20 : decode cX12_lays 20 = .ok (.iaload, 1) := by decide +kernel
theorem dX12_lays_21 : decode cX12_lays 21 = .ok (.iastore, 1) := by decide +kernel
theorem dX12_lays_22 : decode cX12_lays 22 = .ok (.iinc 5 1, 3) := by decide +kernel
theorem dX12_lays_25 : decode cX12_lays 25 = .ok (.goto (-22), 3) := by decide +kernel
theorem dX12_lays_28 : decode cX12_lays 28 = .ok (.return_, 1) := by decide +kernel
def f_X12_lays_k30_k31_3 (v1 : Int32) (v3 : Int32) (v4 : Int32) : Nat → Int32 → gSt → Option gSt
  | 0, _, _ => none
  | n + 1, v5, σ =>
    if v4 ≤ v5 then
      some σ
    else
      (gld σ 31 0 397 (v3 + v5)).bind fun a20 =>
      (gst σ 30 0 397 (v1 + v5) a20).bind fun z21 =>
      f_X12_lays_k30_k31_3 v1 v3 v4 n (v5 + 1) z21
def f_X12_lays_k30_k31 (v1 : Int32) (v3 : Int32) (v4 : Int32) (σ : gSt) : Option gSt :=
  f_X12_lays_k30_k31_3 v1 v3 v4 gFuel 0 σ
theorem f_X12_lays_k30_k31_3_ok {v1 : Int32} {v3 : Int32} {v4 : Int32} {r : gSt}  : ∀ (n : Nat) {v5 : Int32} {σ : gSt} , f_X12_lays_k30_k31_3 v1 v3 v4 n v5 σ = some r → G l w 0 41 RX12 cX12_lays 6 none 0 0 (gE none r) 3 [some (.ref (w.2.1 30 0)), some (.int v1), some (.ref (w.2.1 31 0)), some (.int v3), some (.int v4), some (.int v5)] [] σ := by
  intro n
  induction n with
  | zero => intro v5 σ h; rw [f_X12_lays_k30_k31_3] at h; cases h
  | succ n ih =>
    intro v5 σ h
    rw [f_X12_lays_k30_k31_3] at h
    refine g_iload dX12_lays_3 rfl ?_
    refine g_iload dX12_lays_5 rfl ?_
    refine g_icmp_ge 28 dX12_lays_7 rfl (fun q => ?_) (fun q => ?_)
    · replace h := gif_t q h
      cases h
      exact g_vret dX12_lays_28 rfl ⟨rfl, rfl⟩
    · replace h := gif_f q h
      refine g_aload_n dX12_lays_10 rfl ?_
      refine g_iload_n dX12_lays_11 rfl ?_
      refine g_iload dX12_lays_12 rfl ?_
      refine g_iadd dX12_lays_14 ?_
      refine g_aload_n dX12_lays_15 rfl ?_
      refine g_iload_n dX12_lays_16 rfl ?_
      refine g_iload dX12_lays_17 rfl ?_
      refine g_iadd dX12_lays_19 ?_
      obtain ⟨a20, e20, h⟩ := obind h
      refine g_ldB e20 ok_31 rfl rfl (by decide) dX12_lays_20 ?_
      obtain ⟨z21, e21, h⟩ := obind h
      refine g_stB e21 ok_30 rfl rfl (by decide) dX12_lays_21 ?_
      refine g_inc5 kc_1 dX12_lays_22 ?_
      refine g_goto 3 dX12_lays_25 rfl ?_
      exact ih h
theorem f_X12_lays_k30_k31_ok {v1 : Int32} {v3 : Int32} {v4 : Int32}  {σ : gSt} {r : gSt} (h : f_X12_lays_k30_k31 v1 v3 v4 σ = some r) : Mt l w 0 41 yX12_lays cX12_lays 6 none 0 0 [.ref (w.2.1 30 0), .int v1, .ref (w.2.1 31 0), .int v3, .int v4] σ (gE none r) := by
  unfold f_X12_lays_k30_k31 at h
  refine g_start pn_X12 rfl rfl (Nat.le_of_ble_eq_true rfl) ?_
  show G l w 0 41 RX12 cX12_lays 6 none 0 0 (gE none r) 0 [some (.ref (w.2.1 30 0)), some (.int v1), some (.ref (w.2.1 31 0)), some (.int v3), some (.int v4), none] [] σ
  refine g_iconst dX12_lays_0 kc_0 ?_
  refine g_istore5 dX12_lays_1 ?_
  exact f_X12_lays_k30_k31_3_ok gFuel h
def f_X12_lays_k32_k33_3 (v1 : Int32) (v3 : Int32) (v4 : Int32) : Nat → Int32 → gSt → Option gSt
  | 0, _, _ => none
  | n + 1, v5, σ =>
    if v4 ≤ v5 then
      some σ
    else
      (gld σ 33 0 78 (v3 + v5)).bind fun a20 =>
      (gst σ 32 0 78 (v1 + v5) a20).bind fun z21 =>
      f_X12_lays_k32_k33_3 v1 v3 v4 n (v5 + 1) z21
def f_X12_lays_k32_k33 (v1 : Int32) (v3 : Int32) (v4 : Int32) (σ : gSt) : Option gSt :=
  f_X12_lays_k32_k33_3 v1 v3 v4 gFuel 0 σ
theorem f_X12_lays_k32_k33_3_ok {v1 : Int32} {v3 : Int32} {v4 : Int32} {r : gSt}  : ∀ (n : Nat) {v5 : Int32} {σ : gSt} , f_X12_lays_k32_k33_3 v1 v3 v4 n v5 σ = some r → G l w 0 41 RX12 cX12_lays 6 none 0 0 (gE none r) 3 [some (.ref (w.2.1 32 0)), some (.int v1), some (.ref (w.2.1 33 0)), some (.int v3), some (.int v4), some (.int v5)] [] σ := by
  intro n
  induction n with
  | zero => intro v5 σ h; rw [f_X12_lays_k32_k33_3] at h; cases h
  | succ n ih =>
    intro v5 σ h
    rw [f_X12_lays_k32_k33_3] at h
    refine g_iload dX12_lays_3 rfl ?_
    refine g_iload dX12_lays_5 rfl ?_
    refine g_icmp_ge 28 dX12_lays_7 rfl (fun q => ?_) (fun q => ?_)
    · replace h := gif_t q h
      cases h
      exact g_vret dX12_lays_28 rfl ⟨rfl, rfl⟩
    · replace h := gif_f q h
      refine g_aload_n dX12_lays_10 rfl ?_
      refine g_iload_n dX12_lays_11 rfl ?_
      refine g_iload dX12_lays_12 rfl ?_
      refine g_iadd dX12_lays_14 ?_
      refine g_aload_n dX12_lays_15 rfl ?_
      refine g_iload_n dX12_lays_16 rfl ?_
      refine g_iload dX12_lays_17 rfl ?_
      refine g_iadd dX12_lays_19 ?_
      obtain ⟨a20, e20, h⟩ := obind h
      refine g_ldB e20 ok_33 rfl rfl (by decide) dX12_lays_20 ?_
      obtain ⟨z21, e21, h⟩ := obind h
      refine g_stB e21 ok_32 rfl rfl (by decide) dX12_lays_21 ?_
      refine g_inc5 kc_1 dX12_lays_22 ?_
      refine g_goto 3 dX12_lays_25 rfl ?_
      exact ih h
theorem f_X12_lays_k32_k33_ok {v1 : Int32} {v3 : Int32} {v4 : Int32}  {σ : gSt} {r : gSt} (h : f_X12_lays_k32_k33 v1 v3 v4 σ = some r) : Mt l w 0 41 yX12_lays cX12_lays 6 none 0 0 [.ref (w.2.1 32 0), .int v1, .ref (w.2.1 33 0), .int v3, .int v4] σ (gE none r) := by
  unfold f_X12_lays_k32_k33 at h
  refine g_start pn_X12 rfl rfl (Nat.le_of_ble_eq_true rfl) ?_
  show G l w 0 41 RX12 cX12_lays 6 none 0 0 (gE none r) 0 [some (.ref (w.2.1 32 0)), some (.int v1), some (.ref (w.2.1 33 0)), some (.int v3), some (.int v4), none] [] σ
  refine g_iconst dX12_lays_0 kc_0 ?_
  refine g_istore5 dX12_lays_1 ?_
  exact f_X12_lays_k32_k33_3_ok gFuel h
theorem dX12_fault_0 : decode cX12_fault 0 = .ok (.aload_n 0, 1) := by decide +kernel
theorem dX12_fault_1 : decode cX12_fault 1 = .ok (.iconst 0, 1) := by decide +kernel
theorem dX12_fault_2 : decode cX12_fault 2 = .ok (.putfield 50, 3) := by decide +kernel
theorem dX12_fault_5 : decode cX12_fault 5 = .ok (.aload_n 0, 1) := by decide +kernel
theorem dX12_fault_6 : decode cX12_fault 6 = .ok (.getfield 164, 3) := by decide +kernel
theorem dX12_fault_9 : decode cX12_fault 9 = .ok (.ireturn, 1) := by decide +kernel
def f_X12_fault (σ : gSt) : Option (Int32 × gSt) :=
  some (((gup σ 28 0 0 0) 28 0 2), (gup σ 28 0 0 0))
theorem f_X12_fault_ok   {σ : gSt} {r : (Int32 × gSt)} (h : f_X12_fault σ = some r) : Mt l w 0 41 yX12_fault cX12_fault 1 (some .int) 0 0 [.ref (w.2.1 28 0)] σ (gE (some (.int r.1)) r.2) := by
  unfold f_X12_fault at h
  refine g_start pn_X12 rfl rfl (Nat.le_of_ble_eq_true rfl) ?_
  show G l w 0 41 RX12 cX12_fault 1 (some .int) 0 0 (gE (some (.int r.1)) r.2) 0 [some (.ref (w.2.1 28 0))] [] σ
  refine g_aload_n dX12_fault_0 rfl ?_
  refine g_iconst dX12_fault_1 kc_0 ?_
  refine gP_X12_50 ok_28 dX12_fault_2 ?_
  refine g_aload_n dX12_fault_5 rfl ?_
  refine gI_X12_164 ok_28 dX12_fault_6 ?_
  cases h
  exact g_iret dX12_fault_9 rfl ⟨rfl, rfl⟩
theorem dX12_where_0 : decode cX12_where 0 = .ok (.aload_n 0, 1) := by decide +kernel
theorem dX12_where_1 : decode cX12_where 1 = .ok (.iconst 0, 1) := by decide +kernel
theorem dX12_where_2 : decode cX12_where 2 = .ok (.putfield 50, 3) := by decide +kernel
theorem dX12_where_5 : decode cX12_where 5 = .ok (.aload_n 0, 1) := by decide +kernel
theorem dX12_where_6 : decode cX12_where 6 = .ok (.getfield 53, 3) := by decide +kernel
theorem dX12_where_9 : decode cX12_where 9 = .ok (.iconst 4, 1) := by decide +kernel
theorem dX12_where_10 : decode cX12_where 10 = .ok (.if_icmp .ne 10, 3) := by decide +kernel
theorem dX12_where_13 : decode cX12_where 13 = .ok (.aload_n 0, 1) := by decide +kernel
theorem dX12_where_14 : decode cX12_where 14 = .ok (.getfield 9, 3) := by decide +kernel
theorem dX12_where_17 : decode cX12_where 17 = .ok (.goto 4, 3) := by decide +kernel
theorem dX12_where_20 : decode cX12_where 20 = .ok (.iconst (-1), 1) := by decide +kernel
theorem dX12_where_21 : decode cX12_where 21 = .ok (.ireturn, 1) := by decide +kernel
def f_X12_where (σ : gSt) : Option (Int32 × gSt) :=
  if ((gup σ 28 0 0 0) 28 0 1) = 4 then
    some (((gup σ 28 0 0 0) 28 0 3), (gup σ 28 0 0 0))
  else
    some ((-1), (gup σ 28 0 0 0))
theorem f_X12_where_ok   {σ : gSt} {r : (Int32 × gSt)} (h : f_X12_where σ = some r) : Mt l w 0 41 yX12_where cX12_where 1 (some .int) 0 0 [.ref (w.2.1 28 0)] σ (gE (some (.int r.1)) r.2) := by
  unfold f_X12_where at h
  refine g_start pn_X12 rfl rfl (Nat.le_of_ble_eq_true rfl) ?_
  show G l w 0 41 RX12 cX12_where 1 (some .int) 0 0 (gE (some (.int r.1)) r.2) 0 [some (.ref (w.2.1 28 0))] [] σ
  refine g_aload_n dX12_where_0 rfl ?_
  refine g_iconst dX12_where_1 kc_0 ?_
  refine gP_X12_50 ok_28 dX12_where_2 ?_
  refine g_aload_n dX12_where_5 rfl ?_
  refine gI_X12_53 ok_28 dX12_where_6 ?_
  refine g_iconst dX12_where_9 kc_4 ?_
  refine g_icmp_ne 20 dX12_where_10 rfl (fun q => ?_) (fun q => ?_)
  · replace h := gif_f q h
    refine g_iconst dX12_where_20 kc_m1 ?_
    cases h
    exact g_iret dX12_where_21 rfl ⟨rfl, rfl⟩
  · replace h := gif_t q h
    refine g_aload_n dX12_where_13 rfl ?_
    refine gI_X12_9 ok_28 dX12_where_14 ?_
    refine g_goto 21 dX12_where_17 rfl ?_
    cases h
    exact g_iret dX12_where_21 rfl ⟨rfl, rfl⟩
theorem dX12_isCourse_0 : decode cX12_isCourse 0 = .ok (.iload_n 1, 1) := by decide +kernel
theorem dX12_isCourse_1 : decode cX12_isCourse 1 = .ok (.iconst 0, 1) := by decide +kernel
theorem dX12_isCourse_2 : decode cX12_isCourse 2 = .ok (.aload_n 0, 1) := by decide +kernel
theorem dX12_isCourse_3 : decode cX12_isCourse 3 = .ok (.getfield 17, 3) := by decide +kernel
theorem dX12_isCourse_6 : decode cX12_isCourse 6 = .ok (.iconst 0, 1) := by decide +kernel
theorem dX12_isCourse_7 : decode cX12_isCourse 7 = .ok (.iaload, 1) := by decide +kernel
theorem dX12_isCourse_8 : decode cX12_isCourse 8 = .ok (.iconst 1, 1) := by decide +kernel
theorem dX12_isCourse_9 : decode cX12_isCourse 9 = .ok (.isub, 1) := by decide +kernel
theorem dX12_isCourse_10 : decode cX12_isCourse 10 = .ok (.invokestatic 79, 3) := by decide +kernel
theorem dX12_isCourse_13 : decode cX12_isCourse 13 = .ok (.ireturn, 1) := by decide +kernel
def f_X12_isCourse (v1 : Int32) (σ : gSt) : Option (Int32 × gSt) :=
  (gld σ 30 0 397 0).bind fun a7 =>
  (f_X12_in v1 0 (a7 - 1) σ).bind fun p10 =>
  gzr p10.1 p10.2
theorem f_X12_isCourse_ok {v1 : Int32}  {σ : gSt} {r : (Int32 × gSt)} (h : f_X12_isCourse v1 σ = some r) : Mt l w 0 41 yX12_isCourse cX12_isCourse 2 (some .boolean) 1 22 [.ref (w.2.1 28 0), .int v1] σ (gE (some (.int r.1)) r.2) := by
  unfold f_X12_isCourse at h
  refine g_start pn_X12 rfl rfl (Nat.le_of_ble_eq_true rfl) ?_
  show G l w 0 41 RX12 cX12_isCourse 2 (some .boolean) 1 22 (gE (some (.int r.1)) r.2) 0 [some (.ref (w.2.1 28 0)), some (.int v1)] [] σ
  refine g_iload_n dX12_isCourse_0 rfl ?_
  refine g_iconst dX12_isCourse_1 kc_0 ?_
  refine g_aload_n dX12_isCourse_2 rfl ?_
  refine gR_X12_17 ok_28 dX12_isCourse_3 ?_
  refine g_iconst dX12_isCourse_6 kc_0 ?_
  obtain ⟨a7, e7, h⟩ := obind h
  refine g_ldB e7 ok_30 rfl rfl (by decide) dX12_isCourse_7 ?_
  refine g_iconst dX12_isCourse_8 kc_1 ?_
  refine g_isub dX12_isCourse_9 ?_
  obtain ⟨p10, e10, h⟩ := obind h
  refine g_sP3 ms_X12_79 dX12_isCourse_10 ⟨by decide, by decide⟩ (Nat.le_of_ble_eq_true rfl) (f_X12_in_ok e10) ?_
  exact g_zretG h dX12_isCourse_13 rfl
theorem dX12_isRunner_0 : decode cX12_isRunner 0 = .ok (.iload_n 1, 1) := by decide +kernel
theorem dX12_isRunner_1 : decode cX12_isRunner 1 = .ok (.iconst 0, 1) := by decide +kernel
theorem dX12_isRunner_2 : decode cX12_isRunner 2 = .ok (.aload_n 0, 1) := by decide +kernel
theorem dX12_isRunner_3 : decode cX12_isRunner 3 = .ok (.getfield 17, 3) := by decide +kernel
theorem dX12_isRunner_6 : decode cX12_isRunner 6 = .ok (.iconst 1, 1) := by decide +kernel
theorem dX12_isRunner_7 : decode cX12_isRunner 7 = .ok (.iaload, 1) := by decide +kernel
theorem dX12_isRunner_8 : decode cX12_isRunner 8 = .ok (.iconst 1, 1) := by decide +kernel
theorem dX12_isRunner_9 : decode cX12_isRunner 9 = .ok (.isub, 1) := by decide +kernel
theorem dX12_isRunner_10 : decode cX12_isRunner 10 = .ok (.invokestatic 79, 3) := by decide +kernel
theorem dX12_isRunner_13 : decode cX12_isRunner 13 = .ok (.ireturn, 1) := by decide +kernel
def f_X12_isRunner (v1 : Int32) (σ : gSt) : Option (Int32 × gSt) :=
  (gld σ 30 0 397 1).bind fun a7 =>
  (f_X12_in v1 0 (a7 - 1) σ).bind fun p10 =>
  gzr p10.1 p10.2
theorem f_X12_isRunner_ok {v1 : Int32}  {σ : gSt} {r : (Int32 × gSt)} (h : f_X12_isRunner v1 σ = some r) : Mt l w 0 41 yX12_isRunner cX12_isRunner 2 (some .boolean) 1 22 [.ref (w.2.1 28 0), .int v1] σ (gE (some (.int r.1)) r.2) := by
  unfold f_X12_isRunner at h
  refine g_start pn_X12 rfl rfl (Nat.le_of_ble_eq_true rfl) ?_
  show G l w 0 41 RX12 cX12_isRunner 2 (some .boolean) 1 22 (gE (some (.int r.1)) r.2) 0 [some (.ref (w.2.1 28 0)), some (.int v1)] [] σ
  refine g_iload_n dX12_isRunner_0 rfl ?_
  refine g_iconst dX12_isRunner_1 kc_0 ?_
  refine g_aload_n dX12_isRunner_2 rfl ?_
  refine gR_X12_17 ok_28 dX12_isRunner_3 ?_
  refine g_iconst dX12_isRunner_6 kc_1 ?_
  obtain ⟨a7, e7, h⟩ := obind h
  refine g_ldB e7 ok_30 rfl rfl (by decide) dX12_isRunner_7 ?_
  refine g_iconst dX12_isRunner_8 kc_1 ?_
  refine g_isub dX12_isRunner_9 ?_
  obtain ⟨p10, e10, h⟩ := obind h
  refine g_sP3 ms_X12_79 dX12_isRunner_10 ⟨by decide, by decide⟩ (Nat.le_of_ble_eq_true rfl) (f_X12_in_ok e10) ?_
  exact g_zretG h dX12_isRunner_13 rfl
theorem dX12_isControl_0 : decode cX12_isControl 0 = .ok (.aload_n 0, 1) := by decide +kernel
theorem dX12_isControl_1 : decode cX12_isControl 1 = .ok (.iload_n 1, 1) := by decide +kernel
theorem dX12_isControl_2 : decode cX12_isControl 2 = .ok (.invokevirtual 184, 3) := by decide +kernel
theorem dX12_isControl_5 : decode cX12_isControl 5 = .ok (.ifCond .eq 25, 3) := by decide +kernel
theorem dX12_isControl_8 : decode cX12_isControl 8 = .ok (.iload_n 2, 1) := by decide +kernel
theorem dX12_isControl_9 : decode cX12_isControl 9 = .ok (.iconst 0, 1) := by decide +kernel
theorem dX12_isControl_10 : decode cX12_isControl 10 = .ok (.aload_n 0, 1) := by decide +kernel
theorem dX12_isControl_11 : decode cX12_isControl 11 = .ok (.getfield 17, 3) := by decide +kernel
theorem dX12_isControl_14 : decode cX12_isControl 14 = .ok (.iconst 4, 1) := by decide +kernel
theorem dX12_isControl_15 : decode cX12_isControl 15 = .ok (.iload_n 1, 1) := by decide +kernel
theorem dX12_isControl_16 : decode cX12_isControl 16 = .ok (.iadd, 1) := by decide +kernel
theorem dX12_isControl_17 : decode cX12_isControl 17 = .ok (.iaload, 1) := by decide +kernel
theorem dX12_isControl_18 : decode cX12_isControl 18 = .ok (.iconst 1, 1) := by decide +kernel
theorem dX12_isControl_19 : decode cX12_isControl 19 = .ok (.isub, 1) := by decide +kernel
theorem dX12_isControl_20 : decode cX12_isControl 20 = .ok (.invokestatic 79, 3) := by decide +kernel
theorem dX12_isControl_23 : decode cX12_isControl 23 = .ok (.ifCond .eq 7, 3) := by decide +kernel
theorem dX12_isControl_26 : decode cX12_isControl 26 = .ok (.iconst 1, 1) := by decide +kernel
theorem dX12_isControl_27 : decode cX12_isControl 27 = .ok (.goto 4, 3) := by decide +kernel
theorem dX12_isControl_30 : decode cX12_isControl 30 = .ok (.iconst 0, 1) := by decide +kernel
theorem dX12_isControl_31 : decode cX12_isControl 31 = .ok (.ireturn, 1) := by decide +kernel
def f_X12_isControl (v1 : Int32) (v2 : Int32) (σ : gSt) : Option (Int32 × gSt) :=
  (f_X12_isCourse v1 σ).bind fun p2 =>
  if p2.1 = 0 then
    some (0, p2.2)
  else
    (gld p2.2 30 0 397 (4 + v1)).bind fun a17 =>
    (f_X12_in v2 0 (a17 - 1) p2.2).bind fun p20 =>
    if p20.1 = 0 then
      some (0, p20.2)
    else
      some (1, p20.2)
theorem f_X12_isControl_ok {v1 : Int32} {v2 : Int32}  {σ : gSt} {r : (Int32 × gSt)} (h : f_X12_isControl v1 v2 σ = some r) : Mt l w 0 41 yX12_isControl cX12_isControl 3 (some .boolean) 2 43 [.ref (w.2.1 28 0), .int v1, .int v2] σ (gE (some (.int r.1)) r.2) := by
  unfold f_X12_isControl at h
  refine g_start pn_X12 rfl rfl (Nat.le_of_ble_eq_true rfl) ?_
  show G l w 0 41 RX12 cX12_isControl 3 (some .boolean) 2 43 (gE (some (.int r.1)) r.2) 0 [some (.ref (w.2.1 28 0)), some (.int v1), some (.int v2)] [] σ
  refine g_aload_n dX12_isControl_0 rfl ?_
  refine g_iload_n dX12_isControl_1 rfl ?_
  obtain ⟨p2, e2, h⟩ := obind h
  refine g_vP1 mv_X12_184 dX12_isControl_2 ok_28 ⟨by decide, by decide⟩ (Nat.le_of_ble_eq_true rfl) (f_X12_isCourse_ok e2) ?_
  refine g_if_eq 30 dX12_isControl_5 rfl (fun q => ?_) (fun q => ?_)
  · replace h := gif_t q h
    refine g_iconst dX12_isControl_30 kc_0 ?_
    cases h
    exact g_zret0 dX12_isControl_31 rfl
  · replace h := gif_f q h
    refine g_iload_n dX12_isControl_8 rfl ?_
    refine g_iconst dX12_isControl_9 kc_0 ?_
    refine g_aload_n dX12_isControl_10 rfl ?_
    refine gR_X12_17 ok_28 dX12_isControl_11 ?_
    refine g_iconst dX12_isControl_14 kc_4 ?_
    refine g_iload_n dX12_isControl_15 rfl ?_
    refine g_iadd dX12_isControl_16 ?_
    obtain ⟨a17, e17, h⟩ := obind h
    refine g_ldB e17 ok_30 rfl rfl (by decide) dX12_isControl_17 ?_
    refine g_iconst dX12_isControl_18 kc_1 ?_
    refine g_isub dX12_isControl_19 ?_
    obtain ⟨p20, e20, h⟩ := obind h
    refine g_sP3 ms_X12_79 dX12_isControl_20 ⟨by decide, by decide⟩ (Nat.le_of_ble_eq_true rfl) (f_X12_in_ok e20) ?_
    refine g_if_eq 30 dX12_isControl_23 rfl (fun q => ?_) (fun q => ?_)
    · replace h := gif_t q h
      refine g_iconst dX12_isControl_30 kc_0 ?_
      cases h
      exact g_zret0 dX12_isControl_31 rfl
    · replace h := gif_f q h
      refine g_iconst dX12_isControl_26 kc_1 ?_
      refine g_goto 31 dX12_isControl_27 rfl ?_
      cases h
      exact g_zret1 dX12_isControl_31 rfl
theorem dX12_isPoint_0 : decode cX12_isPoint 0 = .ok (.aload_n 0, 1) := by decide +kernel
theorem dX12_isPoint_1 : decode cX12_isPoint 1 = .ok (.iload_n 1, 1) := by decide +kernel
theorem dX12_isPoint_2 : decode cX12_isPoint 2 = .ok (.invokevirtual 184, 3) := by decide +kernel
theorem dX12_isPoint_5 : decode cX12_isPoint 5 = .ok (.ifCond .eq 23, 3) := by decide +kernel
theorem dX12_isPoint_8 : decode cX12_isPoint 8 = .ok (.iload_n 2, 1) := by decide +kernel
theorem dX12_isPoint_9 : decode cX12_isPoint 9 = .ok (.iconst 0, 1) := by decide +kernel
theorem dX12_isPoint_10 : decode cX12_isPoint 10 = .ok (.aload_n 0, 1) := by decide +kernel
theorem dX12_isPoint_11 : decode cX12_isPoint 11 = .ok (.getfield 17, 3) := by decide +kernel
theorem dX12_isPoint_14 : decode cX12_isPoint 14 = .ok (.iconst 4, 1) := by decide +kernel
theorem dX12_isPoint_15 : decode cX12_isPoint 15 = .ok (.iload_n 1, 1) := by decide +kernel
theorem dX12_isPoint_16 : decode cX12_isPoint 16 = .ok (.iadd, 1) := by decide +kernel
theorem dX12_isPoint_17 : decode cX12_isPoint 17 = .ok (.iaload, 1) := by decide +kernel
theorem dX12_isPoint_18 : decode cX12_isPoint 18 = .ok (.invokestatic 79, 3) := by decide +kernel
theorem dX12_isPoint_21 : decode cX12_isPoint 21 = .ok (.ifCond .eq 7, 3) := by decide +kernel
theorem dX12_isPoint_24 : decode cX12_isPoint 24 = .ok (.iconst 1, 1) := by decide +kernel
theorem dX12_isPoint_25 : decode cX12_isPoint 25 = .ok (.goto 4, 3) := by decide +kernel
theorem dX12_isPoint_28 : decode cX12_isPoint 28 = .ok (.iconst 0, 1) := by decide +kernel
theorem dX12_isPoint_29 : decode cX12_isPoint 29 = .ok (.ireturn, 1) := by decide +kernel
def f_X12_isPoint (v1 : Int32) (v2 : Int32) (σ : gSt) : Option (Int32 × gSt) :=
  (f_X12_isCourse v1 σ).bind fun p2 =>
  if p2.1 = 0 then
    some (0, p2.2)
  else
    (gld p2.2 30 0 397 (4 + v1)).bind fun a17 =>
    (f_X12_in v2 0 a17 p2.2).bind fun p18 =>
    if p18.1 = 0 then
      some (0, p18.2)
    else
      some (1, p18.2)
theorem f_X12_isPoint_ok {v1 : Int32} {v2 : Int32}  {σ : gSt} {r : (Int32 × gSt)} (h : f_X12_isPoint v1 v2 σ = some r) : Mt l w 0 41 yX12_isPoint cX12_isPoint 3 (some .boolean) 2 43 [.ref (w.2.1 28 0), .int v1, .int v2] σ (gE (some (.int r.1)) r.2) := by
  unfold f_X12_isPoint at h
  refine g_start pn_X12 rfl rfl (Nat.le_of_ble_eq_true rfl) ?_
  show G l w 0 41 RX12 cX12_isPoint 3 (some .boolean) 2 43 (gE (some (.int r.1)) r.2) 0 [some (.ref (w.2.1 28 0)), some (.int v1), some (.int v2)] [] σ
  refine g_aload_n dX12_isPoint_0 rfl ?_
  refine g_iload_n dX12_isPoint_1 rfl ?_
  obtain ⟨p2, e2, h⟩ := obind h
  refine g_vP1 mv_X12_184 dX12_isPoint_2 ok_28 ⟨by decide, by decide⟩ (Nat.le_of_ble_eq_true rfl) (f_X12_isCourse_ok e2) ?_
  refine g_if_eq 28 dX12_isPoint_5 rfl (fun q => ?_) (fun q => ?_)
  · replace h := gif_t q h
    refine g_iconst dX12_isPoint_28 kc_0 ?_
    cases h
    exact g_zret0 dX12_isPoint_29 rfl
  · replace h := gif_f q h
    refine g_iload_n dX12_isPoint_8 rfl ?_
    refine g_iconst dX12_isPoint_9 kc_0 ?_
    refine g_aload_n dX12_isPoint_10 rfl ?_
    refine gR_X12_17 ok_28 dX12_isPoint_11 ?_
    refine g_iconst dX12_isPoint_14 kc_4 ?_
    refine g_iload_n dX12_isPoint_15 rfl ?_
    refine g_iadd dX12_isPoint_16 ?_
    obtain ⟨a17, e17, h⟩ := obind h
    refine g_ldB e17 ok_30 rfl rfl (by decide) dX12_isPoint_17 ?_
    obtain ⟨p18, e18, h⟩ := obind h
    refine g_sP3 ms_X12_79 dX12_isPoint_18 ⟨by decide, by decide⟩ (Nat.le_of_ble_eq_true rfl) (f_X12_in_ok e18) ?_
    refine g_if_eq 28 dX12_isPoint_21 rfl (fun q => ?_) (fun q => ?_)
    · replace h := gif_t q h
      refine g_iconst dX12_isPoint_28 kc_0 ?_
      cases h
      exact g_zret0 dX12_isPoint_29 rfl
    · replace h := gif_f q h
      refine g_iconst dX12_isPoint_24 kc_1 ?_
      refine g_goto 29 dX12_isPoint_25 rfl ?_
      cases h
      exact g_zret1 dX12_isPoint_29 rfl
theorem dX12_isOwnPoint_0 : decode cX12_isOwnPoint 0 = .ok (.aload_n 0, 1) := by decide +kernel
theorem dX12_isOwnPoint_1 : decode cX12_isOwnPoint 1 = .ok (.iload_n 1, 1) := by decide +kernel
theorem dX12_isOwnPoint_2 : decode cX12_isOwnPoint 2 = .ok (.invokevirtual 187, 3) := by decide +kernel
theorem dX12_isOwnPoint_5 : decode cX12_isOwnPoint 5 = .ok (.ifCond .eq 24, 3) := by decide +kernel
theorem dX12_isOwnPoint_8 : decode cX12_isOwnPoint 8 = .ok (.aload_n 0, 1) := by decide +kernel
theorem dX12_isOwnPoint_9 : decode cX12_isOwnPoint 9 = .ok (.aload_n 0, 1) := by decide +kernel
theorem dX12_isOwnPoint_10 : decode cX12_isOwnPoint 10 = .ok (.getfield 17, 3) := by decide +kernel
theorem dX12_isOwnPoint_13 : decode cX12_isOwnPoint 13 = .ok (.bipush 37, 2) := by decide +kernel
theorem dX12_isOwnPoint_15 : decode cX12_isOwnPoint 15 = .ok (.iload_n 1, 1) := by decide +kernel
theorem dX12_isOwnPoint_16 : decode cX12_isOwnPoint 16 = .ok (.iadd, 1) := by decide +kernel
theorem dX12_isOwnPoint_17 : decode cX12_isOwnPoint 17 = .ok (.iaload, 1) := by decide +kernel
theorem dX12_isOwnPoint_18 : decode cX12_isOwnPoint 18 = .ok (.iload_n 2, 1) := by decide +kernel
theorem dX12_isOwnPoint_19 : decode cX12_isOwnPoint 19 = .ok (.invokevirtual 190, 3) := by decide +kernel
theorem dX12_isOwnPoint_22 : decode cX12_isOwnPoint 22 = .ok (.ifCond .eq 7, 3) := by decide +kernel
theorem dX12_isOwnPoint_25 : decode cX12_isOwnPoint 25 = .ok (.iconst 1, 1) := by decide +kernel
theorem dX12_isOwnPoint_26 : decode cX12_isOwnPoint 26 = .ok (.goto 4, 3) := by decide +kernel
theorem dX12_isOwnPoint_29 : decode cX12_isOwnPoint 29 = .ok (.iconst 0, 1) := by decide +kernel
theorem dX12_isOwnPoint_30 : decode cX12_isOwnPoint 30 = .ok (.ireturn, 1) := by decide +kernel
def f_X12_isOwnPoint (v1 : Int32) (v2 : Int32) (σ : gSt) : Option (Int32 × gSt) :=
  (f_X12_isRunner v1 σ).bind fun p2 =>
  if p2.1 = 0 then
    some (0, p2.2)
  else
    (gld p2.2 30 0 397 (37 + v1)).bind fun a17 =>
    (f_X12_isPoint a17 v2 p2.2).bind fun p19 =>
    if p19.1 = 0 then
      some (0, p19.2)
    else
      some (1, p19.2)
theorem f_X12_isOwnPoint_ok {v1 : Int32} {v2 : Int32}  {σ : gSt} {r : (Int32 × gSt)} (h : f_X12_isOwnPoint v1 v2 σ = some r) : Mt l w 0 41 yX12_isOwnPoint cX12_isOwnPoint 3 (some .boolean) 3 65 [.ref (w.2.1 28 0), .int v1, .int v2] σ (gE (some (.int r.1)) r.2) := by
  unfold f_X12_isOwnPoint at h
  refine g_start pn_X12 rfl rfl (Nat.le_of_ble_eq_true rfl) ?_
  show G l w 0 41 RX12 cX12_isOwnPoint 3 (some .boolean) 3 65 (gE (some (.int r.1)) r.2) 0 [some (.ref (w.2.1 28 0)), some (.int v1), some (.int v2)] [] σ
  refine g_aload_n dX12_isOwnPoint_0 rfl ?_
  refine g_iload_n dX12_isOwnPoint_1 rfl ?_
  obtain ⟨p2, e2, h⟩ := obind h
  refine g_vP1 mv_X12_187 dX12_isOwnPoint_2 ok_28 ⟨by decide, by decide⟩ (Nat.le_of_ble_eq_true rfl) (f_X12_isRunner_ok e2) ?_
  refine g_if_eq 29 dX12_isOwnPoint_5 rfl (fun q => ?_) (fun q => ?_)
  · replace h := gif_t q h
    refine g_iconst dX12_isOwnPoint_29 kc_0 ?_
    cases h
    exact g_zret0 dX12_isOwnPoint_30 rfl
  · replace h := gif_f q h
    refine g_aload_n dX12_isOwnPoint_8 rfl ?_
    refine g_aload_n dX12_isOwnPoint_9 rfl ?_
    refine gR_X12_17 ok_28 dX12_isOwnPoint_10 ?_
    refine g_bipush dX12_isOwnPoint_13 kb_37 ?_
    refine g_iload_n dX12_isOwnPoint_15 rfl ?_
    refine g_iadd dX12_isOwnPoint_16 ?_
    obtain ⟨a17, e17, h⟩ := obind h
    refine g_ldB e17 ok_30 rfl rfl (by decide) dX12_isOwnPoint_17 ?_
    refine g_iload_n dX12_isOwnPoint_18 rfl ?_
    obtain ⟨p19, e19, h⟩ := obind h
    refine g_vP2 mv_X12_190 dX12_isOwnPoint_19 ok_28 ⟨by decide, by decide⟩ (Nat.le_of_ble_eq_true rfl) (f_X12_isPoint_ok e19) ?_
    refine g_if_eq 29 dX12_isOwnPoint_22 rfl (fun q => ?_) (fun q => ?_)
    · replace h := gif_t q h
      refine g_iconst dX12_isOwnPoint_29 kc_0 ?_
      cases h
      exact g_zret0 dX12_isOwnPoint_30 rfl
    · replace h := gif_f q h
      refine g_iconst dX12_isOwnPoint_25 kc_1 ?_
      refine g_goto 30 dX12_isOwnPoint_26 rfl ?_
      cases h
      exact g_zret1 dX12_isOwnPoint_30 rfl
theorem dX12_cell_0 : decode cX12_cell 0 = .ok (.bipush 17, 2) := by decide +kernel
theorem dX12_cell_2 : decode cX12_cell 2 = .ok (.iload_n 0, 1) := by decide +kernel
theorem dX12_cell_3 : decode cX12_cell 3 = .ok (.imul, 1) := by decide +kernel
theorem dX12_cell_4 : decode cX12_cell 4 = .ok (.iload_n 1, 1) := by decide +kernel
theorem dX12_cell_5 : decode cX12_cell 5 = .ok (.iadd, 1) := by decide +kernel
theorem dX12_cell_6 : decode cX12_cell 6 = .ok (.ireturn, 1) := by decide +kernel
def f_X12_cell (v0 : Int32) (v1 : Int32) (σ : gSt) : Option (Int32 × gSt) :=
  some (((17 * v0) + v1), σ)
theorem f_X12_cell_ok {v0 : Int32} {v1 : Int32}  {σ : gSt} {r : (Int32 × gSt)} (h : f_X12_cell v0 v1 σ = some r) : Mt l w 0 41 yX12_cell cX12_cell 2 (some .int) 0 0 [.int v0, .int v1] σ (gE (some (.int r.1)) r.2) := by
  unfold f_X12_cell at h
  refine g_start pn_X12 rfl rfl (Nat.le_of_ble_eq_true rfl) ?_
  show G l w 0 41 RX12 cX12_cell 2 (some .int) 0 0 (gE (some (.int r.1)) r.2) 0 [some (.int v0), some (.int v1)] [] σ
  refine g_bipush dX12_cell_0 kb_17 ?_
  refine g_iload_n dX12_cell_2 rfl ?_
  refine g_imul dX12_cell_3 ?_
  refine g_iload_n dX12_cell_4 rfl ?_
  refine g_iadd dX12_cell_5 ?_
  cases h
  exact g_iret dX12_cell_6 rfl ⟨rfl, rfl⟩
theorem dX12_codeOf_0 : decode cX12_codeOf 0 = .ok (.aload_n 0, 1) := by decide +kernel
theorem dX12_codeOf_1 : decode cX12_codeOf 1 = .ok (.getfield 17, 3) := by decide +kernel
theorem dX12_codeOf_4 : decode cX12_codeOf 4 = .ok (.bipush 7, 2) := by decide +kernel
theorem dX12_codeOf_6 : decode cX12_codeOf 6 = .ok (.bipush 10, 2) := by decide +kernel
theorem dX12_codeOf_8 : decode cX12_codeOf 8 = .ok (.iload_n 1, 1) := by decide +kernel
theorem dX12_codeOf_9 : decode cX12_codeOf 9 = .ok (.imul, 1) := by decide +kernel
theorem dX12_codeOf_10 : decode cX12_codeOf 10 = .ok (.iadd, 1) := by decide +kernel
theorem dX12_codeOf_11 : decode cX12_codeOf 11 = .ok (.iload_n 2, 1) := by decide +kernel
theorem dX12_codeOf_12 : decode cX12_codeOf 12 = .ok (.iadd, 1) := by decide +kernel
theorem dX12_codeOf_13 : decode cX12_codeOf 13 = .ok (.iaload, 1) := by decide +kernel
theorem dX12_codeOf_14 : decode cX12_codeOf 14 = .ok (.ireturn, 1) := by decide +kernel
def f_X12_codeOf (v1 : Int32) (v2 : Int32) (σ : gSt) : Option (Int32 × gSt) :=
  (gld σ 30 0 397 ((7 + (10 * v1)) + v2)).bind fun a13 =>
  some (a13, σ)
theorem f_X12_codeOf_ok {v1 : Int32} {v2 : Int32}  {σ : gSt} {r : (Int32 × gSt)} (h : f_X12_codeOf v1 v2 σ = some r) : Mt l w 0 41 yX12_codeOf cX12_codeOf 3 (some .int) 0 0 [.ref (w.2.1 28 0), .int v1, .int v2] σ (gE (some (.int r.1)) r.2) := by
  unfold f_X12_codeOf at h
  refine g_start pn_X12 rfl rfl (Nat.le_of_ble_eq_true rfl) ?_
  show G l w 0 41 RX12 cX12_codeOf 3 (some .int) 0 0 (gE (some (.int r.1)) r.2) 0 [some (.ref (w.2.1 28 0)), some (.int v1), some (.int v2)] [] σ
  refine g_aload_n dX12_codeOf_0 rfl ?_
  refine gR_X12_17 ok_28 dX12_codeOf_1 ?_
  refine g_bipush dX12_codeOf_4 kb_7 ?_
  refine g_bipush dX12_codeOf_6 kb_10 ?_
  refine g_iload_n dX12_codeOf_8 rfl ?_
  refine g_imul dX12_codeOf_9 ?_
  refine g_iadd dX12_codeOf_10 ?_
  refine g_iload_n dX12_codeOf_11 rfl ?_
  refine g_iadd dX12_codeOf_12 ?_
  obtain ⟨a13, e13, h⟩ := obind h
  refine g_ldB e13 ok_30 rfl rfl (by decide) dX12_codeOf_13 ?_
  cases h
  exact g_iret dX12_codeOf_14 rfl ⟨rfl, rfl⟩
theorem dX12_punchCode_0 : decode cX12_punchCode 0 = .ok (.aload_n 0, 1) := by decide +kernel
theorem dX12_punchCode_1 : decode cX12_punchCode 1 = .ok (.getfield 17, 3) := by decide +kernel
theorem dX12_punchCode_4 : decode cX12_punchCode 4 = .ok (.bipush 77, 2) := by decide +kernel
theorem dX12_punchCode_6 : decode cX12_punchCode 6 = .ok (.bipush 16, 2) := by decide +kernel
theorem dX12_punchCode_8 : decode cX12_punchCode 8 = .ok (.iload_n 1, 1) := by decide +kernel
theorem dX12_punchCode_9 : decode cX12_punchCode 9 = .ok (.imul, 1) := by decide +kernel
theorem dX12_punchCode_10 : decode cX12_punchCode 10 = .ok (.iadd, 1) := by decide +kernel
theorem dX12_punchCode_11 : decode cX12_punchCode 11 = .ok (.iload_n 2, 1) := by decide +kernel
theorem dX12_punchCode_12 : decode cX12_punchCode 12 = .ok (.iadd, 1) := by decide +kernel
theorem dX12_punchCode_13 : decode cX12_punchCode 13 = .ok (.iaload, 1) := by decide +kernel
theorem dX12_punchCode_14 : decode cX12_punchCode 14 = .ok (.ireturn, 1) := by decide +kernel
def f_X12_punchCode (v1 : Int32) (v2 : Int32) (σ : gSt) : Option (Int32 × gSt) :=
  (gld σ 30 0 397 ((77 + (16 * v1)) + v2)).bind fun a13 =>
  some (a13, σ)
theorem f_X12_punchCode_ok {v1 : Int32} {v2 : Int32}  {σ : gSt} {r : (Int32 × gSt)} (h : f_X12_punchCode v1 v2 σ = some r) : Mt l w 0 41 yX12_punchCode cX12_punchCode 3 (some .int) 0 0 [.ref (w.2.1 28 0), .int v1, .int v2] σ (gE (some (.int r.1)) r.2) := by
  unfold f_X12_punchCode at h
  refine g_start pn_X12 rfl rfl (Nat.le_of_ble_eq_true rfl) ?_
  show G l w 0 41 RX12 cX12_punchCode 3 (some .int) 0 0 (gE (some (.int r.1)) r.2) 0 [some (.ref (w.2.1 28 0)), some (.int v1), some (.int v2)] [] σ
  refine g_aload_n dX12_punchCode_0 rfl ?_
  refine gR_X12_17 ok_28 dX12_punchCode_1 ?_
  refine g_bipush dX12_punchCode_4 kb_77 ?_
  refine g_bipush dX12_punchCode_6 kb_16 ?_
  refine g_iload_n dX12_punchCode_8 rfl ?_
  refine g_imul dX12_punchCode_9 ?_
  refine g_iadd dX12_punchCode_10 ?_
  refine g_iload_n dX12_punchCode_11 rfl ?_
  refine g_iadd dX12_punchCode_12 ?_
  obtain ⟨a13, e13, h⟩ := obind h
  refine g_ldB e13 ok_30 rfl rfl (by decide) dX12_punchCode_13 ?_
  cases h
  exact g_iret dX12_punchCode_14 rfl ⟨rfl, rfl⟩
theorem dX12_punchTime_0 : decode cX12_punchTime 0 = .ok (.aload_n 0, 1) := by decide +kernel
theorem dX12_punchTime_1 : decode cX12_punchTime 1 = .ok (.getfield 17, 3) := by decide +kernel
theorem dX12_punchTime_4 : decode cX12_punchTime 4 = .ok (.sipush 237, 3) := by decide +kernel
theorem dX12_punchTime_7 : decode cX12_punchTime 7 = .ok (.bipush 16, 2) := by decide +kernel
theorem dX12_punchTime_9 : decode cX12_punchTime 9 = .ok (.iload_n 1, 1) := by decide +kernel
theorem dX12_punchTime_10 : decode cX12_punchTime 10 = .ok (.imul, 1) := by decide +kernel
theorem dX12_punchTime_11 : decode cX12_punchTime 11 = .ok (.iadd, 1) := by decide +kernel
theorem dX12_punchTime_12 : decode cX12_punchTime 12 = .ok (.iload_n 2, 1) := by decide +kernel
theorem dX12_punchTime_13 : decode cX12_punchTime 13 = .ok (.iadd, 1) := by decide +kernel
theorem dX12_punchTime_14 : decode cX12_punchTime 14 = .ok (.iaload, 1) := by decide +kernel
theorem dX12_punchTime_15 : decode cX12_punchTime 15 = .ok (.ireturn, 1) := by decide +kernel
def f_X12_punchTime (v1 : Int32) (v2 : Int32) (σ : gSt) : Option (Int32 × gSt) :=
  (gld σ 30 0 397 ((237 + (16 * v1)) + v2)).bind fun a14 =>
  some (a14, σ)
theorem f_X12_punchTime_ok {v1 : Int32} {v2 : Int32}  {σ : gSt} {r : (Int32 × gSt)} (h : f_X12_punchTime v1 v2 σ = some r) : Mt l w 0 41 yX12_punchTime cX12_punchTime 3 (some .int) 0 0 [.ref (w.2.1 28 0), .int v1, .int v2] σ (gE (some (.int r.1)) r.2) := by
  unfold f_X12_punchTime at h
  refine g_start pn_X12 rfl rfl (Nat.le_of_ble_eq_true rfl) ?_
  show G l w 0 41 RX12 cX12_punchTime 3 (some .int) 0 0 (gE (some (.int r.1)) r.2) 0 [some (.ref (w.2.1 28 0)), some (.int v1), some (.int v2)] [] σ
  refine g_aload_n dX12_punchTime_0 rfl ?_
  refine gR_X12_17 ok_28 dX12_punchTime_1 ?_
  refine g_sipush dX12_punchTime_4 ks_237 ?_
  refine g_bipush dX12_punchTime_7 kb_16 ?_
  refine g_iload_n dX12_punchTime_9 rfl ?_
  refine g_imul dX12_punchTime_10 ?_
  refine g_iadd dX12_punchTime_11 ?_
  refine g_iload_n dX12_punchTime_12 rfl ?_
  refine g_iadd dX12_punchTime_13 ?_
  obtain ⟨a14, e14, h⟩ := obind h
  refine g_ldB e14 ok_30 rfl rfl (by decide) dX12_punchTime_14 ?_
  cases h
  exact g_iret dX12_punchTime_15 rfl ⟨rfl, rfl⟩
theorem dX12_matches_0 : decode cX12_matches 0 = .ok (.aload_n 0, 1) := by decide +kernel
theorem dX12_matches_1 : decode cX12_matches 1 = .ok (.getfield 17, 3) := by decide +kernel
theorem dX12_matches_4 : decode cX12_matches 4 = .ok (.iconst 4, 1) := by decide +kernel
theorem dX12_matches_5 : decode cX12_matches 5 = .ok (.iload_n 2, 1) := by decide +kernel
theorem dX12_matches_6 : decode cX12_matches 6 = .ok (.iadd, 1) := by decide +kernel
theorem dX12_matches_7 : decode cX12_matches 7 = .ok (.iaload, 1) := by decide +kernel
theorem dX12_matches_8 : decode cX12_matches 8 = .ok (.istore_n 3, 1) := by decide +kernel
theorem dX12_matches_9 : decode cX12_matches 9 = .ok (.aload_n 0, 1) := by decide +kernel
theorem dX12_matches_10 : decode cX12_matches 10 = .ok (.getfield 17, 3) := by decide +kernel
theorem dX12_matches_13 : decode cX12_matches 13 = .ok (.bipush 67, 2) := by decide +kernel
theorem dX12_matches_15 : decode cX12_matches 15 = .ok (.iload_n 1, 1) := by decide +kernel
theorem dX12_matches_16 : decode cX12_matches 16 = .ok (.iadd, 1) := by decide +kernel
theorem dX12_matches_17 : decode cX12_matches 17 = .ok (.iaload, 1) := by decide +kernel
theorem dX12_matches_18 : decode cX12_matches 18 = .ok (.istore 4, 2) := by decide +kernel
theorem dX12_matches_20 : decode cX12_matches 20 = .ok (.iload_n 3, 1) := by decide +kernel
theorem dX12_matches_21 : decode cX12_matches 21 = .ok (.istore 5, 2) := by decide +kernel
theorem dX12_matches_23 : decode cX12_matches 23 = .ok (.iload 5, 2) := by decide +kernel
theorem dX12_matches_25 : decode cX12_matches 25 = .ok (.ifCond .lt 159, 3) := by decide +kernel
theorem dX12_matches_28 : decode cX12_matches 28 = .ok (.iload 4, 2) := by decide +kernel
theorem dX12_matches_30 : decode cX12_matches 30 = .ok (.istore 6, 2) := by decide +kernel
theorem dX12_matches_32 : decode cX12_matches 32 = .ok (.iload 6, 2) := by decide +kernel
theorem dX12_matches_34 : decode cX12_matches 34 = .ok (.ifCond .lt 144, 3) := by decide +kernel
theorem dX12_matches_37 : decode cX12_matches 37 = .ok (.iconst 0, 1) := by decide +kernel
theorem dX12_matches_38 : decode cX12_matches 38 = .ok (.istore 7, 2) := by decide +kernel
theorem dX12_matches_40 : decode cX12_matches 40 = .ok (.iload 5, 2) := by decide +kernel
theorem dX12_matches_42 : decode cX12_matches 42 = .ok (.iload_n 3, 1) := by decide +kernel
theorem dX12_matches_43 : decode cX12_matches 43 = .ok (.if_icmp .ge 115, 3) := by decide +kernel
theorem dX12_matches_46 : decode cX12_matches 46 = .ok (.iload 6, 2) := by decide +kernel
theorem dX12_matches_48 : decode cX12_matches 48 = .ok (.iload 4, 2) := by decide +kernel
theorem dX12_matches_50 : decode cX12_matches 50 = .ok (.if_icmp .ge 108, 3) := by decide +kernel
theorem dX12_matches_53 : decode cX12_matches 53 = .ok (.aload_n 0, 1) := by decide +kernel
theorem dX12_matches_54 : decode cX12_matches 54 = .ok (.getfield 29, 3) := by decide +kernel
theorem dX12_matches_57 : decode cX12_matches 57 = .ok (.iload 5, 2) := by decide +kernel
theorem dX12_matches_59 : decode cX12_matches 59 = .ok (.iconst 1, 1) := by decide +kernel
theorem dX12_matches_60 : decode cX12_matches 60 = .ok (.iadd, 1) := by decide +kernel
theorem dX12_matches_61 : decode cX12_matches 61 = .ok (.iload 6, 2) := by decide +kernel
theorem dX12_matches_63 : decode cX12_matches 63 = .ok (.invokestatic 194, 3) := by decide +kernel
theorem dX12_matches_66 : decode cX12_matches 66 = .ok (.iaload, 1) := by decide +kernel
theorem dX12_matches_67 : decode cX12_matches 67 = .ok (.istore 8, 2) := by decide +kernel
theorem dX12_matches_69 : decode cX12_matches 69 = .ok (.aload_n 0, 1) := by decide +kernel
theorem dX12_matches_70 : decode cX12_matches 70 = .ok (.getfield 29, 3) := by decide +kernel
theorem dX12_matches_73 : decode cX12_matches 73 = .ok (.iload 5, 2) := by decide +kernel
theorem dX12_matches_75 : decode cX12_matches 75 = .ok (.iload 6, 2) := by decide +kernel
theorem dX12_matches_77 : decode cX12_matches 77 = .ok (.iconst 1, 1) := by decide +kernel
theorem dX12_matches_78 : decode cX12_matches 78 = .ok (.iadd, 1) := by decide +kernel
theorem dX12_matches_79 : decode cX12_matches 79 = .ok (.invokestatic 194, 3) := by decide +kernel
theorem dX12_matches_82 : decode cX12_matches 82 = .ok (.iaload, 1) := by decide +kernel
theorem dX12_matches_83 : decode cX12_matches 83 = .ok (.istore 9, 2) := by decide +kernel
theorem dX12_matches_85 : decode cX12_matches 85 = .ok (.iload 8, 2) := by decide +kernel
theorem dX12_matches_87 : decode cX12_matches 87 = .ok (.iload 9, 2) := by decide +kernel
theorem dX12_matches_89 : decode cX12_matches 89 = .ok (.if_icmp .le 8, 3) := by decide +kernel
theorem dX12_matches_92 : decode cX12_matches 92 = .ok (.iload 8, 2) := by decide +kernel
theorem dX12_matches_94 : decode cX12_matches 94 = .ok (.goto 5, 3) := by decide +kernel
theorem dX12_matches_97 : decode cX12_matches 97 = .ok (.iload 9, 2) := by decide +kernel
theorem dX12_matches_99 : decode cX12_matches 99 = .ok (.istore 7, 2) := by decide +kernel
theorem dX12_matches_101 : decode cX12_matches 101 = .ok (.aload_n 0, 1) := by decide +kernel
theorem dX12_matches_102 : decode cX12_matches 102 = .ok (.iload_n 2, 1) := by decide +kernel
theorem dX12_matches_103 : decode cX12_matches 103 = .ok (.iload 5, 2) := by decide +kernel
theorem dX12_matches_105 : decode cX12_matches 105 = .ok (.invokevirtual 197, 3) := by decide +kernel
theorem dX12_matches_108 : decode cX12_matches 108 = .ok (.aload_n 0, 1) := by decide +kernel
theorem dX12_matches_109 : decode cX12_matches 109 = .ok (.iload_n 1, 1) := by decide +kernel
theorem dX12_matches_110 : decode cX12_matches 110 = .ok (.iload 6, 2) := by decide +kernel
theorem dX12_matches_112 : decode cX12_matches 112 = .ok (.invokevirtual 200, 3) := by decide +kernel
theorem dX12_matches_115 : decode cX12_matches 115 = .ok (.if_icmp .ne 24, 3) := by decide +kernel
theorem dX12_matches_118 : decode cX12_matches 118 = .ok (.iconst 1, 1) := by decide +kernel
theorem dX12_matches_119 : decode cX12_matches 119 = .ok (.aload_n 0, 1) := by decide +kernel
theorem dX12_matches_120 : decode cX12_matches 120 = .ok (.getfield 29, 3) := by decide +kernel
theorem dX12_matches_123 : decode cX12_matches 123 = .ok (.iload 5, 2) := by decide +kernel
theorem dX12_matches_125 : decode cX12_matches 125 = .ok (.iconst 1, 1) := by decide +kernel
theorem dX12_matches_126 : decode cX12_matches 126 = .ok (.iadd, 1) := by decide +kernel
theorem dX12_matches_127 : decode cX12_matches 127 = .ok (.iload 6, 2) := by decide +kernel
theorem dX12_matches_129 : decode cX12_matches 129 = .ok (.iconst 1, 1) := by decide +kernel
theorem dX12_matches_130 : decode cX12_matches 130 = .ok (.iadd, 1) := by decide +kernel
theorem dX12_matches_131 : decode cX12_matches 131 = .ok (.invokestatic 194, 3) := by decide +kernel
theorem dX12_matches_134 : decode cX12_matches 134 = .ok (.iaload, 1) := by decide +kernel
theorem dX12_matches_135 : decode cX12_matches 135 = .ok (.iadd, 1) := by decide +kernel
theorem dX12_matches_136 : decode cX12_matches 136 = .ok (.goto 4, 3) := by decide +kernel
theorem dX12_matches_139 : decode cX12_matches 139 = .ok (.iconst 0, 1) := by decide +kernel
theorem dX12_matches_140 : decode cX12_matches 140 = .ok (.istore 10, 2) := by decide +kernel
theorem dX12_matches_142 : decode cX12_matches 142 = .ok (.iload 10, 2) := by decide +kernel
theorem dX12_matches_144 : decode cX12_matches 144 = .ok (.iload 7, 2) := by decide +kernel
theorem dX12_matches_146 : decode cX12_matches 146 = .ok (.if_icmp .le 8, 3) := by decide +kernel
theorem dX12_matches_149 : decode cX12_matches 149 = .ok (.iload 10, 2) := by decide +kernel
theorem dX12_matches_151 : decode cX12_matches 151 = .ok (.goto 5, 3) := by decide +kernel
theorem dX12_matches_154 : decode cX12_matches 154 = .ok (.iload 7, 2) := by decide +kernel
theorem dX12_matches_156 : decode cX12_matches 156 = .ok (.istore 7, 2) := by decide +kernel
theorem dX12_matches_158 : decode cX12_matches 158 = .ok (.aload_n 0, 1) := by decide +kernel
theorem dX12_matches_159 : decode cX12_matches 159 = .ok (.getfield 29, 3) := by decide +kernel
theorem dX12_matches_162 : decode cX12_matches 162 = .ok (.iload 5, 2) := by decide +kernel
theorem dX12_matches_164 : decode cX12_matches 164 = .ok (.iload 6, 2) := by decide +kernel
theorem dX12_matches_166 : decode cX12_matches 166 = .ok (.invokestatic 194, 3) := by decide +kernel
theorem dX12_matches_169 : decode cX12_matches 169 = .ok (.iload 7, 2) := by decide +kernel
theorem dX12_matches_171 : decode cX12_matches 171 = .ok (.iastore, 1) := by decide +kernel
theorem dX12_matches_172 : decode cX12_matches 172 = .ok (.iinc 6 (-1), 3) := by decide +kernel
theorem dX12_matches_175 : decode cX12_matches 175 = .ok (.goto (-143), 3) := by decide +kernel
theorem dX12_matches_178 : decode cX12_matches 178 = .ok (.iinc 5 (-1), 3) := by decide +kernel
theorem dX12_matches_181 : decode cX12_matches 181 = .ok (.goto (-158), 3) := by decide +kernel
theorem dX12_matches_184 : decode cX12_matches 184 = .ok (.iconst 0, 1) := by decide +kernel
theorem dX12_matches_185 : decode cX12_matches 185 = .ok (.istore 5, 2) := by decide +kernel
theorem dX12_matches_187 : decode cX12_matches 187 = .ok (.iconst 0, 1) := by decide +kernel
theorem dX12_matches_188 : decode cX12_matches 188 = .ok (.istore 6, 2) := by decide +kernel
theorem dX12_matches_190 : decode cX12_matches 190 = .ok (.iconst 0, 1) := by decide +kernel
theorem dX12_matches_191 : decode cX12_matches 191 = .ok (.istore 7, 2) := by decide +kernel
theorem dX12_matches_193 : decode cX12_matches 193 = .ok (.iload 7, 2) := by decide +kernel
theorem dX12_matches_195 : decode cX12_matches 195 = .ok (.iload_n 3, 1) := by decide +kernel
theorem dX12_matches_196 : decode cX12_matches 196 = .ok (.if_icmp .ge 152, 3) := by decide +kernel
theorem dX12_matches_199 : decode cX12_matches 199 = .ok (.aload_n 0, 1) := by decide +kernel
theorem dX12_matches_200 : decode cX12_matches 200 = .ok (.getfield 32, 3) := by decide +kernel
theorem dX12_matches_203 : decode cX12_matches 203 = .ok (.iload 7, 2) := by decide +kernel
theorem dX12_matches_205 : decode cX12_matches 205 = .ok (.iconst (-1), 1) := by decide +kernel
theorem dX12_matches_206 : decode cX12_matches 206 = .ok (.iastore, 1) := by decide +kernel
theorem dX12_matches_207 : decode cX12_matches 207 = .ok (.iload 5, 2) := by decide +kernel
theorem dX12_matches_209 : decode cX12_matches 209 = .ok (.istore 8, 2) := by decide +kernel
theorem dX12_matches_211 : decode cX12_matches 211 = .ok (.iload 8, 2) := by decide +kernel
theorem dX12_matches_213 : decode cX12_matches 213 = .ok (.iload 4, 2) := by decide +kernel
theorem dX12_matches_215 : decode cX12_matches 215 = .ok (.if_icmp .ge 79, 3) := by decide +kernel
theorem dX12_matches_218 : decode cX12_matches 218 = .ok (.aload_n 0, 1) := by decide +kernel
theorem dX12_matches_219 : decode cX12_matches 219 = .ok (.getfield 32, 3) := by decide +kernel
theorem dX12_matches_222 : decode cX12_matches 222 = .ok (.iload 7, 2) := by decide +kernel
theorem dX12_matches_224 : decode cX12_matches 224 = .ok (.iaload, 1) := by decide +kernel
theorem dX12_matches_225 : decode cX12_matches 225 = .ok (.iconst (-1), 1) := by decide +kernel
theorem dX12_matches_226 : decode cX12_matches 226 = .ok (.if_icmp .ne 68, 3) := by decide +kernel
theorem dX12_matches_229 : decode cX12_matches 229 = .ok (.aload_n 0, 1) := by decide +kernel
theorem dX12_matches_230 : decode cX12_matches 230 = .ok (.iload_n 2, 1) := by decide +kernel
theorem dX12_matches_231 : decode cX12_matches 231 = .ok (.iload 7, 2) := by decide +kernel
theorem dX12_matches_233 : decode cX12_matches 233 = .ok (.invokevirtual 197, 3) := by decide +kernel
theorem dX12_matches_236 : decode cX12_matches 236 = .ok (.aload_n 0, 1) := by decide +kernel
theorem dX12_matches_237 : decode cX12_matches 237 = .ok (.iload_n 1, 1) := by decide +kernel
theorem dX12_matches_238 : decode cX12_matches 238 = .ok (.iload 8, 2) := by decide +kernel
theorem dX12_matches_240 : decode cX12_matches 240 = .ok (.invokevirtual 200, 3) := by decide +kernel
theorem dX12_matches_243 : decode cX12_matches 243 = .ok (.if_icmp .ne 45, 3) := by decide +kernel
theorem dX12_matches_246 : decode cX12_matches 246 = .ok (.iconst 1, 1) := by decide +kernel
theorem dX12_matches_247 : decode cX12_matches 247 = .ok (.aload_n 0, 1) := by decide +kernel
theorem dX12_matches_248 : decode cX12_matches 248 = .ok (.getfield 29, 3) := by decide +kernel
theorem dX12_matches_251 : decode cX12_matches 251 = .ok (.iload 7, 2) := by decide +kernel
theorem dX12_matches_253 : decode cX12_matches 253 = .ok (.iconst 1, 1) := by decide +kernel
theorem dX12_matches_254 : decode cX12_matches 254 = .ok (.iadd, 1) := by decide +kernel
theorem dX12_matches_255 : decode cX12_matches 255 = .ok (.iload 8, 2) := by decide +kernel
theorem dX12_matches_257 : decode cX12_matches 257 = .ok (.iconst 1, 1) := by decide +kernel
theorem dX12_matches_258 : decode cX12_matches 258 = .ok (.iadd, 1) := by decide +kernel
theorem dX12_matches_259 : decode cX12_matches 259 = .ok (.invokestatic 194, 3) := by decide +kernel
theorem dX12_matches_262 : decode cX12_matches 262 = .ok (.iaload, 1) := by decide +kernel
theorem dX12_matches_263 : decode cX12_matches 263 = .ok (.iadd, 1) := by decide +kernel
theorem dX12_matches_264 : decode cX12_matches 264 = .ok (.aload_n 0, 1) := by decide +kernel
theorem dX12_matches_265 : decode cX12_matches 265 = .ok (.getfield 29, 3) := by decide +kernel
theorem dX12_matches_268 : decode cX12_matches 268 = .ok (.iload 7, 2) := by decide +kernel
theorem dX12_matches_270 : decode cX12_matches 270 = .ok (.iload 5, 2) := by decide +kernel
theorem dX12_matches_272 : decode cX12_matches 272 = .ok (.invokestatic 194, 3) := by decide +kernel
theorem dX12_matches_275 : decode cX12_matches 275 = .ok (.iaload, 1) := by decide +kernel
theorem dX12_matches_276 : decode cX12_matches 276 = .ok (.if_icmp .ne 12, 3) := by decide +kernel
theorem dX12_matches_279 : decode cX12_matches 279 = .ok (.aload_n 0, 1) := by decide +kernel
theorem dX12_matches_280 : decode cX12_matches 280 = .ok (.getfield 32, 3) := by decide +kernel
theorem dX12_matches_283 : decode cX12_matches 283 = .ok (.iload 7, 2) := by decide +kernel
theorem dX12_matches_285 : decode cX12_matches 285 = .ok (.iload 8, 2) := by decide +kernel
theorem dX12_matches_287 : decode cX12_matches 287 = .ok (.iastore, 1) := by decide +kernel
theorem dX12_matches_288 : decode cX12_matches 288 = .ok (.iinc 8 1, 3) := by decide +kernel
theorem dX12_matches_291 : decode cX12_matches 291 = .ok (.goto (-80), 3) := by decide +kernel
theorem dX12_matches_294 : decode cX12_matches 294 = .ok (.aload_n 0, 1) := by decide +kernel
theorem dX12_matches_295 : decode cX12_matches 295 = .ok (.getfield 32, 3) := by decide +kernel
theorem dX12_matches_298 : decode cX12_matches 298 = .ok (.iload 7, 2) := by decide +kernel
theorem dX12_matches_300 : decode cX12_matches 300 = .ok (.iaload, 1) := by decide +kernel
theorem dX12_matches_301 : decode cX12_matches 301 = .ok (.iconst (-1), 1) := by decide +kernel
theorem dX12_matches_302 : decode cX12_matches 302 = .ok (.if_icmp .ne 8, 3) := by decide +kernel
theorem dX12_matches_305 : decode cX12_matches 305 = .ok (.iload 5, 2) := by decide +kernel
theorem dX12_matches_307 : decode cX12_matches 307 = .ok (.goto 12, 3) := by decide +kernel
theorem dX12_matches_310 : decode cX12_matches 310 = .ok (.aload_n 0, 1) := by decide +kernel
theorem dX12_matches_311 : decode cX12_matches 311 = .ok (.getfield 32, 3) := by decide +kernel
theorem dX12_matches_314 : decode cX12_matches 314 = .ok (.iload 7, 2) := by decide +kernel
theorem dX12_matches_316 : decode cX12_matches 316 = .ok (.iaload, 1) := by decide +kernel
theorem dX12_matches_317 : decode cX12_matches 317 = .ok (.iconst 1, 1) := by decide +kernel
theorem dX12_matches_318 : decode cX12_matches 318 = .ok (.iadd, 1) := by decide +kernel
theorem dX12_matches_319 : decode cX12_matches 319 = .ok (.istore 5, 2) := by decide +kernel
theorem dX12_matches_321 : decode cX12_matches 321 = .ok (.iload 6, 2) := by decide +kernel
theorem dX12_matches_323 : decode cX12_matches 323 = .ok (.aload_n 0, 1) := by decide +kernel
theorem dX12_matches_324 : decode cX12_matches 324 = .ok (.getfield 32, 3) := by decide +kernel
theorem dX12_matches_327 : decode cX12_matches 327 = .ok (.iload 7, 2) := by decide +kernel
theorem dX12_matches_329 : decode cX12_matches 329 = .ok (.iaload, 1) := by decide +kernel
theorem dX12_matches_330 : decode cX12_matches 330 = .ok (.iconst (-1), 1) := by decide +kernel
theorem dX12_matches_331 : decode cX12_matches 331 = .ok (.if_icmp .ne 7, 3) := by decide +kernel
theorem dX12_matches_334 : decode cX12_matches 334 = .ok (.iconst 1, 1) := by decide +kernel
theorem dX12_matches_335 : decode cX12_matches 335 = .ok (.goto 4, 3) := by decide +kernel
theorem dX12_matches_338 : decode cX12_matches 338 = .ok (.iconst 0, 1) := by decide +kernel
theorem dX12_matches_339 : decode cX12_matches 339 = .ok (.iadd, 1) := by decide +kernel
theorem dX12_matches_340 : decode cX12_matches 340 = .ok (.istore 6, 2) := by decide +kernel
theorem dX12_matches_342 : decode cX12_matches 342 = .ok (.iinc 7 1, 3) := by decide +kernel
theorem dX12_matches_345 : decode cX12_matches 345 = .ok (.goto (-152), 3) := by decide +kernel
theorem dX12_matches_348 : decode cX12_matches 348 = .ok (.iload 6, 2) := by decide +kernel
theorem dX12_matches_350 : decode cX12_matches 350 = .ok (.ireturn, 1) := by decide +kernel
def f_X12_matches_319 (v1 : Int32) (v2 : Int32) (v3 : Int32) (v4 : Int32) (v6 : Int32) (v7 : Int32) (k193 : Int32 → Int32 → Int32 → gSt → Option (Int32 × gSt)) (vs0 : Int32) (σ : gSt) : Option (Int32 × gSt) :=
  (gld σ 35 0 10 v7).bind fun a329 =>
  if a329 = (-1) then
    k193 vs0 (v6 + 1) (v7 + 1) σ
  else
    k193 vs0 (v6 + 0) (v7 + 1) σ
def f_X12_matches_294 (v1 : Int32) (v2 : Int32) (v3 : Int32) (v4 : Int32) (v5 : Int32) (v6 : Int32) (v7 : Int32) (k193 : Int32 → Int32 → Int32 → gSt → Option (Int32 × gSt)) (σ : gSt) : Option (Int32 × gSt) :=
  (gld σ 35 0 10 v7).bind fun a300 =>
  if a300 = (-1) then
    f_X12_matches_319 v1 v2 v3 v4 v6 v7 k193 v5 σ
  else
    (gld σ 35 0 10 v7).bind fun a316 =>
    f_X12_matches_319 v1 v2 v3 v4 v6 v7 k193 (a316 + 1) σ
def f_X12_matches_211 (v1 : Int32) (v2 : Int32) (v3 : Int32) (v4 : Int32) (v5 : Int32) (v6 : Int32) (v7 : Int32) (k193 : Int32 → Int32 → Int32 → gSt → Option (Int32 × gSt)) : Nat → Int32 → gSt → Option (Int32 × gSt)
  | 0, _, _ => none
  | n + 1, v8, σ =>
    if v4 ≤ v8 then
      f_X12_matches_294 v1 v2 v3 v4 v5 v6 v7 k193 σ
    else
      (gld σ 35 0 10 v7).bind fun a224 =>
      if a224 = (-1) then
        (f_X12_codeOf v2 v7 σ).bind fun p233 =>
        (f_X12_punchCode v1 v8 p233.2).bind fun p240 =>
        if p233.1 = p240.1 then
          (f_X12_cell (v7 + 1) (v8 + 1) p240.2).bind fun p259 =>
          (gld p259.2 34 0 187 p259.1).bind fun a262 =>
          (f_X12_cell v7 v5 p259.2).bind fun p272 =>
          (gld p272.2 34 0 187 p272.1).bind fun a275 =>
          if (1 + a262) = a275 then
            (gst p272.2 35 0 10 v7 v8).bind fun z287 =>
            f_X12_matches_211 v1 v2 v3 v4 v5 v6 v7 k193 n (v8 + 1) z287
          else
            f_X12_matches_211 v1 v2 v3 v4 v5 v6 v7 k193 n (v8 + 1) p272.2
        else
          f_X12_matches_211 v1 v2 v3 v4 v5 v6 v7 k193 n (v8 + 1) p240.2
      else
        f_X12_matches_294 v1 v2 v3 v4 v5 v6 v7 k193 σ
def f_X12_matches_193 (v1 : Int32) (v2 : Int32) (v3 : Int32) (v4 : Int32) : Nat → Int32 → Int32 → Int32 → gSt → Option (Int32 × gSt)
  | 0, _, _, _, _ => none
  | n + 1, v5, v6, v7, σ =>
    if v3 ≤ v7 then
      some (v6, σ)
    else
      (gst σ 35 0 10 v7 (-1)).bind fun z206 =>
      f_X12_matches_211 v1 v2 v3 v4 v5 v6 v7 (fun v5 v6 v7 σ => f_X12_matches_193 v1 v2 v3 v4 n v5 v6 v7 σ) gFuel v5 z206
def f_X12_matches_140 (v1 : Int32) (v2 : Int32) (v3 : Int32) (v4 : Int32) (v5 : Int32) (v6 : Int32) (v7 : Int32) (k23 : Int32 → gSt → Option (Int32 × gSt)) (k32 : Int32 → gSt → Option (Int32 × gSt)) (vs0 : Int32) (σ : gSt) : Option (Int32 × gSt) :=
  if vs0 ≤ v7 then
    (f_X12_cell v5 v6 σ).bind fun p166 =>
    (gst p166.2 34 0 187 p166.1 v7).bind fun z171 =>
    k32 (v6 + (-1)) z171
  else
    (f_X12_cell v5 v6 σ).bind fun p166 =>
    (gst p166.2 34 0 187 p166.1 vs0).bind fun z171 =>
    k32 (v6 + (-1)) z171
def f_X12_matches_99 (v1 : Int32) (v2 : Int32) (v3 : Int32) (v4 : Int32) (v5 : Int32) (v6 : Int32) (k23 : Int32 → gSt → Option (Int32 × gSt)) (k32 : Int32 → gSt → Option (Int32 × gSt)) (vs0 : Int32) (σ : gSt) : Option (Int32 × gSt) :=
  (f_X12_codeOf v2 v5 σ).bind fun p105 =>
  (f_X12_punchCode v1 v6 p105.2).bind fun p112 =>
  if p105.1 = p112.1 then
    (f_X12_cell (v5 + 1) (v6 + 1) p112.2).bind fun p131 =>
    (gld p131.2 34 0 187 p131.1).bind fun a134 =>
    f_X12_matches_140 v1 v2 v3 v4 v5 v6 vs0 k23 k32 (1 + a134) p131.2
  else
    f_X12_matches_140 v1 v2 v3 v4 v5 v6 vs0 k23 k32 0 p112.2
def f_X12_matches_32 (v1 : Int32) (v2 : Int32) (v3 : Int32) (v4 : Int32) (v5 : Int32) (k23 : Int32 → gSt → Option (Int32 × gSt)) : Nat → Int32 → gSt → Option (Int32 × gSt)
  | 0, _, _ => none
  | n + 1, v6, σ =>
    if v6 < 0 then
      k23 (v5 + (-1)) σ
    else
      if v3 ≤ v5 then
        (f_X12_cell v5 v6 σ).bind fun p166 =>
        (gst p166.2 34 0 187 p166.1 0).bind fun z171 =>
        f_X12_matches_32 v1 v2 v3 v4 v5 k23 n (v6 + (-1)) z171
      else
        if v4 ≤ v6 then
          (f_X12_cell v5 v6 σ).bind fun p166 =>
          (gst p166.2 34 0 187 p166.1 0).bind fun z171 =>
          f_X12_matches_32 v1 v2 v3 v4 v5 k23 n (v6 + (-1)) z171
        else
          (f_X12_cell (v5 + 1) v6 σ).bind fun p63 =>
          (gld p63.2 34 0 187 p63.1).bind fun a66 =>
          (f_X12_cell v5 (v6 + 1) p63.2).bind fun p79 =>
          (gld p79.2 34 0 187 p79.1).bind fun a82 =>
          if a66 ≤ a82 then
            f_X12_matches_99 v1 v2 v3 v4 v5 v6 k23 (fun v6 σ => f_X12_matches_32 v1 v2 v3 v4 v5 k23 n v6 σ) a82 p79.2
          else
            f_X12_matches_99 v1 v2 v3 v4 v5 v6 k23 (fun v6 σ => f_X12_matches_32 v1 v2 v3 v4 v5 k23 n v6 σ) a66 p79.2
def f_X12_matches_23 (v1 : Int32) (v2 : Int32) (v3 : Int32) (v4 : Int32) : Nat → Int32 → gSt → Option (Int32 × gSt)
  | 0, _, _ => none
  | n + 1, v5, σ =>
    if v5 < 0 then
      f_X12_matches_193 v1 v2 v3 v4 gFuel 0 0 0 σ
    else
      f_X12_matches_32 v1 v2 v3 v4 v5 (fun v5 σ => f_X12_matches_23 v1 v2 v3 v4 n v5 σ) gFuel v4 σ
def f_X12_matches (v1 : Int32) (v2 : Int32) (σ : gSt) : Option (Int32 × gSt) :=
  (gld σ 30 0 397 (4 + v2)).bind fun a7 =>
  (gld σ 30 0 397 (67 + v1)).bind fun a17 =>
  f_X12_matches_23 v1 v2 a7 a17 gFuel a7 σ
theorem f_X12_matches_319_ok {v1 : Int32} {v2 : Int32} {v3 : Int32} {v4 : Int32} {v6 : Int32} {v7 : Int32} {k193 : Int32 → Int32 → Int32 → gSt → Option (Int32 × gSt)} {vs0 : Int32} {r : (Int32 × gSt)} (hk193 : ∀ {v5 : Int32} {v6 : Int32} {v7 : Int32} {σ : gSt} {x8 x9 x10 : Option Value}, k193 v5 v6 v7 σ = some r → G l w 0 41 RX12 cX12_matches 11 (some .int) 1 22 (gE (some (.int r.1)) r.2) 193 [some (.ref (w.2.1 28 0)), some (.int v1), some (.int v2), some (.int v3), some (.int v4), some (.int v5), some (.int v6), some (.int v7), x8, x9, x10] [] σ) {σ : gSt} {x5 x8 x9 x10 : Option Value} (h : f_X12_matches_319 v1 v2 v3 v4 v6 v7 k193 vs0 σ = some r) : G l w 0 41 RX12 cX12_matches 11 (some .int) 1 22 (gE (some (.int r.1)) r.2) 319 [some (.ref (w.2.1 28 0)), some (.int v1), some (.int v2), some (.int v3), some (.int v4), x5, some (.int v6), some (.int v7), x8, x9, x10] [.int vs0] σ := by
  unfold f_X12_matches_319 at h
  refine g_istore5 dX12_matches_319 ?_
  refine g_iload dX12_matches_321 rfl ?_
  refine g_aload_n dX12_matches_323 rfl ?_
  refine gR_X12_32 ok_28 dX12_matches_324 ?_
  refine g_iload dX12_matches_327 rfl ?_
  obtain ⟨a329, e329, h⟩ := obind h
  refine g_ldB e329 ok_35 rfl rfl (by decide) dX12_matches_329 ?_
  refine g_iconst dX12_matches_330 kc_m1 ?_
  refine g_icmp_ne 338 dX12_matches_331 rfl (fun q => ?_) (fun q => ?_)
  · replace h := gif_f q h
    refine g_iconst dX12_matches_338 kc_0 ?_
    refine g_iadd dX12_matches_339 ?_
    refine g_istore6 dX12_matches_340 ?_
    refine g_inc7 kc_1 dX12_matches_342 ?_
    refine g_goto 193 dX12_matches_345 rfl ?_
    exact hk193 h
  · replace h := gif_t q h
    refine g_iconst dX12_matches_334 kc_1 ?_
    refine g_goto 339 dX12_matches_335 rfl ?_
    refine g_iadd dX12_matches_339 ?_
    refine g_istore6 dX12_matches_340 ?_
    refine g_inc7 kc_1 dX12_matches_342 ?_
    refine g_goto 193 dX12_matches_345 rfl ?_
    exact hk193 h
theorem f_X12_matches_294_ok {v1 : Int32} {v2 : Int32} {v3 : Int32} {v4 : Int32} {v5 : Int32} {v6 : Int32} {v7 : Int32} {k193 : Int32 → Int32 → Int32 → gSt → Option (Int32 × gSt)} {r : (Int32 × gSt)} (hk193 : ∀ {v5 : Int32} {v6 : Int32} {v7 : Int32} {σ : gSt} {x8 x9 x10 : Option Value}, k193 v5 v6 v7 σ = some r → G l w 0 41 RX12 cX12_matches 11 (some .int) 1 22 (gE (some (.int r.1)) r.2) 193 [some (.ref (w.2.1 28 0)), some (.int v1), some (.int v2), some (.int v3), some (.int v4), some (.int v5), some (.int v6), some (.int v7), x8, x9, x10] [] σ) {σ : gSt} {x8 x9 x10 : Option Value} (h : f_X12_matches_294 v1 v2 v3 v4 v5 v6 v7 k193 σ = some r) : G l w 0 41 RX12 cX12_matches 11 (some .int) 1 22 (gE (some (.int r.1)) r.2) 294 [some (.ref (w.2.1 28 0)), some (.int v1), some (.int v2), some (.int v3), some (.int v4), some (.int v5), some (.int v6), some (.int v7), x8, x9, x10] [] σ := by
  unfold f_X12_matches_294 at h
  refine g_aload_n dX12_matches_294 rfl ?_
  refine gR_X12_32 ok_28 dX12_matches_295 ?_
  refine g_iload dX12_matches_298 rfl ?_
  obtain ⟨a300, e300, h⟩ := obind h
  refine g_ldB e300 ok_35 rfl rfl (by decide) dX12_matches_300 ?_
  refine g_iconst dX12_matches_301 kc_m1 ?_
  refine g_icmp_ne 310 dX12_matches_302 rfl (fun q => ?_) (fun q => ?_)
  · replace h := gif_f q h
    refine g_aload_n dX12_matches_310 rfl ?_
    refine gR_X12_32 ok_28 dX12_matches_311 ?_
    refine g_iload dX12_matches_314 rfl ?_
    obtain ⟨a316, e316, h⟩ := obind h
    refine g_ldB e316 ok_35 rfl rfl (by decide) dX12_matches_316 ?_
    refine g_iconst dX12_matches_317 kc_1 ?_
    refine g_iadd dX12_matches_318 ?_
    exact f_X12_matches_319_ok hk193 h
  · replace h := gif_t q h
    refine g_iload dX12_matches_305 rfl ?_
    refine g_goto 319 dX12_matches_307 rfl ?_
    exact f_X12_matches_319_ok hk193 h
theorem f_X12_matches_211_ok {v1 : Int32} {v2 : Int32} {v3 : Int32} {v4 : Int32} {v5 : Int32} {v6 : Int32} {v7 : Int32} {k193 : Int32 → Int32 → Int32 → gSt → Option (Int32 × gSt)} {r : (Int32 × gSt)} (hk193 : ∀ {v5 : Int32} {v6 : Int32} {v7 : Int32} {σ : gSt} {x8 x9 x10 : Option Value}, k193 v5 v6 v7 σ = some r → G l w 0 41 RX12 cX12_matches 11 (some .int) 1 22 (gE (some (.int r.1)) r.2) 193 [some (.ref (w.2.1 28 0)), some (.int v1), some (.int v2), some (.int v3), some (.int v4), some (.int v5), some (.int v6), some (.int v7), x8, x9, x10] [] σ) : ∀ (n : Nat) {v8 : Int32} {σ : gSt} {x9 x10 : Option Value}, f_X12_matches_211 v1 v2 v3 v4 v5 v6 v7 k193 n v8 σ = some r → G l w 0 41 RX12 cX12_matches 11 (some .int) 1 22 (gE (some (.int r.1)) r.2) 211 [some (.ref (w.2.1 28 0)), some (.int v1), some (.int v2), some (.int v3), some (.int v4), some (.int v5), some (.int v6), some (.int v7), some (.int v8), x9, x10] [] σ := by
  intro n
  induction n with
  | zero => intro v8 σ x9 x10 h; rw [f_X12_matches_211] at h; cases h
  | succ n ih =>
    intro v8 σ x9 x10 h
    rw [f_X12_matches_211] at h
    refine g_iload dX12_matches_211 rfl ?_
    refine g_iload dX12_matches_213 rfl ?_
    refine g_icmp_ge 294 dX12_matches_215 rfl (fun q => ?_) (fun q => ?_)
    · replace h := gif_t q h
      exact f_X12_matches_294_ok hk193 h
    · replace h := gif_f q h
      refine g_aload_n dX12_matches_218 rfl ?_
      refine gR_X12_32 ok_28 dX12_matches_219 ?_
      refine g_iload dX12_matches_222 rfl ?_
      obtain ⟨a224, e224, h⟩ := obind h
      refine g_ldB e224 ok_35 rfl rfl (by decide) dX12_matches_224 ?_
      refine g_iconst dX12_matches_225 kc_m1 ?_
      refine g_icmp_ne 294 dX12_matches_226 rfl (fun q => ?_) (fun q => ?_)
      · replace h := gif_f q h
        exact f_X12_matches_294_ok hk193 h
      · replace h := gif_t q h
        refine g_aload_n dX12_matches_229 rfl ?_
        refine g_iload_n dX12_matches_230 rfl ?_
        refine g_iload dX12_matches_231 rfl ?_
        obtain ⟨p233, e233, h⟩ := obind h
        refine g_vP2 mv_X12_197 dX12_matches_233 ok_28 ⟨by decide, by decide⟩ (Nat.le_of_ble_eq_true rfl) (f_X12_codeOf_ok e233) ?_
        refine g_aload_n dX12_matches_236 rfl ?_
        refine g_iload_n dX12_matches_237 rfl ?_
        refine g_iload dX12_matches_238 rfl ?_
        obtain ⟨p240, e240, h⟩ := obind h
        refine g_vP2 mv_X12_200 dX12_matches_240 ok_28 ⟨by decide, by decide⟩ (Nat.le_of_ble_eq_true rfl) (f_X12_punchCode_ok e240) ?_
        refine g_icmp_ne 288 dX12_matches_243 rfl (fun q => ?_) (fun q => ?_)
        · replace h := gif_f q h
          refine g_inc8 kc_1 dX12_matches_288 ?_
          refine g_goto 211 dX12_matches_291 rfl ?_
          exact ih h
        · replace h := gif_t q h
          refine g_iconst dX12_matches_246 kc_1 ?_
          refine g_aload_n dX12_matches_247 rfl ?_
          refine gR_X12_29 ok_28 dX12_matches_248 ?_
          refine g_iload dX12_matches_251 rfl ?_
          refine g_iconst dX12_matches_253 kc_1 ?_
          refine g_iadd dX12_matches_254 ?_
          refine g_iload dX12_matches_255 rfl ?_
          refine g_iconst dX12_matches_257 kc_1 ?_
          refine g_iadd dX12_matches_258 ?_
          obtain ⟨p259, e259, h⟩ := obind h
          refine g_sP2 ms_X12_194 dX12_matches_259 ⟨by decide, by decide⟩ (Nat.le_of_ble_eq_true rfl) (f_X12_cell_ok e259) ?_
          obtain ⟨a262, e262, h⟩ := obind h
          refine g_ldB e262 ok_34 rfl rfl (by decide) dX12_matches_262 ?_
          refine g_iadd dX12_matches_263 ?_
          refine g_aload_n dX12_matches_264 rfl ?_
          refine gR_X12_29 ok_28 dX12_matches_265 ?_
          refine g_iload dX12_matches_268 rfl ?_
          refine g_iload dX12_matches_270 rfl ?_
          obtain ⟨p272, e272, h⟩ := obind h
          refine g_sP2 ms_X12_194 dX12_matches_272 ⟨by decide, by decide⟩ (Nat.le_of_ble_eq_true rfl) (f_X12_cell_ok e272) ?_
          obtain ⟨a275, e275, h⟩ := obind h
          refine g_ldB e275 ok_34 rfl rfl (by decide) dX12_matches_275 ?_
          refine g_icmp_ne 288 dX12_matches_276 rfl (fun q => ?_) (fun q => ?_)
          · replace h := gif_f q h
            refine g_inc8 kc_1 dX12_matches_288 ?_
            refine g_goto 211 dX12_matches_291 rfl ?_
            exact ih h
          · replace h := gif_t q h
            refine g_aload_n dX12_matches_279 rfl ?_
            refine gR_X12_32 ok_28 dX12_matches_280 ?_
            refine g_iload dX12_matches_283 rfl ?_
            refine g_iload dX12_matches_285 rfl ?_
            obtain ⟨z287, e287, h⟩ := obind h
            refine g_stB e287 ok_35 rfl rfl (by decide) dX12_matches_287 ?_
            refine g_inc8 kc_1 dX12_matches_288 ?_
            refine g_goto 211 dX12_matches_291 rfl ?_
            exact ih h
theorem f_X12_matches_193_ok {v1 : Int32} {v2 : Int32} {v3 : Int32} {v4 : Int32} {r : (Int32 × gSt)}  : ∀ (n : Nat) {v5 : Int32} {v6 : Int32} {v7 : Int32} {σ : gSt} {x8 x9 x10 : Option Value}, f_X12_matches_193 v1 v2 v3 v4 n v5 v6 v7 σ = some r → G l w 0 41 RX12 cX12_matches 11 (some .int) 1 22 (gE (some (.int r.1)) r.2) 193 [some (.ref (w.2.1 28 0)), some (.int v1), some (.int v2), some (.int v3), some (.int v4), some (.int v5), some (.int v6), some (.int v7), x8, x9, x10] [] σ := by
  intro n
  induction n with
  | zero => intro v5 v6 v7 σ x8 x9 x10 h; rw [f_X12_matches_193] at h; cases h
  | succ n ih =>
    intro v5 v6 v7 σ x8 x9 x10 h
    rw [f_X12_matches_193] at h
    refine g_iload dX12_matches_193 rfl ?_
    refine g_iload_n dX12_matches_195 rfl ?_
    refine g_icmp_ge 348 dX12_matches_196 rfl (fun q => ?_) (fun q => ?_)
    · replace h := gif_t q h
      refine g_iload dX12_matches_348 rfl ?_
      cases h
      exact g_iret dX12_matches_350 rfl ⟨rfl, rfl⟩
    · replace h := gif_f q h
      refine g_aload_n dX12_matches_199 rfl ?_
      refine gR_X12_32 ok_28 dX12_matches_200 ?_
      refine g_iload dX12_matches_203 rfl ?_
      refine g_iconst dX12_matches_205 kc_m1 ?_
      obtain ⟨z206, e206, h⟩ := obind h
      refine g_stB e206 ok_35 rfl rfl (by decide) dX12_matches_206 ?_
      refine g_iload dX12_matches_207 rfl ?_
      refine g_istore8 dX12_matches_209 ?_
      exact f_X12_matches_211_ok (fun h => ih h) gFuel h
theorem f_X12_matches_140_ok {v1 : Int32} {v2 : Int32} {v3 : Int32} {v4 : Int32} {v5 : Int32} {v6 : Int32} {v7 : Int32} {k23 : Int32 → gSt → Option (Int32 × gSt)} {k32 : Int32 → gSt → Option (Int32 × gSt)} {vs0 : Int32} {r : (Int32 × gSt)} (hk23 : ∀ {v5 : Int32} {σ : gSt} {x6 x7 x8 x9 x10 : Option Value}, k23 v5 σ = some r → G l w 0 41 RX12 cX12_matches 11 (some .int) 1 22 (gE (some (.int r.1)) r.2) 23 [some (.ref (w.2.1 28 0)), some (.int v1), some (.int v2), some (.int v3), some (.int v4), some (.int v5), x6, x7, x8, x9, x10] [] σ) (hk32 : ∀ {v6 : Int32} {σ : gSt} {x7 x8 x9 x10 : Option Value}, k32 v6 σ = some r → G l w 0 41 RX12 cX12_matches 11 (some .int) 1 22 (gE (some (.int r.1)) r.2) 32 [some (.ref (w.2.1 28 0)), some (.int v1), some (.int v2), some (.int v3), some (.int v4), some (.int v5), some (.int v6), x7, x8, x9, x10] [] σ) {σ : gSt} {x8 x9 x10 : Option Value} (h : f_X12_matches_140 v1 v2 v3 v4 v5 v6 v7 k23 k32 vs0 σ = some r) : G l w 0 41 RX12 cX12_matches 11 (some .int) 1 22 (gE (some (.int r.1)) r.2) 140 [some (.ref (w.2.1 28 0)), some (.int v1), some (.int v2), some (.int v3), some (.int v4), some (.int v5), some (.int v6), some (.int v7), x8, x9, x10] [.int vs0] σ := by
  unfold f_X12_matches_140 at h
  refine g_istore10 dX12_matches_140 ?_
  refine g_iload dX12_matches_142 rfl ?_
  refine g_iload dX12_matches_144 rfl ?_
  refine g_icmp_le 154 dX12_matches_146 rfl (fun q => ?_) (fun q => ?_)
  · replace h := gif_t q h
    refine g_iload dX12_matches_154 rfl ?_
    refine g_istore7 dX12_matches_156 ?_
    refine g_aload_n dX12_matches_158 rfl ?_
    refine gR_X12_29 ok_28 dX12_matches_159 ?_
    refine g_iload dX12_matches_162 rfl ?_
    refine g_iload dX12_matches_164 rfl ?_
    obtain ⟨p166, e166, h⟩ := obind h
    refine g_sP2 ms_X12_194 dX12_matches_166 ⟨by decide, by decide⟩ (Nat.le_of_ble_eq_true rfl) (f_X12_cell_ok e166) ?_
    refine g_iload dX12_matches_169 rfl ?_
    obtain ⟨z171, e171, h⟩ := obind h
    refine g_stB e171 ok_34 rfl rfl (by decide) dX12_matches_171 ?_
    refine g_inc6 kc_m1 dX12_matches_172 ?_
    refine g_goto 32 dX12_matches_175 rfl ?_
    exact hk32 h
  · replace h := gif_f q h
    refine g_iload dX12_matches_149 rfl ?_
    refine g_goto 156 dX12_matches_151 rfl ?_
    refine g_istore7 dX12_matches_156 ?_
    refine g_aload_n dX12_matches_158 rfl ?_
    refine gR_X12_29 ok_28 dX12_matches_159 ?_
    refine g_iload dX12_matches_162 rfl ?_
    refine g_iload dX12_matches_164 rfl ?_
    obtain ⟨p166, e166, h⟩ := obind h
    refine g_sP2 ms_X12_194 dX12_matches_166 ⟨by decide, by decide⟩ (Nat.le_of_ble_eq_true rfl) (f_X12_cell_ok e166) ?_
    refine g_iload dX12_matches_169 rfl ?_
    obtain ⟨z171, e171, h⟩ := obind h
    refine g_stB e171 ok_34 rfl rfl (by decide) dX12_matches_171 ?_
    refine g_inc6 kc_m1 dX12_matches_172 ?_
    refine g_goto 32 dX12_matches_175 rfl ?_
    exact hk32 h
theorem f_X12_matches_99_ok {v1 : Int32} {v2 : Int32} {v3 : Int32} {v4 : Int32} {v5 : Int32} {v6 : Int32} {k23 : Int32 → gSt → Option (Int32 × gSt)} {k32 : Int32 → gSt → Option (Int32 × gSt)} {vs0 : Int32} {r : (Int32 × gSt)} (hk23 : ∀ {v5 : Int32} {σ : gSt} {x6 x7 x8 x9 x10 : Option Value}, k23 v5 σ = some r → G l w 0 41 RX12 cX12_matches 11 (some .int) 1 22 (gE (some (.int r.1)) r.2) 23 [some (.ref (w.2.1 28 0)), some (.int v1), some (.int v2), some (.int v3), some (.int v4), some (.int v5), x6, x7, x8, x9, x10] [] σ) (hk32 : ∀ {v6 : Int32} {σ : gSt} {x7 x8 x9 x10 : Option Value}, k32 v6 σ = some r → G l w 0 41 RX12 cX12_matches 11 (some .int) 1 22 (gE (some (.int r.1)) r.2) 32 [some (.ref (w.2.1 28 0)), some (.int v1), some (.int v2), some (.int v3), some (.int v4), some (.int v5), some (.int v6), x7, x8, x9, x10] [] σ) {σ : gSt} {x7 x8 x9 x10 : Option Value} (h : f_X12_matches_99 v1 v2 v3 v4 v5 v6 k23 k32 vs0 σ = some r) : G l w 0 41 RX12 cX12_matches 11 (some .int) 1 22 (gE (some (.int r.1)) r.2) 99 [some (.ref (w.2.1 28 0)), some (.int v1), some (.int v2), some (.int v3), some (.int v4), some (.int v5), some (.int v6), x7, x8, x9, x10] [.int vs0] σ := by
  unfold f_X12_matches_99 at h
  refine g_istore7 dX12_matches_99 ?_
  refine g_aload_n dX12_matches_101 rfl ?_
  refine g_iload_n dX12_matches_102 rfl ?_
  refine g_iload dX12_matches_103 rfl ?_
  obtain ⟨p105, e105, h⟩ := obind h
  refine g_vP2 mv_X12_197 dX12_matches_105 ok_28 ⟨by decide, by decide⟩ (Nat.le_of_ble_eq_true rfl) (f_X12_codeOf_ok e105) ?_
  refine g_aload_n dX12_matches_108 rfl ?_
  refine g_iload_n dX12_matches_109 rfl ?_
  refine g_iload dX12_matches_110 rfl ?_
  obtain ⟨p112, e112, h⟩ := obind h
  refine g_vP2 mv_X12_200 dX12_matches_112 ok_28 ⟨by decide, by decide⟩ (Nat.le_of_ble_eq_true rfl) (f_X12_punchCode_ok e112) ?_
  refine g_icmp_ne 139 dX12_matches_115 rfl (fun q => ?_) (fun q => ?_)
  · replace h := gif_f q h
    refine g_iconst dX12_matches_139 kc_0 ?_
    exact f_X12_matches_140_ok hk23 hk32 h
  · replace h := gif_t q h
    refine g_iconst dX12_matches_118 kc_1 ?_
    refine g_aload_n dX12_matches_119 rfl ?_
    refine gR_X12_29 ok_28 dX12_matches_120 ?_
    refine g_iload dX12_matches_123 rfl ?_
    refine g_iconst dX12_matches_125 kc_1 ?_
    refine g_iadd dX12_matches_126 ?_
    refine g_iload dX12_matches_127 rfl ?_
    refine g_iconst dX12_matches_129 kc_1 ?_
    refine g_iadd dX12_matches_130 ?_
    obtain ⟨p131, e131, h⟩ := obind h
    refine g_sP2 ms_X12_194 dX12_matches_131 ⟨by decide, by decide⟩ (Nat.le_of_ble_eq_true rfl) (f_X12_cell_ok e131) ?_
    obtain ⟨a134, e134, h⟩ := obind h
    refine g_ldB e134 ok_34 rfl rfl (by decide) dX12_matches_134 ?_
    refine g_iadd dX12_matches_135 ?_
    refine g_goto 140 dX12_matches_136 rfl ?_
    exact f_X12_matches_140_ok hk23 hk32 h
theorem f_X12_matches_32_ok {v1 : Int32} {v2 : Int32} {v3 : Int32} {v4 : Int32} {v5 : Int32} {k23 : Int32 → gSt → Option (Int32 × gSt)} {r : (Int32 × gSt)} (hk23 : ∀ {v5 : Int32} {σ : gSt} {x6 x7 x8 x9 x10 : Option Value}, k23 v5 σ = some r → G l w 0 41 RX12 cX12_matches 11 (some .int) 1 22 (gE (some (.int r.1)) r.2) 23 [some (.ref (w.2.1 28 0)), some (.int v1), some (.int v2), some (.int v3), some (.int v4), some (.int v5), x6, x7, x8, x9, x10] [] σ) : ∀ (n : Nat) {v6 : Int32} {σ : gSt} {x7 x8 x9 x10 : Option Value}, f_X12_matches_32 v1 v2 v3 v4 v5 k23 n v6 σ = some r → G l w 0 41 RX12 cX12_matches 11 (some .int) 1 22 (gE (some (.int r.1)) r.2) 32 [some (.ref (w.2.1 28 0)), some (.int v1), some (.int v2), some (.int v3), some (.int v4), some (.int v5), some (.int v6), x7, x8, x9, x10] [] σ := by
  intro n
  induction n with
  | zero => intro v6 σ x7 x8 x9 x10 h; rw [f_X12_matches_32] at h; cases h
  | succ n ih =>
    intro v6 σ x7 x8 x9 x10 h
    rw [f_X12_matches_32] at h
    refine g_iload dX12_matches_32 rfl ?_
    refine g_if_lt 178 dX12_matches_34 rfl (fun q => ?_) (fun q => ?_)
    · replace h := gif_t q h
      refine g_inc5 kc_m1 dX12_matches_178 ?_
      refine g_goto 23 dX12_matches_181 rfl ?_
      exact hk23 h
    · replace h := gif_f q h
      refine g_iconst dX12_matches_37 kc_0 ?_
      refine g_istore7 dX12_matches_38 ?_
      refine g_iload dX12_matches_40 rfl ?_
      refine g_iload_n dX12_matches_42 rfl ?_
      refine g_icmp_ge 158 dX12_matches_43 rfl (fun q => ?_) (fun q => ?_)
      · replace h := gif_t q h
        refine g_aload_n dX12_matches_158 rfl ?_
        refine gR_X12_29 ok_28 dX12_matches_159 ?_
        refine g_iload dX12_matches_162 rfl ?_
        refine g_iload dX12_matches_164 rfl ?_
        obtain ⟨p166, e166, h⟩ := obind h
        refine g_sP2 ms_X12_194 dX12_matches_166 ⟨by decide, by decide⟩ (Nat.le_of_ble_eq_true rfl) (f_X12_cell_ok e166) ?_
        refine g_iload dX12_matches_169 rfl ?_
        obtain ⟨z171, e171, h⟩ := obind h
        refine g_stB e171 ok_34 rfl rfl (by decide) dX12_matches_171 ?_
        refine g_inc6 kc_m1 dX12_matches_172 ?_
        refine g_goto 32 dX12_matches_175 rfl ?_
        exact ih h
      · replace h := gif_f q h
        refine g_iload dX12_matches_46 rfl ?_
        refine g_iload dX12_matches_48 rfl ?_
        refine g_icmp_ge 158 dX12_matches_50 rfl (fun q => ?_) (fun q => ?_)
        · replace h := gif_t q h
          refine g_aload_n dX12_matches_158 rfl ?_
          refine gR_X12_29 ok_28 dX12_matches_159 ?_
          refine g_iload dX12_matches_162 rfl ?_
          refine g_iload dX12_matches_164 rfl ?_
          obtain ⟨p166, e166, h⟩ := obind h
          refine g_sP2 ms_X12_194 dX12_matches_166 ⟨by decide, by decide⟩ (Nat.le_of_ble_eq_true rfl) (f_X12_cell_ok e166) ?_
          refine g_iload dX12_matches_169 rfl ?_
          obtain ⟨z171, e171, h⟩ := obind h
          refine g_stB e171 ok_34 rfl rfl (by decide) dX12_matches_171 ?_
          refine g_inc6 kc_m1 dX12_matches_172 ?_
          refine g_goto 32 dX12_matches_175 rfl ?_
          exact ih h
        · replace h := gif_f q h
          refine g_aload_n dX12_matches_53 rfl ?_
          refine gR_X12_29 ok_28 dX12_matches_54 ?_
          refine g_iload dX12_matches_57 rfl ?_
          refine g_iconst dX12_matches_59 kc_1 ?_
          refine g_iadd dX12_matches_60 ?_
          refine g_iload dX12_matches_61 rfl ?_
          obtain ⟨p63, e63, h⟩ := obind h
          refine g_sP2 ms_X12_194 dX12_matches_63 ⟨by decide, by decide⟩ (Nat.le_of_ble_eq_true rfl) (f_X12_cell_ok e63) ?_
          obtain ⟨a66, e66, h⟩ := obind h
          refine g_ldB e66 ok_34 rfl rfl (by decide) dX12_matches_66 ?_
          refine g_istore8 dX12_matches_67 ?_
          refine g_aload_n dX12_matches_69 rfl ?_
          refine gR_X12_29 ok_28 dX12_matches_70 ?_
          refine g_iload dX12_matches_73 rfl ?_
          refine g_iload dX12_matches_75 rfl ?_
          refine g_iconst dX12_matches_77 kc_1 ?_
          refine g_iadd dX12_matches_78 ?_
          obtain ⟨p79, e79, h⟩ := obind h
          refine g_sP2 ms_X12_194 dX12_matches_79 ⟨by decide, by decide⟩ (Nat.le_of_ble_eq_true rfl) (f_X12_cell_ok e79) ?_
          obtain ⟨a82, e82, h⟩ := obind h
          refine g_ldB e82 ok_34 rfl rfl (by decide) dX12_matches_82 ?_
          refine g_istore9 dX12_matches_83 ?_
          refine g_iload dX12_matches_85 rfl ?_
          refine g_iload dX12_matches_87 rfl ?_
          refine g_icmp_le 97 dX12_matches_89 rfl (fun q => ?_) (fun q => ?_)
          · replace h := gif_t q h
            refine g_iload dX12_matches_97 rfl ?_
            exact f_X12_matches_99_ok hk23 (fun h => ih h) h
          · replace h := gif_f q h
            refine g_iload dX12_matches_92 rfl ?_
            refine g_goto 99 dX12_matches_94 rfl ?_
            exact f_X12_matches_99_ok hk23 (fun h => ih h) h
theorem f_X12_matches_23_ok {v1 : Int32} {v2 : Int32} {v3 : Int32} {v4 : Int32} {r : (Int32 × gSt)}  : ∀ (n : Nat) {v5 : Int32} {σ : gSt} {x6 x7 x8 x9 x10 : Option Value}, f_X12_matches_23 v1 v2 v3 v4 n v5 σ = some r → G l w 0 41 RX12 cX12_matches 11 (some .int) 1 22 (gE (some (.int r.1)) r.2) 23 [some (.ref (w.2.1 28 0)), some (.int v1), some (.int v2), some (.int v3), some (.int v4), some (.int v5), x6, x7, x8, x9, x10] [] σ := by
  intro n
  induction n with
  | zero => intro v5 σ x6 x7 x8 x9 x10 h; rw [f_X12_matches_23] at h; cases h
  | succ n ih =>
    intro v5 σ x6 x7 x8 x9 x10 h
    rw [f_X12_matches_23] at h
    refine g_iload dX12_matches_23 rfl ?_
    refine g_if_lt 184 dX12_matches_25 rfl (fun q => ?_) (fun q => ?_)
    · replace h := gif_t q h
      refine g_iconst dX12_matches_184 kc_0 ?_
      refine g_istore5 dX12_matches_185 ?_
      refine g_iconst dX12_matches_187 kc_0 ?_
      refine g_istore6 dX12_matches_188 ?_
      refine g_iconst dX12_matches_190 kc_0 ?_
      refine g_istore7 dX12_matches_191 ?_
      exact f_X12_matches_193_ok gFuel h
    · replace h := gif_f q h
      refine g_iload dX12_matches_28 rfl ?_
      refine g_istore6 dX12_matches_30 ?_
      exact f_X12_matches_32_ok (fun h => ih h) gFuel h
theorem f_X12_matches_ok {v1 : Int32} {v2 : Int32}  {σ : gSt} {r : (Int32 × gSt)} (h : f_X12_matches v1 v2 σ = some r) : Mt l w 0 41 yX12_matches cX12_matches 11 (some .int) 1 22 [.ref (w.2.1 28 0), .int v1, .int v2] σ (gE (some (.int r.1)) r.2) := by
  unfold f_X12_matches at h
  refine g_start pn_X12 rfl rfl (Nat.le_of_ble_eq_true rfl) ?_
  show G l w 0 41 RX12 cX12_matches 11 (some .int) 1 22 (gE (some (.int r.1)) r.2) 0 [some (.ref (w.2.1 28 0)), some (.int v1), some (.int v2), none, none, none, none, none, none, none, none] [] σ
  refine g_aload_n dX12_matches_0 rfl ?_
  refine gR_X12_17 ok_28 dX12_matches_1 ?_
  refine g_iconst dX12_matches_4 kc_4 ?_
  refine g_iload_n dX12_matches_5 rfl ?_
  refine g_iadd dX12_matches_6 ?_
  obtain ⟨a7, e7, h⟩ := obind h
  refine g_ldB e7 ok_30 rfl rfl (by decide) dX12_matches_7 ?_
  refine g_istore3 dX12_matches_8 ?_
  refine g_aload_n dX12_matches_9 rfl ?_
  refine gR_X12_17 ok_28 dX12_matches_10 ?_
  refine g_bipush dX12_matches_13 kb_67 ?_
  refine g_iload_n dX12_matches_15 rfl ?_
  refine g_iadd dX12_matches_16 ?_
  obtain ⟨a17, e17, h⟩ := obind h
  refine g_ldB e17 ok_30 rfl rfl (by decide) dX12_matches_17 ?_
  refine g_istore4 dX12_matches_18 ?_
  refine g_iload_n dX12_matches_20 rfl ?_
  refine g_istore5 dX12_matches_21 ?_
  exact f_X12_matches_23_ok gFuel h
theorem dX12_missedBy_0 : decode cX12_missedBy 0 = .ok (.aload_n 0, 1) := by decide +kernel
theorem dX12_missedBy_1 : decode cX12_missedBy 1 = .ok (.iload_n 1, 1) := by decide +kernel
theorem dX12_missedBy_2 : decode cX12_missedBy 2 = .ok (.aload_n 0, 1) := by decide +kernel
theorem dX12_missedBy_3 : decode cX12_missedBy 3 = .ok (.getfield 17, 3) := by decide +kernel
theorem dX12_missedBy_6 : decode cX12_missedBy 6 = .ok (.bipush 37, 2) := by decide +kernel
theorem dX12_missedBy_8 : decode cX12_missedBy 8 = .ok (.iload_n 1, 1) := by decide +kernel
theorem dX12_missedBy_9 : decode cX12_missedBy 9 = .ok (.iadd, 1) := by decide +kernel
theorem dX12_missedBy_10 : decode cX12_missedBy 10 = .ok (.iaload, 1) := by decide +kernel
theorem dX12_missedBy_11 : decode cX12_missedBy 11 = .ok (.invokevirtual 203, 3) := by decide +kernel
theorem dX12_missedBy_14 : decode cX12_missedBy 14 = .ok (.ireturn, 1) := by decide +kernel
def f_X12_missedBy (v1 : Int32) (σ : gSt) : Option (Int32 × gSt) :=
  (gld σ 30 0 397 (37 + v1)).bind fun a10 =>
  (f_X12_matches v1 a10 σ).bind fun p11 =>
  some (p11.1, p11.2)
theorem f_X12_missedBy_ok {v1 : Int32}  {σ : gSt} {r : (Int32 × gSt)} (h : f_X12_missedBy v1 σ = some r) : Mt l w 0 41 yX12_missedBy cX12_missedBy 2 (some .int) 2 52 [.ref (w.2.1 28 0), .int v1] σ (gE (some (.int r.1)) r.2) := by
  unfold f_X12_missedBy at h
  refine g_start pn_X12 rfl rfl (Nat.le_of_ble_eq_true rfl) ?_
  show G l w 0 41 RX12 cX12_missedBy 2 (some .int) 2 52 (gE (some (.int r.1)) r.2) 0 [some (.ref (w.2.1 28 0)), some (.int v1)] [] σ
  refine g_aload_n dX12_missedBy_0 rfl ?_
  refine g_iload_n dX12_missedBy_1 rfl ?_
  refine g_aload_n dX12_missedBy_2 rfl ?_
  refine gR_X12_17 ok_28 dX12_missedBy_3 ?_
  refine g_bipush dX12_missedBy_6 kb_37 ?_
  refine g_iload_n dX12_missedBy_8 rfl ?_
  refine g_iadd dX12_missedBy_9 ?_
  obtain ⟨a10, e10, h⟩ := obind h
  refine g_ldB e10 ok_30 rfl rfl (by decide) dX12_missedBy_10 ?_
  obtain ⟨p11, e11, h⟩ := obind h
  refine g_vP2 mv_X12_203 dX12_missedBy_11 ok_28 ⟨by decide, by decide⟩ (Nat.le_of_ble_eq_true rfl) (f_X12_matches_ok e11) ?_
  cases h
  exact g_iret dX12_missedBy_14 rfl ⟨rfl, rfl⟩
theorem dX12_isValid_0 : decode cX12_isValid 0 = .ok (.aload_n 0, 1) := by decide +kernel
theorem dX12_isValid_1 : decode cX12_isValid 1 = .ok (.iload_n 1, 1) := by decide +kernel
theorem dX12_isValid_2 : decode cX12_isValid 2 = .ok (.invokevirtual 206, 3) := by decide +kernel
theorem dX12_isValid_5 : decode cX12_isValid 5 = .ok (.ifCond .ne 7, 3) := by decide +kernel
theorem dX12_isValid_8 : decode cX12_isValid 8 = .ok (.iconst 1, 1) := by decide +kernel
theorem dX12_isValid_9 : decode cX12_isValid 9 = .ok (.goto 4, 3) := by decide +kernel
theorem dX12_isValid_12 : decode cX12_isValid 12 = .ok (.iconst 0, 1) := by decide +kernel
theorem dX12_isValid_13 : decode cX12_isValid 13 = .ok (.ireturn, 1) := by decide +kernel
def f_X12_isValid (v1 : Int32) (σ : gSt) : Option (Int32 × gSt) :=
  (f_X12_missedBy v1 σ).bind fun p2 =>
  if p2.1 = 0 then
    some (1, p2.2)
  else
    some (0, p2.2)
theorem f_X12_isValid_ok {v1 : Int32}  {σ : gSt} {r : (Int32 × gSt)} (h : f_X12_isValid v1 σ = some r) : Mt l w 0 41 yX12_isValid cX12_isValid 2 (some .boolean) 3 73 [.ref (w.2.1 28 0), .int v1] σ (gE (some (.int r.1)) r.2) := by
  unfold f_X12_isValid at h
  refine g_start pn_X12 rfl rfl (Nat.le_of_ble_eq_true rfl) ?_
  show G l w 0 41 RX12 cX12_isValid 2 (some .boolean) 3 73 (gE (some (.int r.1)) r.2) 0 [some (.ref (w.2.1 28 0)), some (.int v1)] [] σ
  refine g_aload_n dX12_isValid_0 rfl ?_
  refine g_iload_n dX12_isValid_1 rfl ?_
  obtain ⟨p2, e2, h⟩ := obind h
  refine g_vP1 mv_X12_206 dX12_isValid_2 ok_28 ⟨by decide, by decide⟩ (Nat.le_of_ble_eq_true rfl) (f_X12_missedBy_ok e2) ?_
  refine g_if_ne 12 dX12_isValid_5 rfl (fun q => ?_) (fun q => ?_)
  · replace h := gif_f q h
    refine g_iconst dX12_isValid_12 kc_0 ?_
    cases h
    exact g_zret0 dX12_isValid_13 rfl
  · replace h := gif_t q h
    refine g_iconst dX12_isValid_8 kc_1 ?_
    refine g_goto 13 dX12_isValid_9 rfl ?_
    cases h
    exact g_zret1 dX12_isValid_13 rfl
theorem dX12_totalOf_0 : decode cX12_totalOf 0 = .ok (.aload_n 0, 1) := by decide +kernel
theorem dX12_totalOf_1 : decode cX12_totalOf 1 = .ok (.getfield 17, 3) := by decide +kernel
theorem dX12_totalOf_4 : decode cX12_totalOf 4 = .ok (.bipush 57, 2) := by decide +kernel
theorem dX12_totalOf_6 : decode cX12_totalOf 6 = .ok (.iload_n 1, 1) := by decide +kernel
theorem dX12_totalOf_7 : decode cX12_totalOf 7 = .ok (.iadd, 1) := by decide +kernel
theorem dX12_totalOf_8 : decode cX12_totalOf 8 = .ok (.iaload, 1) := by decide +kernel
theorem dX12_totalOf_9 : decode cX12_totalOf 9 = .ok (.aload_n 0, 1) := by decide +kernel
theorem dX12_totalOf_10 : decode cX12_totalOf 10 = .ok (.getfield 17, 3) := by decide +kernel
theorem dX12_totalOf_13 : decode cX12_totalOf 13 = .ok (.bipush 47, 2) := by decide +kernel
theorem dX12_totalOf_15 : decode cX12_totalOf 15 = .ok (.iload_n 1, 1) := by decide +kernel
theorem dX12_totalOf_16 : decode cX12_totalOf 16 = .ok (.iadd, 1) := by decide +kernel
theorem dX12_totalOf_17 : decode cX12_totalOf 17 = .ok (.iaload, 1) := by decide +kernel
theorem dX12_totalOf_18 : decode cX12_totalOf 18 = .ok (.isub, 1) := by decide +kernel
theorem dX12_totalOf_19 : decode cX12_totalOf 19 = .ok (.ireturn, 1) := by decide +kernel
def f_X12_totalOf (v1 : Int32) (σ : gSt) : Option (Int32 × gSt) :=
  (gld σ 30 0 397 (57 + v1)).bind fun a8 =>
  (gld σ 30 0 397 (47 + v1)).bind fun a17 =>
  some ((a8 - a17), σ)
theorem f_X12_totalOf_ok {v1 : Int32}  {σ : gSt} {r : (Int32 × gSt)} (h : f_X12_totalOf v1 σ = some r) : Mt l w 0 41 yX12_totalOf cX12_totalOf 2 (some .int) 0 0 [.ref (w.2.1 28 0), .int v1] σ (gE (some (.int r.1)) r.2) := by
  unfold f_X12_totalOf at h
  refine g_start pn_X12 rfl rfl (Nat.le_of_ble_eq_true rfl) ?_
  show G l w 0 41 RX12 cX12_totalOf 2 (some .int) 0 0 (gE (some (.int r.1)) r.2) 0 [some (.ref (w.2.1 28 0)), some (.int v1)] [] σ
  refine g_aload_n dX12_totalOf_0 rfl ?_
  refine gR_X12_17 ok_28 dX12_totalOf_1 ?_
  refine g_bipush dX12_totalOf_4 kb_57 ?_
  refine g_iload_n dX12_totalOf_6 rfl ?_
  refine g_iadd dX12_totalOf_7 ?_
  obtain ⟨a8, e8, h⟩ := obind h
  refine g_ldB e8 ok_30 rfl rfl (by decide) dX12_totalOf_8 ?_
  refine g_aload_n dX12_totalOf_9 rfl ?_
  refine gR_X12_17 ok_28 dX12_totalOf_10 ?_
  refine g_bipush dX12_totalOf_13 kb_47 ?_
  refine g_iload_n dX12_totalOf_15 rfl ?_
  refine g_iadd dX12_totalOf_16 ?_
  obtain ⟨a17, e17, h⟩ := obind h
  refine g_ldB e17 ok_30 rfl rfl (by decide) dX12_totalOf_17 ?_
  refine g_isub dX12_totalOf_18 ?_
  cases h
  exact g_iret dX12_totalOf_19 rfl ⟨rfl, rfl⟩
theorem dX12_timeAt_0 : decode cX12_timeAt 0 = .ok (.aload_n 0, 1) := by decide +kernel
theorem dX12_timeAt_1 : decode cX12_timeAt 1 = .ok (.getfield 17, 3) := by decide +kernel
theorem dX12_timeAt_4 : decode cX12_timeAt 4 = .ok (.bipush 37, 2) := by decide +kernel
theorem dX12_timeAt_6 : decode cX12_timeAt 6 = .ok (.iload_n 1, 1) := by decide +kernel
theorem dX12_timeAt_7 : decode cX12_timeAt 7 = .ok (.iadd, 1) := by decide +kernel
theorem dX12_timeAt_8 : decode cX12_timeAt 8 = .ok (.iaload, 1) := by decide +kernel
theorem dX12_timeAt_9 : decode cX12_timeAt 9 = .ok (.istore_n 3, 1) := by decide +kernel
theorem dX12_timeAt_10 : decode cX12_timeAt 10 = .ok (.iload_n 2, 1) := by decide +kernel
theorem dX12_timeAt_11 : decode cX12_timeAt 11 = .ok (.ifCond .lt 15, 3) := by decide +kernel
theorem dX12_timeAt_14 : decode cX12_timeAt 14 = .ok (.iload_n 2, 1) := by decide +kernel
theorem dX12_timeAt_15 : decode cX12_timeAt 15 = .ok (.aload_n 0, 1) := by decide +kernel
theorem dX12_timeAt_16 : decode cX12_timeAt 16 = .ok (.getfield 17, 3) := by decide +kernel
theorem dX12_timeAt_19 : decode cX12_timeAt 19 = .ok (.iconst 4, 1) := by decide +kernel
theorem dX12_timeAt_20 : decode cX12_timeAt 20 = .ok (.iload_n 3, 1) := by decide +kernel
theorem dX12_timeAt_21 : decode cX12_timeAt 21 = .ok (.iadd, 1) := by decide +kernel
theorem dX12_timeAt_22 : decode cX12_timeAt 22 = .ok (.iaload, 1) := by decide +kernel
theorem dX12_timeAt_23 : decode cX12_timeAt 23 = .ok (.if_icmp .ne 29, 3) := by decide +kernel
theorem dX12_timeAt_26 : decode cX12_timeAt 26 = .ok (.iload_n 2, 1) := by decide +kernel
theorem dX12_timeAt_27 : decode cX12_timeAt 27 = .ok (.ifCond .ge 15, 3) := by decide +kernel
theorem dX12_timeAt_30 : decode cX12_timeAt 30 = .ok (.aload_n 0, 1) := by decide +kernel
theorem dX12_timeAt_31 : decode cX12_timeAt 31 = .ok (.getfield 17, 3) := by decide +kernel
theorem dX12_timeAt_34 : decode cX12_timeAt 34 = .ok (.bipush 47, 2) := by decide +kernel
theorem dX12_timeAt_36 : decode cX12_timeAt 36 = .ok (.iload_n 1, 1) := by decide +kernel
theorem dX12_timeAt_37 : decode cX12_timeAt 37 = .ok (.iadd, 1) := by decide +kernel
theorem dX12_timeAt_38 : decode cX12_timeAt 38 = .ok (.iaload, 1) := by decide +kernel
theorem dX12_timeAt_39 : decode cX12_timeAt 39 = .ok (.goto 12, 3) := by decide +kernel
theorem dX12_timeAt_42 : decode cX12_timeAt 42 = .ok (.aload_n 0, 1) := by decide +kernel
theorem dX12_timeAt_43 : decode cX12_timeAt 43 = .ok (.getfield 17, 3) := by decide +kernel
theorem dX12_timeAt_46 : decode cX12_timeAt 46 = .ok (.bipush 57, 2) := by decide +kernel
theorem dX12_timeAt_48 : decode cX12_timeAt 48 = .ok (.iload_n 1, 1) := by decide +kernel
theorem dX12_timeAt_49 : decode cX12_timeAt 49 = .ok (.iadd, 1) := by decide +kernel
theorem dX12_timeAt_50 : decode cX12_timeAt 50 = .ok (.iaload, 1) := by decide +kernel
theorem dX12_timeAt_51 : decode cX12_timeAt 51 = .ok (.ireturn, 1) := by decide +kernel
theorem dX12_timeAt_52 : decode cX12_timeAt 52 = .ok (.aload_n 0, 1) := by decide +kernel
theorem dX12_timeAt_53 : decode cX12_timeAt 53 = .ok (.iload_n 1, 1) := by decide +kernel
theorem dX12_timeAt_54 : decode cX12_timeAt 54 = .ok (.invokevirtual 206, 3) := by decide +kernel
theorem dX12_timeAt_57 : decode cX12_timeAt 57 = .ok (.pop, 1) := by decide +kernel
theorem dX12_timeAt_58 : decode cX12_timeAt 58 = .ok (.aload_n 0, 1) := by decide +kernel
theorem dX12_timeAt_59 : decode cX12_timeAt 59 = .ok (.getfield 32, 3) := by decide +kernel
theorem dX12_timeAt_62 : decode cX12_timeAt 62 = .ok (.iload_n 2, 1) := by decide +kernel
theorem dX12_timeAt_63 : decode cX12_timeAt 63 = .ok (.iaload, 1) := by decide +kernel
theorem dX12_timeAt_64 : decode cX12_timeAt 64 = .ok (.iconst (-1), 1) := by decide +kernel
theorem dX12_timeAt_65 : decode cX12_timeAt 65 = .ok (.if_icmp .ne 7, 3) := by decide +kernel
theorem dX12_timeAt_68 : decode cX12_timeAt 68 = .ok (.iconst (-1), 1) := by decide +kernel
theorem dX12_timeAt_69 : decode cX12_timeAt 69 = .ok (.goto 14, 3) := by decide +kernel
theorem dX12_timeAt_72 : decode cX12_timeAt 72 = .ok (.aload_n 0, 1) := by decide +kernel
theorem dX12_timeAt_73 : decode cX12_timeAt 73 = .ok (.iload_n 1, 1) := by decide +kernel
theorem dX12_timeAt_74 : decode cX12_timeAt 74 = .ok (.aload_n 0, 1) := by decide +kernel
theorem dX12_timeAt_75 : decode cX12_timeAt 75 = .ok (.getfield 32, 3) := by decide +kernel
theorem dX12_timeAt_78 : decode cX12_timeAt 78 = .ok (.iload_n 2, 1) := by decide +kernel
theorem dX12_timeAt_79 : decode cX12_timeAt 79 = .ok (.iaload, 1) := by decide +kernel
theorem dX12_timeAt_80 : decode cX12_timeAt 80 = .ok (.invokevirtual 209, 3) := by decide +kernel
theorem dX12_timeAt_83 : decode cX12_timeAt 83 = .ok (.ireturn, 1) := by decide +kernel
def f_X12_timeAt_26 (v1 : Int32) (v2 : Int32) (σ : gSt) : Option (Int32 × gSt) :=
  if 0 ≤ v2 then
    (gld σ 30 0 397 (57 + v1)).bind fun a50 =>
    some (a50, σ)
  else
    (gld σ 30 0 397 (47 + v1)).bind fun a38 =>
    some (a38, σ)
def f_X12_timeAt (v1 : Int32) (v2 : Int32) (σ : gSt) : Option (Int32 × gSt) :=
  (gld σ 30 0 397 (37 + v1)).bind fun a8 =>
  if v2 < 0 then
    f_X12_timeAt_26 v1 v2 σ
  else
    (gld σ 30 0 397 (4 + a8)).bind fun a22 =>
    if v2 = a22 then
      f_X12_timeAt_26 v1 v2 σ
    else
      (f_X12_missedBy v1 σ).bind fun p54 =>
      (gld p54.2 35 0 10 v2).bind fun a63 =>
      if a63 = (-1) then
        some ((-1), p54.2)
      else
        (gld p54.2 35 0 10 v2).bind fun a79 =>
        (f_X12_punchTime v1 a79 p54.2).bind fun p80 =>
        some (p80.1, p80.2)
theorem f_X12_timeAt_26_ok {v1 : Int32} {v2 : Int32} {r : (Int32 × gSt)}  {σ : gSt} {x3 : Option Value} (h : f_X12_timeAt_26 v1 v2 σ = some r) : G l w 0 41 RX12 cX12_timeAt 4 (some .int) 3 73 (gE (some (.int r.1)) r.2) 26 [some (.ref (w.2.1 28 0)), some (.int v1), some (.int v2), x3] [] σ := by
  unfold f_X12_timeAt_26 at h
  refine g_iload_n dX12_timeAt_26 rfl ?_
  refine g_if_ge 42 dX12_timeAt_27 rfl (fun q => ?_) (fun q => ?_)
  · replace h := gif_t q h
    refine g_aload_n dX12_timeAt_42 rfl ?_
    refine gR_X12_17 ok_28 dX12_timeAt_43 ?_
    refine g_bipush dX12_timeAt_46 kb_57 ?_
    refine g_iload_n dX12_timeAt_48 rfl ?_
    refine g_iadd dX12_timeAt_49 ?_
    obtain ⟨a50, e50, h⟩ := obind h
    refine g_ldB e50 ok_30 rfl rfl (by decide) dX12_timeAt_50 ?_
    cases h
    exact g_iret dX12_timeAt_51 rfl ⟨rfl, rfl⟩
  · replace h := gif_f q h
    refine g_aload_n dX12_timeAt_30 rfl ?_
    refine gR_X12_17 ok_28 dX12_timeAt_31 ?_
    refine g_bipush dX12_timeAt_34 kb_47 ?_
    refine g_iload_n dX12_timeAt_36 rfl ?_
    refine g_iadd dX12_timeAt_37 ?_
    obtain ⟨a38, e38, h⟩ := obind h
    refine g_ldB e38 ok_30 rfl rfl (by decide) dX12_timeAt_38 ?_
    refine g_goto 51 dX12_timeAt_39 rfl ?_
    cases h
    exact g_iret dX12_timeAt_51 rfl ⟨rfl, rfl⟩
theorem f_X12_timeAt_ok {v1 : Int32} {v2 : Int32}  {σ : gSt} {r : (Int32 × gSt)} (h : f_X12_timeAt v1 v2 σ = some r) : Mt l w 0 41 yX12_timeAt cX12_timeAt 4 (some .int) 3 73 [.ref (w.2.1 28 0), .int v1, .int v2] σ (gE (some (.int r.1)) r.2) := by
  unfold f_X12_timeAt at h
  refine g_start pn_X12 rfl rfl (Nat.le_of_ble_eq_true rfl) ?_
  show G l w 0 41 RX12 cX12_timeAt 4 (some .int) 3 73 (gE (some (.int r.1)) r.2) 0 [some (.ref (w.2.1 28 0)), some (.int v1), some (.int v2), none] [] σ
  refine g_aload_n dX12_timeAt_0 rfl ?_
  refine gR_X12_17 ok_28 dX12_timeAt_1 ?_
  refine g_bipush dX12_timeAt_4 kb_37 ?_
  refine g_iload_n dX12_timeAt_6 rfl ?_
  refine g_iadd dX12_timeAt_7 ?_
  obtain ⟨a8, e8, h⟩ := obind h
  refine g_ldB e8 ok_30 rfl rfl (by decide) dX12_timeAt_8 ?_
  refine g_istore3 dX12_timeAt_9 ?_
  refine g_iload_n dX12_timeAt_10 rfl ?_
  refine g_if_lt 26 dX12_timeAt_11 rfl (fun q => ?_) (fun q => ?_)
  · replace h := gif_t q h
    exact f_X12_timeAt_26_ok h
  · replace h := gif_f q h
    refine g_iload_n dX12_timeAt_14 rfl ?_
    refine g_aload_n dX12_timeAt_15 rfl ?_
    refine gR_X12_17 ok_28 dX12_timeAt_16 ?_
    refine g_iconst dX12_timeAt_19 kc_4 ?_
    refine g_iload_n dX12_timeAt_20 rfl ?_
    refine g_iadd dX12_timeAt_21 ?_
    obtain ⟨a22, e22, h⟩ := obind h
    refine g_ldB e22 ok_30 rfl rfl (by decide) dX12_timeAt_22 ?_
    refine g_icmp_ne 52 dX12_timeAt_23 rfl (fun q => ?_) (fun q => ?_)
    · replace h := gif_f q h
      refine g_aload_n dX12_timeAt_52 rfl ?_
      refine g_iload_n dX12_timeAt_53 rfl ?_
      obtain ⟨p54, e54, h⟩ := obind h
      refine g_vP1 mv_X12_206 dX12_timeAt_54 ok_28 ⟨by decide, by decide⟩ (Nat.le_of_ble_eq_true rfl) (f_X12_missedBy_ok e54) ?_
      refine g_pop dX12_timeAt_57 rfl ?_
      refine g_aload_n dX12_timeAt_58 rfl ?_
      refine gR_X12_32 ok_28 dX12_timeAt_59 ?_
      refine g_iload_n dX12_timeAt_62 rfl ?_
      obtain ⟨a63, e63, h⟩ := obind h
      refine g_ldB e63 ok_35 rfl rfl (by decide) dX12_timeAt_63 ?_
      refine g_iconst dX12_timeAt_64 kc_m1 ?_
      refine g_icmp_ne 72 dX12_timeAt_65 rfl (fun q => ?_) (fun q => ?_)
      · replace h := gif_f q h
        refine g_aload_n dX12_timeAt_72 rfl ?_
        refine g_iload_n dX12_timeAt_73 rfl ?_
        refine g_aload_n dX12_timeAt_74 rfl ?_
        refine gR_X12_32 ok_28 dX12_timeAt_75 ?_
        refine g_iload_n dX12_timeAt_78 rfl ?_
        obtain ⟨a79, e79, h⟩ := obind h
        refine g_ldB e79 ok_35 rfl rfl (by decide) dX12_timeAt_79 ?_
        obtain ⟨p80, e80, h⟩ := obind h
        refine g_vP2 mv_X12_209 dX12_timeAt_80 ok_28 ⟨by decide, by decide⟩ (Nat.le_of_ble_eq_true rfl) (f_X12_punchTime_ok e80) ?_
        cases h
        exact g_iret dX12_timeAt_83 rfl ⟨rfl, rfl⟩
      · replace h := gif_t q h
        refine g_iconst dX12_timeAt_68 kc_m1 ?_
        refine g_goto 83 dX12_timeAt_69 rfl ?_
        cases h
        exact g_iret dX12_timeAt_83 rfl ⟨rfl, rfl⟩
    · replace h := gif_t q h
      exact f_X12_timeAt_26_ok h
theorem dX12_splitOf_0 : decode cX12_splitOf 0 = .ok (.aload_n 0, 1) := by decide +kernel
theorem dX12_splitOf_1 : decode cX12_splitOf 1 = .ok (.iload_n 1, 1) := by decide +kernel
theorem dX12_splitOf_2 : decode cX12_splitOf 2 = .ok (.iload_n 2, 1) := by decide +kernel
theorem dX12_splitOf_3 : decode cX12_splitOf 3 = .ok (.invokevirtual 212, 3) := by decide +kernel
theorem dX12_splitOf_6 : decode cX12_splitOf 6 = .ok (.istore_n 3, 1) := by decide +kernel
theorem dX12_splitOf_7 : decode cX12_splitOf 7 = .ok (.iload_n 3, 1) := by decide +kernel
theorem dX12_splitOf_8 : decode cX12_splitOf 8 = .ok (.iconst (-1), 1) := by decide +kernel
theorem dX12_splitOf_9 : decode cX12_splitOf 9 = .ok (.if_icmp .ne 8, 3) := by decide +kernel
theorem dX12_splitOf_12 : decode cX12_splitOf 12 = .ok (.bipush (-2), 2) := by decide +kernel
theorem dX12_splitOf_14 : decode cX12_splitOf 14 = .ok (.goto 14, 3) := by decide +kernel
theorem dX12_splitOf_17 : decode cX12_splitOf 17 = .ok (.iload_n 3, 1) := by decide +kernel
theorem dX12_splitOf_18 : decode cX12_splitOf 18 = .ok (.aload_n 0, 1) := by decide +kernel
theorem dX12_splitOf_19 : decode cX12_splitOf 19 = .ok (.getfield 17, 3) := by decide +kernel
theorem dX12_splitOf_22 : decode cX12_splitOf 22 = .ok (.bipush 47, 2) := by decide +kernel
theorem dX12_splitOf_24 : decode cX12_splitOf 24 = .ok (.iload_n 1, 1) := by decide +kernel
theorem dX12_splitOf_25 : decode cX12_splitOf 25 = .ok (.iadd, 1) := by decide +kernel
theorem dX12_splitOf_26 : decode cX12_splitOf 26 = .ok (.iaload, 1) := by decide +kernel
theorem dX12_splitOf_27 : decode cX12_splitOf 27 = .ok (.isub, 1) := by decide +kernel
theorem dX12_splitOf_28 : decode cX12_splitOf 28 = .ok (.ireturn, 1) := by decide +kernel
def f_X12_splitOf (v1 : Int32) (v2 : Int32) (σ : gSt) : Option (Int32 × gSt) :=
  (f_X12_timeAt v1 v2 σ).bind fun p3 =>
  if p3.1 = (-1) then
    some ((-2), p3.2)
  else
    (gld p3.2 30 0 397 (47 + v1)).bind fun a26 =>
    some ((p3.1 - a26), p3.2)
theorem f_X12_splitOf_ok {v1 : Int32} {v2 : Int32}  {σ : gSt} {r : (Int32 × gSt)} (h : f_X12_splitOf v1 v2 σ = some r) : Mt l w 0 41 yX12_splitOf cX12_splitOf 4 (some .int) 4 96 [.ref (w.2.1 28 0), .int v1, .int v2] σ (gE (some (.int r.1)) r.2) := by
  unfold f_X12_splitOf at h
  refine g_start pn_X12 rfl rfl (Nat.le_of_ble_eq_true rfl) ?_
  show G l w 0 41 RX12 cX12_splitOf 4 (some .int) 4 96 (gE (some (.int r.1)) r.2) 0 [some (.ref (w.2.1 28 0)), some (.int v1), some (.int v2), none] [] σ
  refine g_aload_n dX12_splitOf_0 rfl ?_
  refine g_iload_n dX12_splitOf_1 rfl ?_
  refine g_iload_n dX12_splitOf_2 rfl ?_
  obtain ⟨p3, e3, h⟩ := obind h
  refine g_vP2 mv_X12_212 dX12_splitOf_3 ok_28 ⟨by decide, by decide⟩ (Nat.le_of_ble_eq_true rfl) (f_X12_timeAt_ok e3) ?_
  refine g_istore3 dX12_splitOf_6 ?_
  refine g_iload_n dX12_splitOf_7 rfl ?_
  refine g_iconst dX12_splitOf_8 kc_m1 ?_
  refine g_icmp_ne 17 dX12_splitOf_9 rfl (fun q => ?_) (fun q => ?_)
  · replace h := gif_f q h
    refine g_iload_n dX12_splitOf_17 rfl ?_
    refine g_aload_n dX12_splitOf_18 rfl ?_
    refine gR_X12_17 ok_28 dX12_splitOf_19 ?_
    refine g_bipush dX12_splitOf_22 kb_47 ?_
    refine g_iload_n dX12_splitOf_24 rfl ?_
    refine g_iadd dX12_splitOf_25 ?_
    obtain ⟨a26, e26, h⟩ := obind h
    refine g_ldB e26 ok_30 rfl rfl (by decide) dX12_splitOf_26 ?_
    refine g_isub dX12_splitOf_27 ?_
    cases h
    exact g_iret dX12_splitOf_28 rfl ⟨rfl, rfl⟩
  · replace h := gif_t q h
    refine g_bipush dX12_splitOf_12 kb_m2 ?_
    refine g_goto 28 dX12_splitOf_14 rfl ?_
    cases h
    exact g_iret dX12_splitOf_28 rfl ⟨rfl, rfl⟩
theorem dX12_legOf_0 : decode cX12_legOf 0 = .ok (.aload_n 0, 1) := by decide +kernel
theorem dX12_legOf_1 : decode cX12_legOf 1 = .ok (.iload_n 1, 1) := by decide +kernel
theorem dX12_legOf_2 : decode cX12_legOf 2 = .ok (.iload_n 2, 1) := by decide +kernel
theorem dX12_legOf_3 : decode cX12_legOf 3 = .ok (.iconst 1, 1) := by decide +kernel
theorem dX12_legOf_4 : decode cX12_legOf 4 = .ok (.isub, 1) := by decide +kernel
theorem dX12_legOf_5 : decode cX12_legOf 5 = .ok (.invokevirtual 212, 3) := by decide +kernel
theorem dX12_legOf_8 : decode cX12_legOf 8 = .ok (.istore_n 3, 1) := by decide +kernel
theorem dX12_legOf_9 : decode cX12_legOf 9 = .ok (.aload_n 0, 1) := by decide +kernel
theorem dX12_legOf_10 : decode cX12_legOf 10 = .ok (.iload_n 1, 1) := by decide +kernel
theorem dX12_legOf_11 : decode cX12_legOf 11 = .ok (.iload_n 2, 1) := by decide +kernel
theorem dX12_legOf_12 : decode cX12_legOf 12 = .ok (.invokevirtual 212, 3) := by decide +kernel
theorem dX12_legOf_15 : decode cX12_legOf 15 = .ok (.istore 4, 2) := by decide +kernel
theorem dX12_legOf_17 : decode cX12_legOf 17 = .ok (.iload_n 3, 1) := by decide +kernel
theorem dX12_legOf_18 : decode cX12_legOf 18 = .ok (.iconst (-1), 1) := by decide +kernel
theorem dX12_legOf_19 : decode cX12_legOf 19 = .ok (.if_icmp .eq 9, 3) := by decide +kernel
theorem dX12_legOf_22 : decode cX12_legOf 22 = .ok (.iload 4, 2) := by decide +kernel
theorem dX12_legOf_24 : decode cX12_legOf 24 = .ok (.iconst (-1), 1) := by decide +kernel
theorem dX12_legOf_25 : decode cX12_legOf 25 = .ok (.if_icmp .ne 8, 3) := by decide +kernel
theorem dX12_legOf_28 : decode cX12_legOf 28 = .ok (.bipush (-2), 2) := by decide +kernel
theorem dX12_legOf_30 : decode cX12_legOf 30 = .ok (.goto 7, 3) := by decide +kernel
theorem dX12_legOf_33 : decode cX12_legOf 33 = .ok (.iload 4, 2) := by decide +kernel
theorem dX12_legOf_35 : decode cX12_legOf 35 = .ok (.iload_n 3, 1) := by decide +kernel
theorem dX12_legOf_36 : decode cX12_legOf 36 = .ok (.isub, 1) := by decide +kernel
theorem dX12_legOf_37 : decode cX12_legOf 37 = .ok (.ireturn, 1) := by decide +kernel
def f_X12_legOf (v1 : Int32) (v2 : Int32) (σ : gSt) : Option (Int32 × gSt) :=
  (f_X12_timeAt v1 (v2 - 1) σ).bind fun p5 =>
  (f_X12_timeAt v1 v2 p5.2).bind fun p12 =>
  if p5.1 = (-1) then
    some ((-2), p12.2)
  else
    if p12.1 = (-1) then
      some ((-2), p12.2)
    else
      some ((p12.1 - p5.1), p12.2)
theorem f_X12_legOf_ok {v1 : Int32} {v2 : Int32}  {σ : gSt} {r : (Int32 × gSt)} (h : f_X12_legOf v1 v2 σ = some r) : Mt l w 0 41 yX12_legOf cX12_legOf 5 (some .int) 4 96 [.ref (w.2.1 28 0), .int v1, .int v2] σ (gE (some (.int r.1)) r.2) := by
  unfold f_X12_legOf at h
  refine g_start pn_X12 rfl rfl (Nat.le_of_ble_eq_true rfl) ?_
  show G l w 0 41 RX12 cX12_legOf 5 (some .int) 4 96 (gE (some (.int r.1)) r.2) 0 [some (.ref (w.2.1 28 0)), some (.int v1), some (.int v2), none, none] [] σ
  refine g_aload_n dX12_legOf_0 rfl ?_
  refine g_iload_n dX12_legOf_1 rfl ?_
  refine g_iload_n dX12_legOf_2 rfl ?_
  refine g_iconst dX12_legOf_3 kc_1 ?_
  refine g_isub dX12_legOf_4 ?_
  obtain ⟨p5, e5, h⟩ := obind h
  refine g_vP2 mv_X12_212 dX12_legOf_5 ok_28 ⟨by decide, by decide⟩ (Nat.le_of_ble_eq_true rfl) (f_X12_timeAt_ok e5) ?_
  refine g_istore3 dX12_legOf_8 ?_
  refine g_aload_n dX12_legOf_9 rfl ?_
  refine g_iload_n dX12_legOf_10 rfl ?_
  refine g_iload_n dX12_legOf_11 rfl ?_
  obtain ⟨p12, e12, h⟩ := obind h
  refine g_vP2 mv_X12_212 dX12_legOf_12 ok_28 ⟨by decide, by decide⟩ (Nat.le_of_ble_eq_true rfl) (f_X12_timeAt_ok e12) ?_
  refine g_istore4 dX12_legOf_15 ?_
  refine g_iload_n dX12_legOf_17 rfl ?_
  refine g_iconst dX12_legOf_18 kc_m1 ?_
  refine g_icmp_eq 28 dX12_legOf_19 rfl (fun q => ?_) (fun q => ?_)
  · replace h := gif_t q h
    refine g_bipush dX12_legOf_28 kb_m2 ?_
    refine g_goto 37 dX12_legOf_30 rfl ?_
    cases h
    exact g_iret dX12_legOf_37 rfl ⟨rfl, rfl⟩
  · replace h := gif_f q h
    refine g_iload dX12_legOf_22 rfl ?_
    refine g_iconst dX12_legOf_24 kc_m1 ?_
    refine g_icmp_ne 33 dX12_legOf_25 rfl (fun q => ?_) (fun q => ?_)
    · replace h := gif_f q h
      refine g_iload dX12_legOf_33 rfl ?_
      refine g_iload_n dX12_legOf_35 rfl ?_
      refine g_isub dX12_legOf_36 ?_
      cases h
      exact g_iret dX12_legOf_37 rfl ⟨rfl, rfl⟩
    · replace h := gif_t q h
      refine g_bipush dX12_legOf_28 kb_m2 ?_
      refine g_goto 37 dX12_legOf_30 rfl ?_
      cases h
      exact g_iret dX12_legOf_37 rfl ⟨rfl, rfl⟩
theorem dX12_validOf_0 : decode cX12_validOf 0 = .ok (.iconst 0, 1) := by decide +kernel
theorem dX12_validOf_1 : decode cX12_validOf 1 = .ok (.istore_n 2, 1) := by decide +kernel
theorem dX12_validOf_2 : decode cX12_validOf 2 = .ok (.iconst 0, 1) := by decide +kernel
theorem dX12_validOf_3 : decode cX12_validOf 3 = .ok (.istore_n 3, 1) := by decide +kernel
theorem dX12_validOf_4 : decode cX12_validOf 4 = .ok (.iload_n 3, 1) := by decide +kernel
theorem dX12_validOf_5 : decode cX12_validOf 5 = .ok (.aload_n 0, 1) := by decide +kernel
theorem dX12_validOf_6 : decode cX12_validOf 6 = .ok (.getfield 17, 3) := by decide +kernel
theorem dX12_validOf_9 : decode cX12_validOf 9 = .ok (.iconst 1, 1) := by decide +kernel
theorem dX12_validOf_10 : decode cX12_validOf 10 = .ok (.iaload, 1) := by decide +kernel
theorem dX12_validOf_11 : decode cX12_validOf 11 = .ok (.if_icmp .ge 43, 3) := by decide +kernel
theorem dX12_validOf_14 : decode cX12_validOf 14 = .ok (.iload_n 2, 1) := by decide +kernel
theorem dX12_validOf_15 : decode cX12_validOf 15 = .ok (.iload_n 1, 1) := by decide +kernel
theorem dX12_validOf_16 : decode cX12_validOf 16 = .ok (.iconst (-1), 1) := by decide +kernel
theorem dX12_validOf_17 : decode cX12_validOf 17 = .ok (.if_icmp .eq 16, 3) := by decide +kernel
theorem dX12_validOf_20 : decode cX12_validOf 20 = .ok (.aload_n 0, 1) := by decide +kernel
theorem dX12_validOf_21 : decode cX12_validOf 21 = .ok (.getfield 17, 3) := by decide +kernel
theorem dX12_validOf_24 : decode cX12_validOf 24 = .ok (.bipush 37, 2) := by decide +kernel
theorem dX12_validOf_26 : decode cX12_validOf 26 = .ok (.iload_n 3, 1) := by decide +kernel
theorem dX12_validOf_27 : decode cX12_validOf 27 = .ok (.iadd, 1) := by decide +kernel
theorem dX12_validOf_28 : decode cX12_validOf 28 = .ok (.iaload, 1) := by decide +kernel
theorem dX12_validOf_29 : decode cX12_validOf 29 = .ok (.iload_n 1, 1) := by decide +kernel
theorem dX12_validOf_30 : decode cX12_validOf 30 = .ok (.if_icmp .ne 15, 3) := by decide +kernel
theorem dX12_validOf_33 : decode cX12_validOf 33 = .ok (.aload_n 0, 1) := by decide +kernel
theorem dX12_validOf_34 : decode cX12_validOf 34 = .ok (.iload_n 3, 1) := by decide +kernel
theorem dX12_validOf_35 : decode cX12_validOf 35 = .ok (.invokevirtual 215, 3) := by decide +kernel
theorem dX12_validOf_38 : decode cX12_validOf 38 = .ok (.ifCond .eq 7, 3) := by decide +kernel
theorem dX12_validOf_41 : decode cX12_validOf 41 = .ok (.iconst 1, 1) := by decide +kernel
theorem dX12_validOf_42 : decode cX12_validOf 42 = .ok (.goto 4, 3) := by decide +kernel
theorem dX12_validOf_45 : decode cX12_validOf 45 = .ok (.iconst 0, 1) := by decide +kernel
theorem dX12_validOf_46 : decode cX12_validOf 46 = .ok (.iadd, 1) := by decide +kernel
theorem dX12_validOf_47 : decode cX12_validOf 47 = .ok (.istore_n 2, 1) := by decide +kernel
theorem dX12_validOf_48 : decode cX12_validOf 48 = .ok (.iinc 3 1, 3) := by decide +kernel
theorem dX12_validOf_51 : decode cX12_validOf 51 = .ok (.goto (-47), 3) := by decide +kernel
theorem dX12_validOf_54 : decode cX12_validOf 54 = .ok (.iload_n 2, 1) := by decide +kernel
theorem dX12_validOf_55 : decode cX12_validOf 55 = .ok (.ireturn, 1) := by decide +kernel
def f_X12_validOf_33 (v1 : Int32) (v3 : Int32) (k4 : Int32 → Int32 → gSt → Option (Int32 × gSt)) (vs0 : Int32) (σ : gSt) : Option (Int32 × gSt) :=
  (f_X12_isValid v3 σ).bind fun p35 =>
  if p35.1 = 0 then
    k4 (vs0 + 0) (v3 + 1) p35.2
  else
    k4 (vs0 + 1) (v3 + 1) p35.2
def f_X12_validOf_4 (v1 : Int32) : Nat → Int32 → Int32 → gSt → Option (Int32 × gSt)
  | 0, _, _, _ => none
  | n + 1, v2, v3, σ =>
    (gld σ 30 0 397 1).bind fun a10 =>
    if a10 ≤ v3 then
      some (v2, σ)
    else
      if v1 = (-1) then
        f_X12_validOf_33 v1 v3 (fun v2 v3 σ => f_X12_validOf_4 v1 n v2 v3 σ) v2 σ
      else
        (gld σ 30 0 397 (37 + v3)).bind fun a28 =>
        if a28 = v1 then
          f_X12_validOf_33 v1 v3 (fun v2 v3 σ => f_X12_validOf_4 v1 n v2 v3 σ) v2 σ
        else
          f_X12_validOf_4 v1 n (v2 + 0) (v3 + 1) σ
def f_X12_validOf (v1 : Int32) (σ : gSt) : Option (Int32 × gSt) :=
  f_X12_validOf_4 v1 gFuel 0 0 σ
theorem f_X12_validOf_33_ok {v1 : Int32} {v3 : Int32} {k4 : Int32 → Int32 → gSt → Option (Int32 × gSt)} {vs0 : Int32} {r : (Int32 × gSt)} (hk4 : ∀ {v2 : Int32} {v3 : Int32} {σ : gSt} , k4 v2 v3 σ = some r → G l w 0 41 RX12 cX12_validOf 4 (some .int) 4 94 (gE (some (.int r.1)) r.2) 4 [some (.ref (w.2.1 28 0)), some (.int v1), some (.int v2), some (.int v3)] [] σ) {σ : gSt} {x2 : Option Value} (h : f_X12_validOf_33 v1 v3 k4 vs0 σ = some r) : G l w 0 41 RX12 cX12_validOf 4 (some .int) 4 94 (gE (some (.int r.1)) r.2) 33 [some (.ref (w.2.1 28 0)), some (.int v1), x2, some (.int v3)] [.int vs0] σ := by
  unfold f_X12_validOf_33 at h
  refine g_aload_n dX12_validOf_33 rfl ?_
  refine g_iload_n dX12_validOf_34 rfl ?_
  obtain ⟨p35, e35, h⟩ := obind h
  refine g_vP1 mv_X12_215 dX12_validOf_35 ok_28 ⟨by decide, by decide⟩ (Nat.le_of_ble_eq_true rfl) (f_X12_isValid_ok e35) ?_
  refine g_if_eq 45 dX12_validOf_38 rfl (fun q => ?_) (fun q => ?_)
  · replace h := gif_t q h
    refine g_iconst dX12_validOf_45 kc_0 ?_
    refine g_iadd dX12_validOf_46 ?_
    refine g_istore2 dX12_validOf_47 ?_
    refine g_inc3 kc_1 dX12_validOf_48 ?_
    refine g_goto 4 dX12_validOf_51 rfl ?_
    exact hk4 h
  · replace h := gif_f q h
    refine g_iconst dX12_validOf_41 kc_1 ?_
    refine g_goto 46 dX12_validOf_42 rfl ?_
    refine g_iadd dX12_validOf_46 ?_
    refine g_istore2 dX12_validOf_47 ?_
    refine g_inc3 kc_1 dX12_validOf_48 ?_
    refine g_goto 4 dX12_validOf_51 rfl ?_
    exact hk4 h
theorem f_X12_validOf_4_ok {v1 : Int32} {r : (Int32 × gSt)}  : ∀ (n : Nat) {v2 : Int32} {v3 : Int32} {σ : gSt} , f_X12_validOf_4 v1 n v2 v3 σ = some r → G l w 0 41 RX12 cX12_validOf 4 (some .int) 4 94 (gE (some (.int r.1)) r.2) 4 [some (.ref (w.2.1 28 0)), some (.int v1), some (.int v2), some (.int v3)] [] σ := by
  intro n
  induction n with
  | zero => intro v2 v3 σ h; rw [f_X12_validOf_4] at h; cases h
  | succ n ih =>
    intro v2 v3 σ h
    rw [f_X12_validOf_4] at h
    refine g_iload_n dX12_validOf_4 rfl ?_
    refine g_aload_n dX12_validOf_5 rfl ?_
    refine gR_X12_17 ok_28 dX12_validOf_6 ?_
    refine g_iconst dX12_validOf_9 kc_1 ?_
    obtain ⟨a10, e10, h⟩ := obind h
    refine g_ldB e10 ok_30 rfl rfl (by decide) dX12_validOf_10 ?_
    refine g_icmp_ge 54 dX12_validOf_11 rfl (fun q => ?_) (fun q => ?_)
    · replace h := gif_t q h
      refine g_iload_n dX12_validOf_54 rfl ?_
      cases h
      exact g_iret dX12_validOf_55 rfl ⟨rfl, rfl⟩
    · replace h := gif_f q h
      refine g_iload_n dX12_validOf_14 rfl ?_
      refine g_iload_n dX12_validOf_15 rfl ?_
      refine g_iconst dX12_validOf_16 kc_m1 ?_
      refine g_icmp_eq 33 dX12_validOf_17 rfl (fun q => ?_) (fun q => ?_)
      · replace h := gif_t q h
        exact f_X12_validOf_33_ok (fun h => ih h) h
      · replace h := gif_f q h
        refine g_aload_n dX12_validOf_20 rfl ?_
        refine gR_X12_17 ok_28 dX12_validOf_21 ?_
        refine g_bipush dX12_validOf_24 kb_37 ?_
        refine g_iload_n dX12_validOf_26 rfl ?_
        refine g_iadd dX12_validOf_27 ?_
        obtain ⟨a28, e28, h⟩ := obind h
        refine g_ldB e28 ok_30 rfl rfl (by decide) dX12_validOf_28 ?_
        refine g_iload_n dX12_validOf_29 rfl ?_
        refine g_icmp_ne 45 dX12_validOf_30 rfl (fun q => ?_) (fun q => ?_)
        · replace h := gif_f q h
          refine g_iconst dX12_validOf_45 kc_0 ?_
          refine g_iadd dX12_validOf_46 ?_
          refine g_istore2 dX12_validOf_47 ?_
          refine g_inc3 kc_1 dX12_validOf_48 ?_
          refine g_goto 4 dX12_validOf_51 rfl ?_
          exact ih h
        · replace h := gif_t q h
          exact f_X12_validOf_33_ok (fun h => ih h) h
theorem f_X12_validOf_ok {v1 : Int32}  {σ : gSt} {r : (Int32 × gSt)} (h : f_X12_validOf v1 σ = some r) : Mt l w 0 41 yX12_validOf cX12_validOf 4 (some .int) 4 94 [.ref (w.2.1 28 0), .int v1] σ (gE (some (.int r.1)) r.2) := by
  unfold f_X12_validOf at h
  refine g_start pn_X12 rfl rfl (Nat.le_of_ble_eq_true rfl) ?_
  show G l w 0 41 RX12 cX12_validOf 4 (some .int) 4 94 (gE (some (.int r.1)) r.2) 0 [some (.ref (w.2.1 28 0)), some (.int v1), none, none] [] σ
  refine g_iconst dX12_validOf_0 kc_0 ?_
  refine g_istore2 dX12_validOf_1 ?_
  refine g_iconst dX12_validOf_2 kc_0 ?_
  refine g_istore3 dX12_validOf_3 ?_
  exact f_X12_validOf_4_ok gFuel h
theorem dX12_runnersOf_0 : decode cX12_runnersOf 0 = .ok (.iconst 0, 1) := by decide +kernel
theorem dX12_runnersOf_1 : decode cX12_runnersOf 1 = .ok (.istore_n 2, 1) := by decide +kernel
theorem dX12_runnersOf_2 : decode cX12_runnersOf 2 = .ok (.iconst 0, 1) := by decide +kernel
theorem dX12_runnersOf_3 : decode cX12_runnersOf 3 = .ok (.istore_n 3, 1) := by decide +kernel
theorem dX12_runnersOf_4 : decode cX12_runnersOf 4 = .ok (.iload_n 3, 1) := by decide +kernel
theorem dX12_runnersOf_5 : decode cX12_runnersOf 5 = .ok (.aload_n 0, 1) := by decide +kernel
theorem dX12_runnersOf_6 : decode cX12_runnersOf 6 = .ok (.getfield 17, 3) := by decide +kernel
theorem dX12_runnersOf_9 : decode cX12_runnersOf 9 = .ok (.iconst 1, 1) := by decide +kernel
theorem dX12_runnersOf_10 : decode cX12_runnersOf 10 = .ok (.iaload, 1) := by decide +kernel
theorem dX12_runnersOf_11 : decode cX12_runnersOf 11 = .ok (.if_icmp .ge 30, 3) := by decide +kernel
theorem dX12_runnersOf_14 : decode cX12_runnersOf 14 = .ok (.iload_n 2, 1) := by decide +kernel
theorem dX12_runnersOf_15 : decode cX12_runnersOf 15 = .ok (.aload_n 0, 1) := by decide +kernel
theorem dX12_runnersOf_16 : decode cX12_runnersOf 16 = .ok (.getfield 17, 3) := by decide +kernel
theorem dX12_runnersOf_19 : decode cX12_runnersOf 19 = .ok (.bipush 37, 2) := by decide +kernel
theorem dX12_runnersOf_21 : decode cX12_runnersOf 21 = .ok (.iload_n 3, 1) := by decide +kernel
theorem dX12_runnersOf_22 : decode cX12_runnersOf 22 = .ok (.iadd, 1) := by decide +kernel
theorem dX12_runnersOf_23 : decode cX12_runnersOf 23 = .ok (.iaload, 1) := by decide +kernel
theorem dX12_runnersOf_24 : decode cX12_runnersOf 24 = .ok (.iload_n 1, 1) := by decide +kernel
theorem dX12_runnersOf_25 : decode cX12_runnersOf 25 = .ok (.if_icmp .ne 7, 3) := by decide +kernel
theorem dX12_runnersOf_28 : decode cX12_runnersOf 28 = .ok (.iconst 1, 1) := by decide +kernel
theorem dX12_runnersOf_29 : decode cX12_runnersOf 29 = .ok (.goto 4, 3) := by decide +kernel
theorem dX12_runnersOf_32 : decode cX12_runnersOf 32 = .ok (.iconst 0, 1) := by decide +kernel
theorem dX12_runnersOf_33 : decode cX12_runnersOf 33 = .ok (.iadd, 1) := by decide +kernel
theorem dX12_runnersOf_34 : decode cX12_runnersOf 34 = .ok (.istore_n 2, 1) := by decide +kernel
theorem dX12_runnersOf_35 : decode cX12_runnersOf 35 = .ok (.iinc 3 1, 3) := by decide +kernel
theorem dX12_runnersOf_38 : decode cX12_runnersOf 38 = .ok (.goto (-34), 3) := by decide +kernel
theorem dX12_runnersOf_41 : decode cX12_runnersOf 41 = .ok (.iload_n 2, 1) := by decide +kernel
theorem dX12_runnersOf_42 : decode cX12_runnersOf 42 = .ok (.ireturn, 1) := by decide +kernel
def f_X12_runnersOf_4 (v1 : Int32) : Nat → Int32 → Int32 → gSt → Option (Int32 × gSt)
  | 0, _, _, _ => none
  | n + 1, v2, v3, σ =>
    (gld σ 30 0 397 1).bind fun a10 =>
    if a10 ≤ v3 then
      some (v2, σ)
    else
      (gld σ 30 0 397 (37 + v3)).bind fun a23 =>
      if a23 = v1 then
        f_X12_runnersOf_4 v1 n (v2 + 1) (v3 + 1) σ
      else
        f_X12_runnersOf_4 v1 n (v2 + 0) (v3 + 1) σ
def f_X12_runnersOf (v1 : Int32) (σ : gSt) : Option (Int32 × gSt) :=
  f_X12_runnersOf_4 v1 gFuel 0 0 σ
theorem f_X12_runnersOf_4_ok {v1 : Int32} {r : (Int32 × gSt)}  : ∀ (n : Nat) {v2 : Int32} {v3 : Int32} {σ : gSt} , f_X12_runnersOf_4 v1 n v2 v3 σ = some r → G l w 0 41 RX12 cX12_runnersOf 4 (some .int) 0 0 (gE (some (.int r.1)) r.2) 4 [some (.ref (w.2.1 28 0)), some (.int v1), some (.int v2), some (.int v3)] [] σ := by
  intro n
  induction n with
  | zero => intro v2 v3 σ h; rw [f_X12_runnersOf_4] at h; cases h
  | succ n ih =>
    intro v2 v3 σ h
    rw [f_X12_runnersOf_4] at h
    refine g_iload_n dX12_runnersOf_4 rfl ?_
    refine g_aload_n dX12_runnersOf_5 rfl ?_
    refine gR_X12_17 ok_28 dX12_runnersOf_6 ?_
    refine g_iconst dX12_runnersOf_9 kc_1 ?_
    obtain ⟨a10, e10, h⟩ := obind h
    refine g_ldB e10 ok_30 rfl rfl (by decide) dX12_runnersOf_10 ?_
    refine g_icmp_ge 41 dX12_runnersOf_11 rfl (fun q => ?_) (fun q => ?_)
    · replace h := gif_t q h
      refine g_iload_n dX12_runnersOf_41 rfl ?_
      cases h
      exact g_iret dX12_runnersOf_42 rfl ⟨rfl, rfl⟩
    · replace h := gif_f q h
      refine g_iload_n dX12_runnersOf_14 rfl ?_
      refine g_aload_n dX12_runnersOf_15 rfl ?_
      refine gR_X12_17 ok_28 dX12_runnersOf_16 ?_
      refine g_bipush dX12_runnersOf_19 kb_37 ?_
      refine g_iload_n dX12_runnersOf_21 rfl ?_
      refine g_iadd dX12_runnersOf_22 ?_
      obtain ⟨a23, e23, h⟩ := obind h
      refine g_ldB e23 ok_30 rfl rfl (by decide) dX12_runnersOf_23 ?_
      refine g_iload_n dX12_runnersOf_24 rfl ?_
      refine g_icmp_ne 32 dX12_runnersOf_25 rfl (fun q => ?_) (fun q => ?_)
      · replace h := gif_f q h
        refine g_iconst dX12_runnersOf_32 kc_0 ?_
        refine g_iadd dX12_runnersOf_33 ?_
        refine g_istore2 dX12_runnersOf_34 ?_
        refine g_inc3 kc_1 dX12_runnersOf_35 ?_
        refine g_goto 4 dX12_runnersOf_38 rfl ?_
        exact ih h
      · replace h := gif_t q h
        refine g_iconst dX12_runnersOf_28 kc_1 ?_
        refine g_goto 33 dX12_runnersOf_29 rfl ?_
        refine g_iadd dX12_runnersOf_33 ?_
        refine g_istore2 dX12_runnersOf_34 ?_
        refine g_inc3 kc_1 dX12_runnersOf_35 ?_
        refine g_goto 4 dX12_runnersOf_38 rfl ?_
        exact ih h
theorem f_X12_runnersOf_ok {v1 : Int32}  {σ : gSt} {r : (Int32 × gSt)} (h : f_X12_runnersOf v1 σ = some r) : Mt l w 0 41 yX12_runnersOf cX12_runnersOf 4 (some .int) 0 0 [.ref (w.2.1 28 0), .int v1] σ (gE (some (.int r.1)) r.2) := by
  unfold f_X12_runnersOf at h
  refine g_start pn_X12 rfl rfl (Nat.le_of_ble_eq_true rfl) ?_
  show G l w 0 41 RX12 cX12_runnersOf 4 (some .int) 0 0 (gE (some (.int r.1)) r.2) 0 [some (.ref (w.2.1 28 0)), some (.int v1), none, none] [] σ
  refine g_iconst dX12_runnersOf_0 kc_0 ?_
  refine g_istore2 dX12_runnersOf_1 ?_
  refine g_iconst dX12_runnersOf_2 kc_0 ?_
  refine g_istore3 dX12_runnersOf_3 ?_
  exact f_X12_runnersOf_4_ok gFuel h
theorem dX12_leastTotal_0 : decode cX12_leastTotal 0 = .ok (.bipush (-2), 2) := by decide +kernel
theorem dX12_leastTotal_2 : decode cX12_leastTotal 2 = .ok (.istore_n 2, 1) := by decide +kernel
theorem dX12_leastTotal_3 : decode cX12_leastTotal 3 = .ok (.iconst 0, 1) := by decide +kernel
theorem dX12_leastTotal_4 : decode cX12_leastTotal 4 = .ok (.istore_n 3, 1) := by decide +kernel
theorem dX12_leastTotal_5 : decode cX12_leastTotal 5 = .ok (.iload_n 3, 1) := by decide +kernel
theorem dX12_leastTotal_6 : decode cX12_leastTotal 6 = .ok (.aload_n 0, 1) := by decide +kernel
theorem dX12_leastTotal_7 : decode cX12_leastTotal 7 = .ok (.getfield 17, 3) := by decide +kernel
theorem dX12_leastTotal_10 : decode cX12_leastTotal 10 = .ok (.iconst 1, 1) := by decide +kernel
theorem dX12_leastTotal_11 : decode cX12_leastTotal 11 = .ok (.iaload, 1) := by decide +kernel
theorem dX12_leastTotal_12 : decode cX12_leastTotal 12 = .ok (.if_icmp .ge 55, 3) := by decide +kernel
theorem dX12_leastTotal_15 : decode cX12_leastTotal 15 = .ok (.aload_n 0, 1) := by decide +kernel
theorem dX12_leastTotal_16 : decode cX12_leastTotal 16 = .ok (.getfield 17, 3) := by decide +kernel
theorem dX12_leastTotal_19 : decode cX12_leastTotal 19 = .ok (.bipush 37, 2) := by decide +kernel
theorem dX12_leastTotal_21 : decode cX12_leastTotal 21 = .ok (.iload_n 3, 1) := by decide +kernel
theorem dX12_leastTotal_22 : decode cX12_leastTotal 22 = .ok (.iadd, 1) := by decide +kernel
theorem dX12_leastTotal_23 : decode cX12_leastTotal 23 = .ok (.iaload, 1) := by decide +kernel
theorem dX12_leastTotal_24 : decode cX12_leastTotal 24 = .ok (.iload_n 1, 1) := by decide +kernel
theorem dX12_leastTotal_25 : decode cX12_leastTotal 25 = .ok (.if_icmp .ne 36, 3) := by decide +kernel
theorem dX12_leastTotal_28 : decode cX12_leastTotal 28 = .ok (.aload_n 0, 1) := by decide +kernel
theorem dX12_leastTotal_29 : decode cX12_leastTotal 29 = .ok (.iload_n 3, 1) := by decide +kernel
theorem dX12_leastTotal_30 : decode cX12_leastTotal 30 = .ok (.invokevirtual 215, 3) := by decide +kernel
theorem dX12_leastTotal_33 : decode cX12_leastTotal 33 = .ok (.ifCond .eq 28, 3) := by decide +kernel
theorem dX12_leastTotal_36 : decode cX12_leastTotal 36 = .ok (.iload_n 2, 1) := by decide +kernel
theorem dX12_leastTotal_37 : decode cX12_leastTotal 37 = .ok (.bipush (-2), 2) := by decide +kernel
theorem dX12_leastTotal_39 : decode cX12_leastTotal 39 = .ok (.if_icmp .eq 12, 3) := by decide +kernel
theorem dX12_leastTotal_42 : decode cX12_leastTotal 42 = .ok (.aload_n 0, 1) := by decide +kernel
theorem dX12_leastTotal_43 : decode cX12_leastTotal 43 = .ok (.iload_n 3, 1) := by decide +kernel
theorem dX12_leastTotal_44 : decode cX12_leastTotal 44 = .ok (.invokevirtual 218, 3) := by decide +kernel
theorem dX12_leastTotal_47 : decode cX12_leastTotal 47 = .ok (.iload_n 2, 1) := by decide +kernel
theorem dX12_leastTotal_48 : decode cX12_leastTotal 48 = .ok (.if_icmp .ge 11, 3) := by decide +kernel
theorem dX12_leastTotal_51 : decode cX12_leastTotal 51 = .ok (.aload_n 0, 1) := by decide +kernel
theorem dX12_leastTotal_52 : decode cX12_leastTotal 52 = .ok (.iload_n 3, 1) := by decide +kernel
theorem dX12_leastTotal_53 : decode cX12_leastTotal 53 = .ok (.invokevirtual 218, 3) := by decide +kernel
theorem dX12_leastTotal_56 : decode cX12_leastTotal 56 = .ok (.goto 4, 3) := by decide +kernel
theorem dX12_leastTotal_59 : decode cX12_leastTotal 59 = .ok (.iload_n 2, 1) := by decide +kernel
theorem dX12_leastTotal_60 : decode cX12_leastTotal 60 = .ok (.istore_n 2, 1) := by decide +kernel
theorem dX12_leastTotal_61 : decode cX12_leastTotal 61 = .ok (.iinc 3 1, 3) := by decide +kernel
theorem dX12_leastTotal_64 : decode cX12_leastTotal 64 = .ok (.goto (-59), 3) := by decide +kernel
theorem dX12_leastTotal_67 : decode cX12_leastTotal 67 = .ok (.iload_n 2, 1) := by decide +kernel
theorem dX12_leastTotal_68 : decode cX12_leastTotal 68 = .ok (.ireturn, 1) := by decide +kernel
def f_X12_leastTotal_5 (v1 : Int32) : Nat → Int32 → Int32 → gSt → Option (Int32 × gSt)
  | 0, _, _, _ => none
  | n + 1, v2, v3, σ =>
    (gld σ 30 0 397 1).bind fun a11 =>
    if a11 ≤ v3 then
      some (v2, σ)
    else
      (gld σ 30 0 397 (37 + v3)).bind fun a23 =>
      if a23 = v1 then
        (f_X12_isValid v3 σ).bind fun p30 =>
        if p30.1 = 0 then
          f_X12_leastTotal_5 v1 n v2 (v3 + 1) p30.2
        else
          if v2 = (-2) then
            (f_X12_totalOf v3 p30.2).bind fun p53 =>
            f_X12_leastTotal_5 v1 n p53.1 (v3 + 1) p53.2
          else
            (f_X12_totalOf v3 p30.2).bind fun p44 =>
            if v2 ≤ p44.1 then
              f_X12_leastTotal_5 v1 n v2 (v3 + 1) p44.2
            else
              (f_X12_totalOf v3 p44.2).bind fun p53 =>
              f_X12_leastTotal_5 v1 n p53.1 (v3 + 1) p53.2
      else
        f_X12_leastTotal_5 v1 n v2 (v3 + 1) σ
def f_X12_leastTotal (v1 : Int32) (σ : gSt) : Option (Int32 × gSt) :=
  f_X12_leastTotal_5 v1 gFuel (-2) 0 σ
theorem f_X12_leastTotal_5_ok {v1 : Int32} {r : (Int32 × gSt)}  : ∀ (n : Nat) {v2 : Int32} {v3 : Int32} {σ : gSt} , f_X12_leastTotal_5 v1 n v2 v3 σ = some r → G l w 0 41 RX12 cX12_leastTotal 4 (some .int) 4 94 (gE (some (.int r.1)) r.2) 5 [some (.ref (w.2.1 28 0)), some (.int v1), some (.int v2), some (.int v3)] [] σ := by
  intro n
  induction n with
  | zero => intro v2 v3 σ h; rw [f_X12_leastTotal_5] at h; cases h
  | succ n ih =>
    intro v2 v3 σ h
    rw [f_X12_leastTotal_5] at h
    refine g_iload_n dX12_leastTotal_5 rfl ?_
    refine g_aload_n dX12_leastTotal_6 rfl ?_
    refine gR_X12_17 ok_28 dX12_leastTotal_7 ?_
    refine g_iconst dX12_leastTotal_10 kc_1 ?_
    obtain ⟨a11, e11, h⟩ := obind h
    refine g_ldB e11 ok_30 rfl rfl (by decide) dX12_leastTotal_11 ?_
    refine g_icmp_ge 67 dX12_leastTotal_12 rfl (fun q => ?_) (fun q => ?_)
    · replace h := gif_t q h
      refine g_iload_n dX12_leastTotal_67 rfl ?_
      cases h
      exact g_iret dX12_leastTotal_68 rfl ⟨rfl, rfl⟩
    · replace h := gif_f q h
      refine g_aload_n dX12_leastTotal_15 rfl ?_
      refine gR_X12_17 ok_28 dX12_leastTotal_16 ?_
      refine g_bipush dX12_leastTotal_19 kb_37 ?_
      refine g_iload_n dX12_leastTotal_21 rfl ?_
      refine g_iadd dX12_leastTotal_22 ?_
      obtain ⟨a23, e23, h⟩ := obind h
      refine g_ldB e23 ok_30 rfl rfl (by decide) dX12_leastTotal_23 ?_
      refine g_iload_n dX12_leastTotal_24 rfl ?_
      refine g_icmp_ne 61 dX12_leastTotal_25 rfl (fun q => ?_) (fun q => ?_)
      · replace h := gif_f q h
        refine g_inc3 kc_1 dX12_leastTotal_61 ?_
        refine g_goto 5 dX12_leastTotal_64 rfl ?_
        exact ih h
      · replace h := gif_t q h
        refine g_aload_n dX12_leastTotal_28 rfl ?_
        refine g_iload_n dX12_leastTotal_29 rfl ?_
        obtain ⟨p30, e30, h⟩ := obind h
        refine g_vP1 mv_X12_215 dX12_leastTotal_30 ok_28 ⟨by decide, by decide⟩ (Nat.le_of_ble_eq_true rfl) (f_X12_isValid_ok e30) ?_
        refine g_if_eq 61 dX12_leastTotal_33 rfl (fun q => ?_) (fun q => ?_)
        · replace h := gif_t q h
          refine g_inc3 kc_1 dX12_leastTotal_61 ?_
          refine g_goto 5 dX12_leastTotal_64 rfl ?_
          exact ih h
        · replace h := gif_f q h
          refine g_iload_n dX12_leastTotal_36 rfl ?_
          refine g_bipush dX12_leastTotal_37 kb_m2 ?_
          refine g_icmp_eq 51 dX12_leastTotal_39 rfl (fun q => ?_) (fun q => ?_)
          · replace h := gif_t q h
            refine g_aload_n dX12_leastTotal_51 rfl ?_
            refine g_iload_n dX12_leastTotal_52 rfl ?_
            obtain ⟨p53, e53, h⟩ := obind h
            refine g_vP1 mv_X12_218 dX12_leastTotal_53 ok_28 ⟨by decide, by decide⟩ (Nat.le_of_ble_eq_true rfl) (f_X12_totalOf_ok e53) ?_
            refine g_goto 60 dX12_leastTotal_56 rfl ?_
            refine g_istore2 dX12_leastTotal_60 ?_
            refine g_inc3 kc_1 dX12_leastTotal_61 ?_
            refine g_goto 5 dX12_leastTotal_64 rfl ?_
            exact ih h
          · replace h := gif_f q h
            refine g_aload_n dX12_leastTotal_42 rfl ?_
            refine g_iload_n dX12_leastTotal_43 rfl ?_
            obtain ⟨p44, e44, h⟩ := obind h
            refine g_vP1 mv_X12_218 dX12_leastTotal_44 ok_28 ⟨by decide, by decide⟩ (Nat.le_of_ble_eq_true rfl) (f_X12_totalOf_ok e44) ?_
            refine g_iload_n dX12_leastTotal_47 rfl ?_
            refine g_icmp_ge 59 dX12_leastTotal_48 rfl (fun q => ?_) (fun q => ?_)
            · replace h := gif_t q h
              refine g_iload_n dX12_leastTotal_59 rfl ?_
              refine g_istore2 dX12_leastTotal_60 ?_
              refine g_inc3 kc_1 dX12_leastTotal_61 ?_
              refine g_goto 5 dX12_leastTotal_64 rfl ?_
              exact ih h
            · replace h := gif_f q h
              refine g_aload_n dX12_leastTotal_51 rfl ?_
              refine g_iload_n dX12_leastTotal_52 rfl ?_
              obtain ⟨p53, e53, h⟩ := obind h
              refine g_vP1 mv_X12_218 dX12_leastTotal_53 ok_28 ⟨by decide, by decide⟩ (Nat.le_of_ble_eq_true rfl) (f_X12_totalOf_ok e53) ?_
              refine g_goto 60 dX12_leastTotal_56 rfl ?_
              refine g_istore2 dX12_leastTotal_60 ?_
              refine g_inc3 kc_1 dX12_leastTotal_61 ?_
              refine g_goto 5 dX12_leastTotal_64 rfl ?_
              exact ih h
theorem f_X12_leastTotal_ok {v1 : Int32}  {σ : gSt} {r : (Int32 × gSt)} (h : f_X12_leastTotal v1 σ = some r) : Mt l w 0 41 yX12_leastTotal cX12_leastTotal 4 (some .int) 4 94 [.ref (w.2.1 28 0), .int v1] σ (gE (some (.int r.1)) r.2) := by
  unfold f_X12_leastTotal at h
  refine g_start pn_X12 rfl rfl (Nat.le_of_ble_eq_true rfl) ?_
  show G l w 0 41 RX12 cX12_leastTotal 4 (some .int) 4 94 (gE (some (.int r.1)) r.2) 0 [some (.ref (w.2.1 28 0)), some (.int v1), none, none] [] σ
  refine g_bipush dX12_leastTotal_0 kb_m2 ?_
  refine g_istore2 dX12_leastTotal_2 ?_
  refine g_iconst dX12_leastTotal_3 kc_0 ?_
  refine g_istore3 dX12_leastTotal_4 ?_
  exact f_X12_leastTotal_5_ok gFuel h
theorem dX12_bestRunner_0 : decode cX12_bestRunner 0 = .ok (.bipush (-2), 2) := by decide +kernel
theorem dX12_bestRunner_2 : decode cX12_bestRunner 2 = .ok (.istore 4, 2) := by decide +kernel
theorem dX12_bestRunner_4 : decode cX12_bestRunner 4 = .ok (.iconst 0, 1) := by decide +kernel
theorem dX12_bestRunner_5 : decode cX12_bestRunner 5 = .ok (.istore 5, 2) := by decide +kernel
theorem dX12_bestRunner_7 : decode cX12_bestRunner 7 = .ok (.iconst 0, 1) := by decide +kernel
theorem dX12_bestRunner_8 : decode cX12_bestRunner 8 = .ok (.istore 6, 2) := by decide +kernel
theorem dX12_bestRunner_10 : decode cX12_bestRunner 10 = .ok (.iload 6, 2) := by decide +kernel
theorem dX12_bestRunner_12 : decode cX12_bestRunner 12 = .ok (.aload_n 0, 1) := by decide +kernel
theorem dX12_bestRunner_13 : decode cX12_bestRunner 13 = .ok (.getfield 17, 3) := by decide +kernel
theorem dX12_bestRunner_16 : decode cX12_bestRunner 16 = .ok (.iconst 1, 1) := by decide +kernel
theorem dX12_bestRunner_17 : decode cX12_bestRunner 17 = .ok (.iaload, 1) := by decide +kernel
theorem dX12_bestRunner_18 : decode cX12_bestRunner 18 = .ok (.if_icmp .ge 80, 3) := by decide +kernel
theorem dX12_bestRunner_21 : decode cX12_bestRunner 21 = .ok (.aload_n 0, 1) := by decide +kernel
theorem dX12_bestRunner_22 : decode cX12_bestRunner 22 = .ok (.getfield 17, 3) := by decide +kernel
theorem dX12_bestRunner_25 : decode cX12_bestRunner 25 = .ok (.bipush 37, 2) := by decide +kernel
theorem dX12_bestRunner_27 : decode cX12_bestRunner 27 = .ok (.iload 6, 2) := by decide +kernel
theorem dX12_bestRunner_29 : decode cX12_bestRunner 29 = .ok (.iadd, 1) := by decide +kernel
theorem dX12_bestRunner_30 : decode cX12_bestRunner 30 = .ok (.iaload, 1) := by decide +kernel
theorem dX12_bestRunner_31 : decode cX12_bestRunner 31 = .ok (.iload_n 1, 1) := by decide +kernel
theorem dX12_bestRunner_32 : decode cX12_bestRunner 32 = .ok (.if_icmp .eq 8, 3) := by decide +kernel
theorem dX12_bestRunner_35 : decode cX12_bestRunner 35 = .ok (.bipush (-2), 2) := by decide +kernel
theorem dX12_bestRunner_37 : decode cX12_bestRunner 37 = .ok (.goto 24, 3) := by decide +kernel
theorem dX12_bestRunner_40 : decode cX12_bestRunner 40 = .ok (.iload_n 3, 1) := by decide +kernel
theorem dX12_bestRunner_41 : decode cX12_bestRunner 41 = .ok (.ifCond .eq 13, 3) := by decide +kernel
theorem dX12_bestRunner_44 : decode cX12_bestRunner 44 = .ok (.aload_n 0, 1) := by decide +kernel
theorem dX12_bestRunner_45 : decode cX12_bestRunner 45 = .ok (.iload 6, 2) := by decide +kernel
theorem dX12_bestRunner_47 : decode cX12_bestRunner 47 = .ok (.iload_n 2, 1) := by decide +kernel
theorem dX12_bestRunner_48 : decode cX12_bestRunner 48 = .ok (.invokevirtual 221, 3) := by decide +kernel
theorem dX12_bestRunner_51 : decode cX12_bestRunner 51 = .ok (.goto 10, 3) := by decide +kernel
theorem dX12_bestRunner_54 : decode cX12_bestRunner 54 = .ok (.aload_n 0, 1) := by decide +kernel
theorem dX12_bestRunner_55 : decode cX12_bestRunner 55 = .ok (.iload 6, 2) := by decide +kernel
theorem dX12_bestRunner_57 : decode cX12_bestRunner 57 = .ok (.iload_n 2, 1) := by decide +kernel
theorem dX12_bestRunner_58 : decode cX12_bestRunner 58 = .ok (.invokevirtual 224, 3) := by decide +kernel
theorem dX12_bestRunner_61 : decode cX12_bestRunner 61 = .ok (.istore 7, 2) := by decide +kernel
theorem dX12_bestRunner_63 : decode cX12_bestRunner 63 = .ok (.iload 7, 2) := by decide +kernel
theorem dX12_bestRunner_65 : decode cX12_bestRunner 65 = .ok (.bipush (-2), 2) := by decide +kernel
theorem dX12_bestRunner_67 : decode cX12_bestRunner 67 = .ok (.if_icmp .eq 25, 3) := by decide +kernel
theorem dX12_bestRunner_70 : decode cX12_bestRunner 70 = .ok (.iload 4, 2) := by decide +kernel
theorem dX12_bestRunner_72 : decode cX12_bestRunner 72 = .ok (.bipush (-2), 2) := by decide +kernel
theorem dX12_bestRunner_74 : decode cX12_bestRunner 74 = .ok (.if_icmp .eq 10, 3) := by decide +kernel
theorem dX12_bestRunner_77 : decode cX12_bestRunner 77 = .ok (.iload 7, 2) := by decide +kernel
theorem dX12_bestRunner_79 : decode cX12_bestRunner 79 = .ok (.iload 5, 2) := by decide +kernel
theorem dX12_bestRunner_81 : decode cX12_bestRunner 81 = .ok (.if_icmp .ge 11, 3) := by decide +kernel
theorem dX12_bestRunner_84 : decode cX12_bestRunner 84 = .ok (.iload 6, 2) := by decide +kernel
theorem dX12_bestRunner_86 : decode cX12_bestRunner 86 = .ok (.istore 4, 2) := by decide +kernel
theorem dX12_bestRunner_88 : decode cX12_bestRunner 88 = .ok (.iload 7, 2) := by decide +kernel
theorem dX12_bestRunner_90 : decode cX12_bestRunner 90 = .ok (.istore 5, 2) := by decide +kernel
theorem dX12_bestRunner_92 : decode cX12_bestRunner 92 = .ok (.iinc 6 1, 3) := by decide +kernel
theorem dX12_bestRunner_95 : decode cX12_bestRunner 95 = .ok (.goto (-85), 3) := by decide +kernel
theorem dX12_bestRunner_98 : decode cX12_bestRunner 98 = .ok (.iload 4, 2) := by decide +kernel
theorem dX12_bestRunner_100 : decode cX12_bestRunner 100 = .ok (.ireturn, 1) := by decide +kernel
def f_X12_bestRunner_61 (v1 : Int32) (v2 : Int32) (v3 : Int32) (v4 : Int32) (v5 : Int32) (v6 : Int32) (k10 : Int32 → Int32 → Int32 → gSt → Option (Int32 × gSt)) (vs0 : Int32) (σ : gSt) : Option (Int32 × gSt) :=
  if vs0 = (-2) then
    k10 v4 v5 (v6 + 1) σ
  else
    if v4 = (-2) then
      k10 v6 vs0 (v6 + 1) σ
    else
      if v5 ≤ vs0 then
        k10 v4 v5 (v6 + 1) σ
      else
        k10 v6 vs0 (v6 + 1) σ
def f_X12_bestRunner_10 (v1 : Int32) (v2 : Int32) (v3 : Int32) : Nat → Int32 → Int32 → Int32 → gSt → Option (Int32 × gSt)
  | 0, _, _, _, _ => none
  | n + 1, v4, v5, v6, σ =>
    (gld σ 30 0 397 1).bind fun a17 =>
    if a17 ≤ v6 then
      some (v4, σ)
    else
      (gld σ 30 0 397 (37 + v6)).bind fun a30 =>
      if a30 = v1 then
        if v3 = 0 then
          (f_X12_splitOf v6 v2 σ).bind fun p58 =>
          f_X12_bestRunner_61 v1 v2 v3 v4 v5 v6 (fun v4 v5 v6 σ => f_X12_bestRunner_10 v1 v2 v3 n v4 v5 v6 σ) p58.1 p58.2
        else
          (f_X12_legOf v6 v2 σ).bind fun p48 =>
          f_X12_bestRunner_61 v1 v2 v3 v4 v5 v6 (fun v4 v5 v6 σ => f_X12_bestRunner_10 v1 v2 v3 n v4 v5 v6 σ) p48.1 p48.2
      else
        f_X12_bestRunner_61 v1 v2 v3 v4 v5 v6 (fun v4 v5 v6 σ => f_X12_bestRunner_10 v1 v2 v3 n v4 v5 v6 σ) (-2) σ
def f_X12_bestRunner (v1 : Int32) (v2 : Int32) (v3 : Int32) (σ : gSt) : Option (Int32 × gSt) :=
  f_X12_bestRunner_10 v1 v2 v3 gFuel (-2) 0 0 σ
theorem f_X12_bestRunner_61_ok {v1 : Int32} {v2 : Int32} {v3 : Int32} {v4 : Int32} {v5 : Int32} {v6 : Int32} {k10 : Int32 → Int32 → Int32 → gSt → Option (Int32 × gSt)} {vs0 : Int32} {r : (Int32 × gSt)} (hk10 : ∀ {v4 : Int32} {v5 : Int32} {v6 : Int32} {σ : gSt} {x7 : Option Value}, k10 v4 v5 v6 σ = some r → G l w 0 41 RX12 cX12_bestRunner 8 (some .int) 5 120 (gE (some (.int r.1)) r.2) 10 [some (.ref (w.2.1 28 0)), some (.int v1), some (.int v2), some (.int v3), some (.int v4), some (.int v5), some (.int v6), x7] [] σ) {σ : gSt} {x7 : Option Value} (h : f_X12_bestRunner_61 v1 v2 v3 v4 v5 v6 k10 vs0 σ = some r) : G l w 0 41 RX12 cX12_bestRunner 8 (some .int) 5 120 (gE (some (.int r.1)) r.2) 61 [some (.ref (w.2.1 28 0)), some (.int v1), some (.int v2), some (.int v3), some (.int v4), some (.int v5), some (.int v6), x7] [.int vs0] σ := by
  unfold f_X12_bestRunner_61 at h
  refine g_istore7 dX12_bestRunner_61 ?_
  refine g_iload dX12_bestRunner_63 rfl ?_
  refine g_bipush dX12_bestRunner_65 kb_m2 ?_
  refine g_icmp_eq 92 dX12_bestRunner_67 rfl (fun q => ?_) (fun q => ?_)
  · replace h := gif_t q h
    refine g_inc6 kc_1 dX12_bestRunner_92 ?_
    refine g_goto 10 dX12_bestRunner_95 rfl ?_
    exact hk10 h
  · replace h := gif_f q h
    refine g_iload dX12_bestRunner_70 rfl ?_
    refine g_bipush dX12_bestRunner_72 kb_m2 ?_
    refine g_icmp_eq 84 dX12_bestRunner_74 rfl (fun q => ?_) (fun q => ?_)
    · replace h := gif_t q h
      refine g_iload dX12_bestRunner_84 rfl ?_
      refine g_istore4 dX12_bestRunner_86 ?_
      refine g_iload dX12_bestRunner_88 rfl ?_
      refine g_istore5 dX12_bestRunner_90 ?_
      refine g_inc6 kc_1 dX12_bestRunner_92 ?_
      refine g_goto 10 dX12_bestRunner_95 rfl ?_
      exact hk10 h
    · replace h := gif_f q h
      refine g_iload dX12_bestRunner_77 rfl ?_
      refine g_iload dX12_bestRunner_79 rfl ?_
      refine g_icmp_ge 92 dX12_bestRunner_81 rfl (fun q => ?_) (fun q => ?_)
      · replace h := gif_t q h
        refine g_inc6 kc_1 dX12_bestRunner_92 ?_
        refine g_goto 10 dX12_bestRunner_95 rfl ?_
        exact hk10 h
      · replace h := gif_f q h
        refine g_iload dX12_bestRunner_84 rfl ?_
        refine g_istore4 dX12_bestRunner_86 ?_
        refine g_iload dX12_bestRunner_88 rfl ?_
        refine g_istore5 dX12_bestRunner_90 ?_
        refine g_inc6 kc_1 dX12_bestRunner_92 ?_
        refine g_goto 10 dX12_bestRunner_95 rfl ?_
        exact hk10 h
theorem f_X12_bestRunner_10_ok {v1 : Int32} {v2 : Int32} {v3 : Int32} {r : (Int32 × gSt)}  : ∀ (n : Nat) {v4 : Int32} {v5 : Int32} {v6 : Int32} {σ : gSt} {x7 : Option Value}, f_X12_bestRunner_10 v1 v2 v3 n v4 v5 v6 σ = some r → G l w 0 41 RX12 cX12_bestRunner 8 (some .int) 5 120 (gE (some (.int r.1)) r.2) 10 [some (.ref (w.2.1 28 0)), some (.int v1), some (.int v2), some (.int v3), some (.int v4), some (.int v5), some (.int v6), x7] [] σ := by
  intro n
  induction n with
  | zero => intro v4 v5 v6 σ x7 h; rw [f_X12_bestRunner_10] at h; cases h
  | succ n ih =>
    intro v4 v5 v6 σ x7 h
    rw [f_X12_bestRunner_10] at h
    refine g_iload dX12_bestRunner_10 rfl ?_
    refine g_aload_n dX12_bestRunner_12 rfl ?_
    refine gR_X12_17 ok_28 dX12_bestRunner_13 ?_
    refine g_iconst dX12_bestRunner_16 kc_1 ?_
    obtain ⟨a17, e17, h⟩ := obind h
    refine g_ldB e17 ok_30 rfl rfl (by decide) dX12_bestRunner_17 ?_
    refine g_icmp_ge 98 dX12_bestRunner_18 rfl (fun q => ?_) (fun q => ?_)
    · replace h := gif_t q h
      refine g_iload dX12_bestRunner_98 rfl ?_
      cases h
      exact g_iret dX12_bestRunner_100 rfl ⟨rfl, rfl⟩
    · replace h := gif_f q h
      refine g_aload_n dX12_bestRunner_21 rfl ?_
      refine gR_X12_17 ok_28 dX12_bestRunner_22 ?_
      refine g_bipush dX12_bestRunner_25 kb_37 ?_
      refine g_iload dX12_bestRunner_27 rfl ?_
      refine g_iadd dX12_bestRunner_29 ?_
      obtain ⟨a30, e30, h⟩ := obind h
      refine g_ldB e30 ok_30 rfl rfl (by decide) dX12_bestRunner_30 ?_
      refine g_iload_n dX12_bestRunner_31 rfl ?_
      refine g_icmp_eq 40 dX12_bestRunner_32 rfl (fun q => ?_) (fun q => ?_)
      · replace h := gif_t q h
        refine g_iload_n dX12_bestRunner_40 rfl ?_
        refine g_if_eq 54 dX12_bestRunner_41 rfl (fun q => ?_) (fun q => ?_)
        · replace h := gif_t q h
          refine g_aload_n dX12_bestRunner_54 rfl ?_
          refine g_iload dX12_bestRunner_55 rfl ?_
          refine g_iload_n dX12_bestRunner_57 rfl ?_
          obtain ⟨p58, e58, h⟩ := obind h
          refine g_vP2 mv_X12_224 dX12_bestRunner_58 ok_28 ⟨by decide, by decide⟩ (Nat.le_of_ble_eq_true rfl) (f_X12_splitOf_ok e58) ?_
          exact f_X12_bestRunner_61_ok (fun h => ih h) h
        · replace h := gif_f q h
          refine g_aload_n dX12_bestRunner_44 rfl ?_
          refine g_iload dX12_bestRunner_45 rfl ?_
          refine g_iload_n dX12_bestRunner_47 rfl ?_
          obtain ⟨p48, e48, h⟩ := obind h
          refine g_vP2 mv_X12_221 dX12_bestRunner_48 ok_28 ⟨by decide, by decide⟩ (Nat.le_of_ble_eq_true rfl) (f_X12_legOf_ok e48) ?_
          refine g_goto 61 dX12_bestRunner_51 rfl ?_
          exact f_X12_bestRunner_61_ok (fun h => ih h) h
      · replace h := gif_f q h
        refine g_bipush dX12_bestRunner_35 kb_m2 ?_
        refine g_goto 61 dX12_bestRunner_37 rfl ?_
        exact f_X12_bestRunner_61_ok (fun h => ih h) h
theorem f_X12_bestRunner_ok {v1 : Int32} {v2 : Int32} {v3 : Int32}  {σ : gSt} {r : (Int32 × gSt)} (h : f_X12_bestRunner v1 v2 v3 σ = some r) : Mt l w 0 41 yX12_bestRunner cX12_bestRunner 8 (some .int) 5 120 [.ref (w.2.1 28 0), .int v1, .int v2, .int v3] σ (gE (some (.int r.1)) r.2) := by
  unfold f_X12_bestRunner at h
  refine g_start pn_X12 rfl rfl (Nat.le_of_ble_eq_true rfl) ?_
  show G l w 0 41 RX12 cX12_bestRunner 8 (some .int) 5 120 (gE (some (.int r.1)) r.2) 0 [some (.ref (w.2.1 28 0)), some (.int v1), some (.int v2), some (.int v3), none, none, none, none] [] σ
  refine g_bipush dX12_bestRunner_0 kb_m2 ?_
  refine g_istore4 dX12_bestRunner_2 ?_
  refine g_iconst dX12_bestRunner_4 kc_0 ?_
  refine g_istore5 dX12_bestRunner_5 ?_
  refine g_iconst dX12_bestRunner_7 kc_0 ?_
  refine g_istore6 dX12_bestRunner_8 ?_
  exact f_X12_bestRunner_10_ok gFuel h
theorem dX12_bestLeg_0 : decode cX12_bestLeg 0 = .ok (.aload_n 0, 1) := by decide +kernel
theorem dX12_bestLeg_1 : decode cX12_bestLeg 1 = .ok (.iload_n 1, 1) := by decide +kernel
theorem dX12_bestLeg_2 : decode cX12_bestLeg 2 = .ok (.iload_n 2, 1) := by decide +kernel
theorem dX12_bestLeg_3 : decode cX12_bestLeg 3 = .ok (.iconst 1, 1) := by decide +kernel
theorem dX12_bestLeg_4 : decode cX12_bestLeg 4 = .ok (.invokevirtual 227, 3) := by decide +kernel
theorem dX12_bestLeg_7 : decode cX12_bestLeg 7 = .ok (.istore_n 3, 1) := by decide +kernel
theorem dX12_bestLeg_8 : decode cX12_bestLeg 8 = .ok (.iload_n 3, 1) := by decide +kernel
theorem dX12_bestLeg_9 : decode cX12_bestLeg 9 = .ok (.bipush (-2), 2) := by decide +kernel
theorem dX12_bestLeg_11 : decode cX12_bestLeg 11 = .ok (.if_icmp .ne 8, 3) := by decide +kernel
theorem dX12_bestLeg_14 : decode cX12_bestLeg 14 = .ok (.bipush (-2), 2) := by decide +kernel
theorem dX12_bestLeg_16 : decode cX12_bestLeg 16 = .ok (.goto 9, 3) := by decide +kernel
theorem dX12_bestLeg_19 : decode cX12_bestLeg 19 = .ok (.aload_n 0, 1) := by decide +kernel
theorem dX12_bestLeg_20 : decode cX12_bestLeg 20 = .ok (.iload_n 3, 1) := by decide +kernel
theorem dX12_bestLeg_21 : decode cX12_bestLeg 21 = .ok (.iload_n 2, 1) := by decide +kernel
theorem dX12_bestLeg_22 : decode cX12_bestLeg 22 = .ok (.invokevirtual 221, 3) := by decide +kernel
theorem dX12_bestLeg_25 : decode cX12_bestLeg 25 = .ok (.ireturn, 1) := by decide +kernel
def f_X12_bestLeg (v1 : Int32) (v2 : Int32) (σ : gSt) : Option (Int32 × gSt) :=
  (f_X12_bestRunner v1 v2 1 σ).bind fun p4 =>
  if p4.1 = (-2) then
    some ((-2), p4.2)
  else
    (f_X12_legOf p4.1 v2 p4.2).bind fun p22 =>
    some (p22.1, p22.2)
theorem f_X12_bestLeg_ok {v1 : Int32} {v2 : Int32}  {σ : gSt} {r : (Int32 × gSt)} (h : f_X12_bestLeg v1 v2 σ = some r) : Mt l w 0 41 yX12_bestLeg cX12_bestLeg 4 (some .int) 6 147 [.ref (w.2.1 28 0), .int v1, .int v2] σ (gE (some (.int r.1)) r.2) := by
  unfold f_X12_bestLeg at h
  refine g_start pn_X12 rfl rfl (Nat.le_of_ble_eq_true rfl) ?_
  show G l w 0 41 RX12 cX12_bestLeg 4 (some .int) 6 147 (gE (some (.int r.1)) r.2) 0 [some (.ref (w.2.1 28 0)), some (.int v1), some (.int v2), none] [] σ
  refine g_aload_n dX12_bestLeg_0 rfl ?_
  refine g_iload_n dX12_bestLeg_1 rfl ?_
  refine g_iload_n dX12_bestLeg_2 rfl ?_
  refine g_iconst dX12_bestLeg_3 kc_1 ?_
  obtain ⟨p4, e4, h⟩ := obind h
  refine g_vP3 mv_X12_227 dX12_bestLeg_4 ok_28 ⟨by decide, by decide⟩ (Nat.le_of_ble_eq_true rfl) (f_X12_bestRunner_ok e4) ?_
  refine g_istore3 dX12_bestLeg_7 ?_
  refine g_iload_n dX12_bestLeg_8 rfl ?_
  refine g_bipush dX12_bestLeg_9 kb_m2 ?_
  refine g_icmp_ne 19 dX12_bestLeg_11 rfl (fun q => ?_) (fun q => ?_)
  · replace h := gif_f q h
    refine g_aload_n dX12_bestLeg_19 rfl ?_
    refine g_iload_n dX12_bestLeg_20 rfl ?_
    refine g_iload_n dX12_bestLeg_21 rfl ?_
    obtain ⟨p22, e22, h⟩ := obind h
    refine g_vP2 mv_X12_221 dX12_bestLeg_22 ok_28 ⟨by decide, by decide⟩ (Nat.le_of_ble_eq_true rfl) (f_X12_legOf_ok e22) ?_
    cases h
    exact g_iret dX12_bestLeg_25 rfl ⟨rfl, rfl⟩
  · replace h := gif_t q h
    refine g_bipush dX12_bestLeg_14 kb_m2 ?_
    refine g_goto 25 dX12_bestLeg_16 rfl ?_
    cases h
    exact g_iret dX12_bestLeg_25 rfl ⟨rfl, rfl⟩
theorem dX12_idealOf_0 : decode cX12_idealOf 0 = .ok (.iconst 0, 1) := by decide +kernel
theorem dX12_idealOf_1 : decode cX12_idealOf 1 = .ok (.istore_n 2, 1) := by decide +kernel
theorem dX12_idealOf_2 : decode cX12_idealOf 2 = .ok (.iconst 0, 1) := by decide +kernel
theorem dX12_idealOf_3 : decode cX12_idealOf 3 = .ok (.istore_n 3, 1) := by decide +kernel
theorem dX12_idealOf_4 : decode cX12_idealOf 4 = .ok (.iload_n 3, 1) := by decide +kernel
theorem dX12_idealOf_5 : decode cX12_idealOf 5 = .ok (.aload_n 0, 1) := by decide +kernel
theorem dX12_idealOf_6 : decode cX12_idealOf 6 = .ok (.getfield 17, 3) := by decide +kernel
theorem dX12_idealOf_9 : decode cX12_idealOf 9 = .ok (.iconst 4, 1) := by decide +kernel
theorem dX12_idealOf_10 : decode cX12_idealOf 10 = .ok (.iload_n 1, 1) := by decide +kernel
theorem dX12_idealOf_11 : decode cX12_idealOf 11 = .ok (.iadd, 1) := by decide +kernel
theorem dX12_idealOf_12 : decode cX12_idealOf 12 = .ok (.iaload, 1) := by decide +kernel
theorem dX12_idealOf_13 : decode cX12_idealOf 13 = .ok (.if_icmp .gt 32, 3) := by decide +kernel
theorem dX12_idealOf_16 : decode cX12_idealOf 16 = .ok (.aload_n 0, 1) := by decide +kernel
theorem dX12_idealOf_17 : decode cX12_idealOf 17 = .ok (.iload_n 1, 1) := by decide +kernel
theorem dX12_idealOf_18 : decode cX12_idealOf 18 = .ok (.iload_n 3, 1) := by decide +kernel
theorem dX12_idealOf_19 : decode cX12_idealOf 19 = .ok (.invokevirtual 231, 3) := by decide +kernel
theorem dX12_idealOf_22 : decode cX12_idealOf 22 = .ok (.istore 4, 2) := by decide +kernel
theorem dX12_idealOf_24 : decode cX12_idealOf 24 = .ok (.iload 4, 2) := by decide +kernel
theorem dX12_idealOf_26 : decode cX12_idealOf 26 = .ok (.bipush (-2), 2) := by decide +kernel
theorem dX12_idealOf_28 : decode cX12_idealOf 28 = .ok (.if_icmp .ne 6, 3) := by decide +kernel
theorem dX12_idealOf_31 : decode cX12_idealOf 31 = .ok (.bipush (-2), 2) := by decide +kernel
theorem dX12_idealOf_33 : decode cX12_idealOf 33 = .ok (.ireturn, 1) := by decide +kernel
theorem dX12_idealOf_34 : decode cX12_idealOf 34 = .ok (.iload_n 2, 1) := by decide +kernel
theorem dX12_idealOf_35 : decode cX12_idealOf 35 = .ok (.iload 4, 2) := by decide +kernel
theorem dX12_idealOf_37 : decode cX12_idealOf 37 = .ok (.iadd, 1) := by decide +kernel
theorem dX12_idealOf_38 : decode cX12_idealOf 38 = .ok (.istore_n 2, 1) := by decide +kernel
theorem dX12_idealOf_39 : decode cX12_idealOf 39 = .ok (.iinc 3 1, 3) := by decide +kernel
theorem dX12_idealOf_42 : decode cX12_idealOf 42 = .ok (.goto (-38), 3) := by decide +kernel
theorem dX12_idealOf_45 : decode cX12_idealOf 45 = .ok (.iload_n 2, 1) := by decide +kernel
theorem dX12_idealOf_46 : decode cX12_idealOf 46 = .ok (.ireturn, 1) := by decide +kernel
def f_X12_idealOf_4 (v1 : Int32) : Nat → Int32 → Int32 → gSt → Option (Int32 × gSt)
  | 0, _, _, _ => none
  | n + 1, v2, v3, σ =>
    (gld σ 30 0 397 (4 + v1)).bind fun a12 =>
    if a12 < v3 then
      some (v2, σ)
    else
      (f_X12_bestLeg v1 v3 σ).bind fun p19 =>
      if p19.1 = (-2) then
        some ((-2), p19.2)
      else
        f_X12_idealOf_4 v1 n (v2 + p19.1) (v3 + 1) p19.2
def f_X12_idealOf (v1 : Int32) (σ : gSt) : Option (Int32 × gSt) :=
  f_X12_idealOf_4 v1 gFuel 0 0 σ
theorem f_X12_idealOf_4_ok {v1 : Int32} {r : (Int32 × gSt)}  : ∀ (n : Nat) {v2 : Int32} {v3 : Int32} {σ : gSt} {x4 : Option Value}, f_X12_idealOf_4 v1 n v2 v3 σ = some r → G l w 0 41 RX12 cX12_idealOf 5 (some .int) 7 170 (gE (some (.int r.1)) r.2) 4 [some (.ref (w.2.1 28 0)), some (.int v1), some (.int v2), some (.int v3), x4] [] σ := by
  intro n
  induction n with
  | zero => intro v2 v3 σ x4 h; rw [f_X12_idealOf_4] at h; cases h
  | succ n ih =>
    intro v2 v3 σ x4 h
    rw [f_X12_idealOf_4] at h
    refine g_iload_n dX12_idealOf_4 rfl ?_
    refine g_aload_n dX12_idealOf_5 rfl ?_
    refine gR_X12_17 ok_28 dX12_idealOf_6 ?_
    refine g_iconst dX12_idealOf_9 kc_4 ?_
    refine g_iload_n dX12_idealOf_10 rfl ?_
    refine g_iadd dX12_idealOf_11 ?_
    obtain ⟨a12, e12, h⟩ := obind h
    refine g_ldB e12 ok_30 rfl rfl (by decide) dX12_idealOf_12 ?_
    refine g_icmp_gt 45 dX12_idealOf_13 rfl (fun q => ?_) (fun q => ?_)
    · replace h := gif_t q h
      refine g_iload_n dX12_idealOf_45 rfl ?_
      cases h
      exact g_iret dX12_idealOf_46 rfl ⟨rfl, rfl⟩
    · replace h := gif_f q h
      refine g_aload_n dX12_idealOf_16 rfl ?_
      refine g_iload_n dX12_idealOf_17 rfl ?_
      refine g_iload_n dX12_idealOf_18 rfl ?_
      obtain ⟨p19, e19, h⟩ := obind h
      refine g_vP2 mv_X12_231 dX12_idealOf_19 ok_28 ⟨by decide, by decide⟩ (Nat.le_of_ble_eq_true rfl) (f_X12_bestLeg_ok e19) ?_
      refine g_istore4 dX12_idealOf_22 ?_
      refine g_iload dX12_idealOf_24 rfl ?_
      refine g_bipush dX12_idealOf_26 kb_m2 ?_
      refine g_icmp_ne 34 dX12_idealOf_28 rfl (fun q => ?_) (fun q => ?_)
      · replace h := gif_f q h
        refine g_iload_n dX12_idealOf_34 rfl ?_
        refine g_iload dX12_idealOf_35 rfl ?_
        refine g_iadd dX12_idealOf_37 ?_
        refine g_istore2 dX12_idealOf_38 ?_
        refine g_inc3 kc_1 dX12_idealOf_39 ?_
        refine g_goto 4 dX12_idealOf_42 rfl ?_
        exact ih h
      · replace h := gif_t q h
        refine g_bipush dX12_idealOf_31 kb_m2 ?_
        cases h
        exact g_iret dX12_idealOf_33 rfl ⟨rfl, rfl⟩
theorem f_X12_idealOf_ok {v1 : Int32}  {σ : gSt} {r : (Int32 × gSt)} (h : f_X12_idealOf v1 σ = some r) : Mt l w 0 41 yX12_idealOf cX12_idealOf 5 (some .int) 7 170 [.ref (w.2.1 28 0), .int v1] σ (gE (some (.int r.1)) r.2) := by
  unfold f_X12_idealOf at h
  refine g_start pn_X12 rfl rfl (Nat.le_of_ble_eq_true rfl) ?_
  show G l w 0 41 RX12 cX12_idealOf 5 (some .int) 7 170 (gE (some (.int r.1)) r.2) 0 [some (.ref (w.2.1 28 0)), some (.int v1), none, none, none] [] σ
  refine g_iconst dX12_idealOf_0 kc_0 ?_
  refine g_istore2 dX12_idealOf_1 ?_
  refine g_iconst dX12_idealOf_2 kc_0 ?_
  refine g_istore3 dX12_idealOf_3 ?_
  exact f_X12_idealOf_4_ok gFuel h
end MI
