section MI
variable {l : Launch} {w : gWd}
theorem dX0_forget_0 : decode cX0_forget 0 = .ok (.aload_n 0, 1) := by decide +kernel
theorem dX0_forget_1 : decode cX0_forget 1 = .ok (.iconst 0, 1) := by decide +kernel
theorem dX0_forget_2 : decode cX0_forget 2 = .ok (.putfield 15, 3) := by decide +kernel
theorem dX0_forget_5 : decode cX0_forget 5 = .ok (.return_, 1) := by decide +kernel
def f_X0_forget (σ : gSt) : Option gSt :=
  some (gup σ 26 0 2 0)
theorem f_X0_forget_ok   {σ : gSt} {r : gSt} (h : f_X0_forget σ = some r) : Mt l w 0 41 yX0_forget cX0_forget 1 none 0 0 [.ref (w.2.1 26 0)] σ (gE none r) := by
  unfold f_X0_forget at h
  refine g_start pn_X0 rfl rfl (Nat.le_of_ble_eq_true rfl) ?_
  show G l w 0 41 RX0 cX0_forget 1 none 0 0 (gE none r) 0 [some (.ref (w.2.1 26 0))] [] σ
  refine g_aload_n dX0_forget_0 rfl ?_
  refine g_iconst dX0_forget_1 kc_0 ?_
  refine gP_X0_15 ok_26 dX0_forget_2 ?_
  cases h
  exact g_vret dX0_forget_5 rfl ⟨rfl, rfl⟩
theorem dX0_set_0 : decode cX0_set 0 = .ok (.aload_n 0, 1) := by decide +kernel
theorem dX0_set_1 : decode cX0_set 1 = .ok (.getfield 15, 3) := by decide +kernel
theorem dX0_set_4 : decode cX0_set 4 = .ok (.iconst 5, 1) := by decide +kernel
theorem dX0_set_5 : decode cX0_set 5 = .ok (.imul, 1) := by decide +kernel
theorem dX0_set_6 : decode cX0_set 6 = .ok (.iload_n 1, 1) := by decide +kernel
theorem dX0_set_7 : decode cX0_set 7 = .ok (.iadd, 1) := by decide +kernel
theorem dX0_set_8 : decode cX0_set 8 = .ok (.istore_n 3, 1) := by decide +kernel
theorem dX0_set_9 : decode cX0_set 9 = .ok (.iload_n 3, 1) := by decide +kernel
theorem dX0_set_10 : decode cX0_set 10 = .ok (.ifCond .lt 19, 3) := by decide +kernel
theorem dX0_set_13 : decode cX0_set 13 = .ok (.iload_n 3, 1) := by decide +kernel
theorem dX0_set_14 : decode cX0_set 14 = .ok (.aload_n 0, 1) := by decide +kernel
theorem dX0_set_15 : decode cX0_set 15 = .ok (.getfield 11, 3) := by decide +kernel
theorem dX0_set_18 : decode cX0_set 18 = .ok (.arraylength, 1) := by decide +kernel
theorem dX0_set_19 : decode cX0_set 19 = .ok (.if_icmp .ge 10, 3) := by decide +kernel
theorem dX0_set_22 : decode cX0_set 22 = .ok (.aload_n 0, 1) := by decide +kernel
theorem dX0_set_23 : decode cX0_set 23 = .ok (.getfield 11, 3) := by decide +kernel
theorem dX0_set_26 : decode cX0_set 26 = .ok (.iload_n 3, 1) := by decide +kernel
theorem dX0_set_27 : decode cX0_set 27 = .ok (.iload_n 2, 1) := by decide +kernel
theorem dX0_set_28 : decode cX0_set 28 = .ok (.iastore, 1) := by decide +kernel
theorem dX0_set_29 : decode cX0_set 29 = .ok (.return_, 1) := by decide +kernel
def f_X0_set (v1 : Int32) (v2 : Int32) (σ : gSt) : Option gSt :=
  if (((σ 26 0 2) * 5) + v1) < 0 then
    some σ
  else
    if 50 ≤ (((σ 26 0 2) * 5) + v1) then
      some σ
    else
      (gst σ 27 0 50 (((σ 26 0 2) * 5) + v1) v2).bind fun z28 =>
      some z28
theorem f_X0_set_ok {v1 : Int32} {v2 : Int32}  {σ : gSt} {r : gSt} (h : f_X0_set v1 v2 σ = some r) : Mt l w 0 41 yX0_set cX0_set 4 none 0 0 [.ref (w.2.1 26 0), .int v1, .int v2] σ (gE none r) := by
  unfold f_X0_set at h
  refine g_start pn_X0 rfl rfl (Nat.le_of_ble_eq_true rfl) ?_
  show G l w 0 41 RX0 cX0_set 4 none 0 0 (gE none r) 0 [some (.ref (w.2.1 26 0)), some (.int v1), some (.int v2), none] [] σ
  refine g_aload_n dX0_set_0 rfl ?_
  refine gI_X0_15 ok_26 dX0_set_1 ?_
  refine g_iconst dX0_set_4 kc_5 ?_
  refine g_imul dX0_set_5 ?_
  refine g_iload_n dX0_set_6 rfl ?_
  refine g_iadd dX0_set_7 ?_
  refine g_istore3 dX0_set_8 ?_
  refine g_iload_n dX0_set_9 rfl ?_
  refine g_if_lt 29 dX0_set_10 rfl (fun q => ?_) (fun q => ?_)
  · replace h := gif_t q h
    cases h
    exact g_vret dX0_set_29 rfl ⟨rfl, rfl⟩
  · replace h := gif_f q h
    refine g_iload_n dX0_set_13 rfl ?_
    refine g_aload_n dX0_set_14 rfl ?_
    refine gR_X0_11 ok_26 dX0_set_15 ?_
    refine g_alenL nc_50 rfl rfl ok_27 dX0_set_18 ?_
    refine g_icmp_ge 29 dX0_set_19 rfl (fun q => ?_) (fun q => ?_)
    · replace h := gif_t q h
      cases h
      exact g_vret dX0_set_29 rfl ⟨rfl, rfl⟩
    · replace h := gif_f q h
      refine g_aload_n dX0_set_22 rfl ?_
      refine gR_X0_11 ok_26 dX0_set_23 ?_
      refine g_iload_n dX0_set_26 rfl ?_
      refine g_iload_n dX0_set_27 rfl ?_
      obtain ⟨z28, e28, h⟩ := obind h
      refine g_stB e28 ok_27 rfl rfl (by decide) dX0_set_28 ?_
      cases h
      exact g_vret dX0_set_29 rfl ⟨rfl, rfl⟩
theorem dX0_keep_0 : decode cX0_keep 0 = .ok (.aload_n 0, 1) := by decide +kernel
theorem dX0_keep_1 : decode cX0_keep 1 = .ok (.getfield 15, 3) := by decide +kernel
theorem dX0_keep_4 : decode cX0_keep 4 = .ok (.bipush 10, 2) := by decide +kernel
theorem dX0_keep_6 : decode cX0_keep 6 = .ok (.if_icmp .lt 24, 3) := by decide +kernel
theorem dX0_keep_9 : decode cX0_keep 9 = .ok (.aload_n 0, 1) := by decide +kernel
theorem dX0_keep_10 : decode cX0_keep 10 = .ok (.getfield 11, 3) := by decide +kernel
theorem dX0_keep_13 : decode cX0_keep 13 = .ok (.iconst 5, 1) := by decide +kernel
theorem dX0_keep_14 : decode cX0_keep 14 = .ok (.aload_n 0, 1) := by decide +kernel
theorem dX0_keep_15 : decode cX0_keep 15 = .ok (.getfield 11, 3) := by decide +kernel
theorem dX0_keep_18 : decode cX0_keep 18 = .ok (.iconst 0, 1) := by decide +kernel
theorem dX0_keep_19 : decode cX0_keep 19 = .ok (.bipush 45, 2) := by decide +kernel
theorem dX0_keep_21 : decode cX0_keep 21 = .ok (.invokestatic 23, 3) := by decide +kernel
theorem dX0_keep_24 : decode cX0_keep 24 = .ok (.aload_n 0, 1) := by decide +kernel
theorem dX0_keep_25 : decode cX0_keep 25 = .ok (.bipush 9, 2) := by decide +kernel
theorem dX0_keep_27 : decode cX0_keep 27 = .ok (.putfield 15, 3) := by decide +kernel
theorem dX0_keep_30 : decode cX0_keep 30 = .ok (.aload_n 0, 1) := by decide +kernel
theorem dX0_keep_31 : decode cX0_keep 31 = .ok (.iconst 0, 1) := by decide +kernel
theorem dX0_keep_32 : decode cX0_keep 32 = .ok (.iload_n 1, 1) := by decide +kernel
theorem dX0_keep_33 : decode cX0_keep 33 = .ok (.invokevirtual 29, 3) := by decide +kernel
theorem dX0_keep_36 : decode cX0_keep 36 = .ok (.aload_n 0, 1) := by decide +kernel
theorem dX0_keep_37 : decode cX0_keep 37 = .ok (.iconst 1, 1) := by decide +kernel
theorem dX0_keep_38 : decode cX0_keep 38 = .ok (.iload_n 2, 1) := by decide +kernel
theorem dX0_keep_39 : decode cX0_keep 39 = .ok (.invokevirtual 29, 3) := by decide +kernel
theorem dX0_keep_42 : decode cX0_keep 42 = .ok (.aload_n 0, 1) := by decide +kernel
theorem dX0_keep_43 : decode cX0_keep 43 = .ok (.iconst 2, 1) := by decide +kernel
theorem dX0_keep_44 : decode cX0_keep 44 = .ok (.iload_n 3, 1) := by decide +kernel
theorem dX0_keep_45 : decode cX0_keep 45 = .ok (.invokevirtual 29, 3) := by decide +kernel
theorem dX0_keep_48 : decode cX0_keep 48 = .ok (.aload_n 0, 1) := by decide +kernel
theorem dX0_keep_49 : decode cX0_keep 49 = .ok (.iconst 3, 1) := by decide +kernel
theorem dX0_keep_50 : decode cX0_keep 50 = .ok (.iload 4, 2) := by decide +kernel
theorem dX0_keep_52 : decode cX0_keep 52 = .ok (.invokevirtual 29, 3) := by decide +kernel
theorem dX0_keep_55 : decode cX0_keep 55 = .ok (.aload_n 0, 1) := by decide +kernel
theorem dX0_keep_56 : decode cX0_keep 56 = .ok (.iconst 4, 1) := by decide +kernel
theorem dX0_keep_57 : decode cX0_keep 57 = .ok (.iload 5, 2) := by decide +kernel
theorem dX0_keep_59 : decode cX0_keep 59 = .ok (.invokevirtual 29, 3) := by decide +kernel
theorem dX0_keep_62 : decode cX0_keep 62 = .ok (.aload_n 0, 1) := by decide +kernel
theorem dX0_keep_63 : decode cX0_keep 63 = .ok (.dup, 1) := by decide +kernel
theorem dX0_keep_64 : decode cX0_keep 64 = .ok (.getfield 15, 3) := by decide +kernel
theorem dX0_keep_67 : decode cX0_keep 67 = .ok (.iconst 1, 1) := by decide +kernel
theorem dX0_keep_68 : decode cX0_keep 68 = .ok (.iadd, 1) := by decide +kernel
theorem dX0_keep_69 : decode cX0_keep 69 = .ok (.putfield 15, 3) := by decide +kernel
theorem dX0_keep_72 : decode cX0_keep 72 = .ok (.return_, 1) := by decide +kernel
def f_X0_keep_30 (v1 : Int32) (v2 : Int32) (v3 : Int32) (v4 : Int32) (v5 : Int32) (σ : gSt) : Option gSt :=
  (f_X0_set 0 v1 σ).bind fun z33 =>
  (f_X0_set 1 v2 z33).bind fun z39 =>
  (f_X0_set 2 v3 z39).bind fun z45 =>
  (f_X0_set 3 v4 z45).bind fun z52 =>
  (f_X0_set 4 v5 z52).bind fun z59 =>
  some (gup z59 26 0 2 ((z59 26 0 2) + 1))
def f_X0_keep (v1 : Int32) (v2 : Int32) (v3 : Int32) (v4 : Int32) (v5 : Int32) (σ : gSt) : Option gSt :=
  if (σ 26 0 2) < 10 then
    f_X0_keep_30 v1 v2 v3 v4 v5 σ
  else
    (gcpy σ 27 0 50 27 0 50 5 0 45).bind fun z21 =>
    f_X0_keep_30 v1 v2 v3 v4 v5 (gup z21 26 0 2 9)
theorem f_X0_keep_30_ok {v1 : Int32} {v2 : Int32} {v3 : Int32} {v4 : Int32} {v5 : Int32} {r : gSt}  {σ : gSt}  (h : f_X0_keep_30 v1 v2 v3 v4 v5 σ = some r) : G l w 0 41 RX0 cX0_keep 6 none 1 60 (gE none r) 30 [some (.ref (w.2.1 26 0)), some (.int v1), some (.int v2), some (.int v3), some (.int v4), some (.int v5)] [] σ := by
  unfold f_X0_keep_30 at h
  refine g_aload_n dX0_keep_30 rfl ?_
  refine g_iconst dX0_keep_31 kc_0 ?_
  refine g_iload_n dX0_keep_32 rfl ?_
  obtain ⟨z33, e33, h⟩ := obind h
  refine g_vU2 mv_X0_29 dX0_keep_33 ok_26 ⟨by decide, by decide⟩ (Nat.le_of_ble_eq_true rfl) (f_X0_set_ok e33) ?_
  refine g_aload_n dX0_keep_36 rfl ?_
  refine g_iconst dX0_keep_37 kc_1 ?_
  refine g_iload_n dX0_keep_38 rfl ?_
  obtain ⟨z39, e39, h⟩ := obind h
  refine g_vU2 mv_X0_29 dX0_keep_39 ok_26 ⟨by decide, by decide⟩ (Nat.le_of_ble_eq_true rfl) (f_X0_set_ok e39) ?_
  refine g_aload_n dX0_keep_42 rfl ?_
  refine g_iconst dX0_keep_43 kc_2 ?_
  refine g_iload_n dX0_keep_44 rfl ?_
  obtain ⟨z45, e45, h⟩ := obind h
  refine g_vU2 mv_X0_29 dX0_keep_45 ok_26 ⟨by decide, by decide⟩ (Nat.le_of_ble_eq_true rfl) (f_X0_set_ok e45) ?_
  refine g_aload_n dX0_keep_48 rfl ?_
  refine g_iconst dX0_keep_49 kc_3 ?_
  refine g_iload dX0_keep_50 rfl ?_
  obtain ⟨z52, e52, h⟩ := obind h
  refine g_vU2 mv_X0_29 dX0_keep_52 ok_26 ⟨by decide, by decide⟩ (Nat.le_of_ble_eq_true rfl) (f_X0_set_ok e52) ?_
  refine g_aload_n dX0_keep_55 rfl ?_
  refine g_iconst dX0_keep_56 kc_4 ?_
  refine g_iload dX0_keep_57 rfl ?_
  obtain ⟨z59, e59, h⟩ := obind h
  refine g_vU2 mv_X0_29 dX0_keep_59 ok_26 ⟨by decide, by decide⟩ (Nat.le_of_ble_eq_true rfl) (f_X0_set_ok e59) ?_
  refine g_aload_n dX0_keep_62 rfl ?_
  refine g_dup dX0_keep_63 rfl ?_
  refine gI_X0_15 ok_26 dX0_keep_64 ?_
  refine g_iconst dX0_keep_67 kc_1 ?_
  refine g_iadd dX0_keep_68 ?_
  refine gP_X0_15 ok_26 dX0_keep_69 ?_
  cases h
  exact g_vret dX0_keep_72 rfl ⟨rfl, rfl⟩
theorem f_X0_keep_ok {v1 : Int32} {v2 : Int32} {v3 : Int32} {v4 : Int32} {v5 : Int32}  {σ : gSt} {r : gSt} (h : f_X0_keep v1 v2 v3 v4 v5 σ = some r) : Mt l w 0 41 yX0_keep cX0_keep 6 none 1 60 [.ref (w.2.1 26 0), .int v1, .int v2, .int v3, .int v4, .int v5] σ (gE none r) := by
  unfold f_X0_keep at h
  refine g_start pn_X0 rfl rfl (Nat.le_of_ble_eq_true rfl) ?_
  show G l w 0 41 RX0 cX0_keep 6 none 1 60 (gE none r) 0 [some (.ref (w.2.1 26 0)), some (.int v1), some (.int v2), some (.int v3), some (.int v4), some (.int v5)] [] σ
  refine g_aload_n dX0_keep_0 rfl ?_
  refine gI_X0_15 ok_26 dX0_keep_1 ?_
  refine g_bipush dX0_keep_4 kb_10 ?_
  refine g_icmp_lt 30 dX0_keep_6 rfl (fun q => ?_) (fun q => ?_)
  · replace h := gif_t q h
    exact f_X0_keep_30_ok h
  · replace h := gif_f q h
    refine g_aload_n dX0_keep_9 rfl ?_
    refine gR_X0_11 ok_26 dX0_keep_10 ?_
    refine g_iconst dX0_keep_13 kc_5 ?_
    refine g_aload_n dX0_keep_14 rfl ?_
    refine gR_X0_11 ok_26 dX0_keep_15 ?_
    refine g_iconst dX0_keep_18 kc_0 ?_
    refine g_bipush dX0_keep_19 kb_45 ?_
    obtain ⟨z21, e21, h⟩ := obind h
    refine g_cpyB e21 cp_X0_23 ok_27 ok_27 rfl rfl rfl rfl (by decide) (by decide) dX0_keep_21 ?_
    refine g_aload_n dX0_keep_24 rfl ?_
    refine g_bipush dX0_keep_25 kb_9 ?_
    refine gP_X0_15 ok_26 dX0_keep_27 ?_
    exact f_X0_keep_30_ok h
theorem dX0_value_0 : decode cX0_value 0 = .ok (.aload_n 0, 1) := by decide +kernel
theorem dX0_value_1 : decode cX0_value 1 = .ok (.getfield 15, 3) := by decide +kernel
theorem dX0_value_4 : decode cX0_value 4 = .ok (.iconst 5, 1) := by decide +kernel
theorem dX0_value_5 : decode cX0_value 5 = .ok (.imul, 1) := by decide +kernel
theorem dX0_value_6 : decode cX0_value 6 = .ok (.iload_n 1, 1) := by decide +kernel
theorem dX0_value_7 : decode cX0_value 7 = .ok (.iadd, 1) := by decide +kernel
theorem dX0_value_8 : decode cX0_value 8 = .ok (.istore_n 2, 1) := by decide +kernel
theorem dX0_value_9 : decode cX0_value 9 = .ok (.iload_n 2, 1) := by decide +kernel
theorem dX0_value_10 : decode cX0_value 10 = .ok (.ifCond .lt 21, 3) := by decide +kernel
theorem dX0_value_13 : decode cX0_value 13 = .ok (.iload_n 2, 1) := by decide +kernel
theorem dX0_value_14 : decode cX0_value 14 = .ok (.aload_n 0, 1) := by decide +kernel
theorem dX0_value_15 : decode cX0_value 15 = .ok (.getfield 11, 3) := by decide +kernel
theorem dX0_value_18 : decode cX0_value 18 = .ok (.arraylength, 1) := by decide +kernel
theorem dX0_value_19 : decode cX0_value 19 = .ok (.if_icmp .ge 12, 3) := by decide +kernel
theorem dX0_value_22 : decode cX0_value 22 = .ok (.aload_n 0, 1) := by decide +kernel
theorem dX0_value_23 : decode cX0_value 23 = .ok (.getfield 11, 3) := by decide +kernel
theorem dX0_value_26 : decode cX0_value 26 = .ok (.iload_n 2, 1) := by decide +kernel
theorem dX0_value_27 : decode cX0_value 27 = .ok (.iaload, 1) := by decide +kernel
theorem dX0_value_28 : decode cX0_value 28 = .ok (.goto 4, 3) := by decide +kernel
theorem dX0_value_31 : decode cX0_value 31 = .ok (.iconst 0, 1) := by decide +kernel
theorem dX0_value_32 : decode cX0_value 32 = .ok (.ireturn, 1) := by decide +kernel
def f_X0_value (v1 : Int32) (σ : gSt) : Option (Int32 × gSt) :=
  if (((σ 26 0 2) * 5) + v1) < 0 then
    some (0, σ)
  else
    if 50 ≤ (((σ 26 0 2) * 5) + v1) then
      some (0, σ)
    else
      (gld σ 27 0 50 (((σ 26 0 2) * 5) + v1)).bind fun a27 =>
      some (a27, σ)
theorem f_X0_value_ok {v1 : Int32}  {σ : gSt} {r : (Int32 × gSt)} (h : f_X0_value v1 σ = some r) : Mt l w 0 41 yX0_value cX0_value 3 (some .int) 0 0 [.ref (w.2.1 26 0), .int v1] σ (gE (some (.int r.1)) r.2) := by
  unfold f_X0_value at h
  refine g_start pn_X0 rfl rfl (Nat.le_of_ble_eq_true rfl) ?_
  show G l w 0 41 RX0 cX0_value 3 (some .int) 0 0 (gE (some (.int r.1)) r.2) 0 [some (.ref (w.2.1 26 0)), some (.int v1), none] [] σ
  refine g_aload_n dX0_value_0 rfl ?_
  refine gI_X0_15 ok_26 dX0_value_1 ?_
  refine g_iconst dX0_value_4 kc_5 ?_
  refine g_imul dX0_value_5 ?_
  refine g_iload_n dX0_value_6 rfl ?_
  refine g_iadd dX0_value_7 ?_
  refine g_istore2 dX0_value_8 ?_
  refine g_iload_n dX0_value_9 rfl ?_
  refine g_if_lt 31 dX0_value_10 rfl (fun q => ?_) (fun q => ?_)
  · replace h := gif_t q h
    refine g_iconst dX0_value_31 kc_0 ?_
    cases h
    exact g_iret dX0_value_32 rfl ⟨rfl, rfl⟩
  · replace h := gif_f q h
    refine g_iload_n dX0_value_13 rfl ?_
    refine g_aload_n dX0_value_14 rfl ?_
    refine gR_X0_11 ok_26 dX0_value_15 ?_
    refine g_alenL nc_50 rfl rfl ok_27 dX0_value_18 ?_
    refine g_icmp_ge 31 dX0_value_19 rfl (fun q => ?_) (fun q => ?_)
    · replace h := gif_t q h
      refine g_iconst dX0_value_31 kc_0 ?_
      cases h
      exact g_iret dX0_value_32 rfl ⟨rfl, rfl⟩
    · replace h := gif_f q h
      refine g_aload_n dX0_value_22 rfl ?_
      refine gR_X0_11 ok_26 dX0_value_23 ?_
      refine g_iload_n dX0_value_26 rfl ?_
      obtain ⟨a27, e27, h⟩ := obind h
      refine g_ldB e27 ok_27 rfl rfl (by decide) dX0_value_27 ?_
      refine g_goto 32 dX0_value_28 rfl ?_
      cases h
      exact g_iret dX0_value_32 rfl ⟨rfl, rfl⟩
theorem dX4_runnerAt_0 : decode cX4_runnerAt 0 = .ok (.aload_n 0, 1) := by decide +kernel
theorem dX4_runnerAt_1 : decode cX4_runnerAt 1 = .ok (.getfield 19, 3) := by decide +kernel
theorem dX4_runnerAt_4 : decode cX4_runnerAt 4 = .ok (.iload_n 1, 1) := by decide +kernel
theorem dX4_runnerAt_5 : decode cX4_runnerAt 5 = .ok (.ifCond .lt 16, 3) := by decide +kernel
theorem dX4_runnerAt_8 : decode cX4_runnerAt 8 = .ok (.iload_n 1, 1) := by decide +kernel
theorem dX4_runnerAt_9 : decode cX4_runnerAt 9 = .ok (.aload_n 0, 1) := by decide +kernel
theorem dX4_runnerAt_10 : decode cX4_runnerAt 10 = .ok (.getfield 19, 3) := by decide +kernel
theorem dX4_runnerAt_13 : decode cX4_runnerAt 13 = .ok (.arraylength, 1) := by decide +kernel
theorem dX4_runnerAt_14 : decode cX4_runnerAt 14 = .ok (.if_icmp .ge 7, 3) := by decide +kernel
theorem dX4_runnerAt_17 : decode cX4_runnerAt 17 = .ok (.iload_n 1, 1) := by decide +kernel
theorem dX4_runnerAt_18 : decode cX4_runnerAt 18 = .ok (.goto 4, 3) := by decide +kernel
theorem dX4_runnerAt_21 : decode cX4_runnerAt 21 = .ok (.iconst 0, 1) := by decide +kernel
theorem dX4_runnerAt_22 : decode cX4_runnerAt 22 = .ok (.aaload, 1) := by decide +kernel
theorem dX4_runnerAt_23 : decode cX4_runnerAt 23 = .ok (.areturn, 1) := by decide +kernel
def f_X4_runnerAt (i0 : Nat) (v1 : Int32) (σ : gSt) : Option (Nat × gSt) :=
  if v1 < 0 then
    (gox 10 0).bind fun n22 =>
    grf 20 (10 * i0 + n22) σ
  else
    if 10 ≤ v1 then
      (gox 10 0).bind fun n22 =>
      grf 20 (10 * i0 + n22) σ
    else
      (gox 10 v1).bind fun n22 =>
      grf 20 (10 * i0 + n22) σ
theorem f_X4_runnerAt_ok {i0 : Nat} {v1 : Int32} (hi0 : i0 < 2) {σ : gSt} {r : (Nat × gSt)} (h : f_X4_runnerAt i0 v1 σ = some r) : Mt l w 0 41 yX4_runnerAt cX4_runnerAt 2 (some (.object "ForestLegs$Runne\x72")) 0 0 [.ref (w.2.1 3 i0), .int v1] σ (gRf w 10 20 r) := by
  unfold f_X4_runnerAt at h
  refine g_start pn_X4 rfl rfl (Nat.le_of_ble_eq_true rfl) ?_
  show G l w 0 41 RX4 cX4_runnerAt 2 (some (.object "ForestLegs$Runne\x72")) 0 0 (gRf w 10 20 r) 0 [some (.ref (w.2.1 3 i0)), some (.int v1)] [] σ
  refine g_aload_n dX4_runnerAt_0 rfl ?_
  refine gR_X4_19 (ok_3 hi0) dX4_runnerAt_1 ?_
  refine g_iload_n dX4_runnerAt_4 rfl ?_
  refine g_if_lt 21 dX4_runnerAt_5 rfl (fun q => ?_) (fun q => ?_)
  · replace h := gif_t q h
    refine g_iconst dX4_runnerAt_21 kc_0 ?_
    obtain ⟨n22, e22, h⟩ := obind h
    refine g_aaR e22 (ok_5 hi0) dX4_runnerAt_22 (fun b22 => ?_)
    exact g_aretB h dX4_runnerAt_23 rfl
  · replace h := gif_f q h
    refine g_iload_n dX4_runnerAt_8 rfl ?_
    refine g_aload_n dX4_runnerAt_9 rfl ?_
    refine gR_X4_19 (ok_3 hi0) dX4_runnerAt_10 ?_
    refine g_alenRL (ok_5 hi0) dX4_runnerAt_13 ?_
    refine g_icmp_ge 21 dX4_runnerAt_14 rfl (fun q => ?_) (fun q => ?_)
    · replace h := gif_t q h
      refine g_iconst dX4_runnerAt_21 kc_0 ?_
      obtain ⟨n22, e22, h⟩ := obind h
      refine g_aaR e22 (ok_5 hi0) dX4_runnerAt_22 (fun b22 => ?_)
      exact g_aretB h dX4_runnerAt_23 rfl
    · replace h := gif_f q h
      refine g_iload_n dX4_runnerAt_17 rfl ?_
      refine g_goto 22 dX4_runnerAt_18 rfl ?_
      obtain ⟨n22, e22, h⟩ := obind h
      refine g_aaR e22 (ok_5 hi0) dX4_runnerAt_22 (fun b22 => ?_)
      exact g_aretB h dX4_runnerAt_23 rfl
theorem dX9_codeOf_0 : decode cX9_codeOf 0 = .ok (.iload_n 1, 1) := by decide +kernel
theorem dX9_codeOf_1 : decode cX9_codeOf 1 = .ok (.ifCond .lt 29, 3) := by decide +kernel
theorem dX9_codeOf_4 : decode cX9_codeOf 4 = .ok (.iload_n 1, 1) := by decide +kernel
theorem dX9_codeOf_5 : decode cX9_codeOf 5 = .ok (.aload_n 0, 1) := by decide +kernel
theorem dX9_codeOf_6 : decode cX9_codeOf 6 = .ok (.getfield 39, 3) := by decide +kernel
theorem dX9_codeOf_9 : decode cX9_codeOf 9 = .ok (.if_icmp .ge 21, 3) := by decide +kernel
theorem dX9_codeOf_12 : decode cX9_codeOf 12 = .ok (.iload_n 1, 1) := by decide +kernel
theorem dX9_codeOf_13 : decode cX9_codeOf 13 = .ok (.aload_n 0, 1) := by decide +kernel
theorem dX9_codeOf_14 : decode cX9_codeOf 14 = .ok (.getfield 9, 3) := by decide +kernel
theorem dX9_codeOf_17 : decode cX9_codeOf 17 = .ok (.arraylength, 1) := by decide +kernel
theorem dX9_codeOf_18 : decode cX9_codeOf 18 = .ok (.if_icmp .ge 12, 3) := by decide +kernel
theorem dX9_codeOf_21 : decode cX9_codeOf 21 = .ok (.aload_n 0, 1) := by decide +kernel
theorem dX9_codeOf_22 : decode cX9_codeOf 22 = .ok (.getfield 9, 3) := by decide +kernel
theorem dX9_codeOf_25 : decode cX9_codeOf 25 = .ok (.iload_n 1, 1) := by decide +kernel
theorem dX9_codeOf_26 : decode cX9_codeOf 26 = .ok (.iaload, 1) := by decide +kernel
theorem dX9_codeOf_27 : decode cX9_codeOf 27 = .ok (.goto 4, 3) := by decide +kernel
theorem dX9_codeOf_30 : decode cX9_codeOf 30 = .ok (.iconst 0, 1) := by decide +kernel
theorem dX9_codeOf_31 : decode cX9_codeOf 31 = .ok (.ireturn, 1) := by decide +kernel
def f_X9_codeOf (i0 : Nat) (v1 : Int32) (σ : gSt) : Option (Int32 × gSt) :=
  if v1 < 0 then
    some (0, σ)
  else
    if (σ 10 i0 8) ≤ v1 then
      some (0, σ)
    else
      if 16 ≤ v1 then
        some (0, σ)
      else
        (gld σ 11 i0 16 v1).bind fun a26 =>
        some (a26, σ)
theorem f_X9_codeOf_ok {i0 : Nat} {v1 : Int32} (hi0 : i0 < 20) {σ : gSt} {r : (Int32 × gSt)} (h : f_X9_codeOf i0 v1 σ = some r) : Mt l w 0 41 yX9_codeOf cX9_codeOf 2 (some .int) 0 0 [.ref (w.2.1 10 i0), .int v1] σ (gE (some (.int r.1)) r.2) := by
  unfold f_X9_codeOf at h
  refine g_start pn_X9 rfl rfl (Nat.le_of_ble_eq_true rfl) ?_
  show G l w 0 41 RX9 cX9_codeOf 2 (some .int) 0 0 (gE (some (.int r.1)) r.2) 0 [some (.ref (w.2.1 10 i0)), some (.int v1)] [] σ
  refine g_iload_n dX9_codeOf_0 rfl ?_
  refine g_if_lt 30 dX9_codeOf_1 rfl (fun q => ?_) (fun q => ?_)
  · replace h := gif_t q h
    refine g_iconst dX9_codeOf_30 kc_0 ?_
    cases h
    exact g_iret dX9_codeOf_31 rfl ⟨rfl, rfl⟩
  · replace h := gif_f q h
    refine g_iload_n dX9_codeOf_4 rfl ?_
    refine g_aload_n dX9_codeOf_5 rfl ?_
    refine gI_X9_39 (ok_10 hi0) dX9_codeOf_6 ?_
    refine g_icmp_ge 30 dX9_codeOf_9 rfl (fun q => ?_) (fun q => ?_)
    · replace h := gif_t q h
      refine g_iconst dX9_codeOf_30 kc_0 ?_
      cases h
      exact g_iret dX9_codeOf_31 rfl ⟨rfl, rfl⟩
    · replace h := gif_f q h
      refine g_iload_n dX9_codeOf_12 rfl ?_
      refine g_aload_n dX9_codeOf_13 rfl ?_
      refine gR_X9_9 (ok_10 hi0) dX9_codeOf_14 ?_
      refine g_alenL nc_16 rfl rfl (ok_11 hi0) dX9_codeOf_17 ?_
      refine g_icmp_ge 30 dX9_codeOf_18 rfl (fun q => ?_) (fun q => ?_)
      · replace h := gif_t q h
        refine g_iconst dX9_codeOf_30 kc_0 ?_
        cases h
        exact g_iret dX9_codeOf_31 rfl ⟨rfl, rfl⟩
      · replace h := gif_f q h
        refine g_aload_n dX9_codeOf_21 rfl ?_
        refine gR_X9_9 (ok_10 hi0) dX9_codeOf_22 ?_
        refine g_iload_n dX9_codeOf_25 rfl ?_
        obtain ⟨a26, e26, h⟩ := obind h
        refine g_ldB e26 (ok_11 hi0) rfl rfl (by decide) dX9_codeOf_26 ?_
        refine g_goto 31 dX9_codeOf_27 rfl ?_
        cases h
        exact g_iret dX9_codeOf_31 rfl ⟨rfl, rfl⟩
theorem dX9_timeOf_0 : decode cX9_timeOf 0 = .ok (.iload_n 1, 1) := by decide +kernel
theorem dX9_timeOf_1 : decode cX9_timeOf 1 = .ok (.ifCond .lt 29, 3) := by decide +kernel
theorem dX9_timeOf_4 : decode cX9_timeOf 4 = .ok (.iload_n 1, 1) := by decide +kernel
theorem dX9_timeOf_5 : decode cX9_timeOf 5 = .ok (.aload_n 0, 1) := by decide +kernel
theorem dX9_timeOf_6 : decode cX9_timeOf 6 = .ok (.getfield 39, 3) := by decide +kernel
theorem dX9_timeOf_9 : decode cX9_timeOf 9 = .ok (.if_icmp .ge 21, 3) := by decide +kernel
theorem dX9_timeOf_12 : decode cX9_timeOf 12 = .ok (.iload_n 1, 1) := by decide +kernel
theorem dX9_timeOf_13 : decode cX9_timeOf 13 = .ok (.aload_n 0, 1) := by decide +kernel
theorem dX9_timeOf_14 : decode cX9_timeOf 14 = .ok (.getfield 15, 3) := by decide +kernel
theorem dX9_timeOf_17 : decode cX9_timeOf 17 = .ok (.arraylength, 1) := by decide +kernel
theorem dX9_timeOf_18 : decode cX9_timeOf 18 = .ok (.if_icmp .ge 12, 3) := by decide +kernel
theorem dX9_timeOf_21 : decode cX9_timeOf 21 = .ok (.aload_n 0, 1) := by decide +kernel
theorem dX9_timeOf_22 : decode cX9_timeOf 22 = .ok (.getfield 15, 3) := by decide +kernel
theorem dX9_timeOf_25 : decode cX9_timeOf 25 = .ok (.iload_n 1, 1) := by decide +kernel
theorem dX9_timeOf_26 : decode cX9_timeOf 26 = .ok (.iaload, 1) := by decide +kernel
theorem dX9_timeOf_27 : decode cX9_timeOf 27 = .ok (.goto 4, 3) := by decide +kernel
theorem dX9_timeOf_30 : decode cX9_timeOf 30 = .ok (.iconst (-1), 1) := by decide +kernel
theorem dX9_timeOf_31 : decode cX9_timeOf 31 = .ok (.ireturn, 1) := by decide +kernel
def f_X9_timeOf (i0 : Nat) (v1 : Int32) (σ : gSt) : Option (Int32 × gSt) :=
  if v1 < 0 then
    some ((-1), σ)
  else
    if (σ 10 i0 8) ≤ v1 then
      some ((-1), σ)
    else
      if 16 ≤ v1 then
        some ((-1), σ)
      else
        (gld σ 12 i0 16 v1).bind fun a26 =>
        some (a26, σ)
theorem f_X9_timeOf_ok {i0 : Nat} {v1 : Int32} (hi0 : i0 < 20) {σ : gSt} {r : (Int32 × gSt)} (h : f_X9_timeOf i0 v1 σ = some r) : Mt l w 0 41 yX9_timeOf cX9_timeOf 2 (some .int) 0 0 [.ref (w.2.1 10 i0), .int v1] σ (gE (some (.int r.1)) r.2) := by
  unfold f_X9_timeOf at h
  refine g_start pn_X9 rfl rfl (Nat.le_of_ble_eq_true rfl) ?_
  show G l w 0 41 RX9 cX9_timeOf 2 (some .int) 0 0 (gE (some (.int r.1)) r.2) 0 [some (.ref (w.2.1 10 i0)), some (.int v1)] [] σ
  refine g_iload_n dX9_timeOf_0 rfl ?_
  refine g_if_lt 30 dX9_timeOf_1 rfl (fun q => ?_) (fun q => ?_)
  · replace h := gif_t q h
    refine g_iconst dX9_timeOf_30 kc_m1 ?_
    cases h
    exact g_iret dX9_timeOf_31 rfl ⟨rfl, rfl⟩
  · replace h := gif_f q h
    refine g_iload_n dX9_timeOf_4 rfl ?_
    refine g_aload_n dX9_timeOf_5 rfl ?_
    refine gI_X9_39 (ok_10 hi0) dX9_timeOf_6 ?_
    refine g_icmp_ge 30 dX9_timeOf_9 rfl (fun q => ?_) (fun q => ?_)
    · replace h := gif_t q h
      refine g_iconst dX9_timeOf_30 kc_m1 ?_
      cases h
      exact g_iret dX9_timeOf_31 rfl ⟨rfl, rfl⟩
    · replace h := gif_f q h
      refine g_iload_n dX9_timeOf_12 rfl ?_
      refine g_aload_n dX9_timeOf_13 rfl ?_
      refine gR_X9_15 (ok_10 hi0) dX9_timeOf_14 ?_
      refine g_alenL nc_16 rfl rfl (ok_12 hi0) dX9_timeOf_17 ?_
      refine g_icmp_ge 30 dX9_timeOf_18 rfl (fun q => ?_) (fun q => ?_)
      · replace h := gif_t q h
        refine g_iconst dX9_timeOf_30 kc_m1 ?_
        cases h
        exact g_iret dX9_timeOf_31 rfl ⟨rfl, rfl⟩
      · replace h := gif_f q h
        refine g_aload_n dX9_timeOf_21 rfl ?_
        refine gR_X9_15 (ok_10 hi0) dX9_timeOf_22 ?_
        refine g_iload_n dX9_timeOf_25 rfl ?_
        obtain ⟨a26, e26, h⟩ := obind h
        refine g_ldB e26 (ok_12 hi0) rfl rfl (by decide) dX9_timeOf_26 ?_
        refine g_goto 31 dX9_timeOf_27 rfl ?_
        cases h
        exact g_iret dX9_timeOf_31 rfl ⟨rfl, rfl⟩
theorem dX9_set_0 : decode cX9_set 0 = .ok (.iload_n 1, 1) := by decide +kernel
theorem dX9_set_1 : decode cX9_set 1 = .ok (.ifCond .lt 35, 3) := by decide +kernel
theorem dX9_set_4 : decode cX9_set 4 = .ok (.iload_n 1, 1) := by decide +kernel
theorem dX9_set_5 : decode cX9_set 5 = .ok (.aload_n 0, 1) := by decide +kernel
theorem dX9_set_6 : decode cX9_set 6 = .ok (.getfield 9, 3) := by decide +kernel
theorem dX9_set_9 : decode cX9_set 9 = .ok (.arraylength, 1) := by decide +kernel
theorem dX9_set_10 : decode cX9_set 10 = .ok (.if_icmp .ge 26, 3) := by decide +kernel
theorem dX9_set_13 : decode cX9_set 13 = .ok (.iload_n 1, 1) := by decide +kernel
theorem dX9_set_14 : decode cX9_set 14 = .ok (.aload_n 0, 1) := by decide +kernel
theorem dX9_set_15 : decode cX9_set 15 = .ok (.getfield 15, 3) := by decide +kernel
theorem dX9_set_18 : decode cX9_set 18 = .ok (.arraylength, 1) := by decide +kernel
theorem dX9_set_19 : decode cX9_set 19 = .ok (.if_icmp .ge 17, 3) := by decide +kernel
theorem dX9_set_22 : decode cX9_set 22 = .ok (.aload_n 0, 1) := by decide +kernel
theorem dX9_set_23 : decode cX9_set 23 = .ok (.getfield 9, 3) := by decide +kernel
theorem dX9_set_26 : decode cX9_set 26 = .ok (.iload_n 1, 1) := by decide +kernel
theorem dX9_set_27 : decode cX9_set 27 = .ok (.iload_n 2, 1) := by decide +kernel
theorem dX9_set_28 : decode cX9_set 28 = .ok (.iastore, 1) := by decide +kernel
theorem dX9_set_29 : decode cX9_set 29 = .ok (.aload_n 0, 1) := by decide +kernel
theorem dX9_set_30 : decode cX9_set 30 = .ok (.getfield 15, 3) := by decide +kernel
theorem dX9_set_33 : decode cX9_set 33 = .ok (.iload_n 1, 1) := by decide +kernel
theorem dX9_set_34 : decode cX9_set 34 = .ok (.iload_n 3, 1) := by decide +kernel
theorem dX9_set_35 : decode cX9_set 35 = .ok (.iastore, 1) := by decide +kernel
theorem dX9_set_36 : decode cX9_set 36 = .ok (.return_, 1) := by decide +kernel
def f_X9_set (i0 : Nat) (v1 : Int32) (v2 : Int32) (v3 : Int32) (σ : gSt) : Option gSt :=
  if v1 < 0 then
    some σ
  else
    if 16 ≤ v1 then
      some σ
    else
      if 16 ≤ v1 then
        some σ
      else
        (gst σ 11 i0 16 v1 v2).bind fun z28 =>
        (gst z28 12 i0 16 v1 v3).bind fun z35 =>
        some z35
theorem f_X9_set_ok {i0 : Nat} {v1 : Int32} {v2 : Int32} {v3 : Int32} (hi0 : i0 < 20) {σ : gSt} {r : gSt} (h : f_X9_set i0 v1 v2 v3 σ = some r) : Mt l w 0 41 yX9_set cX9_set 4 none 0 0 [.ref (w.2.1 10 i0), .int v1, .int v2, .int v3] σ (gE none r) := by
  unfold f_X9_set at h
  refine g_start pn_X9 rfl rfl (Nat.le_of_ble_eq_true rfl) ?_
  show G l w 0 41 RX9 cX9_set 4 none 0 0 (gE none r) 0 [some (.ref (w.2.1 10 i0)), some (.int v1), some (.int v2), some (.int v3)] [] σ
  refine g_iload_n dX9_set_0 rfl ?_
  refine g_if_lt 36 dX9_set_1 rfl (fun q => ?_) (fun q => ?_)
  · replace h := gif_t q h
    cases h
    exact g_vret dX9_set_36 rfl ⟨rfl, rfl⟩
  · replace h := gif_f q h
    refine g_iload_n dX9_set_4 rfl ?_
    refine g_aload_n dX9_set_5 rfl ?_
    refine gR_X9_9 (ok_10 hi0) dX9_set_6 ?_
    refine g_alenL nc_16 rfl rfl (ok_11 hi0) dX9_set_9 ?_
    refine g_icmp_ge 36 dX9_set_10 rfl (fun q => ?_) (fun q => ?_)
    · replace h := gif_t q h
      cases h
      exact g_vret dX9_set_36 rfl ⟨rfl, rfl⟩
    · replace h := gif_f q h
      refine g_iload_n dX9_set_13 rfl ?_
      refine g_aload_n dX9_set_14 rfl ?_
      refine gR_X9_15 (ok_10 hi0) dX9_set_15 ?_
      refine g_alenL nc_16 rfl rfl (ok_12 hi0) dX9_set_18 ?_
      refine g_icmp_ge 36 dX9_set_19 rfl (fun q => ?_) (fun q => ?_)
      · replace h := gif_t q h
        cases h
        exact g_vret dX9_set_36 rfl ⟨rfl, rfl⟩
      · replace h := gif_f q h
        refine g_aload_n dX9_set_22 rfl ?_
        refine gR_X9_9 (ok_10 hi0) dX9_set_23 ?_
        refine g_iload_n dX9_set_26 rfl ?_
        refine g_iload_n dX9_set_27 rfl ?_
        obtain ⟨z28, e28, h⟩ := obind h
        refine g_stB e28 (ok_11 hi0) rfl rfl (by decide) dX9_set_28 ?_
        refine g_aload_n dX9_set_29 rfl ?_
        refine gR_X9_15 (ok_10 hi0) dX9_set_30 ?_
        refine g_iload_n dX9_set_33 rfl ?_
        refine g_iload_n dX9_set_34 rfl ?_
        obtain ⟨z35, e35, h⟩ := obind h
        refine g_stB e35 (ok_12 hi0) rfl rfl (by decide) dX9_set_35 ?_
        cases h
        exact g_vret dX9_set_36 rfl ⟨rfl, rfl⟩
theorem dX9_has_0 : decode cX9_has 0 = .ok (.iload_n 1, 1) := by decide +kernel
theorem dX9_has_1 : decode cX9_has 1 = .ok (.ifCond .lt 24, 3) := by decide +kernel
theorem dX9_has_4 : decode cX9_has 4 = .ok (.iload_n 1, 1) := by decide +kernel
theorem dX9_has_5 : decode cX9_has 5 = .ok (.aload_n 0, 1) := by decide +kernel
theorem dX9_has_6 : decode cX9_has 6 = .ok (.getfield 39, 3) := by decide +kernel
theorem dX9_has_9 : decode cX9_has 9 = .ok (.if_icmp .ge 16, 3) := by decide +kernel
theorem dX9_has_12 : decode cX9_has 12 = .ok (.iload_n 1, 1) := by decide +kernel
theorem dX9_has_13 : decode cX9_has 13 = .ok (.aload_n 0, 1) := by decide +kernel
theorem dX9_has_14 : decode cX9_has 14 = .ok (.getfield 9, 3) := by decide +kernel
theorem dX9_has_17 : decode cX9_has 17 = .ok (.arraylength, 1) := by decide +kernel
theorem dX9_has_18 : decode cX9_has 18 = .ok (.if_icmp .ge 7, 3) := by decide +kernel
theorem dX9_has_21 : decode cX9_has 21 = .ok (.iconst 1, 1) := by decide +kernel
theorem dX9_has_22 : decode cX9_has 22 = .ok (.goto 4, 3) := by decide +kernel
theorem dX9_has_25 : decode cX9_has 25 = .ok (.iconst 0, 1) := by decide +kernel
theorem dX9_has_26 : decode cX9_has 26 = .ok (.ireturn, 1) := by decide +kernel
def f_X9_has (i0 : Nat) (v1 : Int32) (σ : gSt) : Option (Int32 × gSt) :=
  if v1 < 0 then
    some (0, σ)
  else
    if (σ 10 i0 8) ≤ v1 then
      some (0, σ)
    else
      if 16 ≤ v1 then
        some (0, σ)
      else
        some (1, σ)
theorem f_X9_has_ok {i0 : Nat} {v1 : Int32} (hi0 : i0 < 20) {σ : gSt} {r : (Int32 × gSt)} (h : f_X9_has i0 v1 σ = some r) : Mt l w 0 41 yX9_has cX9_has 2 (some .boolean) 0 0 [.ref (w.2.1 10 i0), .int v1] σ (gE (some (.int r.1)) r.2) := by
  unfold f_X9_has at h
  refine g_start pn_X9 rfl rfl (Nat.le_of_ble_eq_true rfl) ?_
  show G l w 0 41 RX9 cX9_has 2 (some .boolean) 0 0 (gE (some (.int r.1)) r.2) 0 [some (.ref (w.2.1 10 i0)), some (.int v1)] [] σ
  refine g_iload_n dX9_has_0 rfl ?_
  refine g_if_lt 25 dX9_has_1 rfl (fun q => ?_) (fun q => ?_)
  · replace h := gif_t q h
    refine g_iconst dX9_has_25 kc_0 ?_
    cases h
    exact g_zret0 dX9_has_26 rfl
  · replace h := gif_f q h
    refine g_iload_n dX9_has_4 rfl ?_
    refine g_aload_n dX9_has_5 rfl ?_
    refine gI_X9_39 (ok_10 hi0) dX9_has_6 ?_
    refine g_icmp_ge 25 dX9_has_9 rfl (fun q => ?_) (fun q => ?_)
    · replace h := gif_t q h
      refine g_iconst dX9_has_25 kc_0 ?_
      cases h
      exact g_zret0 dX9_has_26 rfl
    · replace h := gif_f q h
      refine g_iload_n dX9_has_12 rfl ?_
      refine g_aload_n dX9_has_13 rfl ?_
      refine gR_X9_9 (ok_10 hi0) dX9_has_14 ?_
      refine g_alenL nc_16 rfl rfl (ok_11 hi0) dX9_has_17 ?_
      refine g_icmp_ge 25 dX9_has_18 rfl (fun q => ?_) (fun q => ?_)
      · replace h := gif_t q h
        refine g_iconst dX9_has_25 kc_0 ?_
        cases h
        exact g_zret0 dX9_has_26 rfl
      · replace h := gif_f q h
        refine g_iconst dX9_has_21 kc_1 ?_
        refine g_goto 26 dX9_has_22 rfl ?_
        cases h
        exact g_zret1 dX9_has_26 rfl
theorem dX9_remove_0 : decode cX9_remove 0 = .ok (.aload_n 0, 1) := by decide +kernel
theorem dX9_remove_1 : decode cX9_remove 1 = .ok (.iload_n 1, 1) := by decide +kernel
theorem dX9_remove_2 : decode cX9_remove 2 = .ok (.invokevirtual 65, 3) := by decide +kernel
theorem dX9_remove_5 : decode cX9_remove 5 = .ok (.ifCond .ne 4, 3) := by decide +kernel
theorem dX9_remove_8 : decode cX9_remove 8 = .ok (.return_, 1) := by decide +kernel
theorem dX9_remove_9 : decode cX9_remove 9 = .ok (.iload_n 1, 1) := by decide +kernel
theorem dX9_remove_10 : decode cX9_remove 10 = .ok (.istore_n 2, 1) := by decide +kernel
theorem dX9_remove_11 : decode cX9_remove 11 = .ok (.iload_n 2, 1) := by decide +kernel
theorem dX9_remove_12 : decode cX9_remove 12 = .ok (.aload_n 0, 1) := by decide +kernel
theorem dX9_remove_13 : decode cX9_remove 13 = .ok (.getfield 39, 3) := by decide +kernel
theorem dX9_remove_16 : decode cX9_remove 16 = .ok (.iconst 1, 1) := by decide +kernel
theorem dX9_remove_17 : decode cX9_remove 17 = .ok (.isub, 1) := by decide +kernel
theorem dX9_remove_18 : decode cX9_remove 18 = .ok (.if_icmp .ge 28, 3) := by decide +kernel
theorem dX9_remove_21 : decode cX9_remove 21 = .ok (.aload_n 0, 1) := by decide +kernel
theorem dX9_remove_22 : decode cX9_remove 22 = .ok (.iload_n 2, 1) := by decide +kernel
theorem dX9_remove_23 : decode cX9_remove 23 = .ok (.aload_n 0, 1) := by decide +kernel
theorem dX9_remove_24 : decode cX9_remove 24 = .ok (.iload_n 2, 1) := by decide +kernel
theorem dX9_remove_25 : decode cX9_remove 25 = .ok (.iconst 1, 1) := by decide +kernel
theorem dX9_remove_26 : decode cX9_remove 26 = .ok (.iadd, 1) := by decide +kernel
theorem dX9_remove_27 : decode cX9_remove 27 = .ok (.invokevirtual 54, 3) := by decide +kernel
theorem dX9_remove_30 : decode cX9_remove 30 = .ok (.aload_n 0, 1) := by decide +kernel
theorem dX9_remove_31 : decode cX9_remove 31 = .ok (.iload_n 2, 1) := by decide +kernel
theorem dX9_remove_32 : decode cX9_remove 32 = .ok (.iconst 1, 1) := by decide +kernel
theorem dX9_remove_33 : decode cX9_remove 33 = .ok (.iadd, 1) := by decide +kernel
theorem dX9_remove_34 : decode cX9_remove 34 = .ok (.invokevirtual 58, 3) := by decide +kernel
theorem dX9_remove_37 : decode cX9_remove 37 = .ok (.invokevirtual 61, 3) := by decide +kernel
theorem dX9_remove_40 : decode cX9_remove 40 = .ok (.iinc 2 1, 3) := by decide +kernel
theorem dX9_remove_43 : decode cX9_remove 43 = .ok (.goto (-32), 3) := by decide +kernel
theorem dX9_remove_46 : decode cX9_remove 46 = .ok (.aload_n 0, 1) := by decide +kernel
theorem dX9_remove_47 : decode cX9_remove 47 = .ok (.dup, 1) := by decide +kernel
theorem dX9_remove_48 : decode cX9_remove 48 = .ok (.getfield 39, 3) := by decide +kernel
theorem dX9_remove_51 : decode cX9_remove 51 = .ok (.iconst 1, 1) := by decide +kernel
theorem dX9_remove_52 : decode cX9_remove 52 = .ok (.isub, 1) := by decide +kernel
theorem dX9_remove_53 : decode cX9_remove 53 = .ok (.putfield 39, 3) := by decide +kernel
theorem dX9_remove_56 : decode cX9_remove 56 = .ok (.return_, 1) := by decide +kernel
def f_X9_remove_11 (i0 : Nat) : Nat → Int32 → gSt → Option gSt
  | 0, _, _ => none
  | n + 1, v2, σ =>
    if ((σ 10 i0 8) - 1) ≤ v2 then
      some (gup σ 10 i0 8 ((σ 10 i0 8) - 1))
    else
      (f_X9_codeOf i0 (v2 + 1) σ).bind fun p27 =>
      (f_X9_timeOf i0 (v2 + 1) p27.2).bind fun p34 =>
      (f_X9_set i0 v2 p27.1 p34.1 p34.2).bind fun z37 =>
      f_X9_remove_11 i0 n (v2 + 1) z37
def f_X9_remove (i0 : Nat) (v1 : Int32) (σ : gSt) : Option gSt :=
  (f_X9_has i0 v1 σ).bind fun p2 =>
  if p2.1 = 0 then
    some p2.2
  else
    f_X9_remove_11 i0 gFuel v1 p2.2
theorem f_X9_remove_11_ok {i0 : Nat} {r : gSt} (hi0 : i0 < 20) : ∀ (n : Nat) {v2 : Int32} {σ : gSt} {x1 : Option Value}, f_X9_remove_11 i0 n v2 σ = some r → G l w 0 41 RX9 cX9_remove 3 none 1 23 (gE none r) 11 [some (.ref (w.2.1 10 i0)), x1, some (.int v2)] [] σ := by
  intro n
  induction n with
  | zero => intro v2 σ x1 h; rw [f_X9_remove_11] at h; cases h
  | succ n ih =>
    intro v2 σ x1 h
    rw [f_X9_remove_11] at h
    refine g_iload_n dX9_remove_11 rfl ?_
    refine g_aload_n dX9_remove_12 rfl ?_
    refine gI_X9_39 (ok_10 hi0) dX9_remove_13 ?_
    refine g_iconst dX9_remove_16 kc_1 ?_
    refine g_isub dX9_remove_17 ?_
    refine g_icmp_ge 46 dX9_remove_18 rfl (fun q => ?_) (fun q => ?_)
    · replace h := gif_t q h
      refine g_aload_n dX9_remove_46 rfl ?_
      refine g_dup dX9_remove_47 rfl ?_
      refine gI_X9_39 (ok_10 hi0) dX9_remove_48 ?_
      refine g_iconst dX9_remove_51 kc_1 ?_
      refine g_isub dX9_remove_52 ?_
      refine gP_X9_39 (ok_10 hi0) dX9_remove_53 ?_
      cases h
      exact g_vret dX9_remove_56 rfl ⟨rfl, rfl⟩
    · replace h := gif_f q h
      refine g_aload_n dX9_remove_21 rfl ?_
      refine g_iload_n dX9_remove_22 rfl ?_
      refine g_aload_n dX9_remove_23 rfl ?_
      refine g_iload_n dX9_remove_24 rfl ?_
      refine g_iconst dX9_remove_25 kc_1 ?_
      refine g_iadd dX9_remove_26 ?_
      obtain ⟨p27, e27, h⟩ := obind h
      refine g_vP1 mv_X9_54 dX9_remove_27 (ok_10 hi0) ⟨by decide, by decide⟩ (Nat.le_of_ble_eq_true rfl) (f_X9_codeOf_ok hi0 e27) ?_
      refine g_aload_n dX9_remove_30 rfl ?_
      refine g_iload_n dX9_remove_31 rfl ?_
      refine g_iconst dX9_remove_32 kc_1 ?_
      refine g_iadd dX9_remove_33 ?_
      obtain ⟨p34, e34, h⟩ := obind h
      refine g_vP1 mv_X9_58 dX9_remove_34 (ok_10 hi0) ⟨by decide, by decide⟩ (Nat.le_of_ble_eq_true rfl) (f_X9_timeOf_ok hi0 e34) ?_
      obtain ⟨z37, e37, h⟩ := obind h
      refine g_vU3 mv_X9_61 dX9_remove_37 (ok_10 hi0) ⟨by decide, by decide⟩ (Nat.le_of_ble_eq_true rfl) (f_X9_set_ok hi0 e37) ?_
      refine g_inc2 kc_1 dX9_remove_40 ?_
      refine g_goto 11 dX9_remove_43 rfl ?_
      exact ih h
theorem f_X9_remove_ok {i0 : Nat} {v1 : Int32} (hi0 : i0 < 20) {σ : gSt} {r : gSt} (h : f_X9_remove i0 v1 σ = some r) : Mt l w 0 41 yX9_remove cX9_remove 3 none 1 23 [.ref (w.2.1 10 i0), .int v1] σ (gE none r) := by
  unfold f_X9_remove at h
  refine g_start pn_X9 rfl rfl (Nat.le_of_ble_eq_true rfl) ?_
  show G l w 0 41 RX9 cX9_remove 3 none 1 23 (gE none r) 0 [some (.ref (w.2.1 10 i0)), some (.int v1), none] [] σ
  refine g_aload_n dX9_remove_0 rfl ?_
  refine g_iload_n dX9_remove_1 rfl ?_
  obtain ⟨p2, e2, h⟩ := obind h
  refine g_vP1 mv_X9_65 dX9_remove_2 (ok_10 hi0) ⟨by decide, by decide⟩ (Nat.le_of_ble_eq_true rfl) (f_X9_has_ok hi0 e2) ?_
  refine g_if_ne 9 dX9_remove_5 rfl (fun q => ?_) (fun q => ?_)
  · replace h := gif_f q h
    refine g_iload_n dX9_remove_9 rfl ?_
    refine g_istore2 dX9_remove_10 ?_
    exact f_X9_remove_11_ok hi0 gFuel h
  · replace h := gif_t q h
    cases h
    exact g_vret dX9_remove_8 rfl ⟨rfl, rfl⟩
theorem dX4_courseAt_0 : decode cX4_courseAt 0 = .ok (.aload_n 0, 1) := by decide +kernel
theorem dX4_courseAt_1 : decode cX4_courseAt 1 = .ok (.getfield 11, 3) := by decide +kernel
theorem dX4_courseAt_4 : decode cX4_courseAt 4 = .ok (.iload_n 1, 1) := by decide +kernel
theorem dX4_courseAt_5 : decode cX4_courseAt 5 = .ok (.ifCond .lt 16, 3) := by decide +kernel
theorem dX4_courseAt_8 : decode cX4_courseAt 8 = .ok (.iload_n 1, 1) := by decide +kernel
theorem dX4_courseAt_9 : decode cX4_courseAt 9 = .ok (.aload_n 0, 1) := by decide +kernel
theorem dX4_courseAt_10 : decode cX4_courseAt 10 = .ok (.getfield 11, 3) := by decide +kernel
theorem dX4_courseAt_13 : decode cX4_courseAt 13 = .ok (.arraylength, 1) := by decide +kernel
theorem dX4_courseAt_14 : decode cX4_courseAt 14 = .ok (.if_icmp .ge 7, 3) := by decide +kernel
theorem dX4_courseAt_17 : decode cX4_courseAt 17 = .ok (.iload_n 1, 1) := by decide +kernel
theorem dX4_courseAt_18 : decode cX4_courseAt 18 = .ok (.goto 4, 3) := by decide +kernel
theorem dX4_courseAt_21 : decode cX4_courseAt 21 = .ok (.iconst 0, 1) := by decide +kernel
theorem dX4_courseAt_22 : decode cX4_courseAt 22 = .ok (.aaload, 1) := by decide +kernel
theorem dX4_courseAt_23 : decode cX4_courseAt 23 = .ok (.areturn, 1) := by decide +kernel
def f_X4_courseAt (i0 : Nat) (v1 : Int32) (σ : gSt) : Option (Nat × gSt) :=
  if v1 < 0 then
    (gox 3 0).bind fun n22 =>
    grf 6 (3 * i0 + n22) σ
  else
    if 3 ≤ v1 then
      (gox 3 0).bind fun n22 =>
      grf 6 (3 * i0 + n22) σ
    else
      (gox 3 v1).bind fun n22 =>
      grf 6 (3 * i0 + n22) σ
theorem f_X4_courseAt_ok {i0 : Nat} {v1 : Int32} (hi0 : i0 < 2) {σ : gSt} {r : (Nat × gSt)} (h : f_X4_courseAt i0 v1 σ = some r) : Mt l w 0 41 yX4_courseAt cX4_courseAt 2 (some (.object "ForestLegs$Course")) 0 0 [.ref (w.2.1 3 i0), .int v1] σ (gRf w 8 6 r) := by
  unfold f_X4_courseAt at h
  refine g_start pn_X4 rfl rfl (Nat.le_of_ble_eq_true rfl) ?_
  show G l w 0 41 RX4 cX4_courseAt 2 (some (.object "ForestLegs$Course")) 0 0 (gRf w 8 6 r) 0 [some (.ref (w.2.1 3 i0)), some (.int v1)] [] σ
  refine g_aload_n dX4_courseAt_0 rfl ?_
  refine gR_X4_11 (ok_3 hi0) dX4_courseAt_1 ?_
  refine g_iload_n dX4_courseAt_4 rfl ?_
  refine g_if_lt 21 dX4_courseAt_5 rfl (fun q => ?_) (fun q => ?_)
  · replace h := gif_t q h
    refine g_iconst dX4_courseAt_21 kc_0 ?_
    obtain ⟨n22, e22, h⟩ := obind h
    refine g_aaC e22 (ok_4 hi0) dX4_courseAt_22 (fun b22 => ?_)
    exact g_aretB h dX4_courseAt_23 rfl
  · replace h := gif_f q h
    refine g_iload_n dX4_courseAt_8 rfl ?_
    refine g_aload_n dX4_courseAt_9 rfl ?_
    refine gR_X4_11 (ok_3 hi0) dX4_courseAt_10 ?_
    refine g_alenCL (ok_4 hi0) dX4_courseAt_13 ?_
    refine g_icmp_ge 21 dX4_courseAt_14 rfl (fun q => ?_) (fun q => ?_)
    · replace h := gif_t q h
      refine g_iconst dX4_courseAt_21 kc_0 ?_
      obtain ⟨n22, e22, h⟩ := obind h
      refine g_aaC e22 (ok_4 hi0) dX4_courseAt_22 (fun b22 => ?_)
      exact g_aretB h dX4_courseAt_23 rfl
    · replace h := gif_f q h
      refine g_iload_n dX4_courseAt_17 rfl ?_
      refine g_goto 22 dX4_courseAt_18 rfl ?_
      obtain ⟨n22, e22, h⟩ := obind h
      refine g_aaC e22 (ok_4 hi0) dX4_courseAt_22 (fun b22 => ?_)
      exact g_aretB h dX4_courseAt_23 rfl
theorem dX1_codeAt_0 : decode cX1_codeAt 0 = .ok (.iload_n 1, 1) := by decide +kernel
theorem dX1_codeAt_1 : decode cX1_codeAt 1 = .ok (.ifCond .lt 29, 3) := by decide +kernel
theorem dX1_codeAt_4 : decode cX1_codeAt 4 = .ok (.iload_n 1, 1) := by decide +kernel
theorem dX1_codeAt_5 : decode cX1_codeAt 5 = .ok (.aload_n 0, 1) := by decide +kernel
theorem dX1_codeAt_6 : decode cX1_codeAt 6 = .ok (.getfield 21, 3) := by decide +kernel
theorem dX1_codeAt_9 : decode cX1_codeAt 9 = .ok (.if_icmp .ge 21, 3) := by decide +kernel
theorem dX1_codeAt_12 : decode cX1_codeAt 12 = .ok (.iload_n 1, 1) := by decide +kernel
theorem dX1_codeAt_13 : decode cX1_codeAt 13 = .ok (.aload_n 0, 1) := by decide +kernel
theorem dX1_codeAt_14 : decode cX1_codeAt 14 = .ok (.getfield 9, 3) := by decide +kernel
theorem dX1_codeAt_17 : decode cX1_codeAt 17 = .ok (.arraylength, 1) := by decide +kernel
theorem dX1_codeAt_18 : decode cX1_codeAt 18 = .ok (.if_icmp .ge 12, 3) := by decide +kernel
theorem dX1_codeAt_21 : decode cX1_codeAt 21 = .ok (.aload_n 0, 1) := by decide +kernel
theorem dX1_codeAt_22 : decode cX1_codeAt 22 = .ok (.getfield 9, 3) := by decide +kernel
theorem dX1_codeAt_25 : decode cX1_codeAt 25 = .ok (.iload_n 1, 1) := by decide +kernel
theorem dX1_codeAt_26 : decode cX1_codeAt 26 = .ok (.iaload, 1) := by decide +kernel
theorem dX1_codeAt_27 : decode cX1_codeAt 27 = .ok (.goto 4, 3) := by decide +kernel
theorem dX1_codeAt_30 : decode cX1_codeAt 30 = .ok (.iconst 0, 1) := by decide +kernel
theorem dX1_codeAt_31 : decode cX1_codeAt 31 = .ok (.ireturn, 1) := by decide +kernel
def f_X1_codeAt (i0 : Nat) (v1 : Int32) (σ : gSt) : Option (Int32 × gSt) :=
  if v1 < 0 then
    some (0, σ)
  else
    if (σ 8 i0 2) ≤ v1 then
      some (0, σ)
    else
      if 10 ≤ v1 then
        some (0, σ)
      else
        (gld σ 9 i0 10 v1).bind fun a26 =>
        some (a26, σ)
theorem f_X1_codeAt_ok {i0 : Nat} {v1 : Int32} (hi0 : i0 < 6) {σ : gSt} {r : (Int32 × gSt)} (h : f_X1_codeAt i0 v1 σ = some r) : Mt l w 0 41 yX1_codeAt cX1_codeAt 2 (some .int) 0 0 [.ref (w.2.1 8 i0), .int v1] σ (gE (some (.int r.1)) r.2) := by
  unfold f_X1_codeAt at h
  refine g_start pn_X1 rfl rfl (Nat.le_of_ble_eq_true rfl) ?_
  show G l w 0 41 RX1 cX1_codeAt 2 (some .int) 0 0 (gE (some (.int r.1)) r.2) 0 [some (.ref (w.2.1 8 i0)), some (.int v1)] [] σ
  refine g_iload_n dX1_codeAt_0 rfl ?_
  refine g_if_lt 30 dX1_codeAt_1 rfl (fun q => ?_) (fun q => ?_)
  · replace h := gif_t q h
    refine g_iconst dX1_codeAt_30 kc_0 ?_
    cases h
    exact g_iret dX1_codeAt_31 rfl ⟨rfl, rfl⟩
  · replace h := gif_f q h
    refine g_iload_n dX1_codeAt_4 rfl ?_
    refine g_aload_n dX1_codeAt_5 rfl ?_
    refine gI_X1_21 (ok_8 hi0) dX1_codeAt_6 ?_
    refine g_icmp_ge 30 dX1_codeAt_9 rfl (fun q => ?_) (fun q => ?_)
    · replace h := gif_t q h
      refine g_iconst dX1_codeAt_30 kc_0 ?_
      cases h
      exact g_iret dX1_codeAt_31 rfl ⟨rfl, rfl⟩
    · replace h := gif_f q h
      refine g_iload_n dX1_codeAt_12 rfl ?_
      refine g_aload_n dX1_codeAt_13 rfl ?_
      refine gR_X1_9 (ok_8 hi0) dX1_codeAt_14 ?_
      refine g_alenL nc_10 rfl rfl (ok_9 hi0) dX1_codeAt_17 ?_
      refine g_icmp_ge 30 dX1_codeAt_18 rfl (fun q => ?_) (fun q => ?_)
      · replace h := gif_t q h
        refine g_iconst dX1_codeAt_30 kc_0 ?_
        cases h
        exact g_iret dX1_codeAt_31 rfl ⟨rfl, rfl⟩
      · replace h := gif_f q h
        refine g_aload_n dX1_codeAt_21 rfl ?_
        refine gR_X1_9 (ok_8 hi0) dX1_codeAt_22 ?_
        refine g_iload_n dX1_codeAt_25 rfl ?_
        obtain ⟨a26, e26, h⟩ := obind h
        refine g_ldB e26 (ok_9 hi0) rfl rfl (by decide) dX1_codeAt_26 ?_
        refine g_goto 31 dX1_codeAt_27 rfl ?_
        cases h
        exact g_iret dX1_codeAt_31 rfl ⟨rfl, rfl⟩
theorem dX9_firstOf_0 : decode cX9_firstOf 0 = .ok (.iload_n 2, 1) := by decide +kernel
theorem dX9_firstOf_1 : decode cX9_firstOf 1 = .ok (.istore_n 3, 1) := by decide +kernel
theorem dX9_firstOf_2 : decode cX9_firstOf 2 = .ok (.iload_n 3, 1) := by decide +kernel
theorem dX9_firstOf_3 : decode cX9_firstOf 3 = .ok (.aload_n 0, 1) := by decide +kernel
theorem dX9_firstOf_4 : decode cX9_firstOf 4 = .ok (.getfield 39, 3) := by decide +kernel
theorem dX9_firstOf_7 : decode cX9_firstOf 7 = .ok (.if_icmp .ge 20, 3) := by decide +kernel
theorem dX9_firstOf_10 : decode cX9_firstOf 10 = .ok (.aload_n 0, 1) := by decide +kernel
theorem dX9_firstOf_11 : decode cX9_firstOf 11 = .ok (.iload_n 3, 1) := by decide +kernel
theorem dX9_firstOf_12 : decode cX9_firstOf 12 = .ok (.invokevirtual 54, 3) := by decide +kernel
theorem dX9_firstOf_15 : decode cX9_firstOf 15 = .ok (.iload_n 1, 1) := by decide +kernel
theorem dX9_firstOf_16 : decode cX9_firstOf 16 = .ok (.if_icmp .ne 5, 3) := by decide +kernel
theorem dX9_firstOf_19 : decode cX9_firstOf 19 = .ok (.iload_n 3, 1) := by decide +kernel
theorem dX9_firstOf_20 : decode cX9_firstOf 20 = .ok (.ireturn, 1) := by decide +kernel
theorem dX9_firstOf_21 : decode cX9_firstOf 21 = .ok (.iinc 3 1, 3) := by decide +kernel
theorem dX9_firstOf_24 : decode cX9_firstOf 24 = .ok (.goto (-22), 3) := by decide +kernel
theorem dX9_firstOf_27 : decode cX9_firstOf 27 = .ok (.iconst (-1), 1) := by decide +kernel
theorem dX9_firstOf_28 : decode cX9_firstOf 28 = .ok (.ireturn, 1) := by decide +kernel
def f_X9_firstOf_2 (i0 : Nat) (v1 : Int32) : Nat → Int32 → gSt → Option (Int32 × gSt)
  | 0, _, _ => none
  | n + 1, v3, σ =>
    if (σ 10 i0 8) ≤ v3 then
      some ((-1), σ)
    else
      (f_X9_codeOf i0 v3 σ).bind fun p12 =>
      if p12.1 = v1 then
        some (v3, p12.2)
      else
        f_X9_firstOf_2 i0 v1 n (v3 + 1) p12.2
def f_X9_firstOf (i0 : Nat) (v1 : Int32) (v2 : Int32) (σ : gSt) : Option (Int32 × gSt) :=
  f_X9_firstOf_2 i0 v1 gFuel v2 σ
theorem f_X9_firstOf_2_ok {i0 : Nat} {v1 : Int32} {r : (Int32 × gSt)} (hi0 : i0 < 20) : ∀ (n : Nat) {v3 : Int32} {σ : gSt} {x2 : Option Value}, f_X9_firstOf_2 i0 v1 n v3 σ = some r → G l w 0 41 RX9 cX9_firstOf 4 (some .int) 1 21 (gE (some (.int r.1)) r.2) 2 [some (.ref (w.2.1 10 i0)), some (.int v1), x2, some (.int v3)] [] σ := by
  intro n
  induction n with
  | zero => intro v3 σ x2 h; rw [f_X9_firstOf_2] at h; cases h
  | succ n ih =>
    intro v3 σ x2 h
    rw [f_X9_firstOf_2] at h
    refine g_iload_n dX9_firstOf_2 rfl ?_
    refine g_aload_n dX9_firstOf_3 rfl ?_
    refine gI_X9_39 (ok_10 hi0) dX9_firstOf_4 ?_
    refine g_icmp_ge 27 dX9_firstOf_7 rfl (fun q => ?_) (fun q => ?_)
    · replace h := gif_t q h
      refine g_iconst dX9_firstOf_27 kc_m1 ?_
      cases h
      exact g_iret dX9_firstOf_28 rfl ⟨rfl, rfl⟩
    · replace h := gif_f q h
      refine g_aload_n dX9_firstOf_10 rfl ?_
      refine g_iload_n dX9_firstOf_11 rfl ?_
      obtain ⟨p12, e12, h⟩ := obind h
      refine g_vP1 mv_X9_54 dX9_firstOf_12 (ok_10 hi0) ⟨by decide, by decide⟩ (Nat.le_of_ble_eq_true rfl) (f_X9_codeOf_ok hi0 e12) ?_
      refine g_iload_n dX9_firstOf_15 rfl ?_
      refine g_icmp_ne 21 dX9_firstOf_16 rfl (fun q => ?_) (fun q => ?_)
      · replace h := gif_f q h
        refine g_inc3 kc_1 dX9_firstOf_21 ?_
        refine g_goto 2 dX9_firstOf_24 rfl ?_
        exact ih h
      · replace h := gif_t q h
        refine g_iload_n dX9_firstOf_19 rfl ?_
        cases h
        exact g_iret dX9_firstOf_20 rfl ⟨rfl, rfl⟩
theorem f_X9_firstOf_ok {i0 : Nat} {v1 : Int32} {v2 : Int32} (hi0 : i0 < 20) {σ : gSt} {r : (Int32 × gSt)} (h : f_X9_firstOf i0 v1 v2 σ = some r) : Mt l w 0 41 yX9_firstOf cX9_firstOf 4 (some .int) 1 21 [.ref (w.2.1 10 i0), .int v1, .int v2] σ (gE (some (.int r.1)) r.2) := by
  unfold f_X9_firstOf at h
  refine g_start pn_X9 rfl rfl (Nat.le_of_ble_eq_true rfl) ?_
  show G l w 0 41 RX9 cX9_firstOf 4 (some .int) 1 21 (gE (some (.int r.1)) r.2) 0 [some (.ref (w.2.1 10 i0)), some (.int v1), some (.int v2), none] [] σ
  refine g_iload_n dX9_firstOf_0 rfl ?_
  refine g_istore3 dX9_firstOf_1 ?_
  exact f_X9_firstOf_2_ok hi0 gFuel h
theorem dX3_mostFrom_0 : decode cX3_mostFrom 0 = .ok (.iload_n 1, 1) := by decide +kernel
theorem dX3_mostFrom_1 : decode cX3_mostFrom 1 = .ok (.bipush 17, 2) := by decide +kernel
theorem dX3_mostFrom_3 : decode cX3_mostFrom 3 = .ok (.imul, 1) := by decide +kernel
theorem dX3_mostFrom_4 : decode cX3_mostFrom 4 = .ok (.iload_n 2, 1) := by decide +kernel
theorem dX3_mostFrom_5 : decode cX3_mostFrom 5 = .ok (.iadd, 1) := by decide +kernel
theorem dX3_mostFrom_6 : decode cX3_mostFrom 6 = .ok (.istore_n 3, 1) := by decide +kernel
theorem dX3_mostFrom_7 : decode cX3_mostFrom 7 = .ok (.iload_n 3, 1) := by decide +kernel
theorem dX3_mostFrom_8 : decode cX3_mostFrom 8 = .ok (.ifCond .lt 21, 3) := by decide +kernel
theorem dX3_mostFrom_11 : decode cX3_mostFrom 11 = .ok (.iload_n 3, 1) := by decide +kernel
theorem dX3_mostFrom_12 : decode cX3_mostFrom 12 = .ok (.aload_n 0, 1) := by decide +kernel
theorem dX3_mostFrom_13 : decode cX3_mostFrom 13 = .ok (.getfield 11, 3) := by decide +kernel
theorem dX3_mostFrom_16 : decode cX3_mostFrom 16 = .ok (.arraylength, 1) := by decide +kernel
theorem dX3_mostFrom_17 : decode cX3_mostFrom 17 = .ok (.if_icmp .ge 12, 3) := by decide +kernel
theorem dX3_mostFrom_20 : decode cX3_mostFrom 20 = .ok (.aload_n 0, 1) := by decide +kernel
theorem dX3_mostFrom_21 : decode cX3_mostFrom 21 = .ok (.getfield 11, 3) := by decide +kernel
theorem dX3_mostFrom_24 : decode cX3_mostFrom 24 = .ok (.iload_n 3, 1) := by decide +kernel
theorem dX3_mostFrom_25 : decode cX3_mostFrom 25 = .ok (.iaload, 1) := by decide +kernel
theorem dX3_mostFrom_26 : decode cX3_mostFrom 26 = .ok (.goto 4, 3) := by decide +kernel
theorem dX3_mostFrom_29 : decode cX3_mostFrom 29 = .ok (.iconst 0, 1) := by decide +kernel
theorem dX3_mostFrom_30 : decode cX3_mostFrom 30 = .ok (.ireturn, 1) := by decide +kernel
def f_X3_mostFrom (i0 : Nat) (v1 : Int32) (v2 : Int32) (σ : gSt) : Option (Int32 × gSt) :=
  if ((v1 * 17) + v2) < 0 then
    some (0, σ)
  else
    if 187 ≤ ((v1 * 17) + v2) then
      some (0, σ)
    else
      (gld σ 7 i0 187 ((v1 * 17) + v2)).bind fun a25 =>
      some (a25, σ)
theorem f_X3_mostFrom_ok {i0 : Nat} {v1 : Int32} {v2 : Int32} (hi0 : i0 < 2) {σ : gSt} {r : (Int32 × gSt)} (h : f_X3_mostFrom i0 v1 v2 σ = some r) : Mt l w 0 41 yX3_mostFrom cX3_mostFrom 4 (some .int) 0 0 [.ref (w.2.1 6 i0), .int v1, .int v2] σ (gE (some (.int r.1)) r.2) := by
  unfold f_X3_mostFrom at h
  refine g_start pn_X3 rfl rfl (Nat.le_of_ble_eq_true rfl) ?_
  show G l w 0 41 RX3 cX3_mostFrom 4 (some .int) 0 0 (gE (some (.int r.1)) r.2) 0 [some (.ref (w.2.1 6 i0)), some (.int v1), some (.int v2), none] [] σ
  refine g_iload_n dX3_mostFrom_0 rfl ?_
  refine g_bipush dX3_mostFrom_1 kb_17 ?_
  refine g_imul dX3_mostFrom_3 ?_
  refine g_iload_n dX3_mostFrom_4 rfl ?_
  refine g_iadd dX3_mostFrom_5 ?_
  refine g_istore3 dX3_mostFrom_6 ?_
  refine g_iload_n dX3_mostFrom_7 rfl ?_
  refine g_if_lt 29 dX3_mostFrom_8 rfl (fun q => ?_) (fun q => ?_)
  · replace h := gif_t q h
    refine g_iconst dX3_mostFrom_29 kc_0 ?_
    cases h
    exact g_iret dX3_mostFrom_30 rfl ⟨rfl, rfl⟩
  · replace h := gif_f q h
    refine g_iload_n dX3_mostFrom_11 rfl ?_
    refine g_aload_n dX3_mostFrom_12 rfl ?_
    refine gR_X3_11 (ok_6 hi0) dX3_mostFrom_13 ?_
    refine g_alenL nc_187 rfl rfl (ok_7 hi0) dX3_mostFrom_16 ?_
    refine g_icmp_ge 29 dX3_mostFrom_17 rfl (fun q => ?_) (fun q => ?_)
    · replace h := gif_t q h
      refine g_iconst dX3_mostFrom_29 kc_0 ?_
      cases h
      exact g_iret dX3_mostFrom_30 rfl ⟨rfl, rfl⟩
    · replace h := gif_f q h
      refine g_aload_n dX3_mostFrom_20 rfl ?_
      refine gR_X3_11 (ok_6 hi0) dX3_mostFrom_21 ?_
      refine g_iload_n dX3_mostFrom_24 rfl ?_
      obtain ⟨a25, e25, h⟩ := obind h
      refine g_ldB e25 (ok_7 hi0) rfl rfl (by decide) dX3_mostFrom_25 ?_
      refine g_goto 30 dX3_mostFrom_26 rfl ?_
      cases h
      exact g_iret dX3_mostFrom_30 rfl ⟨rfl, rfl⟩
theorem dX9_take_0 : decode cX9_take 0 = .ok (.iload_n 1, 1) := by decide +kernel
theorem dX9_take_1 : decode cX9_take 1 = .ok (.ifCond .lt 53, 3) := by decide +kernel
theorem dX9_take_4 : decode cX9_take 4 = .ok (.iload_n 1, 1) := by decide +kernel
theorem dX9_take_5 : decode cX9_take 5 = .ok (.aload_n 0, 1) := by decide +kernel
theorem dX9_take_6 : decode cX9_take 6 = .ok (.getfield 21, 3) := by decide +kernel
theorem dX9_take_9 : decode cX9_take 9 = .ok (.arraylength, 1) := by decide +kernel
theorem dX9_take_10 : decode cX9_take 10 = .ok (.if_icmp .ge 44, 3) := by decide +kernel
theorem dX9_take_13 : decode cX9_take 13 = .ok (.iload_n 2, 1) := by decide +kernel
theorem dX9_take_14 : decode cX9_take 14 = .ok (.ifCond .lt 40, 3) := by decide +kernel
theorem dX9_take_17 : decode cX9_take 17 = .ok (.iload_n 2, 1) := by decide +kernel
theorem dX9_take_18 : decode cX9_take 18 = .ok (.aload_n 0, 1) := by decide +kernel
theorem dX9_take_19 : decode cX9_take 19 = .ok (.getfield 18, 3) := by decide +kernel
theorem dX9_take_22 : decode cX9_take 22 = .ok (.arraylength, 1) := by decide +kernel
theorem dX9_take_23 : decode cX9_take 23 = .ok (.if_icmp .ge 31, 3) := by decide +kernel
theorem dX9_take_26 : decode cX9_take 26 = .ok (.aload_n 0, 1) := by decide +kernel
theorem dX9_take_27 : decode cX9_take 27 = .ok (.getfield 21, 3) := by decide +kernel
theorem dX9_take_30 : decode cX9_take 30 = .ok (.iload_n 1, 1) := by decide +kernel
theorem dX9_take_31 : decode cX9_take 31 = .ok (.aload_n 0, 1) := by decide +kernel
theorem dX9_take_32 : decode cX9_take 32 = .ok (.iload_n 2, 1) := by decide +kernel
theorem dX9_take_33 : decode cX9_take 33 = .ok (.invokevirtual 58, 3) := by decide +kernel
theorem dX9_take_36 : decode cX9_take 36 = .ok (.iastore, 1) := by decide +kernel
theorem dX9_take_37 : decode cX9_take 37 = .ok (.aload_n 0, 1) := by decide +kernel
theorem dX9_take_38 : decode cX9_take 38 = .ok (.getfield 18, 3) := by decide +kernel
theorem dX9_take_41 : decode cX9_take 41 = .ok (.iload_n 2, 1) := by decide +kernel
theorem dX9_take_42 : decode cX9_take 42 = .ok (.iload_n 1, 1) := by decide +kernel
theorem dX9_take_43 : decode cX9_take 43 = .ok (.iastore, 1) := by decide +kernel
theorem dX9_take_44 : decode cX9_take 44 = .ok (.aload_n 0, 1) := by decide +kernel
theorem dX9_take_45 : decode cX9_take 45 = .ok (.dup, 1) := by decide +kernel
theorem dX9_take_46 : decode cX9_take 46 = .ok (.getfield 45, 3) := by decide +kernel
theorem dX9_take_49 : decode cX9_take 49 = .ok (.iconst 1, 1) := by decide +kernel
theorem dX9_take_50 : decode cX9_take 50 = .ok (.iadd, 1) := by decide +kernel
theorem dX9_take_51 : decode cX9_take 51 = .ok (.putfield 45, 3) := by decide +kernel
theorem dX9_take_54 : decode cX9_take 54 = .ok (.return_, 1) := by decide +kernel
def f_X9_take (i0 : Nat) (v1 : Int32) (v2 : Int32) (σ : gSt) : Option gSt :=
  if v1 < 0 then
    some σ
  else
    if 10 ≤ v1 then
      some σ
    else
      if v2 < 0 then
        some σ
      else
        if 16 ≤ v2 then
          some σ
        else
          (f_X9_timeOf i0 v2 σ).bind fun p33 =>
          (gst p33.2 14 i0 10 v1 p33.1).bind fun z36 =>
          (gst z36 13 i0 16 v2 v1).bind fun z43 =>
          some (gup z43 10 i0 10 ((z43 10 i0 10) + 1))
theorem f_X9_take_ok {i0 : Nat} {v1 : Int32} {v2 : Int32} (hi0 : i0 < 20) {σ : gSt} {r : gSt} (h : f_X9_take i0 v1 v2 σ = some r) : Mt l w 0 41 yX9_take cX9_take 3 none 1 21 [.ref (w.2.1 10 i0), .int v1, .int v2] σ (gE none r) := by
  unfold f_X9_take at h
  refine g_start pn_X9 rfl rfl (Nat.le_of_ble_eq_true rfl) ?_
  show G l w 0 41 RX9 cX9_take 3 none 1 21 (gE none r) 0 [some (.ref (w.2.1 10 i0)), some (.int v1), some (.int v2)] [] σ
  refine g_iload_n dX9_take_0 rfl ?_
  refine g_if_lt 54 dX9_take_1 rfl (fun q => ?_) (fun q => ?_)
  · replace h := gif_t q h
    cases h
    exact g_vret dX9_take_54 rfl ⟨rfl, rfl⟩
  · replace h := gif_f q h
    refine g_iload_n dX9_take_4 rfl ?_
    refine g_aload_n dX9_take_5 rfl ?_
    refine gR_X9_21 (ok_10 hi0) dX9_take_6 ?_
    refine g_alenL nc_10 rfl rfl (ok_14 hi0) dX9_take_9 ?_
    refine g_icmp_ge 54 dX9_take_10 rfl (fun q => ?_) (fun q => ?_)
    · replace h := gif_t q h
      cases h
      exact g_vret dX9_take_54 rfl ⟨rfl, rfl⟩
    · replace h := gif_f q h
      refine g_iload_n dX9_take_13 rfl ?_
      refine g_if_lt 54 dX9_take_14 rfl (fun q => ?_) (fun q => ?_)
      · replace h := gif_t q h
        cases h
        exact g_vret dX9_take_54 rfl ⟨rfl, rfl⟩
      · replace h := gif_f q h
        refine g_iload_n dX9_take_17 rfl ?_
        refine g_aload_n dX9_take_18 rfl ?_
        refine gR_X9_18 (ok_10 hi0) dX9_take_19 ?_
        refine g_alenL nc_16 rfl rfl (ok_13 hi0) dX9_take_22 ?_
        refine g_icmp_ge 54 dX9_take_23 rfl (fun q => ?_) (fun q => ?_)
        · replace h := gif_t q h
          cases h
          exact g_vret dX9_take_54 rfl ⟨rfl, rfl⟩
        · replace h := gif_f q h
          refine g_aload_n dX9_take_26 rfl ?_
          refine gR_X9_21 (ok_10 hi0) dX9_take_27 ?_
          refine g_iload_n dX9_take_30 rfl ?_
          refine g_aload_n dX9_take_31 rfl ?_
          refine g_iload_n dX9_take_32 rfl ?_
          obtain ⟨p33, e33, h⟩ := obind h
          refine g_vP1 mv_X9_58 dX9_take_33 (ok_10 hi0) ⟨by decide, by decide⟩ (Nat.le_of_ble_eq_true rfl) (f_X9_timeOf_ok hi0 e33) ?_
          obtain ⟨z36, e36, h⟩ := obind h
          refine g_stB e36 (ok_14 hi0) rfl rfl (by decide) dX9_take_36 ?_
          refine g_aload_n dX9_take_37 rfl ?_
          refine gR_X9_18 (ok_10 hi0) dX9_take_38 ?_
          refine g_iload_n dX9_take_41 rfl ?_
          refine g_iload_n dX9_take_42 rfl ?_
          obtain ⟨z43, e43, h⟩ := obind h
          refine g_stB e43 (ok_13 hi0) rfl rfl (by decide) dX9_take_43 ?_
          refine g_aload_n dX9_take_44 rfl ?_
          refine g_dup dX9_take_45 rfl ?_
          refine gI_X9_45 (ok_10 hi0) dX9_take_46 ?_
          refine g_iconst dX9_take_49 kc_1 ?_
          refine g_iadd dX9_take_50 ?_
          refine gP_X9_45 (ok_10 hi0) dX9_take_51 ?_
          cases h
          exact g_vret dX9_take_54 rfl ⟨rfl, rfl⟩
theorem dX3_set_0 : decode cX3_set 0 = .ok (.iload_n 1, 1) := by decide +kernel
theorem dX3_set_1 : decode cX3_set 1 = .ok (.bipush 17, 2) := by decide +kernel
theorem dX3_set_3 : decode cX3_set 3 = .ok (.imul, 1) := by decide +kernel
theorem dX3_set_4 : decode cX3_set 4 = .ok (.iload_n 2, 1) := by decide +kernel
theorem dX3_set_5 : decode cX3_set 5 = .ok (.iadd, 1) := by decide +kernel
theorem dX3_set_6 : decode cX3_set 6 = .ok (.istore 4, 2) := by decide +kernel
theorem dX3_set_8 : decode cX3_set 8 = .ok (.iload 4, 2) := by decide +kernel
theorem dX3_set_10 : decode cX3_set 10 = .ok (.ifCond .lt 21, 3) := by decide +kernel
theorem dX3_set_13 : decode cX3_set 13 = .ok (.iload 4, 2) := by decide +kernel
theorem dX3_set_15 : decode cX3_set 15 = .ok (.aload_n 0, 1) := by decide +kernel
theorem dX3_set_16 : decode cX3_set 16 = .ok (.getfield 11, 3) := by decide +kernel
theorem dX3_set_19 : decode cX3_set 19 = .ok (.arraylength, 1) := by decide +kernel
theorem dX3_set_20 : decode cX3_set 20 = .ok (.if_icmp .ge 11, 3) := by decide +kernel
theorem dX3_set_23 : decode cX3_set 23 = .ok (.aload_n 0, 1) := by decide +kernel
theorem dX3_set_24 : decode cX3_set 24 = .ok (.getfield 11, 3) := by decide +kernel
theorem dX3_set_27 : decode cX3_set 27 = .ok (.iload 4, 2) := by decide +kernel
theorem dX3_set_29 : decode cX3_set 29 = .ok (.iload_n 3, 1) := by decide +kernel
theorem dX3_set_30 : decode cX3_set 30 = .ok (.iastore, 1) := by decide +kernel
theorem dX3_set_31 : decode cX3_set 31 = .ok (.return_, 1) := by decide +kernel
def f_X3_set (i0 : Nat) (v1 : Int32) (v2 : Int32) (v3 : Int32) (σ : gSt) : Option gSt :=
  if ((v1 * 17) + v2) < 0 then
    some σ
  else
    if 187 ≤ ((v1 * 17) + v2) then
      some σ
    else
      (gst σ 7 i0 187 ((v1 * 17) + v2) v3).bind fun z30 =>
      some z30
theorem f_X3_set_ok {i0 : Nat} {v1 : Int32} {v2 : Int32} {v3 : Int32} (hi0 : i0 < 2) {σ : gSt} {r : gSt} (h : f_X3_set i0 v1 v2 v3 σ = some r) : Mt l w 0 41 yX3_set cX3_set 5 none 0 0 [.ref (w.2.1 6 i0), .int v1, .int v2, .int v3] σ (gE none r) := by
  unfold f_X3_set at h
  refine g_start pn_X3 rfl rfl (Nat.le_of_ble_eq_true rfl) ?_
  show G l w 0 41 RX3 cX3_set 5 none 0 0 (gE none r) 0 [some (.ref (w.2.1 6 i0)), some (.int v1), some (.int v2), some (.int v3), none] [] σ
  refine g_iload_n dX3_set_0 rfl ?_
  refine g_bipush dX3_set_1 kb_17 ?_
  refine g_imul dX3_set_3 ?_
  refine g_iload_n dX3_set_4 rfl ?_
  refine g_iadd dX3_set_5 ?_
  refine g_istore4 dX3_set_6 ?_
  refine g_iload dX3_set_8 rfl ?_
  refine g_if_lt 31 dX3_set_10 rfl (fun q => ?_) (fun q => ?_)
  · replace h := gif_t q h
    cases h
    exact g_vret dX3_set_31 rfl ⟨rfl, rfl⟩
  · replace h := gif_f q h
    refine g_iload dX3_set_13 rfl ?_
    refine g_aload_n dX3_set_15 rfl ?_
    refine gR_X3_11 (ok_6 hi0) dX3_set_16 ?_
    refine g_alenL nc_187 rfl rfl (ok_7 hi0) dX3_set_19 ?_
    refine g_icmp_ge 31 dX3_set_20 rfl (fun q => ?_) (fun q => ?_)
    · replace h := gif_t q h
      cases h
      exact g_vret dX3_set_31 rfl ⟨rfl, rfl⟩
    · replace h := gif_f q h
      refine g_aload_n dX3_set_23 rfl ?_
      refine gR_X3_11 (ok_6 hi0) dX3_set_24 ?_
      refine g_iload dX3_set_27 rfl ?_
      refine g_iload_n dX3_set_29 rfl ?_
      obtain ⟨z30, e30, h⟩ := obind h
      refine g_stB e30 (ok_7 hi0) rfl rfl (by decide) dX3_set_30 ?_
      cases h
      exact g_vret dX3_set_31 rfl ⟨rfl, rfl⟩
theorem dX3_mostTaken_0 : decode cX3_mostTaken 0 = .ok (.aload_n 1, 1) := by decide +kernel
theorem dX3_mostTaken_1 : decode cX3_mostTaken 1 = .ok (.getfield 15, 3) := by decide +kernel
theorem dX3_mostTaken_4 : decode cX3_mostTaken 4 = .ok (.istore_n 3, 1) := by decide +kernel
theorem dX3_mostTaken_5 : decode cX3_mostTaken 5 = .ok (.iload_n 3, 1) := by decide +kernel
theorem dX3_mostTaken_6 : decode cX3_mostTaken 6 = .ok (.ifCond .lt 119, 3) := by decide +kernel
theorem dX3_mostTaken_9 : decode cX3_mostTaken 9 = .ok (.aload_n 2, 1) := by decide +kernel
theorem dX3_mostTaken_10 : decode cX3_mostTaken 10 = .ok (.getfield 21, 3) := by decide +kernel
theorem dX3_mostTaken_13 : decode cX3_mostTaken 13 = .ok (.istore 4, 2) := by decide +kernel
theorem dX3_mostTaken_15 : decode cX3_mostTaken 15 = .ok (.iload 4, 2) := by decide +kernel
theorem dX3_mostTaken_17 : decode cX3_mostTaken 17 = .ok (.ifCond .lt 102, 3) := by decide +kernel
theorem dX3_mostTaken_20 : decode cX3_mostTaken 20 = .ok (.iload_n 3, 1) := by decide +kernel
theorem dX3_mostTaken_21 : decode cX3_mostTaken 21 = .ok (.aload_n 1, 1) := by decide +kernel
theorem dX3_mostTaken_22 : decode cX3_mostTaken 22 = .ok (.getfield 15, 3) := by decide +kernel
theorem dX3_mostTaken_25 : decode cX3_mostTaken 25 = .ok (.if_icmp .eq 12, 3) := by decide +kernel
theorem dX3_mostTaken_28 : decode cX3_mostTaken 28 = .ok (.iload 4, 2) := by decide +kernel
theorem dX3_mostTaken_30 : decode cX3_mostTaken 30 = .ok (.aload_n 2, 1) := by decide +kernel
theorem dX3_mostTaken_31 : decode cX3_mostTaken 31 = .ok (.getfield 21, 3) := by decide +kernel
theorem dX3_mostTaken_34 : decode cX3_mostTaken 34 = .ok (.if_icmp .ne 14, 3) := by decide +kernel
theorem dX3_mostTaken_37 : decode cX3_mostTaken 37 = .ok (.aload_n 0, 1) := by decide +kernel
theorem dX3_mostTaken_38 : decode cX3_mostTaken 38 = .ok (.iload_n 3, 1) := by decide +kernel
theorem dX3_mostTaken_39 : decode cX3_mostTaken 39 = .ok (.iload 4, 2) := by decide +kernel
theorem dX3_mostTaken_41 : decode cX3_mostTaken 41 = .ok (.iconst 0, 1) := by decide +kernel
theorem dX3_mostTaken_42 : decode cX3_mostTaken 42 = .ok (.invokevirtual 26, 3) := by decide +kernel
theorem dX3_mostTaken_45 : decode cX3_mostTaken 45 = .ok (.goto 68, 3) := by decide +kernel
theorem dX3_mostTaken_48 : decode cX3_mostTaken 48 = .ok (.aload_n 1, 1) := by decide +kernel
theorem dX3_mostTaken_49 : decode cX3_mostTaken 49 = .ok (.iload_n 3, 1) := by decide +kernel
theorem dX3_mostTaken_50 : decode cX3_mostTaken 50 = .ok (.invokevirtual 30, 3) := by decide +kernel
theorem dX3_mostTaken_53 : decode cX3_mostTaken 53 = .ok (.aload_n 2, 1) := by decide +kernel
theorem dX3_mostTaken_54 : decode cX3_mostTaken 54 = .ok (.iload 4, 2) := by decide +kernel
theorem dX3_mostTaken_56 : decode cX3_mostTaken 56 = .ok (.invokevirtual 34, 3) := by decide +kernel
theorem dX3_mostTaken_59 : decode cX3_mostTaken 59 = .ok (.if_icmp .ne 26, 3) := by decide +kernel
theorem dX3_mostTaken_62 : decode cX3_mostTaken 62 = .ok (.aload_n 0, 1) := by decide +kernel
theorem dX3_mostTaken_63 : decode cX3_mostTaken 63 = .ok (.iload_n 3, 1) := by decide +kernel
theorem dX3_mostTaken_64 : decode cX3_mostTaken 64 = .ok (.iload 4, 2) := by decide +kernel
theorem dX3_mostTaken_66 : decode cX3_mostTaken 66 = .ok (.iconst 1, 1) := by decide +kernel
theorem dX3_mostTaken_67 : decode cX3_mostTaken 67 = .ok (.aload_n 0, 1) := by decide +kernel
theorem dX3_mostTaken_68 : decode cX3_mostTaken 68 = .ok (.iload_n 3, 1) := by decide +kernel
theorem dX3_mostTaken_69 : decode cX3_mostTaken 69 = .ok (.iconst 1, 1) := by decide +kernel
theorem dX3_mostTaken_70 : decode cX3_mostTaken 70 = .ok (.iadd, 1) := by decide +kernel
theorem dX3_mostTaken_71 : decode cX3_mostTaken 71 = .ok (.iload 4, 2) := by decide +kernel
theorem dX3_mostTaken_73 : decode cX3_mostTaken 73 = .ok (.iconst 1, 1) := by decide +kernel
theorem dX3_mostTaken_74 : decode cX3_mostTaken 74 = .ok (.iadd, 1) := by decide +kernel
theorem dX3_mostTaken_75 : decode cX3_mostTaken 75 = .ok (.invokevirtual 37, 3) := by decide +kernel
theorem dX3_mostTaken_78 : decode cX3_mostTaken 78 = .ok (.iadd, 1) := by decide +kernel
theorem dX3_mostTaken_79 : decode cX3_mostTaken 79 = .ok (.invokevirtual 26, 3) := by decide +kernel
theorem dX3_mostTaken_82 : decode cX3_mostTaken 82 = .ok (.goto 31, 3) := by decide +kernel
theorem dX3_mostTaken_85 : decode cX3_mostTaken 85 = .ok (.aload_n 0, 1) := by decide +kernel
theorem dX3_mostTaken_86 : decode cX3_mostTaken 86 = .ok (.iload_n 3, 1) := by decide +kernel
theorem dX3_mostTaken_87 : decode cX3_mostTaken 87 = .ok (.iload 4, 2) := by decide +kernel
theorem dX3_mostTaken_89 : decode cX3_mostTaken 89 = .ok (.aload_n 0, 1) := by decide +kernel
theorem dX3_mostTaken_90 : decode cX3_mostTaken 90 = .ok (.iload_n 3, 1) := by decide +kernel
theorem dX3_mostTaken_91 : decode cX3_mostTaken 91 = .ok (.iconst 1, 1) := by decide +kernel
theorem dX3_mostTaken_92 : decode cX3_mostTaken 92 = .ok (.iadd, 1) := by decide +kernel
theorem dX3_mostTaken_93 : decode cX3_mostTaken 93 = .ok (.iload 4, 2) := by decide +kernel
theorem dX3_mostTaken_95 : decode cX3_mostTaken 95 = .ok (.invokevirtual 37, 3) := by decide +kernel
theorem dX3_mostTaken_98 : decode cX3_mostTaken 98 = .ok (.aload_n 0, 1) := by decide +kernel
theorem dX3_mostTaken_99 : decode cX3_mostTaken 99 = .ok (.iload_n 3, 1) := by decide +kernel
theorem dX3_mostTaken_100 : decode cX3_mostTaken 100 = .ok (.iload 4, 2) := by decide +kernel
theorem dX3_mostTaken_102 : decode cX3_mostTaken 102 = .ok (.iconst 1, 1) := by decide +kernel
theorem dX3_mostTaken_103 : decode cX3_mostTaken 103 = .ok (.iadd, 1) := by decide +kernel
theorem dX3_mostTaken_104 : decode cX3_mostTaken 104 = .ok (.invokevirtual 37, 3) := by decide +kernel
theorem dX3_mostTaken_107 : decode cX3_mostTaken 107 = .ok (.invokestatic 41, 3) := by decide +kernel
theorem dX3_mostTaken_110 : decode cX3_mostTaken 110 = .ok (.invokevirtual 26, 3) := by decide +kernel
theorem dX3_mostTaken_113 : decode cX3_mostTaken 113 = .ok (.iinc 4 (-1), 3) := by decide +kernel
theorem dX3_mostTaken_116 : decode cX3_mostTaken 116 = .ok (.goto (-101), 3) := by decide +kernel
theorem dX3_mostTaken_119 : decode cX3_mostTaken 119 = .ok (.iinc 3 (-1), 3) := by decide +kernel
theorem dX3_mostTaken_122 : decode cX3_mostTaken 122 = .ok (.goto (-117), 3) := by decide +kernel
theorem dX3_mostTaken_125 : decode cX3_mostTaken 125 = .ok (.aload_n 0, 1) := by decide +kernel
theorem dX3_mostTaken_126 : decode cX3_mostTaken 126 = .ok (.iconst 0, 1) := by decide +kernel
theorem dX3_mostTaken_127 : decode cX3_mostTaken 127 = .ok (.iconst 0, 1) := by decide +kernel
theorem dX3_mostTaken_128 : decode cX3_mostTaken 128 = .ok (.invokevirtual 37, 3) := by decide +kernel
theorem dX3_mostTaken_131 : decode cX3_mostTaken 131 = .ok (.ireturn, 1) := by decide +kernel
def f_X3_mostTaken_15 (i0 : Nat) (i1 : Nat) (i2 : Nat) (v3 : Int32) (k5 : Int32 → gSt → Option (Int32 × gSt)) : Nat → Int32 → gSt → Option (Int32 × gSt)
  | 0, _, _ => none
  | n + 1, v4, σ =>
    if v4 < 0 then
      k5 (v3 + (-1)) σ
    else
      if v3 = (σ 8 i1 2) then
        (f_X3_set i0 v3 v4 0 σ).bind fun z42 =>
        f_X3_mostTaken_15 i0 i1 i2 v3 k5 n (v4 + (-1)) z42
      else
        if v4 = (σ 10 i2 8) then
          (f_X3_set i0 v3 v4 0 σ).bind fun z42 =>
          f_X3_mostTaken_15 i0 i1 i2 v3 k5 n (v4 + (-1)) z42
        else
          (f_X1_codeAt i1 v3 σ).bind fun p50 =>
          (f_X9_codeOf i2 v4 p50.2).bind fun p56 =>
          if p50.1 = p56.1 then
            (f_X3_mostFrom i0 (v3 + 1) (v4 + 1) p56.2).bind fun p75 =>
            (f_X3_set i0 v3 v4 (1 + p75.1) p75.2).bind fun z79 =>
            f_X3_mostTaken_15 i0 i1 i2 v3 k5 n (v4 + (-1)) z79
          else
            (f_X3_mostFrom i0 (v3 + 1) v4 p56.2).bind fun p95 =>
            (f_X3_mostFrom i0 v3 (v4 + 1) p95.2).bind fun p104 =>
            (f_X3_set i0 v3 v4 (gmx p95.1 p104.1) p104.2).bind fun z110 =>
            f_X3_mostTaken_15 i0 i1 i2 v3 k5 n (v4 + (-1)) z110
def f_X3_mostTaken_5 (i0 : Nat) (i1 : Nat) (i2 : Nat) : Nat → Int32 → gSt → Option (Int32 × gSt)
  | 0, _, _ => none
  | n + 1, v3, σ =>
    if v3 < 0 then
      (f_X3_mostFrom i0 0 0 σ).bind fun p128 =>
      some (p128.1, p128.2)
    else
      f_X3_mostTaken_15 i0 i1 i2 v3 (fun v3 σ => f_X3_mostTaken_5 i0 i1 i2 n v3 σ) gFuel (σ 10 i2 8) σ
def f_X3_mostTaken (i0 : Nat) (i1 : Nat) (i2 : Nat) (σ : gSt) : Option (Int32 × gSt) :=
  f_X3_mostTaken_5 i0 i1 i2 gFuel (σ 8 i1 2) σ
theorem f_X3_mostTaken_15_ok {i0 : Nat} {i1 : Nat} {i2 : Nat} {v3 : Int32} {k5 : Int32 → gSt → Option (Int32 × gSt)} {r : (Int32 × gSt)} (hi0 : i0 < 2) (hi1 : i1 < 6) (hi2 : i2 < 20) (hk5 : ∀ {v3 : Int32} {σ : gSt} {x4 : Option Value}, k5 v3 σ = some r → G l w 0 41 RX3 cX3_mostTaken 5 (some .int) 1 24 (gE (some (.int r.1)) r.2) 5 [some (.ref (w.2.1 6 i0)), some (.ref (w.2.1 8 i1)), some (.ref (w.2.1 10 i2)), some (.int v3), x4] [] σ) : ∀ (n : Nat) {v4 : Int32} {σ : gSt} , f_X3_mostTaken_15 i0 i1 i2 v3 k5 n v4 σ = some r → G l w 0 41 RX3 cX3_mostTaken 5 (some .int) 1 24 (gE (some (.int r.1)) r.2) 15 [some (.ref (w.2.1 6 i0)), some (.ref (w.2.1 8 i1)), some (.ref (w.2.1 10 i2)), some (.int v3), some (.int v4)] [] σ := by
  intro n
  induction n with
  | zero => intro v4 σ h; rw [f_X3_mostTaken_15] at h; cases h
  | succ n ih =>
    intro v4 σ h
    rw [f_X3_mostTaken_15] at h
    refine g_iload dX3_mostTaken_15 rfl ?_
    refine g_if_lt 119 dX3_mostTaken_17 rfl (fun q => ?_) (fun q => ?_)
    · replace h := gif_t q h
      refine g_inc3 kc_m1 dX3_mostTaken_119 ?_
      refine g_goto 5 dX3_mostTaken_122 rfl ?_
      exact hk5 h
    · replace h := gif_f q h
      refine g_iload_n dX3_mostTaken_20 rfl ?_
      refine g_aload_n dX3_mostTaken_21 rfl ?_
      refine gI_X3_15 (ok_8 hi1) dX3_mostTaken_22 ?_
      refine g_icmp_eq 37 dX3_mostTaken_25 rfl (fun q => ?_) (fun q => ?_)
      · replace h := gif_t q h
        refine g_aload_n dX3_mostTaken_37 rfl ?_
        refine g_iload_n dX3_mostTaken_38 rfl ?_
        refine g_iload dX3_mostTaken_39 rfl ?_
        refine g_iconst dX3_mostTaken_41 kc_0 ?_
        obtain ⟨z42, e42, h⟩ := obind h
        refine g_vU3 mv_X3_26 dX3_mostTaken_42 (ok_6 hi0) ⟨by decide, by decide⟩ (Nat.le_of_ble_eq_true rfl) (f_X3_set_ok hi0 e42) ?_
        refine g_goto 113 dX3_mostTaken_45 rfl ?_
        refine g_inc4 kc_m1 dX3_mostTaken_113 ?_
        refine g_goto 15 dX3_mostTaken_116 rfl ?_
        exact ih h
      · replace h := gif_f q h
        refine g_iload dX3_mostTaken_28 rfl ?_
        refine g_aload_n dX3_mostTaken_30 rfl ?_
        refine gI_X3_21 (ok_10 hi2) dX3_mostTaken_31 ?_
        refine g_icmp_ne 48 dX3_mostTaken_34 rfl (fun q => ?_) (fun q => ?_)
        · replace h := gif_f q h
          refine g_aload_n dX3_mostTaken_48 rfl ?_
          refine g_iload_n dX3_mostTaken_49 rfl ?_
          obtain ⟨p50, e50, h⟩ := obind h
          refine g_vP1 mv_X3_30 dX3_mostTaken_50 (ok_8 hi1) ⟨by decide, by decide⟩ (Nat.le_of_ble_eq_true rfl) (f_X1_codeAt_ok hi1 e50) ?_
          refine g_aload_n dX3_mostTaken_53 rfl ?_
          refine g_iload dX3_mostTaken_54 rfl ?_
          obtain ⟨p56, e56, h⟩ := obind h
          refine g_vP1 mv_X3_34 dX3_mostTaken_56 (ok_10 hi2) ⟨by decide, by decide⟩ (Nat.le_of_ble_eq_true rfl) (f_X9_codeOf_ok hi2 e56) ?_
          refine g_icmp_ne 85 dX3_mostTaken_59 rfl (fun q => ?_) (fun q => ?_)
          · replace h := gif_f q h
            refine g_aload_n dX3_mostTaken_85 rfl ?_
            refine g_iload_n dX3_mostTaken_86 rfl ?_
            refine g_iload dX3_mostTaken_87 rfl ?_
            refine g_aload_n dX3_mostTaken_89 rfl ?_
            refine g_iload_n dX3_mostTaken_90 rfl ?_
            refine g_iconst dX3_mostTaken_91 kc_1 ?_
            refine g_iadd dX3_mostTaken_92 ?_
            refine g_iload dX3_mostTaken_93 rfl ?_
            obtain ⟨p95, e95, h⟩ := obind h
            refine g_vP2 mv_X3_37 dX3_mostTaken_95 (ok_6 hi0) ⟨by decide, by decide⟩ (Nat.le_of_ble_eq_true rfl) (f_X3_mostFrom_ok hi0 e95) ?_
            refine g_aload_n dX3_mostTaken_98 rfl ?_
            refine g_iload_n dX3_mostTaken_99 rfl ?_
            refine g_iload dX3_mostTaken_100 rfl ?_
            refine g_iconst dX3_mostTaken_102 kc_1 ?_
            refine g_iadd dX3_mostTaken_103 ?_
            obtain ⟨p104, e104, h⟩ := obind h
            refine g_vP2 mv_X3_37 dX3_mostTaken_104 (ok_6 hi0) ⟨by decide, by decide⟩ (Nat.le_of_ble_eq_true rfl) (f_X3_mostFrom_ok hi0 e104) ?_
            refine g_mmax mm_X3_41 (by decide) (by decide) (Nat.le_of_ble_eq_true rfl) dX3_mostTaken_107 ?_
            obtain ⟨z110, e110, h⟩ := obind h
            refine g_vU3 mv_X3_26 dX3_mostTaken_110 (ok_6 hi0) ⟨by decide, by decide⟩ (Nat.le_of_ble_eq_true rfl) (f_X3_set_ok hi0 e110) ?_
            refine g_inc4 kc_m1 dX3_mostTaken_113 ?_
            refine g_goto 15 dX3_mostTaken_116 rfl ?_
            exact ih h
          · replace h := gif_t q h
            refine g_aload_n dX3_mostTaken_62 rfl ?_
            refine g_iload_n dX3_mostTaken_63 rfl ?_
            refine g_iload dX3_mostTaken_64 rfl ?_
            refine g_iconst dX3_mostTaken_66 kc_1 ?_
            refine g_aload_n dX3_mostTaken_67 rfl ?_
            refine g_iload_n dX3_mostTaken_68 rfl ?_
            refine g_iconst dX3_mostTaken_69 kc_1 ?_
            refine g_iadd dX3_mostTaken_70 ?_
            refine g_iload dX3_mostTaken_71 rfl ?_
            refine g_iconst dX3_mostTaken_73 kc_1 ?_
            refine g_iadd dX3_mostTaken_74 ?_
            obtain ⟨p75, e75, h⟩ := obind h
            refine g_vP2 mv_X3_37 dX3_mostTaken_75 (ok_6 hi0) ⟨by decide, by decide⟩ (Nat.le_of_ble_eq_true rfl) (f_X3_mostFrom_ok hi0 e75) ?_
            refine g_iadd dX3_mostTaken_78 ?_
            obtain ⟨z79, e79, h⟩ := obind h
            refine g_vU3 mv_X3_26 dX3_mostTaken_79 (ok_6 hi0) ⟨by decide, by decide⟩ (Nat.le_of_ble_eq_true rfl) (f_X3_set_ok hi0 e79) ?_
            refine g_goto 113 dX3_mostTaken_82 rfl ?_
            refine g_inc4 kc_m1 dX3_mostTaken_113 ?_
            refine g_goto 15 dX3_mostTaken_116 rfl ?_
            exact ih h
        · replace h := gif_t q h
          refine g_aload_n dX3_mostTaken_37 rfl ?_
          refine g_iload_n dX3_mostTaken_38 rfl ?_
          refine g_iload dX3_mostTaken_39 rfl ?_
          refine g_iconst dX3_mostTaken_41 kc_0 ?_
          obtain ⟨z42, e42, h⟩ := obind h
          refine g_vU3 mv_X3_26 dX3_mostTaken_42 (ok_6 hi0) ⟨by decide, by decide⟩ (Nat.le_of_ble_eq_true rfl) (f_X3_set_ok hi0 e42) ?_
          refine g_goto 113 dX3_mostTaken_45 rfl ?_
          refine g_inc4 kc_m1 dX3_mostTaken_113 ?_
          refine g_goto 15 dX3_mostTaken_116 rfl ?_
          exact ih h
theorem f_X3_mostTaken_5_ok {i0 : Nat} {i1 : Nat} {i2 : Nat} {r : (Int32 × gSt)} (hi0 : i0 < 2) (hi1 : i1 < 6) (hi2 : i2 < 20) : ∀ (n : Nat) {v3 : Int32} {σ : gSt} {x4 : Option Value}, f_X3_mostTaken_5 i0 i1 i2 n v3 σ = some r → G l w 0 41 RX3 cX3_mostTaken 5 (some .int) 1 24 (gE (some (.int r.1)) r.2) 5 [some (.ref (w.2.1 6 i0)), some (.ref (w.2.1 8 i1)), some (.ref (w.2.1 10 i2)), some (.int v3), x4] [] σ := by
  intro n
  induction n with
  | zero => intro v3 σ x4 h; rw [f_X3_mostTaken_5] at h; cases h
  | succ n ih =>
    intro v3 σ x4 h
    rw [f_X3_mostTaken_5] at h
    refine g_iload_n dX3_mostTaken_5 rfl ?_
    refine g_if_lt 125 dX3_mostTaken_6 rfl (fun q => ?_) (fun q => ?_)
    · replace h := gif_t q h
      refine g_aload_n dX3_mostTaken_125 rfl ?_
      refine g_iconst dX3_mostTaken_126 kc_0 ?_
      refine g_iconst dX3_mostTaken_127 kc_0 ?_
      obtain ⟨p128, e128, h⟩ := obind h
      refine g_vP2 mv_X3_37 dX3_mostTaken_128 (ok_6 hi0) ⟨by decide, by decide⟩ (Nat.le_of_ble_eq_true rfl) (f_X3_mostFrom_ok hi0 e128) ?_
      cases h
      exact g_iret dX3_mostTaken_131 rfl ⟨rfl, rfl⟩
    · replace h := gif_f q h
      refine g_aload_n dX3_mostTaken_9 rfl ?_
      refine gI_X3_21 (ok_10 hi2) dX3_mostTaken_10 ?_
      refine g_istore4 dX3_mostTaken_13 ?_
      exact f_X3_mostTaken_15_ok hi0 hi1 hi2 (fun h => ih h) gFuel h
theorem f_X3_mostTaken_ok {i0 : Nat} {i1 : Nat} {i2 : Nat} (hi0 : i0 < 2) (hi1 : i1 < 6) (hi2 : i2 < 20) {σ : gSt} {r : (Int32 × gSt)} (h : f_X3_mostTaken i0 i1 i2 σ = some r) : Mt l w 0 41 yX3_mostTaken cX3_mostTaken 5 (some .int) 1 24 [.ref (w.2.1 6 i0), .ref (w.2.1 8 i1), .ref (w.2.1 10 i2)] σ (gE (some (.int r.1)) r.2) := by
  unfold f_X3_mostTaken at h
  refine g_start pn_X3 rfl rfl (Nat.le_of_ble_eq_true rfl) ?_
  show G l w 0 41 RX3 cX3_mostTaken 5 (some .int) 1 24 (gE (some (.int r.1)) r.2) 0 [some (.ref (w.2.1 6 i0)), some (.ref (w.2.1 8 i1)), some (.ref (w.2.1 10 i2)), none, none] [] σ
  refine g_aload_n dX3_mostTaken_0 rfl ?_
  refine gI_X3_15 (ok_8 hi1) dX3_mostTaken_1 ?_
  refine g_istore3 dX3_mostTaken_4 ?_
  exact f_X3_mostTaken_5_ok hi0 hi1 hi2 gFuel h
theorem dJ7_fill_53178_0 : decode cJ7_fill_53178 0 = .ok (.iconst 0, 1) := by decide +kernel
theorem dJ7_fill_53178_1 : decode cJ7_fill_53178 1 = .ok (.istore_n 2, 1) := by decide +kernel
theorem dJ7_fill_53178_2 : decode cJ7_fill_53178 2 = .ok (.aload_n 0, 1) := by decide +kernel
theorem dJ7_fill_53178_3 : decode cJ7_fill_53178 3 = .ok (.arraylength, 1) := by decide +kernel
theorem dJ7_fill_53178_4 : decode cJ7_fill_53178 4 = .ok (.istore_n 3, 1) := by decide +kernel
theorem dJ7_fill_53178_5 : decode cJ7_fill_53178 5 = .ok (.iload_n 2, 1) := by decide +kernel
theorem dJ7_fill_53178_6 : decode cJ7_fill_53178 6 = .ok (.iload_n 3, 1) := by decide +kernel
theorem dJ7_fill_53178_7 : decode cJ7_fill_53178 7 = .ok (.if_icmp .ge 13, 3) := by decide +kernel
theorem dJ7_fill_53178_10 : decode cJ7_fill_53178 10 = .ok (.aload_n 0, 1) := by decide +kernel
theorem dJ7_fill_53178_11 : decode cJ7_fill_53178 11 = .ok (.iload_n 2, 1) := by decide +kernel
theorem dJ7_fill_53178_12 : decode cJ7_fill_53178 12 = .ok (.iload_n 1, 1) := by decide +kernel
theorem dJ7_fill_53178_13 : decode cJ7_fill_53178 13 = .ok (.iastore, 1) := by decide +kernel
theorem dJ7_fill_53178_14 : decode cJ7_fill_53178 14 = .ok (.iinc 2 1, 3) := by decide +kernel
theorem dJ7_fill_53178_17 : decode cJ7_fill_53178 17 = .ok (.goto (-12), 3) := by decide +kernel
theorem dJ7_fill_53178_20 : decode cJ7_fill_53178 20 = .ok (.return_, 1) := by decide +kernel
def f_J7_fill_53178_k14_5 (i0 : Nat) (v1 : Int32) (v3 : Int32) : Nat → Int32 → gSt → Option gSt
  | 0, _, _ => none
  | n + 1, v2, σ =>
    if v3 ≤ v2 then
      some σ
    else
      (gst σ 14 i0 10 v2 v1).bind fun z13 =>
      f_J7_fill_53178_k14_5 i0 v1 v3 n (v2 + 1) z13
def f_J7_fill_53178_k14 (i0 : Nat) (v1 : Int32) (σ : gSt) : Option gSt :=
  f_J7_fill_53178_k14_5 i0 v1 10 gFuel 0 σ
theorem f_J7_fill_53178_k14_5_ok {i0 : Nat} {v1 : Int32} {v3 : Int32} {r : gSt} (hi0 : i0 < 20) : ∀ (n : Nat) {v2 : Int32} {σ : gSt} , f_J7_fill_53178_k14_5 i0 v1 v3 n v2 σ = some r → G l w 0 41 RJ7 cJ7_fill_53178 4 none 0 0 (gE none r) 5 [some (.ref (w.2.1 14 i0)), some (.int v1), some (.int v2), some (.int v3)] [] σ := by
  intro n
  induction n with
  | zero => intro v2 σ h; rw [f_J7_fill_53178_k14_5] at h; cases h
  | succ n ih =>
    intro v2 σ h
    rw [f_J7_fill_53178_k14_5] at h
    refine g_iload_n dJ7_fill_53178_5 rfl ?_
    refine g_iload_n dJ7_fill_53178_6 rfl ?_
    refine g_icmp_ge 20 dJ7_fill_53178_7 rfl (fun q => ?_) (fun q => ?_)
    · replace h := gif_t q h
      cases h
      exact g_vret dJ7_fill_53178_20 rfl ⟨rfl, rfl⟩
    · replace h := gif_f q h
      refine g_aload_n dJ7_fill_53178_10 rfl ?_
      refine g_iload_n dJ7_fill_53178_11 rfl ?_
      refine g_iload_n dJ7_fill_53178_12 rfl ?_
      obtain ⟨z13, e13, h⟩ := obind h
      refine g_stB e13 (ok_14 hi0) rfl rfl (by decide) dJ7_fill_53178_13 ?_
      refine g_inc2 kc_1 dJ7_fill_53178_14 ?_
      refine g_goto 5 dJ7_fill_53178_17 rfl ?_
      exact ih h
theorem f_J7_fill_53178_k14_ok {i0 : Nat} {v1 : Int32} (hi0 : i0 < 20) {σ : gSt} {r : gSt} (h : f_J7_fill_53178_k14 i0 v1 σ = some r) : Mt l w 0 41 yJ7_fill_53178 cJ7_fill_53178 4 none 0 0 [.ref (w.2.1 14 i0), .int v1] σ (gE none r) := by
  unfold f_J7_fill_53178_k14 at h
  refine g_start pn_J7 rfl rfl (Nat.le_of_ble_eq_true rfl) ?_
  show G l w 0 41 RJ7 cJ7_fill_53178 4 none 0 0 (gE none r) 0 [some (.ref (w.2.1 14 i0)), some (.int v1), none, none] [] σ
  refine g_iconst dJ7_fill_53178_0 kc_0 ?_
  refine g_istore2 dJ7_fill_53178_1 ?_
  refine g_aload_n dJ7_fill_53178_2 rfl ?_
  refine g_alenL nc_10 rfl rfl (ok_14 hi0) dJ7_fill_53178_3 ?_
  refine g_istore3 dJ7_fill_53178_4 ?_
  exact f_J7_fill_53178_k14_5_ok hi0 gFuel h
def f_J7_fill_53178_k13_5 (i0 : Nat) (v1 : Int32) (v3 : Int32) : Nat → Int32 → gSt → Option gSt
  | 0, _, _ => none
  | n + 1, v2, σ =>
    if v3 ≤ v2 then
      some σ
    else
      (gst σ 13 i0 16 v2 v1).bind fun z13 =>
      f_J7_fill_53178_k13_5 i0 v1 v3 n (v2 + 1) z13
def f_J7_fill_53178_k13 (i0 : Nat) (v1 : Int32) (σ : gSt) : Option gSt :=
  f_J7_fill_53178_k13_5 i0 v1 16 gFuel 0 σ
theorem f_J7_fill_53178_k13_5_ok {i0 : Nat} {v1 : Int32} {v3 : Int32} {r : gSt} (hi0 : i0 < 20) : ∀ (n : Nat) {v2 : Int32} {σ : gSt} , f_J7_fill_53178_k13_5 i0 v1 v3 n v2 σ = some r → G l w 0 41 RJ7 cJ7_fill_53178 4 none 0 0 (gE none r) 5 [some (.ref (w.2.1 13 i0)), some (.int v1), some (.int v2), some (.int v3)] [] σ := by
  intro n
  induction n with
  | zero => intro v2 σ h; rw [f_J7_fill_53178_k13_5] at h; cases h
  | succ n ih =>
    intro v2 σ h
    rw [f_J7_fill_53178_k13_5] at h
    refine g_iload_n dJ7_fill_53178_5 rfl ?_
    refine g_iload_n dJ7_fill_53178_6 rfl ?_
    refine g_icmp_ge 20 dJ7_fill_53178_7 rfl (fun q => ?_) (fun q => ?_)
    · replace h := gif_t q h
      cases h
      exact g_vret dJ7_fill_53178_20 rfl ⟨rfl, rfl⟩
    · replace h := gif_f q h
      refine g_aload_n dJ7_fill_53178_10 rfl ?_
      refine g_iload_n dJ7_fill_53178_11 rfl ?_
      refine g_iload_n dJ7_fill_53178_12 rfl ?_
      obtain ⟨z13, e13, h⟩ := obind h
      refine g_stB e13 (ok_13 hi0) rfl rfl (by decide) dJ7_fill_53178_13 ?_
      refine g_inc2 kc_1 dJ7_fill_53178_14 ?_
      refine g_goto 5 dJ7_fill_53178_17 rfl ?_
      exact ih h
theorem f_J7_fill_53178_k13_ok {i0 : Nat} {v1 : Int32} (hi0 : i0 < 20) {σ : gSt} {r : gSt} (h : f_J7_fill_53178_k13 i0 v1 σ = some r) : Mt l w 0 41 yJ7_fill_53178 cJ7_fill_53178 4 none 0 0 [.ref (w.2.1 13 i0), .int v1] σ (gE none r) := by
  unfold f_J7_fill_53178_k13 at h
  refine g_start pn_J7 rfl rfl (Nat.le_of_ble_eq_true rfl) ?_
  show G l w 0 41 RJ7 cJ7_fill_53178 4 none 0 0 (gE none r) 0 [some (.ref (w.2.1 13 i0)), some (.int v1), none, none] [] σ
  refine g_iconst dJ7_fill_53178_0 kc_0 ?_
  refine g_istore2 dJ7_fill_53178_1 ?_
  refine g_aload_n dJ7_fill_53178_2 rfl ?_
  refine g_alenL nc_16 rfl rfl (ok_13 hi0) dJ7_fill_53178_3 ?_
  refine g_istore3 dJ7_fill_53178_4 ?_
  exact f_J7_fill_53178_k13_5_ok hi0 gFuel h
theorem dX9_unmatch_0 : decode cX9_unmatch 0 = .ok (.aload_n 0, 1) := by decide +kernel
theorem dX9_unmatch_1 : decode cX9_unmatch 1 = .ok (.iload_n 1, 1) := by decide +kernel
theorem dX9_unmatch_2 : decode cX9_unmatch 2 = .ok (.putfield 42, 3) := by decide +kernel
theorem dX9_unmatch_5 : decode cX9_unmatch 5 = .ok (.aload_n 0, 1) := by decide +kernel
theorem dX9_unmatch_6 : decode cX9_unmatch 6 = .ok (.iconst 0, 1) := by decide +kernel
theorem dX9_unmatch_7 : decode cX9_unmatch 7 = .ok (.putfield 45, 3) := by decide +kernel
theorem dX9_unmatch_10 : decode cX9_unmatch 10 = .ok (.aload_n 0, 1) := by decide +kernel
theorem dX9_unmatch_11 : decode cX9_unmatch 11 = .ok (.getfield 21, 3) := by decide +kernel
theorem dX9_unmatch_14 : decode cX9_unmatch 14 = .ok (.iconst (-1), 1) := by decide +kernel
theorem dX9_unmatch_15 : decode cX9_unmatch 15 = .ok (.invokestatic 69, 3) := by decide +kernel
theorem dX9_unmatch_18 : decode cX9_unmatch 18 = .ok (.aload_n 0, 1) := by decide +kernel
theorem dX9_unmatch_19 : decode cX9_unmatch 19 = .ok (.getfield 18, 3) := by decide +kernel
theorem dX9_unmatch_22 : decode cX9_unmatch 22 = .ok (.iconst (-1), 1) := by decide +kernel
theorem dX9_unmatch_23 : decode cX9_unmatch 23 = .ok (.invokestatic 69, 3) := by decide +kernel
theorem dX9_unmatch_26 : decode cX9_unmatch 26 = .ok (.return_, 1) := by decide +kernel
def f_X9_unmatch (i0 : Nat) (v1 : Int32) (σ : gSt) : Option gSt :=
  (f_J7_fill_53178_k14 i0 (-1) (gup (gup σ 10 i0 9 v1) 10 i0 10 0)).bind fun z15 =>
  (f_J7_fill_53178_k13 i0 (-1) z15).bind fun z23 =>
  some z23
theorem f_X9_unmatch_ok {i0 : Nat} {v1 : Int32} (hi0 : i0 < 20) {σ : gSt} {r : gSt} (h : f_X9_unmatch i0 v1 σ = some r) : Mt l w 0 41 yX9_unmatch cX9_unmatch 2 none 1 23 [.ref (w.2.1 10 i0), .int v1] σ (gE none r) := by
  unfold f_X9_unmatch at h
  refine g_start pn_X9 rfl rfl (Nat.le_of_ble_eq_true rfl) ?_
  show G l w 0 41 RX9 cX9_unmatch 2 none 1 23 (gE none r) 0 [some (.ref (w.2.1 10 i0)), some (.int v1)] [] σ
  refine g_aload_n dX9_unmatch_0 rfl ?_
  refine g_iload_n dX9_unmatch_1 rfl ?_
  refine gP_X9_42 (ok_10 hi0) dX9_unmatch_2 ?_
  refine g_aload_n dX9_unmatch_5 rfl ?_
  refine g_iconst dX9_unmatch_6 kc_0 ?_
  refine gP_X9_45 (ok_10 hi0) dX9_unmatch_7 ?_
  refine g_aload_n dX9_unmatch_10 rfl ?_
  refine gR_X9_21 (ok_10 hi0) dX9_unmatch_11 ?_
  refine g_iconst dX9_unmatch_14 kc_m1 ?_
  obtain ⟨z15, e15, h⟩ := obind h
  refine g_sU2 ms_X9_69 dX9_unmatch_15 ⟨by decide, by decide⟩ (Nat.le_of_ble_eq_true rfl) (f_J7_fill_53178_k14_ok hi0 e15) ?_
  refine g_aload_n dX9_unmatch_18 rfl ?_
  refine gR_X9_18 (ok_10 hi0) dX9_unmatch_19 ?_
  refine g_iconst dX9_unmatch_22 kc_m1 ?_
  obtain ⟨z23, e23, h⟩ := obind h
  refine g_sU2 ms_X9_69 dX9_unmatch_23 ⟨by decide, by decide⟩ (Nat.le_of_ble_eq_true rfl) (f_J7_fill_53178_k13_ok hi0 e23) ?_
  cases h
  exact g_vret dX9_unmatch_26 rfl ⟨rfl, rfl⟩
theorem dX3_match_0 : decode cX3_match 0 = .ok (.aload_n 0, 1) := by decide +kernel
theorem dX3_match_1 : decode cX3_match 1 = .ok (.aload_n 1, 1) := by decide +kernel
theorem dX3_match_2 : decode cX3_match 2 = .ok (.aload_n 2, 1) := by decide +kernel
theorem dX3_match_3 : decode cX3_match 3 = .ok (.invokevirtual 46, 3) := by decide +kernel
theorem dX3_match_6 : decode cX3_match 6 = .ok (.pop, 1) := by decide +kernel
theorem dX3_match_7 : decode cX3_match 7 = .ok (.aload_n 2, 1) := by decide +kernel
theorem dX3_match_8 : decode cX3_match 8 = .ok (.aload_n 1, 1) := by decide +kernel
theorem dX3_match_9 : decode cX3_match 9 = .ok (.getfield 15, 3) := by decide +kernel
theorem dX3_match_12 : decode cX3_match 12 = .ok (.invokevirtual 50, 3) := by decide +kernel
theorem dX3_match_15 : decode cX3_match 15 = .ok (.iconst 0, 1) := by decide +kernel
theorem dX3_match_16 : decode cX3_match 16 = .ok (.istore_n 3, 1) := by decide +kernel
theorem dX3_match_17 : decode cX3_match 17 = .ok (.iconst 0, 1) := by decide +kernel
theorem dX3_match_18 : decode cX3_match 18 = .ok (.istore 4, 2) := by decide +kernel
theorem dX3_match_20 : decode cX3_match 20 = .ok (.iload 4, 2) := by decide +kernel
theorem dX3_match_22 : decode cX3_match 22 = .ok (.aload_n 1, 1) := by decide +kernel
theorem dX3_match_23 : decode cX3_match 23 = .ok (.getfield 15, 3) := by decide +kernel
theorem dX3_match_26 : decode cX3_match 26 = .ok (.if_icmp .ge 65, 3) := by decide +kernel
theorem dX3_match_29 : decode cX3_match 29 = .ok (.aload_n 2, 1) := by decide +kernel
theorem dX3_match_30 : decode cX3_match 30 = .ok (.aload_n 1, 1) := by decide +kernel
theorem dX3_match_31 : decode cX3_match 31 = .ok (.iload 4, 2) := by decide +kernel
theorem dX3_match_33 : decode cX3_match 33 = .ok (.invokevirtual 30, 3) := by decide +kernel
theorem dX3_match_36 : decode cX3_match 36 = .ok (.iload_n 3, 1) := by decide +kernel
theorem dX3_match_37 : decode cX3_match 37 = .ok (.invokevirtual 54, 3) := by decide +kernel
theorem dX3_match_40 : decode cX3_match 40 = .ok (.istore 5, 2) := by decide +kernel
theorem dX3_match_42 : decode cX3_match 42 = .ok (.iload 5, 2) := by decide +kernel
theorem dX3_match_44 : decode cX3_match 44 = .ok (.iconst (-1), 1) := by decide +kernel
theorem dX3_match_45 : decode cX3_match 45 = .ok (.if_icmp .eq 40, 3) := by decide +kernel
theorem dX3_match_48 : decode cX3_match 48 = .ok (.iconst 1, 1) := by decide +kernel
theorem dX3_match_49 : decode cX3_match 49 = .ok (.aload_n 0, 1) := by decide +kernel
theorem dX3_match_50 : decode cX3_match 50 = .ok (.iload 4, 2) := by decide +kernel
theorem dX3_match_52 : decode cX3_match 52 = .ok (.iconst 1, 1) := by decide +kernel
theorem dX3_match_53 : decode cX3_match 53 = .ok (.iadd, 1) := by decide +kernel
theorem dX3_match_54 : decode cX3_match 54 = .ok (.iload 5, 2) := by decide +kernel
theorem dX3_match_56 : decode cX3_match 56 = .ok (.iconst 1, 1) := by decide +kernel
theorem dX3_match_57 : decode cX3_match 57 = .ok (.iadd, 1) := by decide +kernel
theorem dX3_match_58 : decode cX3_match 58 = .ok (.invokevirtual 37, 3) := by decide +kernel
theorem dX3_match_61 : decode cX3_match 61 = .ok (.iadd, 1) := by decide +kernel
theorem dX3_match_62 : decode cX3_match 62 = .ok (.aload_n 0, 1) := by decide +kernel
theorem dX3_match_63 : decode cX3_match 63 = .ok (.iload 4, 2) := by decide +kernel
theorem dX3_match_65 : decode cX3_match 65 = .ok (.iload_n 3, 1) := by decide +kernel
theorem dX3_match_66 : decode cX3_match 66 = .ok (.invokevirtual 37, 3) := by decide +kernel
theorem dX3_match_69 : decode cX3_match 69 = .ok (.if_icmp .ne 16, 3) := by decide +kernel
theorem dX3_match_72 : decode cX3_match 72 = .ok (.aload_n 2, 1) := by decide +kernel
theorem dX3_match_73 : decode cX3_match 73 = .ok (.iload 4, 2) := by decide +kernel
theorem dX3_match_75 : decode cX3_match 75 = .ok (.iload 5, 2) := by decide +kernel
theorem dX3_match_77 : decode cX3_match 77 = .ok (.invokevirtual 57, 3) := by decide +kernel
theorem dX3_match_80 : decode cX3_match 80 = .ok (.iload 5, 2) := by decide +kernel
theorem dX3_match_82 : decode cX3_match 82 = .ok (.iconst 1, 1) := by decide +kernel
theorem dX3_match_83 : decode cX3_match 83 = .ok (.iadd, 1) := by decide +kernel
theorem dX3_match_84 : decode cX3_match 84 = .ok (.istore_n 3, 1) := by decide +kernel
theorem dX3_match_85 : decode cX3_match 85 = .ok (.iinc 4 1, 3) := by decide +kernel
theorem dX3_match_88 : decode cX3_match 88 = .ok (.goto (-68), 3) := by decide +kernel
theorem dX3_match_91 : decode cX3_match 91 = .ok (.return_, 1) := by decide +kernel
def f_X3_match_20 (i0 : Nat) (i1 : Nat) (i2 : Nat) : Nat → Int32 → Int32 → gSt → Option gSt
  | 0, _, _, _ => none
  | n + 1, v3, v4, σ =>
    if (σ 8 i1 2) ≤ v4 then
      some σ
    else
      (f_X1_codeAt i1 v4 σ).bind fun p33 =>
      (f_X9_firstOf i2 p33.1 v3 p33.2).bind fun p37 =>
      if p37.1 = (-1) then
        f_X3_match_20 i0 i1 i2 n v3 (v4 + 1) p37.2
      else
        (f_X3_mostFrom i0 (v4 + 1) (p37.1 + 1) p37.2).bind fun p58 =>
        (f_X3_mostFrom i0 v4 v3 p58.2).bind fun p66 =>
        if (1 + p58.1) = p66.1 then
          (f_X9_take i2 v4 p37.1 p66.2).bind fun z77 =>
          f_X3_match_20 i0 i1 i2 n (p37.1 + 1) (v4 + 1) z77
        else
          f_X3_match_20 i0 i1 i2 n v3 (v4 + 1) p66.2
def f_X3_match (i0 : Nat) (i1 : Nat) (i2 : Nat) (σ : gSt) : Option gSt :=
  (f_X3_mostTaken i0 i1 i2 σ).bind fun p3 =>
  (f_X9_unmatch i2 (p3.2 8 i1 2) p3.2).bind fun z12 =>
  f_X3_match_20 i0 i1 i2 gFuel 0 0 z12
theorem f_X3_match_20_ok {i0 : Nat} {i1 : Nat} {i2 : Nat} {r : gSt} (hi0 : i0 < 2) (hi1 : i1 < 6) (hi2 : i2 < 20) : ∀ (n : Nat) {v3 : Int32} {v4 : Int32} {σ : gSt} {x5 : Option Value}, f_X3_match_20 i0 i1 i2 n v3 v4 σ = some r → G l w 0 41 RX3 cX3_match 6 none 2 48 (gE none r) 20 [some (.ref (w.2.1 6 i0)), some (.ref (w.2.1 8 i1)), some (.ref (w.2.1 10 i2)), some (.int v3), some (.int v4), x5] [] σ := by
  intro n
  induction n with
  | zero => intro v3 v4 σ x5 h; rw [f_X3_match_20] at h; cases h
  | succ n ih =>
    intro v3 v4 σ x5 h
    rw [f_X3_match_20] at h
    refine g_iload dX3_match_20 rfl ?_
    refine g_aload_n dX3_match_22 rfl ?_
    refine gI_X3_15 (ok_8 hi1) dX3_match_23 ?_
    refine g_icmp_ge 91 dX3_match_26 rfl (fun q => ?_) (fun q => ?_)
    · replace h := gif_t q h
      cases h
      exact g_vret dX3_match_91 rfl ⟨rfl, rfl⟩
    · replace h := gif_f q h
      refine g_aload_n dX3_match_29 rfl ?_
      refine g_aload_n dX3_match_30 rfl ?_
      refine g_iload dX3_match_31 rfl ?_
      obtain ⟨p33, e33, h⟩ := obind h
      refine g_vP1 mv_X3_30 dX3_match_33 (ok_8 hi1) ⟨by decide, by decide⟩ (Nat.le_of_ble_eq_true rfl) (f_X1_codeAt_ok hi1 e33) ?_
      refine g_iload_n dX3_match_36 rfl ?_
      obtain ⟨p37, e37, h⟩ := obind h
      refine g_vP2 mv_X3_54 dX3_match_37 (ok_10 hi2) ⟨by decide, by decide⟩ (Nat.le_of_ble_eq_true rfl) (f_X9_firstOf_ok hi2 e37) ?_
      refine g_istore5 dX3_match_40 ?_
      refine g_iload dX3_match_42 rfl ?_
      refine g_iconst dX3_match_44 kc_m1 ?_
      refine g_icmp_eq 85 dX3_match_45 rfl (fun q => ?_) (fun q => ?_)
      · replace h := gif_t q h
        refine g_inc4 kc_1 dX3_match_85 ?_
        refine g_goto 20 dX3_match_88 rfl ?_
        exact ih h
      · replace h := gif_f q h
        refine g_iconst dX3_match_48 kc_1 ?_
        refine g_aload_n dX3_match_49 rfl ?_
        refine g_iload dX3_match_50 rfl ?_
        refine g_iconst dX3_match_52 kc_1 ?_
        refine g_iadd dX3_match_53 ?_
        refine g_iload dX3_match_54 rfl ?_
        refine g_iconst dX3_match_56 kc_1 ?_
        refine g_iadd dX3_match_57 ?_
        obtain ⟨p58, e58, h⟩ := obind h
        refine g_vP2 mv_X3_37 dX3_match_58 (ok_6 hi0) ⟨by decide, by decide⟩ (Nat.le_of_ble_eq_true rfl) (f_X3_mostFrom_ok hi0 e58) ?_
        refine g_iadd dX3_match_61 ?_
        refine g_aload_n dX3_match_62 rfl ?_
        refine g_iload dX3_match_63 rfl ?_
        refine g_iload_n dX3_match_65 rfl ?_
        obtain ⟨p66, e66, h⟩ := obind h
        refine g_vP2 mv_X3_37 dX3_match_66 (ok_6 hi0) ⟨by decide, by decide⟩ (Nat.le_of_ble_eq_true rfl) (f_X3_mostFrom_ok hi0 e66) ?_
        refine g_icmp_ne 85 dX3_match_69 rfl (fun q => ?_) (fun q => ?_)
        · replace h := gif_f q h
          refine g_inc4 kc_1 dX3_match_85 ?_
          refine g_goto 20 dX3_match_88 rfl ?_
          exact ih h
        · replace h := gif_t q h
          refine g_aload_n dX3_match_72 rfl ?_
          refine g_iload dX3_match_73 rfl ?_
          refine g_iload dX3_match_75 rfl ?_
          obtain ⟨z77, e77, h⟩ := obind h
          refine g_vU2 mv_X3_57 dX3_match_77 (ok_10 hi2) ⟨by decide, by decide⟩ (Nat.le_of_ble_eq_true rfl) (f_X9_take_ok hi2 e77) ?_
          refine g_iload dX3_match_80 rfl ?_
          refine g_iconst dX3_match_82 kc_1 ?_
          refine g_iadd dX3_match_83 ?_
          refine g_istore3 dX3_match_84 ?_
          refine g_inc4 kc_1 dX3_match_85 ?_
          refine g_goto 20 dX3_match_88 rfl ?_
          exact ih h
theorem f_X3_match_ok {i0 : Nat} {i1 : Nat} {i2 : Nat} (hi0 : i0 < 2) (hi1 : i1 < 6) (hi2 : i2 < 20) {σ : gSt} {r : gSt} (h : f_X3_match i0 i1 i2 σ = some r) : Mt l w 0 41 yX3_match cX3_match 6 none 2 48 [.ref (w.2.1 6 i0), .ref (w.2.1 8 i1), .ref (w.2.1 10 i2)] σ (gE none r) := by
  unfold f_X3_match at h
  refine g_start pn_X3 rfl rfl (Nat.le_of_ble_eq_true rfl) ?_
  show G l w 0 41 RX3 cX3_match 6 none 2 48 (gE none r) 0 [some (.ref (w.2.1 6 i0)), some (.ref (w.2.1 8 i1)), some (.ref (w.2.1 10 i2)), none, none, none] [] σ
  refine g_aload_n dX3_match_0 rfl ?_
  refine g_aload_n dX3_match_1 rfl ?_
  refine g_aload_n dX3_match_2 rfl ?_
  obtain ⟨p3, e3, h⟩ := obind h
  refine g_vP2 mv_X3_46 dX3_match_3 (ok_6 hi0) ⟨by decide, by decide⟩ (Nat.le_of_ble_eq_true rfl) (f_X3_mostTaken_ok hi0 hi1 hi2 e3) ?_
  refine g_pop dX3_match_6 rfl ?_
  refine g_aload_n dX3_match_7 rfl ?_
  refine g_aload_n dX3_match_8 rfl ?_
  refine gI_X3_15 (ok_8 hi1) dX3_match_9 ?_
  obtain ⟨z12, e12, h⟩ := obind h
  refine g_vU1 mv_X3_50 dX3_match_12 (ok_10 hi2) ⟨by decide, by decide⟩ (Nat.le_of_ble_eq_true rfl) (f_X9_unmatch_ok hi2 e12) ?_
  refine g_iconst dX3_match_15 kc_0 ?_
  refine g_istore3 dX3_match_16 ?_
  refine g_iconst dX3_match_17 kc_0 ?_
  refine g_istore4 dX3_match_18 ?_
  exact f_X3_match_20_ok hi0 hi1 hi2 gFuel h
theorem dX4_matchRunner_0 : decode cX4_matchRunner 0 = .ok (.aload_n 0, 1) := by decide +kernel
theorem dX4_matchRunner_1 : decode cX4_matchRunner 1 = .ok (.getfield 26, 3) := by decide +kernel
theorem dX4_matchRunner_4 : decode cX4_matchRunner 4 = .ok (.aload_n 0, 1) := by decide +kernel
theorem dX4_matchRunner_5 : decode cX4_matchRunner 5 = .ok (.aload_n 0, 1) := by decide +kernel
theorem dX4_matchRunner_6 : decode cX4_matchRunner 6 = .ok (.iload_n 1, 1) := by decide +kernel
theorem dX4_matchRunner_7 : decode cX4_matchRunner 7 = .ok (.invokevirtual 53, 3) := by decide +kernel
theorem dX4_matchRunner_10 : decode cX4_matchRunner 10 = .ok (.getfield 86, 3) := by decide +kernel
theorem dX4_matchRunner_13 : decode cX4_matchRunner 13 = .ok (.invokevirtual 45, 3) := by decide +kernel
theorem dX4_matchRunner_16 : decode cX4_matchRunner 16 = .ok (.aload_n 0, 1) := by decide +kernel
theorem dX4_matchRunner_17 : decode cX4_matchRunner 17 = .ok (.iload_n 1, 1) := by decide +kernel
theorem dX4_matchRunner_18 : decode cX4_matchRunner 18 = .ok (.invokevirtual 53, 3) := by decide +kernel
theorem dX4_matchRunner_21 : decode cX4_matchRunner 21 = .ok (.invokevirtual 142, 3) := by decide +kernel
theorem dX4_matchRunner_24 : decode cX4_matchRunner 24 = .ok (.return_, 1) := by decide +kernel
def f_X4_matchRunner (i0 : Nat) (v1 : Int32) (σ : gSt) : Option gSt :=
  (f_X4_runnerAt i0 v1 σ).bind fun p7 =>
  (f_X4_courseAt i0 (p7.2 10 p7.1 5) p7.2).bind fun p13 =>
  (f_X4_runnerAt i0 v1 p13.2).bind fun p18 =>
  (f_X3_match i0 p13.1 p18.1 p18.2).bind fun z21 =>
  some z21
theorem f_X4_matchRunner_ok {i0 : Nat} {v1 : Int32} (hi0 : i0 < 2) {σ : gSt} {r : gSt} (h : f_X4_matchRunner i0 v1 σ = some r) : Mt l w 0 41 yX4_matchRunner cX4_matchRunner 2 none 3 73 [.ref (w.2.1 3 i0), .int v1] σ (gE none r) := by
  unfold f_X4_matchRunner at h
  refine g_start pn_X4 rfl rfl (Nat.le_of_ble_eq_true rfl) ?_
  show G l w 0 41 RX4 cX4_matchRunner 2 none 3 73 (gE none r) 0 [some (.ref (w.2.1 3 i0)), some (.int v1)] [] σ
  refine g_aload_n dX4_matchRunner_0 rfl ?_
  refine gR_X4_26 (ok_3 hi0) dX4_matchRunner_1 ?_
  refine g_aload_n dX4_matchRunner_4 rfl ?_
  refine g_aload_n dX4_matchRunner_5 rfl ?_
  refine g_iload_n dX4_matchRunner_6 rfl ?_
  obtain ⟨p7, e7, h⟩ := obind h
  refine g_vR1 mv_X4_53 dX4_matchRunner_7 (ok_3 hi0) ⟨by decide, by decide⟩ (Nat.le_of_ble_eq_true rfl) (f_X4_runnerAt_ok hi0 e7) (fun b7 => ?_)
  refine gI_X4_86 (ok_10 b7) dX4_matchRunner_10 ?_
  obtain ⟨p13, e13, h⟩ := obind h
  refine g_vR1 mv_X4_45 dX4_matchRunner_13 (ok_3 hi0) ⟨by decide, by decide⟩ (Nat.le_of_ble_eq_true rfl) (f_X4_courseAt_ok hi0 e13) (fun b13 => ?_)
  refine g_aload_n dX4_matchRunner_16 rfl ?_
  refine g_iload_n dX4_matchRunner_17 rfl ?_
  obtain ⟨p18, e18, h⟩ := obind h
  refine g_vR1 mv_X4_53 dX4_matchRunner_18 (ok_3 hi0) ⟨by decide, by decide⟩ (Nat.le_of_ble_eq_true rfl) (f_X4_runnerAt_ok hi0 e18) (fun b18 => ?_)
  obtain ⟨z21, e21, h⟩ := obind h
  refine g_vU2 mv_X4_142 dX4_matchRunner_21 (ok_6 hi0) ⟨by decide, by decide⟩ (Nat.le_of_ble_eq_true rfl) (f_X3_match_ok hi0 b13 b18 e21) ?_
  cases h
  exact g_vret dX4_matchRunner_24 rfl ⟨rfl, rfl⟩
theorem dX4_removePunch_0 : decode cX4_removePunch 0 = .ok (.aload_n 0, 1) := by decide +kernel
theorem dX4_removePunch_1 : decode cX4_removePunch 1 = .ok (.iload_n 1, 1) := by decide +kernel
theorem dX4_removePunch_2 : decode cX4_removePunch 2 = .ok (.invokevirtual 53, 3) := by decide +kernel
theorem dX4_removePunch_5 : decode cX4_removePunch 5 = .ok (.iload_n 2, 1) := by decide +kernel
theorem dX4_removePunch_6 : decode cX4_removePunch 6 = .ok (.invokevirtual 129, 3) := by decide +kernel
theorem dX4_removePunch_9 : decode cX4_removePunch 9 = .ok (.aload_n 0, 1) := by decide +kernel
theorem dX4_removePunch_10 : decode cX4_removePunch 10 = .ok (.iload_n 1, 1) := by decide +kernel
theorem dX4_removePunch_11 : decode cX4_removePunch 11 = .ok (.invokevirtual 60, 3) := by decide +kernel
theorem dX4_removePunch_14 : decode cX4_removePunch 14 = .ok (.return_, 1) := by decide +kernel
def f_X4_removePunch (i0 : Nat) (v1 : Int32) (v2 : Int32) (σ : gSt) : Option gSt :=
  (f_X4_runnerAt i0 v1 σ).bind fun p2 =>
  (f_X9_remove p2.1 v2 p2.2).bind fun z6 =>
  (f_X4_matchRunner i0 v1 z6).bind fun z11 =>
  some z11
theorem f_X4_removePunch_ok {i0 : Nat} {v1 : Int32} {v2 : Int32} (hi0 : i0 < 2) {σ : gSt} {r : gSt} (h : f_X4_removePunch i0 v1 v2 σ = some r) : Mt l w 0 41 yX4_removePunch cX4_removePunch 3 none 4 94 [.ref (w.2.1 3 i0), .int v1, .int v2] σ (gE none r) := by
  unfold f_X4_removePunch at h
  refine g_start pn_X4 rfl rfl (Nat.le_of_ble_eq_true rfl) ?_
  show G l w 0 41 RX4 cX4_removePunch 3 none 4 94 (gE none r) 0 [some (.ref (w.2.1 3 i0)), some (.int v1), some (.int v2)] [] σ
  refine g_aload_n dX4_removePunch_0 rfl ?_
  refine g_iload_n dX4_removePunch_1 rfl ?_
  obtain ⟨p2, e2, h⟩ := obind h
  refine g_vR1 mv_X4_53 dX4_removePunch_2 (ok_3 hi0) ⟨by decide, by decide⟩ (Nat.le_of_ble_eq_true rfl) (f_X4_runnerAt_ok hi0 e2) (fun b2 => ?_)
  refine g_iload_n dX4_removePunch_5 rfl ?_
  obtain ⟨z6, e6, h⟩ := obind h
  refine g_vU1 mv_X4_129 dX4_removePunch_6 (ok_10 b2) ⟨by decide, by decide⟩ (Nat.le_of_ble_eq_true rfl) (f_X9_remove_ok b2 e6) ?_
  refine g_aload_n dX4_removePunch_9 rfl ?_
  refine g_iload_n dX4_removePunch_10 rfl ?_
  obtain ⟨z11, e11, h⟩ := obind h
  refine g_vU1 mv_X4_60 dX4_removePunch_11 (ok_3 hi0) ⟨by decide, by decide⟩ (Nat.le_of_ble_eq_true rfl) (f_X4_matchRunner_ok hi0 e11) ?_
  cases h
  exact g_vret dX4_removePunch_14 rfl ⟨rfl, rfl⟩
theorem dX9_insert_0 : decode cX9_insert 0 = .ok (.aload_n 0, 1) := by decide +kernel
theorem dX9_insert_1 : decode cX9_insert 1 = .ok (.getfield 39, 3) := by decide +kernel
theorem dX9_insert_4 : decode cX9_insert 4 = .ok (.aload_n 0, 1) := by decide +kernel
theorem dX9_insert_5 : decode cX9_insert 5 = .ok (.getfield 9, 3) := by decide +kernel
theorem dX9_insert_8 : decode cX9_insert 8 = .ok (.arraylength, 1) := by decide +kernel
theorem dX9_insert_9 : decode cX9_insert 9 = .ok (.if_icmp .lt 4, 3) := by decide +kernel
theorem dX9_insert_12 : decode cX9_insert 12 = .ok (.return_, 1) := by decide +kernel
theorem dX9_insert_13 : decode cX9_insert 13 = .ok (.aload_n 0, 1) := by decide +kernel
theorem dX9_insert_14 : decode cX9_insert 14 = .ok (.dup, 1) := by decide +kernel
theorem dX9_insert_15 : decode cX9_insert 15 = .ok (.getfield 39, 3) := by decide +kernel
theorem dX9_insert_18 : decode cX9_insert 18 = .ok (.iconst 1, 1) := by decide +kernel
theorem dX9_insert_19 : decode cX9_insert 19 = .ok (.iadd, 1) := by decide +kernel
theorem dX9_insert_20 : decode cX9_insert 20 = .ok (.putfield 39, 3) := by decide +kernel
theorem dX9_insert_23 : decode cX9_insert 23 = .ok (.aload_n 0, 1) := by decide +kernel
theorem dX9_insert_24 : decode cX9_insert 24 = .ok (.getfield 39, 3) := by decide +kernel
theorem dX9_insert_27 : decode cX9_insert 27 = .ok (.iconst 1, 1) := by decide +kernel
theorem dX9_insert_28 : decode cX9_insert 28 = .ok (.isub, 1) := by decide +kernel
theorem dX9_insert_29 : decode cX9_insert 29 = .ok (.istore 4, 2) := by decide +kernel
theorem dX9_insert_31 : decode cX9_insert 31 = .ok (.iload 4, 2) := by decide +kernel
theorem dX9_insert_33 : decode cX9_insert 33 = .ok (.iload_n 1, 1) := by decide +kernel
theorem dX9_insert_34 : decode cX9_insert 34 = .ok (.if_icmp .le 31, 3) := by decide +kernel
theorem dX9_insert_37 : decode cX9_insert 37 = .ok (.aload_n 0, 1) := by decide +kernel
theorem dX9_insert_38 : decode cX9_insert 38 = .ok (.iload 4, 2) := by decide +kernel
theorem dX9_insert_40 : decode cX9_insert 40 = .ok (.aload_n 0, 1) := by decide +kernel
theorem dX9_insert_41 : decode cX9_insert 41 = .ok (.iload 4, 2) := by decide +kernel
theorem dX9_insert_43 : decode cX9_insert 43 = .ok (.iconst 1, 1) := by decide +kernel
theorem dX9_insert_44 : decode cX9_insert 44 = .ok (.isub, 1) := by decide +kernel
theorem dX9_insert_45 : decode cX9_insert 45 = .ok (.invokevirtual 54, 3) := by decide +kernel
theorem dX9_insert_48 : decode cX9_insert 48 = .ok (.aload_n 0, 1) := by decide +kernel
theorem dX9_insert_49 : decode cX9_insert 49 = .ok (.iload 4, 2) := by decide +kernel
theorem dX9_insert_51 : decode cX9_insert 51 = .ok (.iconst 1, 1) := by decide +kernel
theorem dX9_insert_52 : decode cX9_insert 52 = .ok (.isub, 1) := by decide +kernel
theorem dX9_insert_53 : decode cX9_insert 53 = .ok (.invokevirtual 58, 3) := by decide +kernel
theorem dX9_insert_56 : decode cX9_insert 56 = .ok (.invokevirtual 61, 3) := by decide +kernel
theorem dX9_insert_59 : decode cX9_insert 59 = .ok (.iinc 4 (-1), 3) := by decide +kernel
theorem dX9_insert_62 : decode cX9_insert 62 = .ok (.goto (-31), 3) := by decide +kernel
theorem dX9_insert_65 : decode cX9_insert 65 = .ok (.aload_n 0, 1) := by decide +kernel
theorem dX9_insert_66 : decode cX9_insert 66 = .ok (.iload_n 1, 1) := by decide +kernel
theorem dX9_insert_67 : decode cX9_insert 67 = .ok (.iload_n 2, 1) := by decide +kernel
theorem dX9_insert_68 : decode cX9_insert 68 = .ok (.iload_n 3, 1) := by decide +kernel
theorem dX9_insert_69 : decode cX9_insert 69 = .ok (.invokevirtual 61, 3) := by decide +kernel
theorem dX9_insert_72 : decode cX9_insert 72 = .ok (.return_, 1) := by decide +kernel
def f_X9_insert_31 (i0 : Nat) (v1 : Int32) (v2 : Int32) (v3 : Int32) : Nat → Int32 → gSt → Option gSt
  | 0, _, _ => none
  | n + 1, v4, σ =>
    if v4 ≤ v1 then
      (f_X9_set i0 v1 v2 v3 σ).bind fun z69 =>
      some z69
    else
      (f_X9_codeOf i0 (v4 - 1) σ).bind fun p45 =>
      (f_X9_timeOf i0 (v4 - 1) p45.2).bind fun p53 =>
      (f_X9_set i0 v4 p45.1 p53.1 p53.2).bind fun z56 =>
      f_X9_insert_31 i0 v1 v2 v3 n (v4 + (-1)) z56
def f_X9_insert (i0 : Nat) (v1 : Int32) (v2 : Int32) (v3 : Int32) (σ : gSt) : Option gSt :=
  if (σ 10 i0 8) < 16 then
    f_X9_insert_31 i0 v1 v2 v3 gFuel (((gup σ 10 i0 8 ((σ 10 i0 8) + 1)) 10 i0 8) - 1) (gup σ 10 i0 8 ((σ 10 i0 8) + 1))
  else
    some σ
theorem f_X9_insert_31_ok {i0 : Nat} {v1 : Int32} {v2 : Int32} {v3 : Int32} {r : gSt} (hi0 : i0 < 20) : ∀ (n : Nat) {v4 : Int32} {σ : gSt} , f_X9_insert_31 i0 v1 v2 v3 n v4 σ = some r → G l w 0 41 RX9 cX9_insert 5 none 1 23 (gE none r) 31 [some (.ref (w.2.1 10 i0)), some (.int v1), some (.int v2), some (.int v3), some (.int v4)] [] σ := by
  intro n
  induction n with
  | zero => intro v4 σ h; rw [f_X9_insert_31] at h; cases h
  | succ n ih =>
    intro v4 σ h
    rw [f_X9_insert_31] at h
    refine g_iload dX9_insert_31 rfl ?_
    refine g_iload_n dX9_insert_33 rfl ?_
    refine g_icmp_le 65 dX9_insert_34 rfl (fun q => ?_) (fun q => ?_)
    · replace h := gif_t q h
      refine g_aload_n dX9_insert_65 rfl ?_
      refine g_iload_n dX9_insert_66 rfl ?_
      refine g_iload_n dX9_insert_67 rfl ?_
      refine g_iload_n dX9_insert_68 rfl ?_
      obtain ⟨z69, e69, h⟩ := obind h
      refine g_vU3 mv_X9_61 dX9_insert_69 (ok_10 hi0) ⟨by decide, by decide⟩ (Nat.le_of_ble_eq_true rfl) (f_X9_set_ok hi0 e69) ?_
      cases h
      exact g_vret dX9_insert_72 rfl ⟨rfl, rfl⟩
    · replace h := gif_f q h
      refine g_aload_n dX9_insert_37 rfl ?_
      refine g_iload dX9_insert_38 rfl ?_
      refine g_aload_n dX9_insert_40 rfl ?_
      refine g_iload dX9_insert_41 rfl ?_
      refine g_iconst dX9_insert_43 kc_1 ?_
      refine g_isub dX9_insert_44 ?_
      obtain ⟨p45, e45, h⟩ := obind h
      refine g_vP1 mv_X9_54 dX9_insert_45 (ok_10 hi0) ⟨by decide, by decide⟩ (Nat.le_of_ble_eq_true rfl) (f_X9_codeOf_ok hi0 e45) ?_
      refine g_aload_n dX9_insert_48 rfl ?_
      refine g_iload dX9_insert_49 rfl ?_
      refine g_iconst dX9_insert_51 kc_1 ?_
      refine g_isub dX9_insert_52 ?_
      obtain ⟨p53, e53, h⟩ := obind h
      refine g_vP1 mv_X9_58 dX9_insert_53 (ok_10 hi0) ⟨by decide, by decide⟩ (Nat.le_of_ble_eq_true rfl) (f_X9_timeOf_ok hi0 e53) ?_
      obtain ⟨z56, e56, h⟩ := obind h
      refine g_vU3 mv_X9_61 dX9_insert_56 (ok_10 hi0) ⟨by decide, by decide⟩ (Nat.le_of_ble_eq_true rfl) (f_X9_set_ok hi0 e56) ?_
      refine g_inc4 kc_m1 dX9_insert_59 ?_
      refine g_goto 31 dX9_insert_62 rfl ?_
      exact ih h
theorem f_X9_insert_ok {i0 : Nat} {v1 : Int32} {v2 : Int32} {v3 : Int32} (hi0 : i0 < 20) {σ : gSt} {r : gSt} (h : f_X9_insert i0 v1 v2 v3 σ = some r) : Mt l w 0 41 yX9_insert cX9_insert 5 none 1 23 [.ref (w.2.1 10 i0), .int v1, .int v2, .int v3] σ (gE none r) := by
  unfold f_X9_insert at h
  refine g_start pn_X9 rfl rfl (Nat.le_of_ble_eq_true rfl) ?_
  show G l w 0 41 RX9 cX9_insert 5 none 1 23 (gE none r) 0 [some (.ref (w.2.1 10 i0)), some (.int v1), some (.int v2), some (.int v3), none] [] σ
  refine g_aload_n dX9_insert_0 rfl ?_
  refine gI_X9_39 (ok_10 hi0) dX9_insert_1 ?_
  refine g_aload_n dX9_insert_4 rfl ?_
  refine gR_X9_9 (ok_10 hi0) dX9_insert_5 ?_
  refine g_alenL nc_16 rfl rfl (ok_11 hi0) dX9_insert_8 ?_
  refine g_icmp_lt 13 dX9_insert_9 rfl (fun q => ?_) (fun q => ?_)
  · replace h := gif_t q h
    refine g_aload_n dX9_insert_13 rfl ?_
    refine g_dup dX9_insert_14 rfl ?_
    refine gI_X9_39 (ok_10 hi0) dX9_insert_15 ?_
    refine g_iconst dX9_insert_18 kc_1 ?_
    refine g_iadd dX9_insert_19 ?_
    refine gP_X9_39 (ok_10 hi0) dX9_insert_20 ?_
    refine g_aload_n dX9_insert_23 rfl ?_
    refine gI_X9_39 (ok_10 hi0) dX9_insert_24 ?_
    refine g_iconst dX9_insert_27 kc_1 ?_
    refine g_isub dX9_insert_28 ?_
    refine g_istore4 dX9_insert_29 ?_
    exact f_X9_insert_31_ok hi0 gFuel h
  · replace h := gif_f q h
    cases h
    exact g_vret dX9_insert_12 rfl ⟨rfl, rfl⟩
theorem dX4_insertPunch_0 : decode cX4_insertPunch 0 = .ok (.aload_n 0, 1) := by decide +kernel
theorem dX4_insertPunch_1 : decode cX4_insertPunch 1 = .ok (.iload_n 1, 1) := by decide +kernel
theorem dX4_insertPunch_2 : decode cX4_insertPunch 2 = .ok (.invokevirtual 53, 3) := by decide +kernel
theorem dX4_insertPunch_5 : decode cX4_insertPunch 5 = .ok (.iload_n 2, 1) := by decide +kernel
theorem dX4_insertPunch_6 : decode cX4_insertPunch 6 = .ok (.iload_n 3, 1) := by decide +kernel
theorem dX4_insertPunch_7 : decode cX4_insertPunch 7 = .ok (.iload 4, 2) := by decide +kernel
theorem dX4_insertPunch_9 : decode cX4_insertPunch 9 = .ok (.invokevirtual 125, 3) := by decide +kernel
theorem dX4_insertPunch_12 : decode cX4_insertPunch 12 = .ok (.aload_n 0, 1) := by decide +kernel
theorem dX4_insertPunch_13 : decode cX4_insertPunch 13 = .ok (.iload_n 1, 1) := by decide +kernel
theorem dX4_insertPunch_14 : decode cX4_insertPunch 14 = .ok (.invokevirtual 60, 3) := by decide +kernel
theorem dX4_insertPunch_17 : decode cX4_insertPunch 17 = .ok (.return_, 1) := by decide +kernel
def f_X4_insertPunch (i0 : Nat) (v1 : Int32) (v2 : Int32) (v3 : Int32) (v4 : Int32) (σ : gSt) : Option gSt :=
  (f_X4_runnerAt i0 v1 σ).bind fun p2 =>
  (f_X9_insert p2.1 v2 v3 v4 p2.2).bind fun z9 =>
  (f_X4_matchRunner i0 v1 z9).bind fun z14 =>
  some z14
theorem f_X4_insertPunch_ok {i0 : Nat} {v1 : Int32} {v2 : Int32} {v3 : Int32} {v4 : Int32} (hi0 : i0 < 2) {σ : gSt} {r : gSt} (h : f_X4_insertPunch i0 v1 v2 v3 v4 σ = some r) : Mt l w 0 41 yX4_insertPunch cX4_insertPunch 5 none 4 94 [.ref (w.2.1 3 i0), .int v1, .int v2, .int v3, .int v4] σ (gE none r) := by
  unfold f_X4_insertPunch at h
  refine g_start pn_X4 rfl rfl (Nat.le_of_ble_eq_true rfl) ?_
  show G l w 0 41 RX4 cX4_insertPunch 5 none 4 94 (gE none r) 0 [some (.ref (w.2.1 3 i0)), some (.int v1), some (.int v2), some (.int v3), some (.int v4)] [] σ
  refine g_aload_n dX4_insertPunch_0 rfl ?_
  refine g_iload_n dX4_insertPunch_1 rfl ?_
  obtain ⟨p2, e2, h⟩ := obind h
  refine g_vR1 mv_X4_53 dX4_insertPunch_2 (ok_3 hi0) ⟨by decide, by decide⟩ (Nat.le_of_ble_eq_true rfl) (f_X4_runnerAt_ok hi0 e2) (fun b2 => ?_)
  refine g_iload_n dX4_insertPunch_5 rfl ?_
  refine g_iload_n dX4_insertPunch_6 rfl ?_
  refine g_iload dX4_insertPunch_7 rfl ?_
  obtain ⟨z9, e9, h⟩ := obind h
  refine g_vU3 mv_X4_125 dX4_insertPunch_9 (ok_10 b2) ⟨by decide, by decide⟩ (Nat.le_of_ble_eq_true rfl) (f_X9_insert_ok b2 e9) ?_
  refine g_aload_n dX4_insertPunch_12 rfl ?_
  refine g_iload_n dX4_insertPunch_13 rfl ?_
  obtain ⟨z14, e14, h⟩ := obind h
  refine g_vU1 mv_X4_60 dX4_insertPunch_14 (ok_3 hi0) ⟨by decide, by decide⟩ (Nat.le_of_ble_eq_true rfl) (f_X4_matchRunner_ok hi0 e14) ?_
  cases h
  exact g_vret dX4_insertPunch_17 rfl ⟨rfl, rfl⟩
theorem dX4_assign_0 : decode cX4_assign 0 = .ok (.aload_n 0, 1) := by decide +kernel
theorem dX4_assign_1 : decode cX4_assign 1 = .ok (.iload_n 1, 1) := by decide +kernel
theorem dX4_assign_2 : decode cX4_assign 2 = .ok (.invokevirtual 53, 3) := by decide +kernel
theorem dX4_assign_5 : decode cX4_assign 5 = .ok (.iload_n 2, 1) := by decide +kernel
theorem dX4_assign_6 : decode cX4_assign 6 = .ok (.putfield 86, 3) := by decide +kernel
theorem dX4_assign_9 : decode cX4_assign 9 = .ok (.aload_n 0, 1) := by decide +kernel
theorem dX4_assign_10 : decode cX4_assign 10 = .ok (.iload_n 1, 1) := by decide +kernel
theorem dX4_assign_11 : decode cX4_assign 11 = .ok (.invokevirtual 60, 3) := by decide +kernel
theorem dX4_assign_14 : decode cX4_assign 14 = .ok (.return_, 1) := by decide +kernel
def f_X4_assign (i0 : Nat) (v1 : Int32) (v2 : Int32) (σ : gSt) : Option gSt :=
  (f_X4_runnerAt i0 v1 σ).bind fun p2 =>
  (f_X4_matchRunner i0 v1 (gup p2.2 10 p2.1 5 v2)).bind fun z11 =>
  some z11
theorem f_X4_assign_ok {i0 : Nat} {v1 : Int32} {v2 : Int32} (hi0 : i0 < 2) {σ : gSt} {r : gSt} (h : f_X4_assign i0 v1 v2 σ = some r) : Mt l w 0 41 yX4_assign cX4_assign 3 none 4 94 [.ref (w.2.1 3 i0), .int v1, .int v2] σ (gE none r) := by
  unfold f_X4_assign at h
  refine g_start pn_X4 rfl rfl (Nat.le_of_ble_eq_true rfl) ?_
  show G l w 0 41 RX4 cX4_assign 3 none 4 94 (gE none r) 0 [some (.ref (w.2.1 3 i0)), some (.int v1), some (.int v2)] [] σ
  refine g_aload_n dX4_assign_0 rfl ?_
  refine g_iload_n dX4_assign_1 rfl ?_
  obtain ⟨p2, e2, h⟩ := obind h
  refine g_vR1 mv_X4_53 dX4_assign_2 (ok_3 hi0) ⟨by decide, by decide⟩ (Nat.le_of_ble_eq_true rfl) (f_X4_runnerAt_ok hi0 e2) (fun b2 => ?_)
  refine g_iload_n dX4_assign_5 rfl ?_
  refine gP_X4_86 (ok_10 b2) dX4_assign_6 ?_
  refine g_aload_n dX4_assign_9 rfl ?_
  refine g_iload_n dX4_assign_10 rfl ?_
  obtain ⟨z11, e11, h⟩ := obind h
  refine g_vU1 mv_X4_60 dX4_assign_11 (ok_3 hi0) ⟨by decide, by decide⟩ (Nat.le_of_ble_eq_true rfl) (f_X4_matchRunner_ok hi0 e11) ?_
  cases h
  exact g_vret dX4_assign_14 rfl ⟨rfl, rfl⟩
theorem dX4_widen_0 : decode cX4_widen 0 = .ok (.iload_n 1, 1) := by decide +kernel
theorem dX4_widen_1 : decode cX4_widen 1 = .ok (.ifCond .ne 11, 3) := by decide +kernel
theorem dX4_widen_4 : decode cX4_widen 4 = .ok (.aload_n 0, 1) := by decide +kernel
theorem dX4_widen_5 : decode cX4_widen 5 = .ok (.iload_n 2, 1) := by decide +kernel
theorem dX4_widen_6 : decode cX4_widen 6 = .ok (.putfield 37, 3) := by decide +kernel
theorem dX4_widen_9 : decode cX4_widen 9 = .ok (.goto 8, 3) := by decide +kernel
theorem dX4_widen_12 : decode cX4_widen 12 = .ok (.aload_n 0, 1) := by decide +kernel
theorem dX4_widen_13 : decode cX4_widen 13 = .ok (.iload_n 2, 1) := by decide +kernel
theorem dX4_widen_14 : decode cX4_widen 14 = .ok (.putfield 40, 3) := by decide +kernel
theorem dX4_widen_17 : decode cX4_widen 17 = .ok (.return_, 1) := by decide +kernel
def f_X4_widen (i0 : Nat) (v1 : Int32) (v2 : Int32) (σ : gSt) : Option gSt :=
  if v1 = 0 then
    some (gup σ 3 i0 5 v2)
  else
    some (gup σ 3 i0 6 v2)
theorem f_X4_widen_ok {i0 : Nat} {v1 : Int32} {v2 : Int32} (hi0 : i0 < 2) {σ : gSt} {r : gSt} (h : f_X4_widen i0 v1 v2 σ = some r) : Mt l w 0 41 yX4_widen cX4_widen 3 none 0 0 [.ref (w.2.1 3 i0), .int v1, .int v2] σ (gE none r) := by
  unfold f_X4_widen at h
  refine g_start pn_X4 rfl rfl (Nat.le_of_ble_eq_true rfl) ?_
  show G l w 0 41 RX4 cX4_widen 3 none 0 0 (gE none r) 0 [some (.ref (w.2.1 3 i0)), some (.int v1), some (.int v2)] [] σ
  refine g_iload_n dX4_widen_0 rfl ?_
  refine g_if_ne 12 dX4_widen_1 rfl (fun q => ?_) (fun q => ?_)
  · replace h := gif_f q h
    refine g_aload_n dX4_widen_12 rfl ?_
    refine g_iload_n dX4_widen_13 rfl ?_
    refine gP_X4_40 (ok_3 hi0) dX4_widen_14 ?_
    cases h
    exact g_vret dX4_widen_17 rfl ⟨rfl, rfl⟩
  · replace h := gif_t q h
    refine g_aload_n dX4_widen_4 rfl ?_
    refine g_iload_n dX4_widen_5 rfl ?_
    refine gP_X4_37 (ok_3 hi0) dX4_widen_6 ?_
    refine g_goto 17 dX4_widen_9 rfl ?_
    cases h
    exact g_vret dX4_widen_17 rfl ⟨rfl, rfl⟩
theorem dX1_has_0 : decode cX1_has 0 = .ok (.iload_n 1, 1) := by decide +kernel
theorem dX1_has_1 : decode cX1_has 1 = .ok (.ifCond .lt 24, 3) := by decide +kernel
theorem dX1_has_4 : decode cX1_has 4 = .ok (.iload_n 1, 1) := by decide +kernel
theorem dX1_has_5 : decode cX1_has 5 = .ok (.aload_n 0, 1) := by decide +kernel
theorem dX1_has_6 : decode cX1_has 6 = .ok (.getfield 21, 3) := by decide +kernel
theorem dX1_has_9 : decode cX1_has 9 = .ok (.if_icmp .ge 16, 3) := by decide +kernel
theorem dX1_has_12 : decode cX1_has 12 = .ok (.iload_n 1, 1) := by decide +kernel
theorem dX1_has_13 : decode cX1_has 13 = .ok (.aload_n 0, 1) := by decide +kernel
theorem dX1_has_14 : decode cX1_has 14 = .ok (.getfield 9, 3) := by decide +kernel
theorem dX1_has_17 : decode cX1_has 17 = .ok (.arraylength, 1) := by decide +kernel
theorem dX1_has_18 : decode cX1_has 18 = .ok (.if_icmp .ge 7, 3) := by decide +kernel
theorem dX1_has_21 : decode cX1_has 21 = .ok (.iconst 1, 1) := by decide +kernel
theorem dX1_has_22 : decode cX1_has 22 = .ok (.goto 4, 3) := by decide +kernel
theorem dX1_has_25 : decode cX1_has 25 = .ok (.iconst 0, 1) := by decide +kernel
theorem dX1_has_26 : decode cX1_has 26 = .ok (.ireturn, 1) := by decide +kernel
def f_X1_has (i0 : Nat) (v1 : Int32) (σ : gSt) : Option (Int32 × gSt) :=
  if v1 < 0 then
    some (0, σ)
  else
    if (σ 8 i0 2) ≤ v1 then
      some (0, σ)
    else
      if 10 ≤ v1 then
        some (0, σ)
      else
        some (1, σ)
theorem f_X1_has_ok {i0 : Nat} {v1 : Int32} (hi0 : i0 < 6) {σ : gSt} {r : (Int32 × gSt)} (h : f_X1_has i0 v1 σ = some r) : Mt l w 0 41 yX1_has cX1_has 2 (some .boolean) 0 0 [.ref (w.2.1 8 i0), .int v1] σ (gE (some (.int r.1)) r.2) := by
  unfold f_X1_has at h
  refine g_start pn_X1 rfl rfl (Nat.le_of_ble_eq_true rfl) ?_
  show G l w 0 41 RX1 cX1_has 2 (some .boolean) 0 0 (gE (some (.int r.1)) r.2) 0 [some (.ref (w.2.1 8 i0)), some (.int v1)] [] σ
  refine g_iload_n dX1_has_0 rfl ?_
  refine g_if_lt 25 dX1_has_1 rfl (fun q => ?_) (fun q => ?_)
  · replace h := gif_t q h
    refine g_iconst dX1_has_25 kc_0 ?_
    cases h
    exact g_zret0 dX1_has_26 rfl
  · replace h := gif_f q h
    refine g_iload_n dX1_has_4 rfl ?_
    refine g_aload_n dX1_has_5 rfl ?_
    refine gI_X1_21 (ok_8 hi0) dX1_has_6 ?_
    refine g_icmp_ge 25 dX1_has_9 rfl (fun q => ?_) (fun q => ?_)
    · replace h := gif_t q h
      refine g_iconst dX1_has_25 kc_0 ?_
      cases h
      exact g_zret0 dX1_has_26 rfl
    · replace h := gif_f q h
      refine g_iload_n dX1_has_12 rfl ?_
      refine g_aload_n dX1_has_13 rfl ?_
      refine gR_X1_9 (ok_8 hi0) dX1_has_14 ?_
      refine g_alenL nc_10 rfl rfl (ok_9 hi0) dX1_has_17 ?_
      refine g_icmp_ge 25 dX1_has_18 rfl (fun q => ?_) (fun q => ?_)
      · replace h := gif_t q h
        refine g_iconst dX1_has_25 kc_0 ?_
        cases h
        exact g_zret0 dX1_has_26 rfl
      · replace h := gif_f q h
        refine g_iconst dX1_has_21 kc_1 ?_
        refine g_goto 26 dX1_has_22 rfl ?_
        cases h
        exact g_zret1 dX1_has_26 rfl
theorem dX1_set_0 : decode cX1_set 0 = .ok (.aload_n 0, 1) := by decide +kernel
theorem dX1_set_1 : decode cX1_set 1 = .ok (.iload_n 1, 1) := by decide +kernel
theorem dX1_set_2 : decode cX1_set 2 = .ok (.invokevirtual 30, 3) := by decide +kernel
theorem dX1_set_5 : decode cX1_set 5 = .ok (.ifCond .eq 10, 3) := by decide +kernel
theorem dX1_set_8 : decode cX1_set 8 = .ok (.aload_n 0, 1) := by decide +kernel
theorem dX1_set_9 : decode cX1_set 9 = .ok (.getfield 9, 3) := by decide +kernel
theorem dX1_set_12 : decode cX1_set 12 = .ok (.iload_n 1, 1) := by decide +kernel
theorem dX1_set_13 : decode cX1_set 13 = .ok (.iload_n 2, 1) := by decide +kernel
theorem dX1_set_14 : decode cX1_set 14 = .ok (.iastore, 1) := by decide +kernel
theorem dX1_set_15 : decode cX1_set 15 = .ok (.return_, 1) := by decide +kernel
def f_X1_set (i0 : Nat) (v1 : Int32) (v2 : Int32) (σ : gSt) : Option gSt :=
  (f_X1_has i0 v1 σ).bind fun p2 =>
  if p2.1 = 0 then
    some p2.2
  else
    (gst p2.2 9 i0 10 v1 v2).bind fun z14 =>
    some z14
theorem f_X1_set_ok {i0 : Nat} {v1 : Int32} {v2 : Int32} (hi0 : i0 < 6) {σ : gSt} {r : gSt} (h : f_X1_set i0 v1 v2 σ = some r) : Mt l w 0 41 yX1_set cX1_set 3 none 1 21 [.ref (w.2.1 8 i0), .int v1, .int v2] σ (gE none r) := by
  unfold f_X1_set at h
  refine g_start pn_X1 rfl rfl (Nat.le_of_ble_eq_true rfl) ?_
  show G l w 0 41 RX1 cX1_set 3 none 1 21 (gE none r) 0 [some (.ref (w.2.1 8 i0)), some (.int v1), some (.int v2)] [] σ
  refine g_aload_n dX1_set_0 rfl ?_
  refine g_iload_n dX1_set_1 rfl ?_
  obtain ⟨p2, e2, h⟩ := obind h
  refine g_vP1 mv_X1_30 dX1_set_2 (ok_8 hi0) ⟨by decide, by decide⟩ (Nat.le_of_ble_eq_true rfl) (f_X1_has_ok hi0 e2) ?_
  refine g_if_eq 15 dX1_set_5 rfl (fun q => ?_) (fun q => ?_)
  · replace h := gif_t q h
    cases h
    exact g_vret dX1_set_15 rfl ⟨rfl, rfl⟩
  · replace h := gif_f q h
    refine g_aload_n dX1_set_8 rfl ?_
    refine gR_X1_9 (ok_8 hi0) dX1_set_9 ?_
    refine g_iload_n dX1_set_12 rfl ?_
    refine g_iload_n dX1_set_13 rfl ?_
    obtain ⟨z14, e14, h⟩ := obind h
    refine g_stB e14 (ok_9 hi0) rfl rfl (by decide) dX1_set_14 ?_
    cases h
    exact g_vret dX1_set_15 rfl ⟨rfl, rfl⟩
theorem dX4_hasRunner_0 : decode cX4_hasRunner 0 = .ok (.iload_n 1, 1) := by decide +kernel
theorem dX4_hasRunner_1 : decode cX4_hasRunner 1 = .ok (.ifCond .lt 15, 3) := by decide +kernel
theorem dX4_hasRunner_4 : decode cX4_hasRunner 4 = .ok (.iload_n 1, 1) := by decide +kernel
theorem dX4_hasRunner_5 : decode cX4_hasRunner 5 = .ok (.aload_n 0, 1) := by decide +kernel
theorem dX4_hasRunner_6 : decode cX4_hasRunner 6 = .ok (.getfield 34, 3) := by decide +kernel
theorem dX4_hasRunner_9 : decode cX4_hasRunner 9 = .ok (.if_icmp .ge 7, 3) := by decide +kernel
theorem dX4_hasRunner_12 : decode cX4_hasRunner 12 = .ok (.iconst 1, 1) := by decide +kernel
theorem dX4_hasRunner_13 : decode cX4_hasRunner 13 = .ok (.goto 4, 3) := by decide +kernel
theorem dX4_hasRunner_16 : decode cX4_hasRunner 16 = .ok (.iconst 0, 1) := by decide +kernel
theorem dX4_hasRunner_17 : decode cX4_hasRunner 17 = .ok (.ireturn, 1) := by decide +kernel
def f_X4_hasRunner (i0 : Nat) (v1 : Int32) (σ : gSt) : Option (Int32 × gSt) :=
  if v1 < 0 then
    some (0, σ)
  else
    if (σ 3 i0 4) ≤ v1 then
      some (0, σ)
    else
      some (1, σ)
theorem f_X4_hasRunner_ok {i0 : Nat} {v1 : Int32} (hi0 : i0 < 2) {σ : gSt} {r : (Int32 × gSt)} (h : f_X4_hasRunner i0 v1 σ = some r) : Mt l w 0 41 yX4_hasRunner cX4_hasRunner 2 (some .boolean) 0 0 [.ref (w.2.1 3 i0), .int v1] σ (gE (some (.int r.1)) r.2) := by
  unfold f_X4_hasRunner at h
  refine g_start pn_X4 rfl rfl (Nat.le_of_ble_eq_true rfl) ?_
  show G l w 0 41 RX4 cX4_hasRunner 2 (some .boolean) 0 0 (gE (some (.int r.1)) r.2) 0 [some (.ref (w.2.1 3 i0)), some (.int v1)] [] σ
  refine g_iload_n dX4_hasRunner_0 rfl ?_
  refine g_if_lt 16 dX4_hasRunner_1 rfl (fun q => ?_) (fun q => ?_)
  · replace h := gif_t q h
    refine g_iconst dX4_hasRunner_16 kc_0 ?_
    cases h
    exact g_zret0 dX4_hasRunner_17 rfl
  · replace h := gif_f q h
    refine g_iload_n dX4_hasRunner_4 rfl ?_
    refine g_aload_n dX4_hasRunner_5 rfl ?_
    refine gI_X4_34 (ok_3 hi0) dX4_hasRunner_6 ?_
    refine g_icmp_ge 16 dX4_hasRunner_9 rfl (fun q => ?_) (fun q => ?_)
    · replace h := gif_t q h
      refine g_iconst dX4_hasRunner_16 kc_0 ?_
      cases h
      exact g_zret0 dX4_hasRunner_17 rfl
    · replace h := gif_f q h
      refine g_iconst dX4_hasRunner_12 kc_1 ?_
      refine g_goto 17 dX4_hasRunner_13 rfl ?_
      cases h
      exact g_zret1 dX4_hasRunner_17 rfl
theorem dX4_isOf_0 : decode cX4_isOf 0 = .ok (.aload_n 0, 1) := by decide +kernel
theorem dX4_isOf_1 : decode cX4_isOf 1 = .ok (.iload_n 1, 1) := by decide +kernel
theorem dX4_isOf_2 : decode cX4_isOf 2 = .ok (.invokevirtual 81, 3) := by decide +kernel
theorem dX4_isOf_5 : decode cX4_isOf 5 = .ok (.ifCond .eq 19, 3) := by decide +kernel
theorem dX4_isOf_8 : decode cX4_isOf 8 = .ok (.aload_n 0, 1) := by decide +kernel
theorem dX4_isOf_9 : decode cX4_isOf 9 = .ok (.iload_n 1, 1) := by decide +kernel
theorem dX4_isOf_10 : decode cX4_isOf 10 = .ok (.invokevirtual 53, 3) := by decide +kernel
theorem dX4_isOf_13 : decode cX4_isOf 13 = .ok (.getfield 86, 3) := by decide +kernel
theorem dX4_isOf_16 : decode cX4_isOf 16 = .ok (.iload_n 2, 1) := by decide +kernel
theorem dX4_isOf_17 : decode cX4_isOf 17 = .ok (.if_icmp .ne 7, 3) := by decide +kernel
theorem dX4_isOf_20 : decode cX4_isOf 20 = .ok (.iconst 1, 1) := by decide +kernel
theorem dX4_isOf_21 : decode cX4_isOf 21 = .ok (.goto 4, 3) := by decide +kernel
theorem dX4_isOf_24 : decode cX4_isOf 24 = .ok (.iconst 0, 1) := by decide +kernel
theorem dX4_isOf_25 : decode cX4_isOf 25 = .ok (.ireturn, 1) := by decide +kernel
def f_X4_isOf (i0 : Nat) (v1 : Int32) (v2 : Int32) (σ : gSt) : Option (Int32 × gSt) :=
  (f_X4_hasRunner i0 v1 σ).bind fun p2 =>
  if p2.1 = 0 then
    some (0, p2.2)
  else
    (f_X4_runnerAt i0 v1 p2.2).bind fun p10 =>
    if (p10.2 10 p10.1 5) = v2 then
      some (1, p10.2)
    else
      some (0, p10.2)
theorem f_X4_isOf_ok {i0 : Nat} {v1 : Int32} {v2 : Int32} (hi0 : i0 < 2) {σ : gSt} {r : (Int32 × gSt)} (h : f_X4_isOf i0 v1 v2 σ = some r) : Mt l w 0 41 yX4_isOf cX4_isOf 3 (some .boolean) 1 21 [.ref (w.2.1 3 i0), .int v1, .int v2] σ (gE (some (.int r.1)) r.2) := by
  unfold f_X4_isOf at h
  refine g_start pn_X4 rfl rfl (Nat.le_of_ble_eq_true rfl) ?_
  show G l w 0 41 RX4 cX4_isOf 3 (some .boolean) 1 21 (gE (some (.int r.1)) r.2) 0 [some (.ref (w.2.1 3 i0)), some (.int v1), some (.int v2)] [] σ
  refine g_aload_n dX4_isOf_0 rfl ?_
  refine g_iload_n dX4_isOf_1 rfl ?_
  obtain ⟨p2, e2, h⟩ := obind h
  refine g_vP1 mv_X4_81 dX4_isOf_2 (ok_3 hi0) ⟨by decide, by decide⟩ (Nat.le_of_ble_eq_true rfl) (f_X4_hasRunner_ok hi0 e2) ?_
  refine g_if_eq 24 dX4_isOf_5 rfl (fun q => ?_) (fun q => ?_)
  · replace h := gif_t q h
    refine g_iconst dX4_isOf_24 kc_0 ?_
    cases h
    exact g_zret0 dX4_isOf_25 rfl
  · replace h := gif_f q h
    refine g_aload_n dX4_isOf_8 rfl ?_
    refine g_iload_n dX4_isOf_9 rfl ?_
    obtain ⟨p10, e10, h⟩ := obind h
    refine g_vR1 mv_X4_53 dX4_isOf_10 (ok_3 hi0) ⟨by decide, by decide⟩ (Nat.le_of_ble_eq_true rfl) (f_X4_runnerAt_ok hi0 e10) (fun b10 => ?_)
    refine gI_X4_86 (ok_10 b10) dX4_isOf_13 ?_
    refine g_iload_n dX4_isOf_16 rfl ?_
    refine g_icmp_ne 24 dX4_isOf_17 rfl (fun q => ?_) (fun q => ?_)
    · replace h := gif_f q h
      refine g_iconst dX4_isOf_24 kc_0 ?_
      cases h
      exact g_zret0 dX4_isOf_25 rfl
    · replace h := gif_t q h
      refine g_iconst dX4_isOf_20 kc_1 ?_
      refine g_goto 25 dX4_isOf_21 rfl ?_
      cases h
      exact g_zret1 dX4_isOf_25 rfl
theorem dX4_matchCourse_0 : decode cX4_matchCourse 0 = .ok (.iconst 0, 1) := by decide +kernel
theorem dX4_matchCourse_1 : decode cX4_matchCourse 1 = .ok (.istore_n 2, 1) := by decide +kernel
theorem dX4_matchCourse_2 : decode cX4_matchCourse 2 = .ok (.iload_n 2, 1) := by decide +kernel
theorem dX4_matchCourse_3 : decode cX4_matchCourse 3 = .ok (.aload_n 0, 1) := by decide +kernel
theorem dX4_matchCourse_4 : decode cX4_matchCourse 4 = .ok (.getfield 34, 3) := by decide +kernel
theorem dX4_matchCourse_7 : decode cX4_matchCourse 7 = .ok (.if_icmp .ge 35, 3) := by decide +kernel
theorem dX4_matchCourse_10 : decode cX4_matchCourse 10 = .ok (.aload_n 0, 1) := by decide +kernel
theorem dX4_matchCourse_11 : decode cX4_matchCourse 11 = .ok (.iload_n 2, 1) := by decide +kernel
theorem dX4_matchCourse_12 : decode cX4_matchCourse 12 = .ok (.iload_n 1, 1) := by decide +kernel
theorem dX4_matchCourse_13 : decode cX4_matchCourse 13 = .ok (.invokevirtual 89, 3) := by decide +kernel
theorem dX4_matchCourse_16 : decode cX4_matchCourse 16 = .ok (.ifCond .eq 20, 3) := by decide +kernel
theorem dX4_matchCourse_19 : decode cX4_matchCourse 19 = .ok (.aload_n 0, 1) := by decide +kernel
theorem dX4_matchCourse_20 : decode cX4_matchCourse 20 = .ok (.getfield 26, 3) := by decide +kernel
theorem dX4_matchCourse_23 : decode cX4_matchCourse 23 = .ok (.aload_n 0, 1) := by decide +kernel
theorem dX4_matchCourse_24 : decode cX4_matchCourse 24 = .ok (.iload_n 1, 1) := by decide +kernel
theorem dX4_matchCourse_25 : decode cX4_matchCourse 25 = .ok (.invokevirtual 45, 3) := by decide +kernel
theorem dX4_matchCourse_28 : decode cX4_matchCourse 28 = .ok (.aload_n 0, 1) := by decide +kernel
theorem dX4_matchCourse_29 : decode cX4_matchCourse 29 = .ok (.iload_n 2, 1) := by decide +kernel
theorem dX4_matchCourse_30 : decode cX4_matchCourse 30 = .ok (.invokevirtual 53, 3) := by decide +kernel
theorem dX4_matchCourse_33 : decode cX4_matchCourse 33 = .ok (.invokevirtual 142, 3) := by decide +kernel
theorem dX4_matchCourse_36 : decode cX4_matchCourse 36 = .ok (.iinc 2 1, 3) := by decide +kernel
theorem dX4_matchCourse_39 : decode cX4_matchCourse 39 = .ok (.goto (-37), 3) := by decide +kernel
theorem dX4_matchCourse_42 : decode cX4_matchCourse 42 = .ok (.return_, 1) := by decide +kernel
def f_X4_matchCourse_2 (i0 : Nat) (v1 : Int32) : Nat → Int32 → gSt → Option gSt
  | 0, _, _ => none
  | n + 1, v2, σ =>
    if (σ 3 i0 4) ≤ v2 then
      some σ
    else
      (f_X4_isOf i0 v2 v1 σ).bind fun p13 =>
      if p13.1 = 0 then
        f_X4_matchCourse_2 i0 v1 n (v2 + 1) p13.2
      else
        (f_X4_courseAt i0 v1 p13.2).bind fun p25 =>
        (f_X4_runnerAt i0 v2 p25.2).bind fun p30 =>
        (f_X3_match i0 p25.1 p30.1 p30.2).bind fun z33 =>
        f_X4_matchCourse_2 i0 v1 n (v2 + 1) z33
def f_X4_matchCourse (i0 : Nat) (v1 : Int32) (σ : gSt) : Option gSt :=
  f_X4_matchCourse_2 i0 v1 gFuel 0 σ
theorem f_X4_matchCourse_2_ok {i0 : Nat} {v1 : Int32} {r : gSt} (hi0 : i0 < 2) : ∀ (n : Nat) {v2 : Int32} {σ : gSt} , f_X4_matchCourse_2 i0 v1 n v2 σ = some r → G l w 0 41 RX4 cX4_matchCourse 3 none 3 73 (gE none r) 2 [some (.ref (w.2.1 3 i0)), some (.int v1), some (.int v2)] [] σ := by
  intro n
  induction n with
  | zero => intro v2 σ h; rw [f_X4_matchCourse_2] at h; cases h
  | succ n ih =>
    intro v2 σ h
    rw [f_X4_matchCourse_2] at h
    refine g_iload_n dX4_matchCourse_2 rfl ?_
    refine g_aload_n dX4_matchCourse_3 rfl ?_
    refine gI_X4_34 (ok_3 hi0) dX4_matchCourse_4 ?_
    refine g_icmp_ge 42 dX4_matchCourse_7 rfl (fun q => ?_) (fun q => ?_)
    · replace h := gif_t q h
      cases h
      exact g_vret dX4_matchCourse_42 rfl ⟨rfl, rfl⟩
    · replace h := gif_f q h
      refine g_aload_n dX4_matchCourse_10 rfl ?_
      refine g_iload_n dX4_matchCourse_11 rfl ?_
      refine g_iload_n dX4_matchCourse_12 rfl ?_
      obtain ⟨p13, e13, h⟩ := obind h
      refine g_vP2 mv_X4_89 dX4_matchCourse_13 (ok_3 hi0) ⟨by decide, by decide⟩ (Nat.le_of_ble_eq_true rfl) (f_X4_isOf_ok hi0 e13) ?_
      refine g_if_eq 36 dX4_matchCourse_16 rfl (fun q => ?_) (fun q => ?_)
      · replace h := gif_t q h
        refine g_inc2 kc_1 dX4_matchCourse_36 ?_
        refine g_goto 2 dX4_matchCourse_39 rfl ?_
        exact ih h
      · replace h := gif_f q h
        refine g_aload_n dX4_matchCourse_19 rfl ?_
        refine gR_X4_26 (ok_3 hi0) dX4_matchCourse_20 ?_
        refine g_aload_n dX4_matchCourse_23 rfl ?_
        refine g_iload_n dX4_matchCourse_24 rfl ?_
        obtain ⟨p25, e25, h⟩ := obind h
        refine g_vR1 mv_X4_45 dX4_matchCourse_25 (ok_3 hi0) ⟨by decide, by decide⟩ (Nat.le_of_ble_eq_true rfl) (f_X4_courseAt_ok hi0 e25) (fun b25 => ?_)
        refine g_aload_n dX4_matchCourse_28 rfl ?_
        refine g_iload_n dX4_matchCourse_29 rfl ?_
        obtain ⟨p30, e30, h⟩ := obind h
        refine g_vR1 mv_X4_53 dX4_matchCourse_30 (ok_3 hi0) ⟨by decide, by decide⟩ (Nat.le_of_ble_eq_true rfl) (f_X4_runnerAt_ok hi0 e30) (fun b30 => ?_)
        obtain ⟨z33, e33, h⟩ := obind h
        refine g_vU2 mv_X4_142 dX4_matchCourse_33 (ok_6 hi0) ⟨by decide, by decide⟩ (Nat.le_of_ble_eq_true rfl) (f_X3_match_ok hi0 b25 b30 e33) ?_
        refine g_inc2 kc_1 dX4_matchCourse_36 ?_
        refine g_goto 2 dX4_matchCourse_39 rfl ?_
        exact ih h
theorem f_X4_matchCourse_ok {i0 : Nat} {v1 : Int32} (hi0 : i0 < 2) {σ : gSt} {r : gSt} (h : f_X4_matchCourse i0 v1 σ = some r) : Mt l w 0 41 yX4_matchCourse cX4_matchCourse 3 none 3 73 [.ref (w.2.1 3 i0), .int v1] σ (gE none r) := by
  unfold f_X4_matchCourse at h
  refine g_start pn_X4 rfl rfl (Nat.le_of_ble_eq_true rfl) ?_
  show G l w 0 41 RX4 cX4_matchCourse 3 none 3 73 (gE none r) 0 [some (.ref (w.2.1 3 i0)), some (.int v1), none] [] σ
  refine g_iconst dX4_matchCourse_0 kc_0 ?_
  refine g_istore2 dX4_matchCourse_1 ?_
  exact f_X4_matchCourse_2_ok hi0 gFuel h
theorem dX4_setCode_0 : decode cX4_setCode 0 = .ok (.aload_n 0, 1) := by decide +kernel
theorem dX4_setCode_1 : decode cX4_setCode 1 = .ok (.iload_n 1, 1) := by decide +kernel
theorem dX4_setCode_2 : decode cX4_setCode 2 = .ok (.invokevirtual 45, 3) := by decide +kernel
theorem dX4_setCode_5 : decode cX4_setCode 5 = .ok (.iload_n 2, 1) := by decide +kernel
theorem dX4_setCode_6 : decode cX4_setCode 6 = .ok (.iload_n 3, 1) := by decide +kernel
theorem dX4_setCode_7 : decode cX4_setCode 7 = .ok (.invokevirtual 132, 3) := by decide +kernel
theorem dX4_setCode_10 : decode cX4_setCode 10 = .ok (.aload_n 0, 1) := by decide +kernel
theorem dX4_setCode_11 : decode cX4_setCode 11 = .ok (.iload_n 1, 1) := by decide +kernel
theorem dX4_setCode_12 : decode cX4_setCode 12 = .ok (.invokevirtual 136, 3) := by decide +kernel
theorem dX4_setCode_15 : decode cX4_setCode 15 = .ok (.return_, 1) := by decide +kernel
def f_X4_setCode (i0 : Nat) (v1 : Int32) (v2 : Int32) (v3 : Int32) (σ : gSt) : Option gSt :=
  (f_X4_courseAt i0 v1 σ).bind fun p2 =>
  (f_X1_set p2.1 v2 v3 p2.2).bind fun z7 =>
  (f_X4_matchCourse i0 v1 z7).bind fun z12 =>
  some z12
theorem f_X4_setCode_ok {i0 : Nat} {v1 : Int32} {v2 : Int32} {v3 : Int32} (hi0 : i0 < 2) {σ : gSt} {r : gSt} (h : f_X4_setCode i0 v1 v2 v3 σ = some r) : Mt l w 0 41 yX4_setCode cX4_setCode 4 none 4 95 [.ref (w.2.1 3 i0), .int v1, .int v2, .int v3] σ (gE none r) := by
  unfold f_X4_setCode at h
  refine g_start pn_X4 rfl rfl (Nat.le_of_ble_eq_true rfl) ?_
  show G l w 0 41 RX4 cX4_setCode 4 none 4 95 (gE none r) 0 [some (.ref (w.2.1 3 i0)), some (.int v1), some (.int v2), some (.int v3)] [] σ
  refine g_aload_n dX4_setCode_0 rfl ?_
  refine g_iload_n dX4_setCode_1 rfl ?_
  obtain ⟨p2, e2, h⟩ := obind h
  refine g_vR1 mv_X4_45 dX4_setCode_2 (ok_3 hi0) ⟨by decide, by decide⟩ (Nat.le_of_ble_eq_true rfl) (f_X4_courseAt_ok hi0 e2) (fun b2 => ?_)
  refine g_iload_n dX4_setCode_5 rfl ?_
  refine g_iload_n dX4_setCode_6 rfl ?_
  obtain ⟨z7, e7, h⟩ := obind h
  refine g_vU2 mv_X4_132 dX4_setCode_7 (ok_8 b2) ⟨by decide, by decide⟩ (Nat.le_of_ble_eq_true rfl) (f_X1_set_ok b2 e7) ?_
  refine g_aload_n dX4_setCode_10 rfl ?_
  refine g_iload_n dX4_setCode_11 rfl ?_
  obtain ⟨z12, e12, h⟩ := obind h
  refine g_vU1 mv_X4_136 dX4_setCode_12 (ok_3 hi0) ⟨by decide, by decide⟩ (Nat.le_of_ble_eq_true rfl) (f_X4_matchCourse_ok hi0 e12) ?_
  cases h
  exact g_vret dX4_setCode_15 rfl ⟨rfl, rfl⟩
theorem dX1_insert_0 : decode cX1_insert 0 = .ok (.aload_n 0, 1) := by decide +kernel
theorem dX1_insert_1 : decode cX1_insert 1 = .ok (.getfield 21, 3) := by decide +kernel
theorem dX1_insert_4 : decode cX1_insert 4 = .ok (.aload_n 0, 1) := by decide +kernel
theorem dX1_insert_5 : decode cX1_insert 5 = .ok (.getfield 9, 3) := by decide +kernel
theorem dX1_insert_8 : decode cX1_insert 8 = .ok (.arraylength, 1) := by decide +kernel
theorem dX1_insert_9 : decode cX1_insert 9 = .ok (.if_icmp .lt 4, 3) := by decide +kernel
theorem dX1_insert_12 : decode cX1_insert 12 = .ok (.return_, 1) := by decide +kernel
theorem dX1_insert_13 : decode cX1_insert 13 = .ok (.aload_n 0, 1) := by decide +kernel
theorem dX1_insert_14 : decode cX1_insert 14 = .ok (.dup, 1) := by decide +kernel
theorem dX1_insert_15 : decode cX1_insert 15 = .ok (.getfield 21, 3) := by decide +kernel
theorem dX1_insert_18 : decode cX1_insert 18 = .ok (.iconst 1, 1) := by decide +kernel
theorem dX1_insert_19 : decode cX1_insert 19 = .ok (.iadd, 1) := by decide +kernel
theorem dX1_insert_20 : decode cX1_insert 20 = .ok (.putfield 21, 3) := by decide +kernel
theorem dX1_insert_23 : decode cX1_insert 23 = .ok (.aload_n 0, 1) := by decide +kernel
theorem dX1_insert_24 : decode cX1_insert 24 = .ok (.getfield 21, 3) := by decide +kernel
theorem dX1_insert_27 : decode cX1_insert 27 = .ok (.iconst 1, 1) := by decide +kernel
theorem dX1_insert_28 : decode cX1_insert 28 = .ok (.isub, 1) := by decide +kernel
theorem dX1_insert_29 : decode cX1_insert 29 = .ok (.istore_n 3, 1) := by decide +kernel
theorem dX1_insert_30 : decode cX1_insert 30 = .ok (.iload_n 3, 1) := by decide +kernel
theorem dX1_insert_31 : decode cX1_insert 31 = .ok (.iload_n 1, 1) := by decide +kernel
theorem dX1_insert_32 : decode cX1_insert 32 = .ok (.if_icmp .le 21, 3) := by decide +kernel
theorem dX1_insert_35 : decode cX1_insert 35 = .ok (.aload_n 0, 1) := by decide +kernel
theorem dX1_insert_36 : decode cX1_insert 36 = .ok (.iload_n 3, 1) := by decide +kernel
theorem dX1_insert_37 : decode cX1_insert 37 = .ok (.aload_n 0, 1) := by decide +kernel
theorem dX1_insert_38 : decode cX1_insert 38 = .ok (.iload_n 3, 1) := by decide +kernel
theorem dX1_insert_39 : decode cX1_insert 39 = .ok (.iconst 1, 1) := by decide +kernel
theorem dX1_insert_40 : decode cX1_insert 40 = .ok (.isub, 1) := by decide +kernel
theorem dX1_insert_41 : decode cX1_insert 41 = .ok (.invokevirtual 34, 3) := by decide +kernel
theorem dX1_insert_44 : decode cX1_insert 44 = .ok (.invokevirtual 38, 3) := by decide +kernel
theorem dX1_insert_47 : decode cX1_insert 47 = .ok (.iinc 3 (-1), 3) := by decide +kernel
theorem dX1_insert_50 : decode cX1_insert 50 = .ok (.goto (-20), 3) := by decide +kernel
theorem dX1_insert_53 : decode cX1_insert 53 = .ok (.aload_n 0, 1) := by decide +kernel
theorem dX1_insert_54 : decode cX1_insert 54 = .ok (.iload_n 1, 1) := by decide +kernel
theorem dX1_insert_55 : decode cX1_insert 55 = .ok (.iload_n 2, 1) := by decide +kernel
theorem dX1_insert_56 : decode cX1_insert 56 = .ok (.invokevirtual 38, 3) := by decide +kernel
theorem dX1_insert_59 : decode cX1_insert 59 = .ok (.return_, 1) := by decide +kernel
def f_X1_insert_30 (i0 : Nat) (v1 : Int32) (v2 : Int32) : Nat → Int32 → gSt → Option gSt
  | 0, _, _ => none
  | n + 1, v3, σ =>
    if v3 ≤ v1 then
      (f_X1_set i0 v1 v2 σ).bind fun z56 =>
      some z56
    else
      (f_X1_codeAt i0 (v3 - 1) σ).bind fun p41 =>
      (f_X1_set i0 v3 p41.1 p41.2).bind fun z44 =>
      f_X1_insert_30 i0 v1 v2 n (v3 + (-1)) z44
def f_X1_insert (i0 : Nat) (v1 : Int32) (v2 : Int32) (σ : gSt) : Option gSt :=
  if (σ 8 i0 2) < 10 then
    f_X1_insert_30 i0 v1 v2 gFuel (((gup σ 8 i0 2 ((σ 8 i0 2) + 1)) 8 i0 2) - 1) (gup σ 8 i0 2 ((σ 8 i0 2) + 1))
  else
    some σ
theorem f_X1_insert_30_ok {i0 : Nat} {v1 : Int32} {v2 : Int32} {r : gSt} (hi0 : i0 < 6) : ∀ (n : Nat) {v3 : Int32} {σ : gSt} , f_X1_insert_30 i0 v1 v2 n v3 σ = some r → G l w 0 41 RX1 cX1_insert 4 none 2 43 (gE none r) 30 [some (.ref (w.2.1 8 i0)), some (.int v1), some (.int v2), some (.int v3)] [] σ := by
  intro n
  induction n with
  | zero => intro v3 σ h; rw [f_X1_insert_30] at h; cases h
  | succ n ih =>
    intro v3 σ h
    rw [f_X1_insert_30] at h
    refine g_iload_n dX1_insert_30 rfl ?_
    refine g_iload_n dX1_insert_31 rfl ?_
    refine g_icmp_le 53 dX1_insert_32 rfl (fun q => ?_) (fun q => ?_)
    · replace h := gif_t q h
      refine g_aload_n dX1_insert_53 rfl ?_
      refine g_iload_n dX1_insert_54 rfl ?_
      refine g_iload_n dX1_insert_55 rfl ?_
      obtain ⟨z56, e56, h⟩ := obind h
      refine g_vU2 mv_X1_38 dX1_insert_56 (ok_8 hi0) ⟨by decide, by decide⟩ (Nat.le_of_ble_eq_true rfl) (f_X1_set_ok hi0 e56) ?_
      cases h
      exact g_vret dX1_insert_59 rfl ⟨rfl, rfl⟩
    · replace h := gif_f q h
      refine g_aload_n dX1_insert_35 rfl ?_
      refine g_iload_n dX1_insert_36 rfl ?_
      refine g_aload_n dX1_insert_37 rfl ?_
      refine g_iload_n dX1_insert_38 rfl ?_
      refine g_iconst dX1_insert_39 kc_1 ?_
      refine g_isub dX1_insert_40 ?_
      obtain ⟨p41, e41, h⟩ := obind h
      refine g_vP1 mv_X1_34 dX1_insert_41 (ok_8 hi0) ⟨by decide, by decide⟩ (Nat.le_of_ble_eq_true rfl) (f_X1_codeAt_ok hi0 e41) ?_
      obtain ⟨z44, e44, h⟩ := obind h
      refine g_vU2 mv_X1_38 dX1_insert_44 (ok_8 hi0) ⟨by decide, by decide⟩ (Nat.le_of_ble_eq_true rfl) (f_X1_set_ok hi0 e44) ?_
      refine g_inc3 kc_m1 dX1_insert_47 ?_
      refine g_goto 30 dX1_insert_50 rfl ?_
      exact ih h
theorem f_X1_insert_ok {i0 : Nat} {v1 : Int32} {v2 : Int32} (hi0 : i0 < 6) {σ : gSt} {r : gSt} (h : f_X1_insert i0 v1 v2 σ = some r) : Mt l w 0 41 yX1_insert cX1_insert 4 none 2 43 [.ref (w.2.1 8 i0), .int v1, .int v2] σ (gE none r) := by
  unfold f_X1_insert at h
  refine g_start pn_X1 rfl rfl (Nat.le_of_ble_eq_true rfl) ?_
  show G l w 0 41 RX1 cX1_insert 4 none 2 43 (gE none r) 0 [some (.ref (w.2.1 8 i0)), some (.int v1), some (.int v2), none] [] σ
  refine g_aload_n dX1_insert_0 rfl ?_
  refine gI_X1_21 (ok_8 hi0) dX1_insert_1 ?_
  refine g_aload_n dX1_insert_4 rfl ?_
  refine gR_X1_9 (ok_8 hi0) dX1_insert_5 ?_
  refine g_alenL nc_10 rfl rfl (ok_9 hi0) dX1_insert_8 ?_
  refine g_icmp_lt 13 dX1_insert_9 rfl (fun q => ?_) (fun q => ?_)
  · replace h := gif_t q h
    refine g_aload_n dX1_insert_13 rfl ?_
    refine g_dup dX1_insert_14 rfl ?_
    refine gI_X1_21 (ok_8 hi0) dX1_insert_15 ?_
    refine g_iconst dX1_insert_18 kc_1 ?_
    refine g_iadd dX1_insert_19 ?_
    refine gP_X1_21 (ok_8 hi0) dX1_insert_20 ?_
    refine g_aload_n dX1_insert_23 rfl ?_
    refine gI_X1_21 (ok_8 hi0) dX1_insert_24 ?_
    refine g_iconst dX1_insert_27 kc_1 ?_
    refine g_isub dX1_insert_28 ?_
    refine g_istore3 dX1_insert_29 ?_
    exact f_X1_insert_30_ok hi0 gFuel h
  · replace h := gif_f q h
    cases h
    exact g_vret dX1_insert_12 rfl ⟨rfl, rfl⟩
theorem dX4_insertControl_0 : decode cX4_insertControl 0 = .ok (.aload_n 0, 1) := by decide +kernel
theorem dX4_insertControl_1 : decode cX4_insertControl 1 = .ok (.iload_n 1, 1) := by decide +kernel
theorem dX4_insertControl_2 : decode cX4_insertControl 2 = .ok (.invokevirtual 45, 3) := by decide +kernel
theorem dX4_insertControl_5 : decode cX4_insertControl 5 = .ok (.iload_n 2, 1) := by decide +kernel
theorem dX4_insertControl_6 : decode cX4_insertControl 6 = .ok (.iload_n 3, 1) := by decide +kernel
theorem dX4_insertControl_7 : decode cX4_insertControl 7 = .ok (.invokevirtual 139, 3) := by decide +kernel
theorem dX4_insertControl_10 : decode cX4_insertControl 10 = .ok (.aload_n 0, 1) := by decide +kernel
theorem dX4_insertControl_11 : decode cX4_insertControl 11 = .ok (.iload_n 1, 1) := by decide +kernel
theorem dX4_insertControl_12 : decode cX4_insertControl 12 = .ok (.invokevirtual 136, 3) := by decide +kernel
theorem dX4_insertControl_15 : decode cX4_insertControl 15 = .ok (.return_, 1) := by decide +kernel
def f_X4_insertControl (i0 : Nat) (v1 : Int32) (v2 : Int32) (v3 : Int32) (σ : gSt) : Option gSt :=
  (f_X4_courseAt i0 v1 σ).bind fun p2 =>
  (f_X1_insert p2.1 v2 v3 p2.2).bind fun z7 =>
  (f_X4_matchCourse i0 v1 z7).bind fun z12 =>
  some z12
theorem f_X4_insertControl_ok {i0 : Nat} {v1 : Int32} {v2 : Int32} {v3 : Int32} (hi0 : i0 < 2) {σ : gSt} {r : gSt} (h : f_X4_insertControl i0 v1 v2 v3 σ = some r) : Mt l w 0 41 yX4_insertControl cX4_insertControl 4 none 4 95 [.ref (w.2.1 3 i0), .int v1, .int v2, .int v3] σ (gE none r) := by
  unfold f_X4_insertControl at h
  refine g_start pn_X4 rfl rfl (Nat.le_of_ble_eq_true rfl) ?_
  show G l w 0 41 RX4 cX4_insertControl 4 none 4 95 (gE none r) 0 [some (.ref (w.2.1 3 i0)), some (.int v1), some (.int v2), some (.int v3)] [] σ
  refine g_aload_n dX4_insertControl_0 rfl ?_
  refine g_iload_n dX4_insertControl_1 rfl ?_
  obtain ⟨p2, e2, h⟩ := obind h
  refine g_vR1 mv_X4_45 dX4_insertControl_2 (ok_3 hi0) ⟨by decide, by decide⟩ (Nat.le_of_ble_eq_true rfl) (f_X4_courseAt_ok hi0 e2) (fun b2 => ?_)
  refine g_iload_n dX4_insertControl_5 rfl ?_
  refine g_iload_n dX4_insertControl_6 rfl ?_
  obtain ⟨z7, e7, h⟩ := obind h
  refine g_vU2 mv_X4_139 dX4_insertControl_7 (ok_8 b2) ⟨by decide, by decide⟩ (Nat.le_of_ble_eq_true rfl) (f_X1_insert_ok b2 e7) ?_
  refine g_aload_n dX4_insertControl_10 rfl ?_
  refine g_iload_n dX4_insertControl_11 rfl ?_
  obtain ⟨z12, e12, h⟩ := obind h
  refine g_vU1 mv_X4_136 dX4_insertControl_12 (ok_3 hi0) ⟨by decide, by decide⟩ (Nat.le_of_ble_eq_true rfl) (f_X4_matchCourse_ok hi0 e12) ?_
  cases h
  exact g_vret dX4_insertControl_15 rfl ⟨rfl, rfl⟩
theorem dX0_takeBack_0 : decode cX0_takeBack 0 = .ok (.aload_n 0, 1) := by decide +kernel
theorem dX0_takeBack_1 : decode cX0_takeBack 1 = .ok (.getfield 15, 3) := by decide +kernel
theorem dX0_takeBack_4 : decode cX0_takeBack 4 = .ok (.ifCond .gt 4, 3) := by decide +kernel
theorem dX0_takeBack_7 : decode cX0_takeBack 7 = .ok (.return_, 1) := by decide +kernel
theorem dX0_takeBack_8 : decode cX0_takeBack 8 = .ok (.aload_n 0, 1) := by decide +kernel
theorem dX0_takeBack_9 : decode cX0_takeBack 9 = .ok (.dup, 1) := by decide +kernel
theorem dX0_takeBack_10 : decode cX0_takeBack 10 = .ok (.getfield 15, 3) := by decide +kernel
theorem dX0_takeBack_13 : decode cX0_takeBack 13 = .ok (.iconst 1, 1) := by decide +kernel
theorem dX0_takeBack_14 : decode cX0_takeBack 14 = .ok (.isub, 1) := by decide +kernel
theorem dX0_takeBack_15 : decode cX0_takeBack 15 = .ok (.putfield 15, 3) := by decide +kernel
theorem dX0_takeBack_18 : decode cX0_takeBack 18 = .ok (.aload_n 0, 1) := by decide +kernel
theorem dX0_takeBack_19 : decode cX0_takeBack 19 = .ok (.iconst 1, 1) := by decide +kernel
theorem dX0_takeBack_20 : decode cX0_takeBack 20 = .ok (.invokevirtual 33, 3) := by decide +kernel
theorem dX0_takeBack_23 : decode cX0_takeBack 23 = .ok (.istore_n 1, 1) := by decide +kernel
theorem dX0_takeBack_24 : decode cX0_takeBack 24 = .ok (.aload_n 0, 1) := by decide +kernel
theorem dX0_takeBack_25 : decode cX0_takeBack 25 = .ok (.iconst 2, 1) := by decide +kernel
theorem dX0_takeBack_26 : decode cX0_takeBack 26 = .ok (.invokevirtual 33, 3) := by decide +kernel
theorem dX0_takeBack_29 : decode cX0_takeBack 29 = .ok (.istore_n 2, 1) := by decide +kernel
theorem dX0_takeBack_30 : decode cX0_takeBack 30 = .ok (.aload_n 0, 1) := by decide +kernel
theorem dX0_takeBack_31 : decode cX0_takeBack 31 = .ok (.iconst 0, 1) := by decide +kernel
theorem dX0_takeBack_32 : decode cX0_takeBack 32 = .ok (.invokevirtual 33, 3) := by decide +kernel
theorem dX0_takeBack_35 : decode cX0_takeBack 35 = .ok (.tableswitch 146 0 6 #[41, 53, 75, 90, 105, 117, 129], 41) := by decide +kernel
theorem dX0_takeBack_76 : decode cX0_takeBack 76 = .ok (.aload_n 0, 1) := by decide +kernel
theorem dX0_takeBack_77 : decode cX0_takeBack 77 = .ok (.getfield 19, 3) := by decide +kernel
theorem dX0_takeBack_80 : decode cX0_takeBack 80 = .ok (.iload_n 1, 1) := by decide +kernel
theorem dX0_takeBack_81 : decode cX0_takeBack 81 = .ok (.iload_n 2, 1) := by decide +kernel
theorem dX0_takeBack_82 : decode cX0_takeBack 82 = .ok (.invokevirtual 37, 3) := by decide +kernel
theorem dX0_takeBack_85 : decode cX0_takeBack 85 = .ok (.goto 110, 3) := by decide +kernel
theorem dX0_takeBack_88 : decode cX0_takeBack 88 = .ok (.aload_n 0, 1) := by decide +kernel
theorem dX0_takeBack_89 : decode cX0_takeBack 89 = .ok (.getfield 19, 3) := by decide +kernel
theorem dX0_takeBack_92 : decode cX0_takeBack 92 = .ok (.iload_n 1, 1) := by decide +kernel
theorem dX0_takeBack_93 : decode cX0_takeBack 93 = .ok (.iload_n 2, 1) := by decide +kernel
theorem dX0_takeBack_94 : decode cX0_takeBack 94 = .ok (.aload_n 0, 1) := by decide +kernel
theorem dX0_takeBack_95 : decode cX0_takeBack 95 = .ok (.iconst 3, 1) := by decide +kernel
theorem dX0_takeBack_96 : decode cX0_takeBack 96 = .ok (.invokevirtual 33, 3) := by decide +kernel
theorem dX0_takeBack_99 : decode cX0_takeBack 99 = .ok (.aload_n 0, 1) := by decide +kernel
theorem dX0_takeBack_100 : decode cX0_takeBack 100 = .ok (.iconst 4, 1) := by decide +kernel
theorem dX0_takeBack_101 : decode cX0_takeBack 101 = .ok (.invokevirtual 33, 3) := by decide +kernel
theorem dX0_takeBack_104 : decode cX0_takeBack 104 = .ok (.invokevirtual 42, 3) := by decide +kernel
theorem dX0_takeBack_107 : decode cX0_takeBack 107 = .ok (.goto 88, 3) := by decide +kernel
theorem dX0_takeBack_110 : decode cX0_takeBack 110 = .ok (.aload_n 0, 1) := by decide +kernel
theorem dX0_takeBack_111 : decode cX0_takeBack 111 = .ok (.getfield 19, 3) := by decide +kernel
theorem dX0_takeBack_114 : decode cX0_takeBack 114 = .ok (.iload_n 1, 1) := by decide +kernel
theorem dX0_takeBack_115 : decode cX0_takeBack 115 = .ok (.invokevirtual 46, 3) := by decide +kernel
theorem dX0_takeBack_118 : decode cX0_takeBack 118 = .ok (.iload_n 2, 1) := by decide +kernel
theorem dX0_takeBack_119 : decode cX0_takeBack 119 = .ok (.putfield 50, 3) := by decide +kernel
theorem dX0_takeBack_122 : decode cX0_takeBack 122 = .ok (.goto 73, 3) := by decide +kernel
theorem dX0_takeBack_125 : decode cX0_takeBack 125 = .ok (.aload_n 0, 1) := by decide +kernel
theorem dX0_takeBack_126 : decode cX0_takeBack 126 = .ok (.getfield 19, 3) := by decide +kernel
theorem dX0_takeBack_129 : decode cX0_takeBack 129 = .ok (.iload_n 1, 1) := by decide +kernel
theorem dX0_takeBack_130 : decode cX0_takeBack 130 = .ok (.invokevirtual 46, 3) := by decide +kernel
theorem dX0_takeBack_133 : decode cX0_takeBack 133 = .ok (.iload_n 2, 1) := by decide +kernel
theorem dX0_takeBack_134 : decode cX0_takeBack 134 = .ok (.putfield 55, 3) := by decide +kernel
theorem dX0_takeBack_137 : decode cX0_takeBack 137 = .ok (.goto 58, 3) := by decide +kernel
theorem dX0_takeBack_140 : decode cX0_takeBack 140 = .ok (.aload_n 0, 1) := by decide +kernel
theorem dX0_takeBack_141 : decode cX0_takeBack 141 = .ok (.getfield 19, 3) := by decide +kernel
theorem dX0_takeBack_144 : decode cX0_takeBack 144 = .ok (.iload_n 1, 1) := by decide +kernel
theorem dX0_takeBack_145 : decode cX0_takeBack 145 = .ok (.iload_n 2, 1) := by decide +kernel
theorem dX0_takeBack_146 : decode cX0_takeBack 146 = .ok (.invokevirtual 58, 3) := by decide +kernel
theorem dX0_takeBack_149 : decode cX0_takeBack 149 = .ok (.goto 46, 3) := by decide +kernel
theorem dX0_takeBack_152 : decode cX0_takeBack 152 = .ok (.aload_n 0, 1) := by decide +kernel
theorem dX0_takeBack_153 : decode cX0_takeBack 153 = .ok (.getfield 19, 3) := by decide +kernel
theorem dX0_takeBack_156 : decode cX0_takeBack 156 = .ok (.iload_n 1, 1) := by decide +kernel
theorem dX0_takeBack_157 : decode cX0_takeBack 157 = .ok (.iload_n 2, 1) := by decide +kernel
theorem dX0_takeBack_158 : decode cX0_takeBack 158 = .ok (.invokevirtual 61, 3) := by decide +kernel
theorem dX0_takeBack_161 : decode cX0_takeBack 161 = .ok (.goto 34, 3) := by decide +kernel
theorem dX0_takeBack_164 : decode cX0_takeBack 164 = .ok (.aload_n 0, 1) := by decide +kernel
theorem dX0_takeBack_165 : decode cX0_takeBack 165 = .ok (.getfield 19, 3) := by decide +kernel
theorem dX0_takeBack_168 : decode cX0_takeBack 168 = .ok (.iload_n 1, 1) := by decide +kernel
theorem dX0_takeBack_169 : decode cX0_takeBack 169 = .ok (.iload_n 2, 1) := by decide +kernel
theorem dX0_takeBack_170 : decode cX0_takeBack 170 = .ok (.aload_n 0, 1) := by decide +kernel
theorem dX0_takeBack_171 : decode cX0_takeBack 171 = .ok (.iconst 3, 1) := by decide +kernel
theorem dX0_takeBack_172 : decode cX0_takeBack 172 = .ok (.invokevirtual 33, 3) := by decide +kernel
theorem dX0_takeBack_175 : decode cX0_takeBack 175 = .ok (.invokevirtual 64, 3) := by decide +kernel
theorem dX0_takeBack_178 : decode cX0_takeBack 178 = .ok (.goto 17, 3) := by decide +kernel
theorem dX0_takeBack_181 : decode cX0_takeBack 181 = .ok (.aload_n 0, 1) := by decide +kernel
theorem dX0_takeBack_182 : decode cX0_takeBack 182 = .ok (.getfield 19, 3) := by decide +kernel
theorem dX0_takeBack_185 : decode cX0_takeBack 185 = .ok (.iload_n 1, 1) := by decide +kernel
theorem dX0_takeBack_186 : decode cX0_takeBack 186 = .ok (.iload_n 2, 1) := by decide +kernel
theorem dX0_takeBack_187 : decode cX0_takeBack 187 = .ok (.aload_n 0, 1) := by decide +kernel
theorem dX0_takeBack_188 : decode cX0_takeBack 188 = .ok (.iconst 3, 1) := by decide +kernel
theorem dX0_takeBack_189 : decode cX0_takeBack 189 = .ok (.invokevirtual 33, 3) := by decide +kernel
theorem dX0_takeBack_192 : decode cX0_takeBack 192 = .ok (.invokevirtual 68, 3) := by decide +kernel
theorem dX0_takeBack_195 : decode cX0_takeBack 195 = .ok (.return_, 1) := by decide +kernel
def f_X0_takeBack (σ : gSt) : Option gSt :=
  if 0 < (σ 26 0 2) then
    (f_X0_value 1 (gup σ 26 0 2 ((σ 26 0 2) - 1))).bind fun p20 =>
    (f_X0_value 2 p20.2).bind fun p26 =>
    (f_X0_value 0 p26.2).bind fun p32 =>
    if p32.1 = 0 then
      (f_X4_removePunch 1 p20.1 p26.1 p32.2).bind fun z82 =>
      some z82
    else
    if p32.1 = 1 then
      (f_X0_value 3 p32.2).bind fun p96 =>
      (f_X0_value 4 p96.2).bind fun p101 =>
      (f_X4_insertPunch 1 p20.1 p26.1 p96.1 p101.1 p101.2).bind fun z104 =>
      some z104
    else
    if p32.1 = 2 then
      (f_X4_runnerAt 1 p20.1 p32.2).bind fun p115 =>
      some (gup p115.2 10 p115.1 6 p26.1)
    else
    if p32.1 = 3 then
      (f_X4_runnerAt 1 p20.1 p32.2).bind fun p130 =>
      some (gup p130.2 10 p130.1 7 p26.1)
    else
    if p32.1 = 4 then
      (f_X4_assign 1 p20.1 p26.1 p32.2).bind fun z146 =>
      some z146
    else
    if p32.1 = 5 then
      (f_X4_widen 1 p20.1 p26.1 p32.2).bind fun z158 =>
      some z158
    else
    if p32.1 = 6 then
      (f_X0_value 3 p32.2).bind fun p172 =>
      (f_X4_setCode 1 p20.1 p26.1 p172.1 p172.2).bind fun z175 =>
      some z175
    else
    (f_X0_value 3 p32.2).bind fun p189 =>
    (f_X4_insertControl 1 p20.1 p26.1 p189.1 p189.2).bind fun z192 =>
    some z192
  else
    some σ
theorem f_X0_takeBack_ok   {σ : gSt} {r : gSt} (h : f_X0_takeBack σ = some r) : Mt l w 0 41 yX0_takeBack cX0_takeBack 3 none 5 118 [.ref (w.2.1 26 0)] σ (gE none r) := by
  unfold f_X0_takeBack at h
  refine g_start pn_X0 rfl rfl (Nat.le_of_ble_eq_true rfl) ?_
  show G l w 0 41 RX0 cX0_takeBack 3 none 5 118 (gE none r) 0 [some (.ref (w.2.1 26 0)), none, none] [] σ
  refine g_aload_n dX0_takeBack_0 rfl ?_
  refine gI_X0_15 ok_26 dX0_takeBack_1 ?_
  refine g_if_gt 8 dX0_takeBack_4 rfl (fun q => ?_) (fun q => ?_)
  · replace h := gif_t q h
    refine g_aload_n dX0_takeBack_8 rfl ?_
    refine g_dup dX0_takeBack_9 rfl ?_
    refine gI_X0_15 ok_26 dX0_takeBack_10 ?_
    refine g_iconst dX0_takeBack_13 kc_1 ?_
    refine g_isub dX0_takeBack_14 ?_
    refine gP_X0_15 ok_26 dX0_takeBack_15 ?_
    refine g_aload_n dX0_takeBack_18 rfl ?_
    refine g_iconst dX0_takeBack_19 kc_1 ?_
    obtain ⟨p20, e20, h⟩ := obind h
    refine g_vP1 mv_X0_33 dX0_takeBack_20 ok_26 ⟨by decide, by decide⟩ (Nat.le_of_ble_eq_true rfl) (f_X0_value_ok e20) ?_
    refine g_istore1 dX0_takeBack_23 ?_
    refine g_aload_n dX0_takeBack_24 rfl ?_
    refine g_iconst dX0_takeBack_25 kc_2 ?_
    obtain ⟨p26, e26, h⟩ := obind h
    refine g_vP1 mv_X0_33 dX0_takeBack_26 ok_26 ⟨by decide, by decide⟩ (Nat.le_of_ble_eq_true rfl) (f_X0_value_ok e26) ?_
    refine g_istore2 dX0_takeBack_29 ?_
    refine g_aload_n dX0_takeBack_30 rfl ?_
    refine g_iconst dX0_takeBack_31 kc_0 ?_
    obtain ⟨p32, e32, h⟩ := obind h
    refine g_vP1 mv_X0_33 dX0_takeBack_32 ok_26 ⟨by decide, by decide⟩ (Nat.le_of_ble_eq_true rfl) (f_X0_value_ok e32) ?_
    by_cases q0 : p32.1 = 0
    · replace h := gif_t q0 h
      refine g_tableIn (off := 41) 76 dX0_takeBack_35 (by rw [q0]; decide) (by rw [q0]; decide) (by rw [q0]; rfl) rfl ?_
      refine g_aload_n dX0_takeBack_76 rfl ?_
      refine gR_X0_19 ok_26 dX0_takeBack_77 ?_
      refine g_iload_n dX0_takeBack_80 rfl ?_
      refine g_iload_n dX0_takeBack_81 rfl ?_
      obtain ⟨z82, e82, h⟩ := obind h
      refine g_vU2 mv_X0_37 dX0_takeBack_82 (ok_3 (by decide)) ⟨by decide, by decide⟩ (Nat.le_of_ble_eq_true rfl) (f_X4_removePunch_ok (by decide) e82) ?_
      refine g_goto 195 dX0_takeBack_85 rfl ?_
      cases h
      exact g_vret dX0_takeBack_195 rfl ⟨rfl, rfl⟩
    replace h := gif_f q0 h
    by_cases q1 : p32.1 = 1
    · replace h := gif_t q1 h
      refine g_tableIn (off := 53) 88 dX0_takeBack_35 (by rw [q1]; decide) (by rw [q1]; decide) (by rw [q1]; rfl) rfl ?_
      refine g_aload_n dX0_takeBack_88 rfl ?_
      refine gR_X0_19 ok_26 dX0_takeBack_89 ?_
      refine g_iload_n dX0_takeBack_92 rfl ?_
      refine g_iload_n dX0_takeBack_93 rfl ?_
      refine g_aload_n dX0_takeBack_94 rfl ?_
      refine g_iconst dX0_takeBack_95 kc_3 ?_
      obtain ⟨p96, e96, h⟩ := obind h
      refine g_vP1 mv_X0_33 dX0_takeBack_96 ok_26 ⟨by decide, by decide⟩ (Nat.le_of_ble_eq_true rfl) (f_X0_value_ok e96) ?_
      refine g_aload_n dX0_takeBack_99 rfl ?_
      refine g_iconst dX0_takeBack_100 kc_4 ?_
      obtain ⟨p101, e101, h⟩ := obind h
      refine g_vP1 mv_X0_33 dX0_takeBack_101 ok_26 ⟨by decide, by decide⟩ (Nat.le_of_ble_eq_true rfl) (f_X0_value_ok e101) ?_
      obtain ⟨z104, e104, h⟩ := obind h
      refine g_vU4 mv_X0_42 dX0_takeBack_104 (ok_3 (by decide)) ⟨by decide, by decide⟩ (Nat.le_of_ble_eq_true rfl) (f_X4_insertPunch_ok (by decide) e104) ?_
      refine g_goto 195 dX0_takeBack_107 rfl ?_
      cases h
      exact g_vret dX0_takeBack_195 rfl ⟨rfl, rfl⟩
    replace h := gif_f q1 h
    by_cases q2 : p32.1 = 2
    · replace h := gif_t q2 h
      refine g_tableIn (off := 75) 110 dX0_takeBack_35 (by rw [q2]; decide) (by rw [q2]; decide) (by rw [q2]; rfl) rfl ?_
      refine g_aload_n dX0_takeBack_110 rfl ?_
      refine gR_X0_19 ok_26 dX0_takeBack_111 ?_
      refine g_iload_n dX0_takeBack_114 rfl ?_
      obtain ⟨p115, e115, h⟩ := obind h
      refine g_vR1 mv_X0_46 dX0_takeBack_115 (ok_3 (by decide)) ⟨by decide, by decide⟩ (Nat.le_of_ble_eq_true rfl) (f_X4_runnerAt_ok (by decide) e115) (fun b115 => ?_)
      refine g_iload_n dX0_takeBack_118 rfl ?_
      refine gP_X0_50 (ok_10 b115) dX0_takeBack_119 ?_
      refine g_goto 195 dX0_takeBack_122 rfl ?_
      cases h
      exact g_vret dX0_takeBack_195 rfl ⟨rfl, rfl⟩
    replace h := gif_f q2 h
    by_cases q3 : p32.1 = 3
    · replace h := gif_t q3 h
      refine g_tableIn (off := 90) 125 dX0_takeBack_35 (by rw [q3]; decide) (by rw [q3]; decide) (by rw [q3]; rfl) rfl ?_
      refine g_aload_n dX0_takeBack_125 rfl ?_
      refine gR_X0_19 ok_26 dX0_takeBack_126 ?_
      refine g_iload_n dX0_takeBack_129 rfl ?_
      obtain ⟨p130, e130, h⟩ := obind h
      refine g_vR1 mv_X0_46 dX0_takeBack_130 (ok_3 (by decide)) ⟨by decide, by decide⟩ (Nat.le_of_ble_eq_true rfl) (f_X4_runnerAt_ok (by decide) e130) (fun b130 => ?_)
      refine g_iload_n dX0_takeBack_133 rfl ?_
      refine gP_X0_55 (ok_10 b130) dX0_takeBack_134 ?_
      refine g_goto 195 dX0_takeBack_137 rfl ?_
      cases h
      exact g_vret dX0_takeBack_195 rfl ⟨rfl, rfl⟩
    replace h := gif_f q3 h
    by_cases q4 : p32.1 = 4
    · replace h := gif_t q4 h
      refine g_tableIn (off := 105) 140 dX0_takeBack_35 (by rw [q4]; decide) (by rw [q4]; decide) (by rw [q4]; rfl) rfl ?_
      refine g_aload_n dX0_takeBack_140 rfl ?_
      refine gR_X0_19 ok_26 dX0_takeBack_141 ?_
      refine g_iload_n dX0_takeBack_144 rfl ?_
      refine g_iload_n dX0_takeBack_145 rfl ?_
      obtain ⟨z146, e146, h⟩ := obind h
      refine g_vU2 mv_X0_58 dX0_takeBack_146 (ok_3 (by decide)) ⟨by decide, by decide⟩ (Nat.le_of_ble_eq_true rfl) (f_X4_assign_ok (by decide) e146) ?_
      refine g_goto 195 dX0_takeBack_149 rfl ?_
      cases h
      exact g_vret dX0_takeBack_195 rfl ⟨rfl, rfl⟩
    replace h := gif_f q4 h
    by_cases q5 : p32.1 = 5
    · replace h := gif_t q5 h
      refine g_tableIn (off := 117) 152 dX0_takeBack_35 (by rw [q5]; decide) (by rw [q5]; decide) (by rw [q5]; rfl) rfl ?_
      refine g_aload_n dX0_takeBack_152 rfl ?_
      refine gR_X0_19 ok_26 dX0_takeBack_153 ?_
      refine g_iload_n dX0_takeBack_156 rfl ?_
      refine g_iload_n dX0_takeBack_157 rfl ?_
      obtain ⟨z158, e158, h⟩ := obind h
      refine g_vU2 mv_X0_61 dX0_takeBack_158 (ok_3 (by decide)) ⟨by decide, by decide⟩ (Nat.le_of_ble_eq_true rfl) (f_X4_widen_ok (by decide) e158) ?_
      refine g_goto 195 dX0_takeBack_161 rfl ?_
      cases h
      exact g_vret dX0_takeBack_195 rfl ⟨rfl, rfl⟩
    replace h := gif_f q5 h
    by_cases q6 : p32.1 = 6
    · replace h := gif_t q6 h
      refine g_tableIn (off := 129) 164 dX0_takeBack_35 (by rw [q6]; decide) (by rw [q6]; decide) (by rw [q6]; rfl) rfl ?_
      refine g_aload_n dX0_takeBack_164 rfl ?_
      refine gR_X0_19 ok_26 dX0_takeBack_165 ?_
      refine g_iload_n dX0_takeBack_168 rfl ?_
      refine g_iload_n dX0_takeBack_169 rfl ?_
      refine g_aload_n dX0_takeBack_170 rfl ?_
      refine g_iconst dX0_takeBack_171 kc_3 ?_
      obtain ⟨p172, e172, h⟩ := obind h
      refine g_vP1 mv_X0_33 dX0_takeBack_172 ok_26 ⟨by decide, by decide⟩ (Nat.le_of_ble_eq_true rfl) (f_X0_value_ok e172) ?_
      obtain ⟨z175, e175, h⟩ := obind h
      refine g_vU3 mv_X0_64 dX0_takeBack_175 (ok_3 (by decide)) ⟨by decide, by decide⟩ (Nat.le_of_ble_eq_true rfl) (f_X4_setCode_ok (by decide) e175) ?_
      refine g_goto 195 dX0_takeBack_178 rfl ?_
      cases h
      exact g_vret dX0_takeBack_195 rfl ⟨rfl, rfl⟩
    replace h := gif_f q6 h
    refine g_tableOut 181 dX0_takeBack_35 (tabOut (b := 6) (by decide) (fun j hj => by rcases (show j = 0 ∨ j = 1 ∨ j = 2 ∨ j = 3 ∨ j = 4 ∨ j = 5 ∨ j = 6 by omega) with rfl | rfl | rfl | rfl | rfl | rfl | rfl <;> assumption)) rfl ?_
    refine g_aload_n dX0_takeBack_181 rfl ?_
    refine gR_X0_19 ok_26 dX0_takeBack_182 ?_
    refine g_iload_n dX0_takeBack_185 rfl ?_
    refine g_iload_n dX0_takeBack_186 rfl ?_
    refine g_aload_n dX0_takeBack_187 rfl ?_
    refine g_iconst dX0_takeBack_188 kc_3 ?_
    obtain ⟨p189, e189, h⟩ := obind h
    refine g_vP1 mv_X0_33 dX0_takeBack_189 ok_26 ⟨by decide, by decide⟩ (Nat.le_of_ble_eq_true rfl) (f_X0_value_ok e189) ?_
    obtain ⟨z192, e192, h⟩ := obind h
    refine g_vU3 mv_X0_68 dX0_takeBack_192 (ok_3 (by decide)) ⟨by decide, by decide⟩ (Nat.le_of_ble_eq_true rfl) (f_X4_insertControl_ok (by decide) e192) ?_
    cases h
    exact g_vret dX0_takeBack_195 rfl ⟨rfl, rfl⟩
  · replace h := gif_f q h
    cases h
    exact g_vret dX0_takeBack_7 rfl ⟨rfl, rfl⟩
theorem dX1_copyFrom_0 : decode cX1_copyFrom 0 = .ok (.aload_n 0, 1) := by decide +kernel
theorem dX1_copyFrom_1 : decode cX1_copyFrom 1 = .ok (.aload_n 1, 1) := by decide +kernel
theorem dX1_copyFrom_2 : decode cX1_copyFrom 2 = .ok (.getfield 17, 3) := by decide +kernel
theorem dX1_copyFrom_5 : decode cX1_copyFrom 5 = .ok (.putfield 17, 3) := by decide +kernel
theorem dX1_copyFrom_8 : decode cX1_copyFrom 8 = .ok (.aload_n 0, 1) := by decide +kernel
theorem dX1_copyFrom_9 : decode cX1_copyFrom 9 = .ok (.aload_n 1, 1) := by decide +kernel
theorem dX1_copyFrom_10 : decode cX1_copyFrom 10 = .ok (.getfield 21, 3) := by decide +kernel
theorem dX1_copyFrom_13 : decode cX1_copyFrom 13 = .ok (.putfield 21, 3) := by decide +kernel
theorem dX1_copyFrom_16 : decode cX1_copyFrom 16 = .ok (.aload_n 1, 1) := by decide +kernel
theorem dX1_copyFrom_17 : decode cX1_copyFrom 17 = .ok (.getfield 9, 3) := by decide +kernel
theorem dX1_copyFrom_20 : decode cX1_copyFrom 20 = .ok (.iconst 0, 1) := by decide +kernel
theorem dX1_copyFrom_21 : decode cX1_copyFrom 21 = .ok (.aload_n 0, 1) := by decide +kernel
theorem dX1_copyFrom_22 : decode cX1_copyFrom 22 = .ok (.getfield 9, 3) := by decide +kernel
theorem dX1_copyFrom_25 : decode cX1_copyFrom 25 = .ok (.iconst 0, 1) := by decide +kernel
theorem dX1_copyFrom_26 : decode cX1_copyFrom 26 = .ok (.bipush 10, 2) := by decide +kernel
theorem dX1_copyFrom_28 : decode cX1_copyFrom 28 = .ok (.invokestatic 24, 3) := by decide +kernel
theorem dX1_copyFrom_31 : decode cX1_copyFrom 31 = .ok (.return_, 1) := by decide +kernel
def f_X1_copyFrom (i0 : Nat) (i1 : Nat) (σ : gSt) : Option gSt :=
  (gcpy (gup (gup σ 8 i0 1 (σ 8 i1 1)) 8 i0 2 ((gup σ 8 i0 1 (σ 8 i1 1)) 8 i1 2)) 9 i1 10 9 i0 10 0 0 10).bind fun z28 =>
  some z28
theorem f_X1_copyFrom_ok {i0 : Nat} {i1 : Nat} (hi0 : i0 < 6) (hi1 : i1 < 6) {σ : gSt} {r : gSt} (h : f_X1_copyFrom i0 i1 σ = some r) : Mt l w 0 41 yX1_copyFrom cX1_copyFrom 2 none 1 60 [.ref (w.2.1 8 i0), .ref (w.2.1 8 i1)] σ (gE none r) := by
  unfold f_X1_copyFrom at h
  refine g_start pn_X1 rfl rfl (Nat.le_of_ble_eq_true rfl) ?_
  show G l w 0 41 RX1 cX1_copyFrom 2 none 1 60 (gE none r) 0 [some (.ref (w.2.1 8 i0)), some (.ref (w.2.1 8 i1))] [] σ
  refine g_aload_n dX1_copyFrom_0 rfl ?_
  refine g_aload_n dX1_copyFrom_1 rfl ?_
  refine gI_X1_17 (ok_8 hi1) dX1_copyFrom_2 ?_
  refine gP_X1_17 (ok_8 hi0) dX1_copyFrom_5 ?_
  refine g_aload_n dX1_copyFrom_8 rfl ?_
  refine g_aload_n dX1_copyFrom_9 rfl ?_
  refine gI_X1_21 (ok_8 hi1) dX1_copyFrom_10 ?_
  refine gP_X1_21 (ok_8 hi0) dX1_copyFrom_13 ?_
  refine g_aload_n dX1_copyFrom_16 rfl ?_
  refine gR_X1_9 (ok_8 hi1) dX1_copyFrom_17 ?_
  refine g_iconst dX1_copyFrom_20 kc_0 ?_
  refine g_aload_n dX1_copyFrom_21 rfl ?_
  refine gR_X1_9 (ok_8 hi0) dX1_copyFrom_22 ?_
  refine g_iconst dX1_copyFrom_25 kc_0 ?_
  refine g_bipush dX1_copyFrom_26 kb_10 ?_
  obtain ⟨z28, e28, h⟩ := obind h
  refine g_cpyB e28 cp_X1_24 (ok_9 hi1) (ok_9 hi0) rfl rfl rfl rfl (by decide) (by decide) dX1_copyFrom_28 ?_
  cases h
  exact g_vret dX1_copyFrom_31 rfl ⟨rfl, rfl⟩
theorem dX1_isCode_0 : decode cX1_isCode 0 = .ok (.aload_n 0, 1) := by decide +kernel
theorem dX1_isCode_1 : decode cX1_isCode 1 = .ok (.iload_n 1, 1) := by decide +kernel
theorem dX1_isCode_2 : decode cX1_isCode 2 = .ok (.invokevirtual 30, 3) := by decide +kernel
theorem dX1_isCode_5 : decode cX1_isCode 5 = .ok (.ifCond .eq 16, 3) := by decide +kernel
theorem dX1_isCode_8 : decode cX1_isCode 8 = .ok (.aload_n 0, 1) := by decide +kernel
theorem dX1_isCode_9 : decode cX1_isCode 9 = .ok (.iload_n 1, 1) := by decide +kernel
theorem dX1_isCode_10 : decode cX1_isCode 10 = .ok (.invokevirtual 34, 3) := by decide +kernel
theorem dX1_isCode_13 : decode cX1_isCode 13 = .ok (.iload_n 2, 1) := by decide +kernel
theorem dX1_isCode_14 : decode cX1_isCode 14 = .ok (.if_icmp .ne 7, 3) := by decide +kernel
theorem dX1_isCode_17 : decode cX1_isCode 17 = .ok (.iconst 1, 1) := by decide +kernel
theorem dX1_isCode_18 : decode cX1_isCode 18 = .ok (.goto 4, 3) := by decide +kernel
theorem dX1_isCode_21 : decode cX1_isCode 21 = .ok (.iconst 0, 1) := by decide +kernel
theorem dX1_isCode_22 : decode cX1_isCode 22 = .ok (.ireturn, 1) := by decide +kernel
def f_X1_isCode (i0 : Nat) (v1 : Int32) (v2 : Int32) (σ : gSt) : Option (Int32 × gSt) :=
  (f_X1_has i0 v1 σ).bind fun p2 =>
  if p2.1 = 0 then
    some (0, p2.2)
  else
    (f_X1_codeAt i0 v1 p2.2).bind fun p10 =>
    if p10.1 = v2 then
      some (1, p10.2)
    else
      some (0, p10.2)
theorem f_X1_isCode_ok {i0 : Nat} {v1 : Int32} {v2 : Int32} (hi0 : i0 < 6) {σ : gSt} {r : (Int32 × gSt)} (h : f_X1_isCode i0 v1 v2 σ = some r) : Mt l w 0 41 yX1_isCode cX1_isCode 3 (some .boolean) 1 21 [.ref (w.2.1 8 i0), .int v1, .int v2] σ (gE (some (.int r.1)) r.2) := by
  unfold f_X1_isCode at h
  refine g_start pn_X1 rfl rfl (Nat.le_of_ble_eq_true rfl) ?_
  show G l w 0 41 RX1 cX1_isCode 3 (some .boolean) 1 21 (gE (some (.int r.1)) r.2) 0 [some (.ref (w.2.1 8 i0)), some (.int v1), some (.int v2)] [] σ
  refine g_aload_n dX1_isCode_0 rfl ?_
  refine g_iload_n dX1_isCode_1 rfl ?_
  obtain ⟨p2, e2, h⟩ := obind h
  refine g_vP1 mv_X1_30 dX1_isCode_2 (ok_8 hi0) ⟨by decide, by decide⟩ (Nat.le_of_ble_eq_true rfl) (f_X1_has_ok hi0 e2) ?_
  refine g_if_eq 21 dX1_isCode_5 rfl (fun q => ?_) (fun q => ?_)
  · replace h := gif_t q h
    refine g_iconst dX1_isCode_21 kc_0 ?_
    cases h
    exact g_zret0 dX1_isCode_22 rfl
  · replace h := gif_f q h
    refine g_aload_n dX1_isCode_8 rfl ?_
    refine g_iload_n dX1_isCode_9 rfl ?_
    obtain ⟨p10, e10, h⟩ := obind h
    refine g_vP1 mv_X1_34 dX1_isCode_10 (ok_8 hi0) ⟨by decide, by decide⟩ (Nat.le_of_ble_eq_true rfl) (f_X1_codeAt_ok hi0 e10) ?_
    refine g_iload_n dX1_isCode_13 rfl ?_
    refine g_icmp_ne 21 dX1_isCode_14 rfl (fun q => ?_) (fun q => ?_)
    · replace h := gif_f q h
      refine g_iconst dX1_isCode_21 kc_0 ?_
      cases h
      exact g_zret0 dX1_isCode_22 rfl
    · replace h := gif_t q h
      refine g_iconst dX1_isCode_17 kc_1 ?_
      refine g_goto 22 dX1_isCode_18 rfl ?_
      cases h
      exact g_zret1 dX1_isCode_22 rfl
theorem dX1_remove_0 : decode cX1_remove 0 = .ok (.aload_n 0, 1) := by decide +kernel
theorem dX1_remove_1 : decode cX1_remove 1 = .ok (.iload_n 1, 1) := by decide +kernel
theorem dX1_remove_2 : decode cX1_remove 2 = .ok (.invokevirtual 30, 3) := by decide +kernel
theorem dX1_remove_5 : decode cX1_remove 5 = .ok (.ifCond .ne 4, 3) := by decide +kernel
theorem dX1_remove_8 : decode cX1_remove 8 = .ok (.return_, 1) := by decide +kernel
theorem dX1_remove_9 : decode cX1_remove 9 = .ok (.iload_n 1, 1) := by decide +kernel
theorem dX1_remove_10 : decode cX1_remove 10 = .ok (.istore_n 2, 1) := by decide +kernel
theorem dX1_remove_11 : decode cX1_remove 11 = .ok (.iload_n 2, 1) := by decide +kernel
theorem dX1_remove_12 : decode cX1_remove 12 = .ok (.aload_n 0, 1) := by decide +kernel
theorem dX1_remove_13 : decode cX1_remove 13 = .ok (.getfield 21, 3) := by decide +kernel
theorem dX1_remove_16 : decode cX1_remove 16 = .ok (.iconst 1, 1) := by decide +kernel
theorem dX1_remove_17 : decode cX1_remove 17 = .ok (.isub, 1) := by decide +kernel
theorem dX1_remove_18 : decode cX1_remove 18 = .ok (.if_icmp .ge 21, 3) := by decide +kernel
theorem dX1_remove_21 : decode cX1_remove 21 = .ok (.aload_n 0, 1) := by decide +kernel
theorem dX1_remove_22 : decode cX1_remove 22 = .ok (.iload_n 2, 1) := by decide +kernel
theorem dX1_remove_23 : decode cX1_remove 23 = .ok (.aload_n 0, 1) := by decide +kernel
theorem dX1_remove_24 : decode cX1_remove 24 = .ok (.iload_n 2, 1) := by decide +kernel
theorem dX1_remove_25 : decode cX1_remove 25 = .ok (.iconst 1, 1) := by decide +kernel
theorem dX1_remove_26 : decode cX1_remove 26 = .ok (.iadd, 1) := by decide +kernel
theorem dX1_remove_27 : decode cX1_remove 27 = .ok (.invokevirtual 34, 3) := by decide +kernel
theorem dX1_remove_30 : decode cX1_remove 30 = .ok (.invokevirtual 38, 3) := by decide +kernel
theorem dX1_remove_33 : decode cX1_remove 33 = .ok (.iinc 2 1, 3) := by decide +kernel
theorem dX1_remove_36 : decode cX1_remove 36 = .ok (.goto (-25), 3) := by decide +kernel
theorem dX1_remove_39 : decode cX1_remove 39 = .ok (.aload_n 0, 1) := by decide +kernel
theorem dX1_remove_40 : decode cX1_remove 40 = .ok (.dup, 1) := by decide +kernel
theorem dX1_remove_41 : decode cX1_remove 41 = .ok (.getfield 21, 3) := by decide +kernel
theorem dX1_remove_44 : decode cX1_remove 44 = .ok (.iconst 1, 1) := by decide +kernel
theorem dX1_remove_45 : decode cX1_remove 45 = .ok (.isub, 1) := by decide +kernel
theorem dX1_remove_46 : decode cX1_remove 46 = .ok (.putfield 21, 3) := by decide +kernel
theorem dX1_remove_49 : decode cX1_remove 49 = .ok (.return_, 1) := by decide +kernel
def f_X1_remove_11 (i0 : Nat) : Nat → Int32 → gSt → Option gSt
  | 0, _, _ => none
  | n + 1, v2, σ =>
    if ((σ 8 i0 2) - 1) ≤ v2 then
      some (gup σ 8 i0 2 ((σ 8 i0 2) - 1))
    else
      (f_X1_codeAt i0 (v2 + 1) σ).bind fun p27 =>
      (f_X1_set i0 v2 p27.1 p27.2).bind fun z30 =>
      f_X1_remove_11 i0 n (v2 + 1) z30
def f_X1_remove (i0 : Nat) (v1 : Int32) (σ : gSt) : Option gSt :=
  (f_X1_has i0 v1 σ).bind fun p2 =>
  if p2.1 = 0 then
    some p2.2
  else
    f_X1_remove_11 i0 gFuel v1 p2.2
theorem f_X1_remove_11_ok {i0 : Nat} {r : gSt} (hi0 : i0 < 6) : ∀ (n : Nat) {v2 : Int32} {σ : gSt} {x1 : Option Value}, f_X1_remove_11 i0 n v2 σ = some r → G l w 0 41 RX1 cX1_remove 3 none 2 43 (gE none r) 11 [some (.ref (w.2.1 8 i0)), x1, some (.int v2)] [] σ := by
  intro n
  induction n with
  | zero => intro v2 σ x1 h; rw [f_X1_remove_11] at h; cases h
  | succ n ih =>
    intro v2 σ x1 h
    rw [f_X1_remove_11] at h
    refine g_iload_n dX1_remove_11 rfl ?_
    refine g_aload_n dX1_remove_12 rfl ?_
    refine gI_X1_21 (ok_8 hi0) dX1_remove_13 ?_
    refine g_iconst dX1_remove_16 kc_1 ?_
    refine g_isub dX1_remove_17 ?_
    refine g_icmp_ge 39 dX1_remove_18 rfl (fun q => ?_) (fun q => ?_)
    · replace h := gif_t q h
      refine g_aload_n dX1_remove_39 rfl ?_
      refine g_dup dX1_remove_40 rfl ?_
      refine gI_X1_21 (ok_8 hi0) dX1_remove_41 ?_
      refine g_iconst dX1_remove_44 kc_1 ?_
      refine g_isub dX1_remove_45 ?_
      refine gP_X1_21 (ok_8 hi0) dX1_remove_46 ?_
      cases h
      exact g_vret dX1_remove_49 rfl ⟨rfl, rfl⟩
    · replace h := gif_f q h
      refine g_aload_n dX1_remove_21 rfl ?_
      refine g_iload_n dX1_remove_22 rfl ?_
      refine g_aload_n dX1_remove_23 rfl ?_
      refine g_iload_n dX1_remove_24 rfl ?_
      refine g_iconst dX1_remove_25 kc_1 ?_
      refine g_iadd dX1_remove_26 ?_
      obtain ⟨p27, e27, h⟩ := obind h
      refine g_vP1 mv_X1_34 dX1_remove_27 (ok_8 hi0) ⟨by decide, by decide⟩ (Nat.le_of_ble_eq_true rfl) (f_X1_codeAt_ok hi0 e27) ?_
      obtain ⟨z30, e30, h⟩ := obind h
      refine g_vU2 mv_X1_38 dX1_remove_30 (ok_8 hi0) ⟨by decide, by decide⟩ (Nat.le_of_ble_eq_true rfl) (f_X1_set_ok hi0 e30) ?_
      refine g_inc2 kc_1 dX1_remove_33 ?_
      refine g_goto 11 dX1_remove_36 rfl ?_
      exact ih h
theorem f_X1_remove_ok {i0 : Nat} {v1 : Int32} (hi0 : i0 < 6) {σ : gSt} {r : gSt} (h : f_X1_remove i0 v1 σ = some r) : Mt l w 0 41 yX1_remove cX1_remove 3 none 2 43 [.ref (w.2.1 8 i0), .int v1] σ (gE none r) := by
  unfold f_X1_remove at h
  refine g_start pn_X1 rfl rfl (Nat.le_of_ble_eq_true rfl) ?_
  show G l w 0 41 RX1 cX1_remove 3 none 2 43 (gE none r) 0 [some (.ref (w.2.1 8 i0)), some (.int v1), none] [] σ
  refine g_aload_n dX1_remove_0 rfl ?_
  refine g_iload_n dX1_remove_1 rfl ?_
  obtain ⟨p2, e2, h⟩ := obind h
  refine g_vP1 mv_X1_30 dX1_remove_2 (ok_8 hi0) ⟨by decide, by decide⟩ (Nat.le_of_ble_eq_true rfl) (f_X1_has_ok hi0 e2) ?_
  refine g_if_ne 9 dX1_remove_5 rfl (fun q => ?_) (fun q => ?_)
  · replace h := gif_f q h
    refine g_iload_n dX1_remove_9 rfl ?_
    refine g_istore2 dX1_remove_10 ?_
    exact f_X1_remove_11_ok hi0 gFuel h
  · replace h := gif_t q h
    cases h
    exact g_vret dX1_remove_8 rfl ⟨rfl, rfl⟩
theorem dX1_hasPair_0 : decode cX1_hasPair 0 = .ok (.iconst 0, 1) := by decide +kernel
theorem dX1_hasPair_1 : decode cX1_hasPair 1 = .ok (.istore 4, 2) := by decide +kernel
theorem dX1_hasPair_3 : decode cX1_hasPair 3 = .ok (.iload 4, 2) := by decide +kernel
theorem dX1_hasPair_5 : decode cX1_hasPair 5 = .ok (.iconst 1, 1) := by decide +kernel
theorem dX1_hasPair_6 : decode cX1_hasPair 6 = .ok (.iadd, 1) := by decide +kernel
theorem dX1_hasPair_7 : decode cX1_hasPair 7 = .ok (.iload_n 3, 1) := by decide +kernel
theorem dX1_hasPair_8 : decode cX1_hasPair 8 = .ok (.if_icmp .ge 33, 3) := by decide +kernel
theorem dX1_hasPair_11 : decode cX1_hasPair 11 = .ok (.aload_n 0, 1) := by decide +kernel
theorem dX1_hasPair_12 : decode cX1_hasPair 12 = .ok (.iload 4, 2) := by decide +kernel
theorem dX1_hasPair_14 : decode cX1_hasPair 14 = .ok (.iload_n 1, 1) := by decide +kernel
theorem dX1_hasPair_15 : decode cX1_hasPair 15 = .ok (.invokevirtual 42, 3) := by decide +kernel
theorem dX1_hasPair_18 : decode cX1_hasPair 18 = .ok (.ifCond .eq 17, 3) := by decide +kernel
theorem dX1_hasPair_21 : decode cX1_hasPair 21 = .ok (.aload_n 0, 1) := by decide +kernel
theorem dX1_hasPair_22 : decode cX1_hasPair 22 = .ok (.iload 4, 2) := by decide +kernel
theorem dX1_hasPair_24 : decode cX1_hasPair 24 = .ok (.iconst 1, 1) := by decide +kernel
theorem dX1_hasPair_25 : decode cX1_hasPair 25 = .ok (.iadd, 1) := by decide +kernel
theorem dX1_hasPair_26 : decode cX1_hasPair 26 = .ok (.iload_n 2, 1) := by decide +kernel
theorem dX1_hasPair_27 : decode cX1_hasPair 27 = .ok (.invokevirtual 42, 3) := by decide +kernel
theorem dX1_hasPair_30 : decode cX1_hasPair 30 = .ok (.ifCond .eq 5, 3) := by decide +kernel
theorem dX1_hasPair_33 : decode cX1_hasPair 33 = .ok (.iconst 1, 1) := by decide +kernel
theorem dX1_hasPair_34 : decode cX1_hasPair 34 = .ok (.ireturn, 1) := by decide +kernel
theorem dX1_hasPair_35 : decode cX1_hasPair 35 = .ok (.iinc 4 1, 3) := by decide +kernel
theorem dX1_hasPair_38 : decode cX1_hasPair 38 = .ok (.goto (-35), 3) := by decide +kernel
theorem dX1_hasPair_41 : decode cX1_hasPair 41 = .ok (.iconst 0, 1) := by decide +kernel
theorem dX1_hasPair_42 : decode cX1_hasPair 42 = .ok (.ireturn, 1) := by decide +kernel
def f_X1_hasPair_3 (i0 : Nat) (v1 : Int32) (v2 : Int32) (v3 : Int32) : Nat → Int32 → gSt → Option (Int32 × gSt)
  | 0, _, _ => none
  | n + 1, v4, σ =>
    if v3 ≤ (v4 + 1) then
      some (0, σ)
    else
      (f_X1_isCode i0 v4 v1 σ).bind fun p15 =>
      if p15.1 = 0 then
        f_X1_hasPair_3 i0 v1 v2 v3 n (v4 + 1) p15.2
      else
        (f_X1_isCode i0 (v4 + 1) v2 p15.2).bind fun p27 =>
        if p27.1 = 0 then
          f_X1_hasPair_3 i0 v1 v2 v3 n (v4 + 1) p27.2
        else
          some (1, p27.2)
def f_X1_hasPair (i0 : Nat) (v1 : Int32) (v2 : Int32) (v3 : Int32) (σ : gSt) : Option (Int32 × gSt) :=
  f_X1_hasPair_3 i0 v1 v2 v3 gFuel 0 σ
theorem f_X1_hasPair_3_ok {i0 : Nat} {v1 : Int32} {v2 : Int32} {v3 : Int32} {r : (Int32 × gSt)} (hi0 : i0 < 6) : ∀ (n : Nat) {v4 : Int32} {σ : gSt} , f_X1_hasPair_3 i0 v1 v2 v3 n v4 σ = some r → G l w 0 41 RX1 cX1_hasPair 5 (some .boolean) 2 43 (gE (some (.int r.1)) r.2) 3 [some (.ref (w.2.1 8 i0)), some (.int v1), some (.int v2), some (.int v3), some (.int v4)] [] σ := by
  intro n
  induction n with
  | zero => intro v4 σ h; rw [f_X1_hasPair_3] at h; cases h
  | succ n ih =>
    intro v4 σ h
    rw [f_X1_hasPair_3] at h
    refine g_iload dX1_hasPair_3 rfl ?_
    refine g_iconst dX1_hasPair_5 kc_1 ?_
    refine g_iadd dX1_hasPair_6 ?_
    refine g_iload_n dX1_hasPair_7 rfl ?_
    refine g_icmp_ge 41 dX1_hasPair_8 rfl (fun q => ?_) (fun q => ?_)
    · replace h := gif_t q h
      refine g_iconst dX1_hasPair_41 kc_0 ?_
      cases h
      exact g_zret0 dX1_hasPair_42 rfl
    · replace h := gif_f q h
      refine g_aload_n dX1_hasPair_11 rfl ?_
      refine g_iload dX1_hasPair_12 rfl ?_
      refine g_iload_n dX1_hasPair_14 rfl ?_
      obtain ⟨p15, e15, h⟩ := obind h
      refine g_vP2 mv_X1_42 dX1_hasPair_15 (ok_8 hi0) ⟨by decide, by decide⟩ (Nat.le_of_ble_eq_true rfl) (f_X1_isCode_ok hi0 e15) ?_
      refine g_if_eq 35 dX1_hasPair_18 rfl (fun q => ?_) (fun q => ?_)
      · replace h := gif_t q h
        refine g_inc4 kc_1 dX1_hasPair_35 ?_
        refine g_goto 3 dX1_hasPair_38 rfl ?_
        exact ih h
      · replace h := gif_f q h
        refine g_aload_n dX1_hasPair_21 rfl ?_
        refine g_iload dX1_hasPair_22 rfl ?_
        refine g_iconst dX1_hasPair_24 kc_1 ?_
        refine g_iadd dX1_hasPair_25 ?_
        refine g_iload_n dX1_hasPair_26 rfl ?_
        obtain ⟨p27, e27, h⟩ := obind h
        refine g_vP2 mv_X1_42 dX1_hasPair_27 (ok_8 hi0) ⟨by decide, by decide⟩ (Nat.le_of_ble_eq_true rfl) (f_X1_isCode_ok hi0 e27) ?_
        refine g_if_eq 35 dX1_hasPair_30 rfl (fun q => ?_) (fun q => ?_)
        · replace h := gif_t q h
          refine g_inc4 kc_1 dX1_hasPair_35 ?_
          refine g_goto 3 dX1_hasPair_38 rfl ?_
          exact ih h
        · replace h := gif_f q h
          refine g_iconst dX1_hasPair_33 kc_1 ?_
          cases h
          exact g_zret1 dX1_hasPair_34 rfl
theorem f_X1_hasPair_ok {i0 : Nat} {v1 : Int32} {v2 : Int32} {v3 : Int32} (hi0 : i0 < 6) {σ : gSt} {r : (Int32 × gSt)} (h : f_X1_hasPair i0 v1 v2 v3 σ = some r) : Mt l w 0 41 yX1_hasPair cX1_hasPair 5 (some .boolean) 2 43 [.ref (w.2.1 8 i0), .int v1, .int v2, .int v3] σ (gE (some (.int r.1)) r.2) := by
  unfold f_X1_hasPair at h
  refine g_start pn_X1 rfl rfl (Nat.le_of_ble_eq_true rfl) ?_
  show G l w 0 41 RX1 cX1_hasPair 5 (some .boolean) 2 43 (gE (some (.int r.1)) r.2) 0 [some (.ref (w.2.1 8 i0)), some (.int v1), some (.int v2), some (.int v3), none] [] σ
  refine g_iconst dX1_hasPair_0 kc_0 ?_
  refine g_istore4 dX1_hasPair_1 ?_
  exact f_X1_hasPair_3_ok hi0 gFuel h
theorem dX1_pairsAlsoIn_0 : decode cX1_pairsAlsoIn 0 = .ok (.iconst 0, 1) := by decide +kernel
theorem dX1_pairsAlsoIn_1 : decode cX1_pairsAlsoIn 1 = .ok (.istore_n 2, 1) := by decide +kernel
theorem dX1_pairsAlsoIn_2 : decode cX1_pairsAlsoIn 2 = .ok (.iconst 0, 1) := by decide +kernel
theorem dX1_pairsAlsoIn_3 : decode cX1_pairsAlsoIn 3 = .ok (.istore_n 3, 1) := by decide +kernel
theorem dX1_pairsAlsoIn_4 : decode cX1_pairsAlsoIn 4 = .ok (.iload_n 3, 1) := by decide +kernel
theorem dX1_pairsAlsoIn_5 : decode cX1_pairsAlsoIn 5 = .ok (.iconst 1, 1) := by decide +kernel
theorem dX1_pairsAlsoIn_6 : decode cX1_pairsAlsoIn 6 = .ok (.iadd, 1) := by decide +kernel
theorem dX1_pairsAlsoIn_7 : decode cX1_pairsAlsoIn 7 = .ok (.aload_n 0, 1) := by decide +kernel
theorem dX1_pairsAlsoIn_8 : decode cX1_pairsAlsoIn 8 = .ok (.getfield 21, 3) := by decide +kernel
theorem dX1_pairsAlsoIn_11 : decode cX1_pairsAlsoIn 11 = .ok (.if_icmp .ge 57, 3) := by decide +kernel
theorem dX1_pairsAlsoIn_14 : decode cX1_pairsAlsoIn 14 = .ok (.aload_n 0, 1) := by decide +kernel
theorem dX1_pairsAlsoIn_15 : decode cX1_pairsAlsoIn 15 = .ok (.iload_n 3, 1) := by decide +kernel
theorem dX1_pairsAlsoIn_16 : decode cX1_pairsAlsoIn 16 = .ok (.invokevirtual 34, 3) := by decide +kernel
theorem dX1_pairsAlsoIn_19 : decode cX1_pairsAlsoIn 19 = .ok (.istore 4, 2) := by decide +kernel
theorem dX1_pairsAlsoIn_21 : decode cX1_pairsAlsoIn 21 = .ok (.aload_n 0, 1) := by decide +kernel
theorem dX1_pairsAlsoIn_22 : decode cX1_pairsAlsoIn 22 = .ok (.iload_n 3, 1) := by decide +kernel
theorem dX1_pairsAlsoIn_23 : decode cX1_pairsAlsoIn 23 = .ok (.iconst 1, 1) := by decide +kernel
theorem dX1_pairsAlsoIn_24 : decode cX1_pairsAlsoIn 24 = .ok (.iadd, 1) := by decide +kernel
theorem dX1_pairsAlsoIn_25 : decode cX1_pairsAlsoIn 25 = .ok (.invokevirtual 34, 3) := by decide +kernel
theorem dX1_pairsAlsoIn_28 : decode cX1_pairsAlsoIn 28 = .ok (.istore 5, 2) := by decide +kernel
theorem dX1_pairsAlsoIn_30 : decode cX1_pairsAlsoIn 30 = .ok (.aload_n 0, 1) := by decide +kernel
theorem dX1_pairsAlsoIn_31 : decode cX1_pairsAlsoIn 31 = .ok (.iload 4, 2) := by decide +kernel
theorem dX1_pairsAlsoIn_33 : decode cX1_pairsAlsoIn 33 = .ok (.iload 5, 2) := by decide +kernel
theorem dX1_pairsAlsoIn_35 : decode cX1_pairsAlsoIn 35 = .ok (.iload_n 3, 1) := by decide +kernel
theorem dX1_pairsAlsoIn_36 : decode cX1_pairsAlsoIn 36 = .ok (.iconst 1, 1) := by decide +kernel
theorem dX1_pairsAlsoIn_37 : decode cX1_pairsAlsoIn 37 = .ok (.iadd, 1) := by decide +kernel
theorem dX1_pairsAlsoIn_38 : decode cX1_pairsAlsoIn 38 = .ok (.invokevirtual 46, 3) := by decide +kernel
theorem dX1_pairsAlsoIn_41 : decode cX1_pairsAlsoIn 41 = .ok (.ifCond .ne 21, 3) := by decide +kernel
theorem dX1_pairsAlsoIn_44 : decode cX1_pairsAlsoIn 44 = .ok (.aload_n 1, 1) := by decide +kernel
theorem dX1_pairsAlsoIn_45 : decode cX1_pairsAlsoIn 45 = .ok (.iload 4, 2) := by decide +kernel
theorem dX1_pairsAlsoIn_47 : decode cX1_pairsAlsoIn 47 = .ok (.iload 5, 2) := by decide +kernel
theorem dX1_pairsAlsoIn_49 : decode cX1_pairsAlsoIn 49 = .ok (.aload_n 1, 1) := by decide +kernel
theorem dX1_pairsAlsoIn_50 : decode cX1_pairsAlsoIn 50 = .ok (.getfield 21, 3) := by decide +kernel
theorem dX1_pairsAlsoIn_53 : decode cX1_pairsAlsoIn 53 = .ok (.invokevirtual 46, 3) := by decide +kernel
theorem dX1_pairsAlsoIn_56 : decode cX1_pairsAlsoIn 56 = .ok (.ifCond .eq 6, 3) := by decide +kernel
theorem dX1_pairsAlsoIn_59 : decode cX1_pairsAlsoIn 59 = .ok (.iinc 2 1, 3) := by decide +kernel
theorem dX1_pairsAlsoIn_62 : decode cX1_pairsAlsoIn 62 = .ok (.iinc 3 1, 3) := by decide +kernel
theorem dX1_pairsAlsoIn_65 : decode cX1_pairsAlsoIn 65 = .ok (.goto (-61), 3) := by decide +kernel
theorem dX1_pairsAlsoIn_68 : decode cX1_pairsAlsoIn 68 = .ok (.iload_n 2, 1) := by decide +kernel
theorem dX1_pairsAlsoIn_69 : decode cX1_pairsAlsoIn 69 = .ok (.ireturn, 1) := by decide +kernel
def f_X1_pairsAlsoIn_4 (i0 : Nat) (i1 : Nat) : Nat → Int32 → Int32 → gSt → Option (Int32 × gSt)
  | 0, _, _, _ => none
  | n + 1, v2, v3, σ =>
    if (σ 8 i0 2) ≤ (v3 + 1) then
      some (v2, σ)
    else
      (f_X1_codeAt i0 v3 σ).bind fun p16 =>
      (f_X1_codeAt i0 (v3 + 1) p16.2).bind fun p25 =>
      (f_X1_hasPair i0 p16.1 p25.1 (v3 + 1) p25.2).bind fun p38 =>
      if p38.1 = 0 then
        (f_X1_hasPair i1 p16.1 p25.1 (p38.2 8 i1 2) p38.2).bind fun p53 =>
        if p53.1 = 0 then
          f_X1_pairsAlsoIn_4 i0 i1 n v2 (v3 + 1) p53.2
        else
          f_X1_pairsAlsoIn_4 i0 i1 n (v2 + 1) (v3 + 1) p53.2
      else
        f_X1_pairsAlsoIn_4 i0 i1 n v2 (v3 + 1) p38.2
def f_X1_pairsAlsoIn (i0 : Nat) (i1 : Nat) (σ : gSt) : Option (Int32 × gSt) :=
  f_X1_pairsAlsoIn_4 i0 i1 gFuel 0 0 σ
theorem f_X1_pairsAlsoIn_4_ok {i0 : Nat} {i1 : Nat} {r : (Int32 × gSt)} (hi0 : i0 < 6) (hi1 : i1 < 6) : ∀ (n : Nat) {v2 : Int32} {v3 : Int32} {σ : gSt} {x4 x5 : Option Value}, f_X1_pairsAlsoIn_4 i0 i1 n v2 v3 σ = some r → G l w 0 41 RX1 cX1_pairsAlsoIn 6 (some .int) 3 67 (gE (some (.int r.1)) r.2) 4 [some (.ref (w.2.1 8 i0)), some (.ref (w.2.1 8 i1)), some (.int v2), some (.int v3), x4, x5] [] σ := by
  intro n
  induction n with
  | zero => intro v2 v3 σ x4 x5 h; rw [f_X1_pairsAlsoIn_4] at h; cases h
  | succ n ih =>
    intro v2 v3 σ x4 x5 h
    rw [f_X1_pairsAlsoIn_4] at h
    refine g_iload_n dX1_pairsAlsoIn_4 rfl ?_
    refine g_iconst dX1_pairsAlsoIn_5 kc_1 ?_
    refine g_iadd dX1_pairsAlsoIn_6 ?_
    refine g_aload_n dX1_pairsAlsoIn_7 rfl ?_
    refine gI_X1_21 (ok_8 hi0) dX1_pairsAlsoIn_8 ?_
    refine g_icmp_ge 68 dX1_pairsAlsoIn_11 rfl (fun q => ?_) (fun q => ?_)
    · replace h := gif_t q h
      refine g_iload_n dX1_pairsAlsoIn_68 rfl ?_
      cases h
      exact g_iret dX1_pairsAlsoIn_69 rfl ⟨rfl, rfl⟩
    · replace h := gif_f q h
      refine g_aload_n dX1_pairsAlsoIn_14 rfl ?_
      refine g_iload_n dX1_pairsAlsoIn_15 rfl ?_
      obtain ⟨p16, e16, h⟩ := obind h
      refine g_vP1 mv_X1_34 dX1_pairsAlsoIn_16 (ok_8 hi0) ⟨by decide, by decide⟩ (Nat.le_of_ble_eq_true rfl) (f_X1_codeAt_ok hi0 e16) ?_
      refine g_istore4 dX1_pairsAlsoIn_19 ?_
      refine g_aload_n dX1_pairsAlsoIn_21 rfl ?_
      refine g_iload_n dX1_pairsAlsoIn_22 rfl ?_
      refine g_iconst dX1_pairsAlsoIn_23 kc_1 ?_
      refine g_iadd dX1_pairsAlsoIn_24 ?_
      obtain ⟨p25, e25, h⟩ := obind h
      refine g_vP1 mv_X1_34 dX1_pairsAlsoIn_25 (ok_8 hi0) ⟨by decide, by decide⟩ (Nat.le_of_ble_eq_true rfl) (f_X1_codeAt_ok hi0 e25) ?_
      refine g_istore5 dX1_pairsAlsoIn_28 ?_
      refine g_aload_n dX1_pairsAlsoIn_30 rfl ?_
      refine g_iload dX1_pairsAlsoIn_31 rfl ?_
      refine g_iload dX1_pairsAlsoIn_33 rfl ?_
      refine g_iload_n dX1_pairsAlsoIn_35 rfl ?_
      refine g_iconst dX1_pairsAlsoIn_36 kc_1 ?_
      refine g_iadd dX1_pairsAlsoIn_37 ?_
      obtain ⟨p38, e38, h⟩ := obind h
      refine g_vP3 mv_X1_46 dX1_pairsAlsoIn_38 (ok_8 hi0) ⟨by decide, by decide⟩ (Nat.le_of_ble_eq_true rfl) (f_X1_hasPair_ok hi0 e38) ?_
      refine g_if_ne 62 dX1_pairsAlsoIn_41 rfl (fun q => ?_) (fun q => ?_)
      · replace h := gif_f q h
        refine g_inc3 kc_1 dX1_pairsAlsoIn_62 ?_
        refine g_goto 4 dX1_pairsAlsoIn_65 rfl ?_
        exact ih h
      · replace h := gif_t q h
        refine g_aload_n dX1_pairsAlsoIn_44 rfl ?_
        refine g_iload dX1_pairsAlsoIn_45 rfl ?_
        refine g_iload dX1_pairsAlsoIn_47 rfl ?_
        refine g_aload_n dX1_pairsAlsoIn_49 rfl ?_
        refine gI_X1_21 (ok_8 hi1) dX1_pairsAlsoIn_50 ?_
        obtain ⟨p53, e53, h⟩ := obind h
        refine g_vP3 mv_X1_46 dX1_pairsAlsoIn_53 (ok_8 hi1) ⟨by decide, by decide⟩ (Nat.le_of_ble_eq_true rfl) (f_X1_hasPair_ok hi1 e53) ?_
        refine g_if_eq 62 dX1_pairsAlsoIn_56 rfl (fun q => ?_) (fun q => ?_)
        · replace h := gif_t q h
          refine g_inc3 kc_1 dX1_pairsAlsoIn_62 ?_
          refine g_goto 4 dX1_pairsAlsoIn_65 rfl ?_
          exact ih h
        · replace h := gif_f q h
          refine g_inc2 kc_1 dX1_pairsAlsoIn_59 ?_
          refine g_inc3 kc_1 dX1_pairsAlsoIn_62 ?_
          refine g_goto 4 dX1_pairsAlsoIn_65 rfl ?_
          exact ih h
theorem f_X1_pairsAlsoIn_ok {i0 : Nat} {i1 : Nat} (hi0 : i0 < 6) (hi1 : i1 < 6) {σ : gSt} {r : (Int32 × gSt)} (h : f_X1_pairsAlsoIn i0 i1 σ = some r) : Mt l w 0 41 yX1_pairsAlsoIn cX1_pairsAlsoIn 6 (some .int) 3 67 [.ref (w.2.1 8 i0), .ref (w.2.1 8 i1)] σ (gE (some (.int r.1)) r.2) := by
  unfold f_X1_pairsAlsoIn at h
  refine g_start pn_X1 rfl rfl (Nat.le_of_ble_eq_true rfl) ?_
  show G l w 0 41 RX1 cX1_pairsAlsoIn 6 (some .int) 3 67 (gE (some (.int r.1)) r.2) 0 [some (.ref (w.2.1 8 i0)), some (.ref (w.2.1 8 i1)), none, none, none, none] [] σ
  refine g_iconst dX1_pairsAlsoIn_0 kc_0 ?_
  refine g_istore2 dX1_pairsAlsoIn_1 ?_
  refine g_iconst dX1_pairsAlsoIn_2 kc_0 ?_
  refine g_istore3 dX1_pairsAlsoIn_3 ?_
  exact f_X1_pairsAlsoIn_4_ok hi0 hi1 gFuel h
theorem dX9_isValid_0 : decode cX9_isValid 0 = .ok (.aload_n 0, 1) := by decide +kernel
theorem dX9_isValid_1 : decode cX9_isValid 1 = .ok (.getfield 45, 3) := by decide +kernel
theorem dX9_isValid_4 : decode cX9_isValid 4 = .ok (.aload_n 0, 1) := by decide +kernel
theorem dX9_isValid_5 : decode cX9_isValid 5 = .ok (.getfield 42, 3) := by decide +kernel
theorem dX9_isValid_8 : decode cX9_isValid 8 = .ok (.if_icmp .ne 7, 3) := by decide +kernel
theorem dX9_isValid_11 : decode cX9_isValid 11 = .ok (.iconst 1, 1) := by decide +kernel
theorem dX9_isValid_12 : decode cX9_isValid 12 = .ok (.goto 4, 3) := by decide +kernel
theorem dX9_isValid_15 : decode cX9_isValid 15 = .ok (.iconst 0, 1) := by decide +kernel
theorem dX9_isValid_16 : decode cX9_isValid 16 = .ok (.ireturn, 1) := by decide +kernel
def f_X9_isValid (i0 : Nat) (σ : gSt) : Option (Int32 × gSt) :=
  if (σ 10 i0 10) = (σ 10 i0 9) then
    some (1, σ)
  else
    some (0, σ)
theorem f_X9_isValid_ok {i0 : Nat} (hi0 : i0 < 20) {σ : gSt} {r : (Int32 × gSt)} (h : f_X9_isValid i0 σ = some r) : Mt l w 0 41 yX9_isValid cX9_isValid 1 (some .boolean) 0 0 [.ref (w.2.1 10 i0)] σ (gE (some (.int r.1)) r.2) := by
  unfold f_X9_isValid at h
  refine g_start pn_X9 rfl rfl (Nat.le_of_ble_eq_true rfl) ?_
  show G l w 0 41 RX9 cX9_isValid 1 (some .boolean) 0 0 (gE (some (.int r.1)) r.2) 0 [some (.ref (w.2.1 10 i0))] [] σ
  refine g_aload_n dX9_isValid_0 rfl ?_
  refine gI_X9_45 (ok_10 hi0) dX9_isValid_1 ?_
  refine g_aload_n dX9_isValid_4 rfl ?_
  refine gI_X9_42 (ok_10 hi0) dX9_isValid_5 ?_
  refine g_icmp_ne 15 dX9_isValid_8 rfl (fun q => ?_) (fun q => ?_)
  · replace h := gif_f q h
    refine g_iconst dX9_isValid_15 kc_0 ?_
    cases h
    exact g_zret0 dX9_isValid_16 rfl
  · replace h := gif_t q h
    refine g_iconst dX9_isValid_11 kc_1 ?_
    refine g_goto 16 dX9_isValid_12 rfl ?_
    cases h
    exact g_zret1 dX9_isValid_16 rfl
theorem dX4_isValidOf_0 : decode cX4_isValidOf 0 = .ok (.aload_n 0, 1) := by decide +kernel
theorem dX4_isValidOf_1 : decode cX4_isValidOf 1 = .ok (.iload_n 1, 1) := by decide +kernel
theorem dX4_isValidOf_2 : decode cX4_isValidOf 2 = .ok (.iload_n 2, 1) := by decide +kernel
theorem dX4_isValidOf_3 : decode cX4_isValidOf 3 = .ok (.invokevirtual 89, 3) := by decide +kernel
theorem dX4_isValidOf_6 : decode cX4_isValidOf 6 = .ok (.ifCond .eq 18, 3) := by decide +kernel
theorem dX4_isValidOf_9 : decode cX4_isValidOf 9 = .ok (.aload_n 0, 1) := by decide +kernel
theorem dX4_isValidOf_10 : decode cX4_isValidOf 10 = .ok (.iload_n 1, 1) := by decide +kernel
theorem dX4_isValidOf_11 : decode cX4_isValidOf 11 = .ok (.invokevirtual 53, 3) := by decide +kernel
theorem dX4_isValidOf_14 : decode cX4_isValidOf 14 = .ok (.invokevirtual 93, 3) := by decide +kernel
theorem dX4_isValidOf_17 : decode cX4_isValidOf 17 = .ok (.ifCond .eq 7, 3) := by decide +kernel
theorem dX4_isValidOf_20 : decode cX4_isValidOf 20 = .ok (.iconst 1, 1) := by decide +kernel
theorem dX4_isValidOf_21 : decode cX4_isValidOf 21 = .ok (.goto 4, 3) := by decide +kernel
theorem dX4_isValidOf_24 : decode cX4_isValidOf 24 = .ok (.iconst 0, 1) := by decide +kernel
theorem dX4_isValidOf_25 : decode cX4_isValidOf 25 = .ok (.ireturn, 1) := by decide +kernel
def f_X4_isValidOf (i0 : Nat) (v1 : Int32) (v2 : Int32) (σ : gSt) : Option (Int32 × gSt) :=
  (f_X4_isOf i0 v1 v2 σ).bind fun p3 =>
  if p3.1 = 0 then
    some (0, p3.2)
  else
    (f_X4_runnerAt i0 v1 p3.2).bind fun p11 =>
    (f_X9_isValid p11.1 p11.2).bind fun p14 =>
    if p14.1 = 0 then
      some (0, p14.2)
    else
      some (1, p14.2)
theorem f_X4_isValidOf_ok {i0 : Nat} {v1 : Int32} {v2 : Int32} (hi0 : i0 < 2) {σ : gSt} {r : (Int32 × gSt)} (h : f_X4_isValidOf i0 v1 v2 σ = some r) : Mt l w 0 41 yX4_isValidOf cX4_isValidOf 3 (some .boolean) 2 43 [.ref (w.2.1 3 i0), .int v1, .int v2] σ (gE (some (.int r.1)) r.2) := by
  unfold f_X4_isValidOf at h
  refine g_start pn_X4 rfl rfl (Nat.le_of_ble_eq_true rfl) ?_
  show G l w 0 41 RX4 cX4_isValidOf 3 (some .boolean) 2 43 (gE (some (.int r.1)) r.2) 0 [some (.ref (w.2.1 3 i0)), some (.int v1), some (.int v2)] [] σ
  refine g_aload_n dX4_isValidOf_0 rfl ?_
  refine g_iload_n dX4_isValidOf_1 rfl ?_
  refine g_iload_n dX4_isValidOf_2 rfl ?_
  obtain ⟨p3, e3, h⟩ := obind h
  refine g_vP2 mv_X4_89 dX4_isValidOf_3 (ok_3 hi0) ⟨by decide, by decide⟩ (Nat.le_of_ble_eq_true rfl) (f_X4_isOf_ok hi0 e3) ?_
  refine g_if_eq 24 dX4_isValidOf_6 rfl (fun q => ?_) (fun q => ?_)
  · replace h := gif_t q h
    refine g_iconst dX4_isValidOf_24 kc_0 ?_
    cases h
    exact g_zret0 dX4_isValidOf_25 rfl
  · replace h := gif_f q h
    refine g_aload_n dX4_isValidOf_9 rfl ?_
    refine g_iload_n dX4_isValidOf_10 rfl ?_
    obtain ⟨p11, e11, h⟩ := obind h
    refine g_vR1 mv_X4_53 dX4_isValidOf_11 (ok_3 hi0) ⟨by decide, by decide⟩ (Nat.le_of_ble_eq_true rfl) (f_X4_runnerAt_ok hi0 e11) (fun b11 => ?_)
    obtain ⟨p14, e14, h⟩ := obind h
    refine g_vP0 mv_X4_93 dX4_isValidOf_14 (ok_10 b11) ⟨by decide, by decide⟩ (Nat.le_of_ble_eq_true rfl) (f_X9_isValid_ok b11 e14) ?_
    refine g_if_eq 24 dX4_isValidOf_17 rfl (fun q => ?_) (fun q => ?_)
    · replace h := gif_t q h
      refine g_iconst dX4_isValidOf_24 kc_0 ?_
      cases h
      exact g_zret0 dX4_isValidOf_25 rfl
    · replace h := gif_f q h
      refine g_iconst dX4_isValidOf_20 kc_1 ?_
      refine g_goto 25 dX4_isValidOf_21 rfl ?_
      cases h
      exact g_zret1 dX4_isValidOf_25 rfl
theorem dX9_total_0 : decode cX9_total 0 = .ok (.aload_n 0, 1) := by decide +kernel
theorem dX9_total_1 : decode cX9_total 1 = .ok (.getfield 36, 3) := by decide +kernel
theorem dX9_total_4 : decode cX9_total 4 = .ok (.aload_n 0, 1) := by decide +kernel
theorem dX9_total_5 : decode cX9_total 5 = .ok (.getfield 33, 3) := by decide +kernel
theorem dX9_total_8 : decode cX9_total 8 = .ok (.isub, 1) := by decide +kernel
theorem dX9_total_9 : decode cX9_total 9 = .ok (.ireturn, 1) := by decide +kernel
def f_X9_total (i0 : Nat) (σ : gSt) : Option (Int32 × gSt) :=
  some (((σ 10 i0 7) - (σ 10 i0 6)), σ)
theorem f_X9_total_ok {i0 : Nat} (hi0 : i0 < 20) {σ : gSt} {r : (Int32 × gSt)} (h : f_X9_total i0 σ = some r) : Mt l w 0 41 yX9_total cX9_total 1 (some .int) 0 0 [.ref (w.2.1 10 i0)] σ (gE (some (.int r.1)) r.2) := by
  unfold f_X9_total at h
  refine g_start pn_X9 rfl rfl (Nat.le_of_ble_eq_true rfl) ?_
  show G l w 0 41 RX9 cX9_total 1 (some .int) 0 0 (gE (some (.int r.1)) r.2) 0 [some (.ref (w.2.1 10 i0))] [] σ
  refine g_aload_n dX9_total_0 rfl ?_
  refine gI_X9_36 (ok_10 hi0) dX9_total_1 ?_
  refine g_aload_n dX9_total_4 rfl ?_
  refine gI_X9_33 (ok_10 hi0) dX9_total_5 ?_
  refine g_isub dX9_total_8 ?_
  cases h
  exact g_iret dX9_total_9 rfl ⟨rfl, rfl⟩
theorem dX2_placeByTotal_0 : decode cX2_placeByTotal 0 = .ok (.iconst 1, 1) := by decide +kernel
theorem dX2_placeByTotal_1 : decode cX2_placeByTotal 1 = .ok (.istore_n 3, 1) := by decide +kernel
theorem dX2_placeByTotal_2 : decode cX2_placeByTotal 2 = .ok (.iconst 0, 1) := by decide +kernel
theorem dX2_placeByTotal_3 : decode cX2_placeByTotal 3 = .ok (.istore 4, 2) := by decide +kernel
theorem dX2_placeByTotal_5 : decode cX2_placeByTotal 5 = .ok (.iload 4, 2) := by decide +kernel
theorem dX2_placeByTotal_7 : decode cX2_placeByTotal 7 = .ok (.aload_n 0, 1) := by decide +kernel
theorem dX2_placeByTotal_8 : decode cX2_placeByTotal 8 = .ok (.getfield 9, 3) := by decide +kernel
theorem dX2_placeByTotal_11 : decode cX2_placeByTotal 11 = .ok (.getfield 15, 3) := by decide +kernel
theorem dX2_placeByTotal_14 : decode cX2_placeByTotal 14 = .ok (.if_icmp .ge 49, 3) := by decide +kernel
theorem dX2_placeByTotal_17 : decode cX2_placeByTotal 17 = .ok (.iload_n 3, 1) := by decide +kernel
theorem dX2_placeByTotal_18 : decode cX2_placeByTotal 18 = .ok (.aload_n 0, 1) := by decide +kernel
theorem dX2_placeByTotal_19 : decode cX2_placeByTotal 19 = .ok (.getfield 9, 3) := by decide +kernel
theorem dX2_placeByTotal_22 : decode cX2_placeByTotal 22 = .ok (.iload 4, 2) := by decide +kernel
theorem dX2_placeByTotal_24 : decode cX2_placeByTotal 24 = .ok (.aload_n 1, 1) := by decide +kernel
theorem dX2_placeByTotal_25 : decode cX2_placeByTotal 25 = .ok (.getfield 21, 3) := by decide +kernel
theorem dX2_placeByTotal_28 : decode cX2_placeByTotal 28 = .ok (.invokevirtual 26, 3) := by decide +kernel
theorem dX2_placeByTotal_31 : decode cX2_placeByTotal 31 = .ok (.ifCond .eq 23, 3) := by decide +kernel
theorem dX2_placeByTotal_34 : decode cX2_placeByTotal 34 = .ok (.aload_n 0, 1) := by decide +kernel
theorem dX2_placeByTotal_35 : decode cX2_placeByTotal 35 = .ok (.getfield 9, 3) := by decide +kernel
theorem dX2_placeByTotal_38 : decode cX2_placeByTotal 38 = .ok (.iload 4, 2) := by decide +kernel
theorem dX2_placeByTotal_40 : decode cX2_placeByTotal 40 = .ok (.invokevirtual 30, 3) := by decide +kernel
theorem dX2_placeByTotal_43 : decode cX2_placeByTotal 43 = .ok (.invokevirtual 34, 3) := by decide +kernel
theorem dX2_placeByTotal_46 : decode cX2_placeByTotal 46 = .ok (.iload_n 2, 1) := by decide +kernel
theorem dX2_placeByTotal_47 : decode cX2_placeByTotal 47 = .ok (.if_icmp .ge 7, 3) := by decide +kernel
theorem dX2_placeByTotal_50 : decode cX2_placeByTotal 50 = .ok (.iconst 1, 1) := by decide +kernel
theorem dX2_placeByTotal_51 : decode cX2_placeByTotal 51 = .ok (.goto 4, 3) := by decide +kernel
theorem dX2_placeByTotal_54 : decode cX2_placeByTotal 54 = .ok (.iconst 0, 1) := by decide +kernel
theorem dX2_placeByTotal_55 : decode cX2_placeByTotal 55 = .ok (.iadd, 1) := by decide +kernel
theorem dX2_placeByTotal_56 : decode cX2_placeByTotal 56 = .ok (.istore_n 3, 1) := by decide +kernel
theorem dX2_placeByTotal_57 : decode cX2_placeByTotal 57 = .ok (.iinc 4 1, 3) := by decide +kernel
theorem dX2_placeByTotal_60 : decode cX2_placeByTotal 60 = .ok (.goto (-55), 3) := by decide +kernel
theorem dX2_placeByTotal_63 : decode cX2_placeByTotal 63 = .ok (.iload_n 3, 1) := by decide +kernel
theorem dX2_placeByTotal_64 : decode cX2_placeByTotal 64 = .ok (.ireturn, 1) := by decide +kernel
def f_X2_placeByTotal_5 (i1 : Nat) (v2 : Int32) : Nat → Int32 → Int32 → gSt → Option (Int32 × gSt)
  | 0, _, _, _ => none
  | n + 1, v3, v4, σ =>
    if (σ 3 1 4) ≤ v4 then
      some (v3, σ)
    else
      (f_X4_isValidOf 1 v4 (σ 10 i1 5) σ).bind fun p28 =>
      if p28.1 = 0 then
        f_X2_placeByTotal_5 i1 v2 n (v3 + 0) (v4 + 1) p28.2
      else
        (f_X4_runnerAt 1 v4 p28.2).bind fun p40 =>
        (f_X9_total p40.1 p40.2).bind fun p43 =>
        if v2 ≤ p43.1 then
          f_X2_placeByTotal_5 i1 v2 n (v3 + 0) (v4 + 1) p43.2
        else
          f_X2_placeByTotal_5 i1 v2 n (v3 + 1) (v4 + 1) p43.2
def f_X2_placeByTotal (i1 : Nat) (v2 : Int32) (σ : gSt) : Option (Int32 × gSt) :=
  f_X2_placeByTotal_5 i1 v2 gFuel 1 0 σ
theorem f_X2_placeByTotal_5_ok {i1 : Nat} {v2 : Int32} {r : (Int32 × gSt)} (hi1 : i1 < 20) : ∀ (n : Nat) {v3 : Int32} {v4 : Int32} {σ : gSt} , f_X2_placeByTotal_5 i1 v2 n v3 v4 σ = some r → G l w 0 41 RX2 cX2_placeByTotal 5 (some .int) 3 65 (gE (some (.int r.1)) r.2) 5 [some (.ref (w.2.1 16 0)), some (.ref (w.2.1 10 i1)), some (.int v2), some (.int v3), some (.int v4)] [] σ := by
  intro n
  induction n with
  | zero => intro v3 v4 σ h; rw [f_X2_placeByTotal_5] at h; cases h
  | succ n ih =>
    intro v3 v4 σ h
    rw [f_X2_placeByTotal_5] at h
    refine g_iload dX2_placeByTotal_5 rfl ?_
    refine g_aload_n dX2_placeByTotal_7 rfl ?_
    refine gR_X2_9 ok_16 dX2_placeByTotal_8 ?_
    refine gI_X2_15 (ok_3 (by decide)) dX2_placeByTotal_11 ?_
    refine g_icmp_ge 63 dX2_placeByTotal_14 rfl (fun q => ?_) (fun q => ?_)
    · replace h := gif_t q h
      refine g_iload_n dX2_placeByTotal_63 rfl ?_
      cases h
      exact g_iret dX2_placeByTotal_64 rfl ⟨rfl, rfl⟩
    · replace h := gif_f q h
      refine g_iload_n dX2_placeByTotal_17 rfl ?_
      refine g_aload_n dX2_placeByTotal_18 rfl ?_
      refine gR_X2_9 ok_16 dX2_placeByTotal_19 ?_
      refine g_iload dX2_placeByTotal_22 rfl ?_
      refine g_aload_n dX2_placeByTotal_24 rfl ?_
      refine gI_X2_21 (ok_10 hi1) dX2_placeByTotal_25 ?_
      obtain ⟨p28, e28, h⟩ := obind h
      refine g_vP2 mv_X2_26 dX2_placeByTotal_28 (ok_3 (by decide)) ⟨by decide, by decide⟩ (Nat.le_of_ble_eq_true rfl) (f_X4_isValidOf_ok (by decide) e28) ?_
      refine g_if_eq 54 dX2_placeByTotal_31 rfl (fun q => ?_) (fun q => ?_)
      · replace h := gif_t q h
        refine g_iconst dX2_placeByTotal_54 kc_0 ?_
        refine g_iadd dX2_placeByTotal_55 ?_
        refine g_istore3 dX2_placeByTotal_56 ?_
        refine g_inc4 kc_1 dX2_placeByTotal_57 ?_
        refine g_goto 5 dX2_placeByTotal_60 rfl ?_
        exact ih h
      · replace h := gif_f q h
        refine g_aload_n dX2_placeByTotal_34 rfl ?_
        refine gR_X2_9 ok_16 dX2_placeByTotal_35 ?_
        refine g_iload dX2_placeByTotal_38 rfl ?_
        obtain ⟨p40, e40, h⟩ := obind h
        refine g_vR1 mv_X2_30 dX2_placeByTotal_40 (ok_3 (by decide)) ⟨by decide, by decide⟩ (Nat.le_of_ble_eq_true rfl) (f_X4_runnerAt_ok (by decide) e40) (fun b40 => ?_)
        obtain ⟨p43, e43, h⟩ := obind h
        refine g_vP0 mv_X2_34 dX2_placeByTotal_43 (ok_10 b40) ⟨by decide, by decide⟩ (Nat.le_of_ble_eq_true rfl) (f_X9_total_ok b40 e43) ?_
        refine g_iload_n dX2_placeByTotal_46 rfl ?_
        refine g_icmp_ge 54 dX2_placeByTotal_47 rfl (fun q => ?_) (fun q => ?_)
        · replace h := gif_t q h
          refine g_iconst dX2_placeByTotal_54 kc_0 ?_
          refine g_iadd dX2_placeByTotal_55 ?_
          refine g_istore3 dX2_placeByTotal_56 ?_
          refine g_inc4 kc_1 dX2_placeByTotal_57 ?_
          refine g_goto 5 dX2_placeByTotal_60 rfl ?_
          exact ih h
        · replace h := gif_f q h
          refine g_iconst dX2_placeByTotal_50 kc_1 ?_
          refine g_goto 55 dX2_placeByTotal_51 rfl ?_
          refine g_iadd dX2_placeByTotal_55 ?_
          refine g_istore3 dX2_placeByTotal_56 ?_
          refine g_inc4 kc_1 dX2_placeByTotal_57 ?_
          refine g_goto 5 dX2_placeByTotal_60 rfl ?_
          exact ih h
theorem f_X2_placeByTotal_ok {i1 : Nat} {v2 : Int32} (hi1 : i1 < 20) {σ : gSt} {r : (Int32 × gSt)} (h : f_X2_placeByTotal i1 v2 σ = some r) : Mt l w 0 41 yX2_placeByTotal cX2_placeByTotal 5 (some .int) 3 65 [.ref (w.2.1 16 0), .ref (w.2.1 10 i1), .int v2] σ (gE (some (.int r.1)) r.2) := by
  unfold f_X2_placeByTotal at h
  refine g_start pn_X2 rfl rfl (Nat.le_of_ble_eq_true rfl) ?_
  show G l w 0 41 RX2 cX2_placeByTotal 5 (some .int) 3 65 (gE (some (.int r.1)) r.2) 0 [some (.ref (w.2.1 16 0)), some (.ref (w.2.1 10 i1)), some (.int v2), none, none] [] σ
  refine g_iconst dX2_placeByTotal_0 kc_1 ?_
  refine g_istore3 dX2_placeByTotal_1 ?_
  refine g_iconst dX2_placeByTotal_2 kc_0 ?_
  refine g_istore4 dX2_placeByTotal_3 ?_
  exact f_X2_placeByTotal_5_ok hi1 gFuel h
theorem dX9_timeAt_0 : decode cX9_timeAt 0 = .ok (.iload_n 1, 1) := by decide +kernel
theorem dX9_timeAt_1 : decode cX9_timeAt 1 = .ok (.aload_n 0, 1) := by decide +kernel
theorem dX9_timeAt_2 : decode cX9_timeAt 2 = .ok (.getfield 42, 3) := by decide +kernel
theorem dX9_timeAt_5 : decode cX9_timeAt 5 = .ok (.if_icmp .ne 8, 3) := by decide +kernel
theorem dX9_timeAt_8 : decode cX9_timeAt 8 = .ok (.aload_n 0, 1) := by decide +kernel
theorem dX9_timeAt_9 : decode cX9_timeAt 9 = .ok (.getfield 36, 3) := by decide +kernel
theorem dX9_timeAt_12 : decode cX9_timeAt 12 = .ok (.ireturn, 1) := by decide +kernel
theorem dX9_timeAt_13 : decode cX9_timeAt 13 = .ok (.iload_n 1, 1) := by decide +kernel
theorem dX9_timeAt_14 : decode cX9_timeAt 14 = .ok (.ifCond .lt 29, 3) := by decide +kernel
theorem dX9_timeAt_17 : decode cX9_timeAt 17 = .ok (.iload_n 1, 1) := by decide +kernel
theorem dX9_timeAt_18 : decode cX9_timeAt 18 = .ok (.aload_n 0, 1) := by decide +kernel
theorem dX9_timeAt_19 : decode cX9_timeAt 19 = .ok (.getfield 42, 3) := by decide +kernel
theorem dX9_timeAt_22 : decode cX9_timeAt 22 = .ok (.if_icmp .ge 21, 3) := by decide +kernel
theorem dX9_timeAt_25 : decode cX9_timeAt 25 = .ok (.iload_n 1, 1) := by decide +kernel
theorem dX9_timeAt_26 : decode cX9_timeAt 26 = .ok (.aload_n 0, 1) := by decide +kernel
theorem dX9_timeAt_27 : decode cX9_timeAt 27 = .ok (.getfield 21, 3) := by decide +kernel
theorem dX9_timeAt_30 : decode cX9_timeAt 30 = .ok (.arraylength, 1) := by decide +kernel
theorem dX9_timeAt_31 : decode cX9_timeAt 31 = .ok (.if_icmp .ge 12, 3) := by decide +kernel
theorem dX9_timeAt_34 : decode cX9_timeAt 34 = .ok (.aload_n 0, 1) := by decide +kernel
theorem dX9_timeAt_35 : decode cX9_timeAt 35 = .ok (.getfield 21, 3) := by decide +kernel
theorem dX9_timeAt_38 : decode cX9_timeAt 38 = .ok (.iload_n 1, 1) := by decide +kernel
theorem dX9_timeAt_39 : decode cX9_timeAt 39 = .ok (.iaload, 1) := by decide +kernel
theorem dX9_timeAt_40 : decode cX9_timeAt 40 = .ok (.goto 4, 3) := by decide +kernel
theorem dX9_timeAt_43 : decode cX9_timeAt 43 = .ok (.iconst (-1), 1) := by decide +kernel
theorem dX9_timeAt_44 : decode cX9_timeAt 44 = .ok (.ireturn, 1) := by decide +kernel
def f_X9_timeAt (i0 : Nat) (v1 : Int32) (σ : gSt) : Option (Int32 × gSt) :=
  if v1 = (σ 10 i0 9) then
    some ((σ 10 i0 7), σ)
  else
    if v1 < 0 then
      some ((-1), σ)
    else
      if (σ 10 i0 9) ≤ v1 then
        some ((-1), σ)
      else
        if 10 ≤ v1 then
          some ((-1), σ)
        else
          (gld σ 14 i0 10 v1).bind fun a39 =>
          some (a39, σ)
theorem f_X9_timeAt_ok {i0 : Nat} {v1 : Int32} (hi0 : i0 < 20) {σ : gSt} {r : (Int32 × gSt)} (h : f_X9_timeAt i0 v1 σ = some r) : Mt l w 0 41 yX9_timeAt cX9_timeAt 2 (some .int) 0 0 [.ref (w.2.1 10 i0), .int v1] σ (gE (some (.int r.1)) r.2) := by
  unfold f_X9_timeAt at h
  refine g_start pn_X9 rfl rfl (Nat.le_of_ble_eq_true rfl) ?_
  show G l w 0 41 RX9 cX9_timeAt 2 (some .int) 0 0 (gE (some (.int r.1)) r.2) 0 [some (.ref (w.2.1 10 i0)), some (.int v1)] [] σ
  refine g_iload_n dX9_timeAt_0 rfl ?_
  refine g_aload_n dX9_timeAt_1 rfl ?_
  refine gI_X9_42 (ok_10 hi0) dX9_timeAt_2 ?_
  refine g_icmp_ne 13 dX9_timeAt_5 rfl (fun q => ?_) (fun q => ?_)
  · replace h := gif_f q h
    refine g_iload_n dX9_timeAt_13 rfl ?_
    refine g_if_lt 43 dX9_timeAt_14 rfl (fun q => ?_) (fun q => ?_)
    · replace h := gif_t q h
      refine g_iconst dX9_timeAt_43 kc_m1 ?_
      cases h
      exact g_iret dX9_timeAt_44 rfl ⟨rfl, rfl⟩
    · replace h := gif_f q h
      refine g_iload_n dX9_timeAt_17 rfl ?_
      refine g_aload_n dX9_timeAt_18 rfl ?_
      refine gI_X9_42 (ok_10 hi0) dX9_timeAt_19 ?_
      refine g_icmp_ge 43 dX9_timeAt_22 rfl (fun q => ?_) (fun q => ?_)
      · replace h := gif_t q h
        refine g_iconst dX9_timeAt_43 kc_m1 ?_
        cases h
        exact g_iret dX9_timeAt_44 rfl ⟨rfl, rfl⟩
      · replace h := gif_f q h
        refine g_iload_n dX9_timeAt_25 rfl ?_
        refine g_aload_n dX9_timeAt_26 rfl ?_
        refine gR_X9_21 (ok_10 hi0) dX9_timeAt_27 ?_
        refine g_alenL nc_10 rfl rfl (ok_14 hi0) dX9_timeAt_30 ?_
        refine g_icmp_ge 43 dX9_timeAt_31 rfl (fun q => ?_) (fun q => ?_)
        · replace h := gif_t q h
          refine g_iconst dX9_timeAt_43 kc_m1 ?_
          cases h
          exact g_iret dX9_timeAt_44 rfl ⟨rfl, rfl⟩
        · replace h := gif_f q h
          refine g_aload_n dX9_timeAt_34 rfl ?_
          refine gR_X9_21 (ok_10 hi0) dX9_timeAt_35 ?_
          refine g_iload_n dX9_timeAt_38 rfl ?_
          obtain ⟨a39, e39, h⟩ := obind h
          refine g_ldB e39 (ok_14 hi0) rfl rfl (by decide) dX9_timeAt_39 ?_
          refine g_goto 44 dX9_timeAt_40 rfl ?_
          cases h
          exact g_iret dX9_timeAt_44 rfl ⟨rfl, rfl⟩
  · replace h := gif_t q h
    refine g_aload_n dX9_timeAt_8 rfl ?_
    refine gI_X9_36 (ok_10 hi0) dX9_timeAt_9 ?_
    cases h
    exact g_iret dX9_timeAt_12 rfl ⟨rfl, rfl⟩
theorem dX9_splitAt_0 : decode cX9_splitAt 0 = .ok (.aload_n 0, 1) := by decide +kernel
theorem dX9_splitAt_1 : decode cX9_splitAt 1 = .ok (.iload_n 1, 1) := by decide +kernel
theorem dX9_splitAt_2 : decode cX9_splitAt 2 = .ok (.invokevirtual 75, 3) := by decide +kernel
theorem dX9_splitAt_5 : decode cX9_splitAt 5 = .ok (.istore_n 2, 1) := by decide +kernel
theorem dX9_splitAt_6 : decode cX9_splitAt 6 = .ok (.iload_n 2, 1) := by decide +kernel
theorem dX9_splitAt_7 : decode cX9_splitAt 7 = .ok (.iconst (-1), 1) := by decide +kernel
theorem dX9_splitAt_8 : decode cX9_splitAt 8 = .ok (.if_icmp .ne 7, 3) := by decide +kernel
theorem dX9_splitAt_11 : decode cX9_splitAt 11 = .ok (.iconst (-1), 1) := by decide +kernel
theorem dX9_splitAt_12 : decode cX9_splitAt 12 = .ok (.goto 9, 3) := by decide +kernel
theorem dX9_splitAt_15 : decode cX9_splitAt 15 = .ok (.iload_n 2, 1) := by decide +kernel
theorem dX9_splitAt_16 : decode cX9_splitAt 16 = .ok (.aload_n 0, 1) := by decide +kernel
theorem dX9_splitAt_17 : decode cX9_splitAt 17 = .ok (.getfield 33, 3) := by decide +kernel
theorem dX9_splitAt_20 : decode cX9_splitAt 20 = .ok (.isub, 1) := by decide +kernel
theorem dX9_splitAt_21 : decode cX9_splitAt 21 = .ok (.ireturn, 1) := by decide +kernel
def f_X9_splitAt (i0 : Nat) (v1 : Int32) (σ : gSt) : Option (Int32 × gSt) :=
  (f_X9_timeAt i0 v1 σ).bind fun p2 =>
  if p2.1 = (-1) then
    some ((-1), p2.2)
  else
    some ((p2.1 - (p2.2 10 i0 6)), p2.2)
theorem f_X9_splitAt_ok {i0 : Nat} {v1 : Int32} (hi0 : i0 < 20) {σ : gSt} {r : (Int32 × gSt)} (h : f_X9_splitAt i0 v1 σ = some r) : Mt l w 0 41 yX9_splitAt cX9_splitAt 3 (some .int) 1 21 [.ref (w.2.1 10 i0), .int v1] σ (gE (some (.int r.1)) r.2) := by
  unfold f_X9_splitAt at h
  refine g_start pn_X9 rfl rfl (Nat.le_of_ble_eq_true rfl) ?_
  show G l w 0 41 RX9 cX9_splitAt 3 (some .int) 1 21 (gE (some (.int r.1)) r.2) 0 [some (.ref (w.2.1 10 i0)), some (.int v1), none] [] σ
  refine g_aload_n dX9_splitAt_0 rfl ?_
  refine g_iload_n dX9_splitAt_1 rfl ?_
  obtain ⟨p2, e2, h⟩ := obind h
  refine g_vP1 mv_X9_75 dX9_splitAt_2 (ok_10 hi0) ⟨by decide, by decide⟩ (Nat.le_of_ble_eq_true rfl) (f_X9_timeAt_ok hi0 e2) ?_
  refine g_istore2 dX9_splitAt_5 ?_
  refine g_iload_n dX9_splitAt_6 rfl ?_
  refine g_iconst dX9_splitAt_7 kc_m1 ?_
  refine g_icmp_ne 15 dX9_splitAt_8 rfl (fun q => ?_) (fun q => ?_)
  · replace h := gif_f q h
    refine g_iload_n dX9_splitAt_15 rfl ?_
    refine g_aload_n dX9_splitAt_16 rfl ?_
    refine gI_X9_33 (ok_10 hi0) dX9_splitAt_17 ?_
    refine g_isub dX9_splitAt_20 ?_
    cases h
    exact g_iret dX9_splitAt_21 rfl ⟨rfl, rfl⟩
  · replace h := gif_t q h
    refine g_iconst dX9_splitAt_11 kc_m1 ?_
    refine g_goto 21 dX9_splitAt_12 rfl ?_
    cases h
    exact g_iret dX9_splitAt_21 rfl ⟨rfl, rfl⟩
theorem dX2_placeAtPoint_0 : decode cX2_placeAtPoint 0 = .ok (.iconst 1, 1) := by decide +kernel
theorem dX2_placeAtPoint_1 : decode cX2_placeAtPoint 1 = .ok (.istore_n 3, 1) := by decide +kernel
theorem dX2_placeAtPoint_2 : decode cX2_placeAtPoint 2 = .ok (.iconst 0, 1) := by decide +kernel
theorem dX2_placeAtPoint_3 : decode cX2_placeAtPoint 3 = .ok (.istore 4, 2) := by decide +kernel
theorem dX2_placeAtPoint_5 : decode cX2_placeAtPoint 5 = .ok (.iload 4, 2) := by decide +kernel
theorem dX2_placeAtPoint_7 : decode cX2_placeAtPoint 7 = .ok (.aload_n 0, 1) := by decide +kernel
theorem dX2_placeAtPoint_8 : decode cX2_placeAtPoint 8 = .ok (.getfield 9, 3) := by decide +kernel
theorem dX2_placeAtPoint_11 : decode cX2_placeAtPoint 11 = .ok (.getfield 15, 3) := by decide +kernel
theorem dX2_placeAtPoint_14 : decode cX2_placeAtPoint 14 = .ok (.if_icmp .ge 68, 3) := by decide +kernel
theorem dX2_placeAtPoint_17 : decode cX2_placeAtPoint 17 = .ok (.aload_n 0, 1) := by decide +kernel
theorem dX2_placeAtPoint_18 : decode cX2_placeAtPoint 18 = .ok (.getfield 9, 3) := by decide +kernel
theorem dX2_placeAtPoint_21 : decode cX2_placeAtPoint 21 = .ok (.iload 4, 2) := by decide +kernel
theorem dX2_placeAtPoint_23 : decode cX2_placeAtPoint 23 = .ok (.aload_n 1, 1) := by decide +kernel
theorem dX2_placeAtPoint_24 : decode cX2_placeAtPoint 24 = .ok (.getfield 21, 3) := by decide +kernel
theorem dX2_placeAtPoint_27 : decode cX2_placeAtPoint 27 = .ok (.invokevirtual 38, 3) := by decide +kernel
theorem dX2_placeAtPoint_30 : decode cX2_placeAtPoint 30 = .ok (.ifCond .eq 19, 3) := by decide +kernel
theorem dX2_placeAtPoint_33 : decode cX2_placeAtPoint 33 = .ok (.aload_n 0, 1) := by decide +kernel
theorem dX2_placeAtPoint_34 : decode cX2_placeAtPoint 34 = .ok (.getfield 9, 3) := by decide +kernel
theorem dX2_placeAtPoint_37 : decode cX2_placeAtPoint 37 = .ok (.iload 4, 2) := by decide +kernel
theorem dX2_placeAtPoint_39 : decode cX2_placeAtPoint 39 = .ok (.invokevirtual 30, 3) := by decide +kernel
theorem dX2_placeAtPoint_42 : decode cX2_placeAtPoint 42 = .ok (.iload_n 2, 1) := by decide +kernel
theorem dX2_placeAtPoint_43 : decode cX2_placeAtPoint 43 = .ok (.invokevirtual 41, 3) := by decide +kernel
theorem dX2_placeAtPoint_46 : decode cX2_placeAtPoint 46 = .ok (.goto 4, 3) := by decide +kernel
theorem dX2_placeAtPoint_49 : decode cX2_placeAtPoint 49 = .ok (.iconst (-1), 1) := by decide +kernel
theorem dX2_placeAtPoint_50 : decode cX2_placeAtPoint 50 = .ok (.istore 5, 2) := by decide +kernel
theorem dX2_placeAtPoint_52 : decode cX2_placeAtPoint 52 = .ok (.iload_n 3, 1) := by decide +kernel
theorem dX2_placeAtPoint_53 : decode cX2_placeAtPoint 53 = .ok (.iload 5, 2) := by decide +kernel
theorem dX2_placeAtPoint_55 : decode cX2_placeAtPoint 55 = .ok (.iconst (-1), 1) := by decide +kernel
theorem dX2_placeAtPoint_56 : decode cX2_placeAtPoint 56 = .ok (.if_icmp .eq 17, 3) := by decide +kernel
theorem dX2_placeAtPoint_59 : decode cX2_placeAtPoint 59 = .ok (.iload 5, 2) := by decide +kernel
theorem dX2_placeAtPoint_61 : decode cX2_placeAtPoint 61 = .ok (.aload_n 1, 1) := by decide +kernel
theorem dX2_placeAtPoint_62 : decode cX2_placeAtPoint 62 = .ok (.iload_n 2, 1) := by decide +kernel
theorem dX2_placeAtPoint_63 : decode cX2_placeAtPoint 63 = .ok (.invokevirtual 41, 3) := by decide +kernel
theorem dX2_placeAtPoint_66 : decode cX2_placeAtPoint 66 = .ok (.if_icmp .ge 7, 3) := by decide +kernel
theorem dX2_placeAtPoint_69 : decode cX2_placeAtPoint 69 = .ok (.iconst 1, 1) := by decide +kernel
theorem dX2_placeAtPoint_70 : decode cX2_placeAtPoint 70 = .ok (.goto 4, 3) := by decide +kernel
theorem dX2_placeAtPoint_73 : decode cX2_placeAtPoint 73 = .ok (.iconst 0, 1) := by decide +kernel
theorem dX2_placeAtPoint_74 : decode cX2_placeAtPoint 74 = .ok (.iadd, 1) := by decide +kernel
theorem dX2_placeAtPoint_75 : decode cX2_placeAtPoint 75 = .ok (.istore_n 3, 1) := by decide +kernel
theorem dX2_placeAtPoint_76 : decode cX2_placeAtPoint 76 = .ok (.iinc 4 1, 3) := by decide +kernel
theorem dX2_placeAtPoint_79 : decode cX2_placeAtPoint 79 = .ok (.goto (-74), 3) := by decide +kernel
theorem dX2_placeAtPoint_82 : decode cX2_placeAtPoint 82 = .ok (.iload_n 3, 1) := by decide +kernel
theorem dX2_placeAtPoint_83 : decode cX2_placeAtPoint 83 = .ok (.ireturn, 1) := by decide +kernel
def f_X2_placeAtPoint_50 (i1 : Nat) (v2 : Int32) (v3 : Int32) (v4 : Int32) (k5 : Int32 → Int32 → gSt → Option (Int32 × gSt)) (vs0 : Int32) (σ : gSt) : Option (Int32 × gSt) :=
  if vs0 = (-1) then
    k5 (v3 + 0) (v4 + 1) σ
  else
    (f_X9_splitAt i1 v2 σ).bind fun p63 =>
    if p63.1 ≤ vs0 then
      k5 (v3 + 0) (v4 + 1) p63.2
    else
      k5 (v3 + 1) (v4 + 1) p63.2
def f_X2_placeAtPoint_5 (i1 : Nat) (v2 : Int32) : Nat → Int32 → Int32 → gSt → Option (Int32 × gSt)
  | 0, _, _, _ => none
  | n + 1, v3, v4, σ =>
    if (σ 3 1 4) ≤ v4 then
      some (v3, σ)
    else
      (f_X4_isOf 1 v4 (σ 10 i1 5) σ).bind fun p27 =>
      if p27.1 = 0 then
        f_X2_placeAtPoint_50 i1 v2 v3 v4 (fun v3 v4 σ => f_X2_placeAtPoint_5 i1 v2 n v3 v4 σ) (-1) p27.2
      else
        (f_X4_runnerAt 1 v4 p27.2).bind fun p39 =>
        (f_X9_splitAt p39.1 v2 p39.2).bind fun p43 =>
        f_X2_placeAtPoint_50 i1 v2 v3 v4 (fun v3 v4 σ => f_X2_placeAtPoint_5 i1 v2 n v3 v4 σ) p43.1 p43.2
def f_X2_placeAtPoint (i1 : Nat) (v2 : Int32) (σ : gSt) : Option (Int32 × gSt) :=
  f_X2_placeAtPoint_5 i1 v2 gFuel 1 0 σ
theorem f_X2_placeAtPoint_50_ok {i1 : Nat} {v2 : Int32} {v3 : Int32} {v4 : Int32} {k5 : Int32 → Int32 → gSt → Option (Int32 × gSt)} {vs0 : Int32} {r : (Int32 × gSt)} (hi1 : i1 < 20) (hk5 : ∀ {v3 : Int32} {v4 : Int32} {σ : gSt} {x5 : Option Value}, k5 v3 v4 σ = some r → G l w 0 41 RX2 cX2_placeAtPoint 6 (some .int) 2 43 (gE (some (.int r.1)) r.2) 5 [some (.ref (w.2.1 16 0)), some (.ref (w.2.1 10 i1)), some (.int v2), some (.int v3), some (.int v4), x5] [] σ) {σ : gSt} {x5 : Option Value} (h : f_X2_placeAtPoint_50 i1 v2 v3 v4 k5 vs0 σ = some r) : G l w 0 41 RX2 cX2_placeAtPoint 6 (some .int) 2 43 (gE (some (.int r.1)) r.2) 50 [some (.ref (w.2.1 16 0)), some (.ref (w.2.1 10 i1)), some (.int v2), some (.int v3), some (.int v4), x5] [.int vs0] σ := by
  unfold f_X2_placeAtPoint_50 at h
  refine g_istore5 dX2_placeAtPoint_50 ?_
  refine g_iload_n dX2_placeAtPoint_52 rfl ?_
  refine g_iload dX2_placeAtPoint_53 rfl ?_
  refine g_iconst dX2_placeAtPoint_55 kc_m1 ?_
  refine g_icmp_eq 73 dX2_placeAtPoint_56 rfl (fun q => ?_) (fun q => ?_)
  · replace h := gif_t q h
    refine g_iconst dX2_placeAtPoint_73 kc_0 ?_
    refine g_iadd dX2_placeAtPoint_74 ?_
    refine g_istore3 dX2_placeAtPoint_75 ?_
    refine g_inc4 kc_1 dX2_placeAtPoint_76 ?_
    refine g_goto 5 dX2_placeAtPoint_79 rfl ?_
    exact hk5 h
  · replace h := gif_f q h
    refine g_iload dX2_placeAtPoint_59 rfl ?_
    refine g_aload_n dX2_placeAtPoint_61 rfl ?_
    refine g_iload_n dX2_placeAtPoint_62 rfl ?_
    obtain ⟨p63, e63, h⟩ := obind h
    refine g_vP1 mv_X2_41 dX2_placeAtPoint_63 (ok_10 hi1) ⟨by decide, by decide⟩ (Nat.le_of_ble_eq_true rfl) (f_X9_splitAt_ok hi1 e63) ?_
    refine g_icmp_ge 73 dX2_placeAtPoint_66 rfl (fun q => ?_) (fun q => ?_)
    · replace h := gif_t q h
      refine g_iconst dX2_placeAtPoint_73 kc_0 ?_
      refine g_iadd dX2_placeAtPoint_74 ?_
      refine g_istore3 dX2_placeAtPoint_75 ?_
      refine g_inc4 kc_1 dX2_placeAtPoint_76 ?_
      refine g_goto 5 dX2_placeAtPoint_79 rfl ?_
      exact hk5 h
    · replace h := gif_f q h
      refine g_iconst dX2_placeAtPoint_69 kc_1 ?_
      refine g_goto 74 dX2_placeAtPoint_70 rfl ?_
      refine g_iadd dX2_placeAtPoint_74 ?_
      refine g_istore3 dX2_placeAtPoint_75 ?_
      refine g_inc4 kc_1 dX2_placeAtPoint_76 ?_
      refine g_goto 5 dX2_placeAtPoint_79 rfl ?_
      exact hk5 h
theorem f_X2_placeAtPoint_5_ok {i1 : Nat} {v2 : Int32} {r : (Int32 × gSt)} (hi1 : i1 < 20) : ∀ (n : Nat) {v3 : Int32} {v4 : Int32} {σ : gSt} {x5 : Option Value}, f_X2_placeAtPoint_5 i1 v2 n v3 v4 σ = some r → G l w 0 41 RX2 cX2_placeAtPoint 6 (some .int) 2 43 (gE (some (.int r.1)) r.2) 5 [some (.ref (w.2.1 16 0)), some (.ref (w.2.1 10 i1)), some (.int v2), some (.int v3), some (.int v4), x5] [] σ := by
  intro n
  induction n with
  | zero => intro v3 v4 σ x5 h; rw [f_X2_placeAtPoint_5] at h; cases h
  | succ n ih =>
    intro v3 v4 σ x5 h
    rw [f_X2_placeAtPoint_5] at h
    refine g_iload dX2_placeAtPoint_5 rfl ?_
    refine g_aload_n dX2_placeAtPoint_7 rfl ?_
    refine gR_X2_9 ok_16 dX2_placeAtPoint_8 ?_
    refine gI_X2_15 (ok_3 (by decide)) dX2_placeAtPoint_11 ?_
    refine g_icmp_ge 82 dX2_placeAtPoint_14 rfl (fun q => ?_) (fun q => ?_)
    · replace h := gif_t q h
      refine g_iload_n dX2_placeAtPoint_82 rfl ?_
      cases h
      exact g_iret dX2_placeAtPoint_83 rfl ⟨rfl, rfl⟩
    · replace h := gif_f q h
      refine g_aload_n dX2_placeAtPoint_17 rfl ?_
      refine gR_X2_9 ok_16 dX2_placeAtPoint_18 ?_
      refine g_iload dX2_placeAtPoint_21 rfl ?_
      refine g_aload_n dX2_placeAtPoint_23 rfl ?_
      refine gI_X2_21 (ok_10 hi1) dX2_placeAtPoint_24 ?_
      obtain ⟨p27, e27, h⟩ := obind h
      refine g_vP2 mv_X2_38 dX2_placeAtPoint_27 (ok_3 (by decide)) ⟨by decide, by decide⟩ (Nat.le_of_ble_eq_true rfl) (f_X4_isOf_ok (by decide) e27) ?_
      refine g_if_eq 49 dX2_placeAtPoint_30 rfl (fun q => ?_) (fun q => ?_)
      · replace h := gif_t q h
        refine g_iconst dX2_placeAtPoint_49 kc_m1 ?_
        exact f_X2_placeAtPoint_50_ok hi1 (fun h => ih h) h
      · replace h := gif_f q h
        refine g_aload_n dX2_placeAtPoint_33 rfl ?_
        refine gR_X2_9 ok_16 dX2_placeAtPoint_34 ?_
        refine g_iload dX2_placeAtPoint_37 rfl ?_
        obtain ⟨p39, e39, h⟩ := obind h
        refine g_vR1 mv_X2_30 dX2_placeAtPoint_39 (ok_3 (by decide)) ⟨by decide, by decide⟩ (Nat.le_of_ble_eq_true rfl) (f_X4_runnerAt_ok (by decide) e39) (fun b39 => ?_)
        refine g_iload_n dX2_placeAtPoint_42 rfl ?_
        obtain ⟨p43, e43, h⟩ := obind h
        refine g_vP1 mv_X2_41 dX2_placeAtPoint_43 (ok_10 b39) ⟨by decide, by decide⟩ (Nat.le_of_ble_eq_true rfl) (f_X9_splitAt_ok b39 e43) ?_
        refine g_goto 50 dX2_placeAtPoint_46 rfl ?_
        exact f_X2_placeAtPoint_50_ok hi1 (fun h => ih h) h
theorem f_X2_placeAtPoint_ok {i1 : Nat} {v2 : Int32} (hi1 : i1 < 20) {σ : gSt} {r : (Int32 × gSt)} (h : f_X2_placeAtPoint i1 v2 σ = some r) : Mt l w 0 41 yX2_placeAtPoint cX2_placeAtPoint 6 (some .int) 2 43 [.ref (w.2.1 16 0), .ref (w.2.1 10 i1), .int v2] σ (gE (some (.int r.1)) r.2) := by
  unfold f_X2_placeAtPoint at h
  refine g_start pn_X2 rfl rfl (Nat.le_of_ble_eq_true rfl) ?_
  show G l w 0 41 RX2 cX2_placeAtPoint 6 (some .int) 2 43 (gE (some (.int r.1)) r.2) 0 [some (.ref (w.2.1 16 0)), some (.ref (w.2.1 10 i1)), some (.int v2), none, none, none] [] σ
  refine g_iconst dX2_placeAtPoint_0 kc_1 ?_
  refine g_istore3 dX2_placeAtPoint_1 ?_
  refine g_iconst dX2_placeAtPoint_2 kc_0 ?_
  refine g_istore4 dX2_placeAtPoint_3 ?_
  exact f_X2_placeAtPoint_5_ok hi1 gFuel h
theorem dX9_legTime_0 : decode cX9_legTime 0 = .ok (.aload_n 0, 1) := by decide +kernel
theorem dX9_legTime_1 : decode cX9_legTime 1 = .ok (.iload_n 1, 1) := by decide +kernel
theorem dX9_legTime_2 : decode cX9_legTime 2 = .ok (.invokevirtual 75, 3) := by decide +kernel
theorem dX9_legTime_5 : decode cX9_legTime 5 = .ok (.istore_n 2, 1) := by decide +kernel
theorem dX9_legTime_6 : decode cX9_legTime 6 = .ok (.iload_n 1, 1) := by decide +kernel
theorem dX9_legTime_7 : decode cX9_legTime 7 = .ok (.ifCond .ne 10, 3) := by decide +kernel
theorem dX9_legTime_10 : decode cX9_legTime 10 = .ok (.aload_n 0, 1) := by decide +kernel
theorem dX9_legTime_11 : decode cX9_legTime 11 = .ok (.getfield 33, 3) := by decide +kernel
theorem dX9_legTime_14 : decode cX9_legTime 14 = .ok (.goto 10, 3) := by decide +kernel
theorem dX9_legTime_17 : decode cX9_legTime 17 = .ok (.aload_n 0, 1) := by decide +kernel
theorem dX9_legTime_18 : decode cX9_legTime 18 = .ok (.iload_n 1, 1) := by decide +kernel
theorem dX9_legTime_19 : decode cX9_legTime 19 = .ok (.iconst 1, 1) := by decide +kernel
theorem dX9_legTime_20 : decode cX9_legTime 20 = .ok (.isub, 1) := by decide +kernel
theorem dX9_legTime_21 : decode cX9_legTime 21 = .ok (.invokevirtual 75, 3) := by decide +kernel
theorem dX9_legTime_24 : decode cX9_legTime 24 = .ok (.istore_n 3, 1) := by decide +kernel
theorem dX9_legTime_25 : decode cX9_legTime 25 = .ok (.iload_n 2, 1) := by decide +kernel
theorem dX9_legTime_26 : decode cX9_legTime 26 = .ok (.iconst (-1), 1) := by decide +kernel
theorem dX9_legTime_27 : decode cX9_legTime 27 = .ok (.if_icmp .eq 8, 3) := by decide +kernel
theorem dX9_legTime_30 : decode cX9_legTime 30 = .ok (.iload_n 3, 1) := by decide +kernel
theorem dX9_legTime_31 : decode cX9_legTime 31 = .ok (.iconst (-1), 1) := by decide +kernel
theorem dX9_legTime_32 : decode cX9_legTime 32 = .ok (.if_icmp .ne 7, 3) := by decide +kernel
theorem dX9_legTime_35 : decode cX9_legTime 35 = .ok (.iconst (-1), 1) := by decide +kernel
theorem dX9_legTime_36 : decode cX9_legTime 36 = .ok (.goto 6, 3) := by decide +kernel
theorem dX9_legTime_39 : decode cX9_legTime 39 = .ok (.iload_n 2, 1) := by decide +kernel
theorem dX9_legTime_40 : decode cX9_legTime 40 = .ok (.iload_n 3, 1) := by decide +kernel
theorem dX9_legTime_41 : decode cX9_legTime 41 = .ok (.isub, 1) := by decide +kernel
theorem dX9_legTime_42 : decode cX9_legTime 42 = .ok (.ireturn, 1) := by decide +kernel
def f_X9_legTime_24 (v2 : Int32) (vs0 : Int32) (σ : gSt) : Option (Int32 × gSt) :=
  if v2 = (-1) then
    some ((-1), σ)
  else
    if vs0 = (-1) then
      some ((-1), σ)
    else
      some ((v2 - vs0), σ)
def f_X9_legTime (i0 : Nat) (v1 : Int32) (σ : gSt) : Option (Int32 × gSt) :=
  (f_X9_timeAt i0 v1 σ).bind fun p2 =>
  if v1 = 0 then
    f_X9_legTime_24 p2.1 (p2.2 10 i0 6) p2.2
  else
    (f_X9_timeAt i0 (v1 - 1) p2.2).bind fun p21 =>
    f_X9_legTime_24 p2.1 p21.1 p21.2
theorem f_X9_legTime_24_ok {v2 : Int32} {vs0 : Int32} {r : (Int32 × gSt)}  {σ : gSt} {x0 x1 x3 : Option Value} (h : f_X9_legTime_24 v2 vs0 σ = some r) : G l w 0 41 RX9 cX9_legTime 4 (some .int) 1 21 (gE (some (.int r.1)) r.2) 24 [x0, x1, some (.int v2), x3] [.int vs0] σ := by
  unfold f_X9_legTime_24 at h
  refine g_istore3 dX9_legTime_24 ?_
  refine g_iload_n dX9_legTime_25 rfl ?_
  refine g_iconst dX9_legTime_26 kc_m1 ?_
  refine g_icmp_eq 35 dX9_legTime_27 rfl (fun q => ?_) (fun q => ?_)
  · replace h := gif_t q h
    refine g_iconst dX9_legTime_35 kc_m1 ?_
    refine g_goto 42 dX9_legTime_36 rfl ?_
    cases h
    exact g_iret dX9_legTime_42 rfl ⟨rfl, rfl⟩
  · replace h := gif_f q h
    refine g_iload_n dX9_legTime_30 rfl ?_
    refine g_iconst dX9_legTime_31 kc_m1 ?_
    refine g_icmp_ne 39 dX9_legTime_32 rfl (fun q => ?_) (fun q => ?_)
    · replace h := gif_f q h
      refine g_iload_n dX9_legTime_39 rfl ?_
      refine g_iload_n dX9_legTime_40 rfl ?_
      refine g_isub dX9_legTime_41 ?_
      cases h
      exact g_iret dX9_legTime_42 rfl ⟨rfl, rfl⟩
    · replace h := gif_t q h
      refine g_iconst dX9_legTime_35 kc_m1 ?_
      refine g_goto 42 dX9_legTime_36 rfl ?_
      cases h
      exact g_iret dX9_legTime_42 rfl ⟨rfl, rfl⟩
theorem f_X9_legTime_ok {i0 : Nat} {v1 : Int32} (hi0 : i0 < 20) {σ : gSt} {r : (Int32 × gSt)} (h : f_X9_legTime i0 v1 σ = some r) : Mt l w 0 41 yX9_legTime cX9_legTime 4 (some .int) 1 21 [.ref (w.2.1 10 i0), .int v1] σ (gE (some (.int r.1)) r.2) := by
  unfold f_X9_legTime at h
  refine g_start pn_X9 rfl rfl (Nat.le_of_ble_eq_true rfl) ?_
  show G l w 0 41 RX9 cX9_legTime 4 (some .int) 1 21 (gE (some (.int r.1)) r.2) 0 [some (.ref (w.2.1 10 i0)), some (.int v1), none, none] [] σ
  refine g_aload_n dX9_legTime_0 rfl ?_
  refine g_iload_n dX9_legTime_1 rfl ?_
  obtain ⟨p2, e2, h⟩ := obind h
  refine g_vP1 mv_X9_75 dX9_legTime_2 (ok_10 hi0) ⟨by decide, by decide⟩ (Nat.le_of_ble_eq_true rfl) (f_X9_timeAt_ok hi0 e2) ?_
  refine g_istore2 dX9_legTime_5 ?_
  refine g_iload_n dX9_legTime_6 rfl ?_
  refine g_if_ne 17 dX9_legTime_7 rfl (fun q => ?_) (fun q => ?_)
  · replace h := gif_f q h
    refine g_aload_n dX9_legTime_17 rfl ?_
    refine g_iload_n dX9_legTime_18 rfl ?_
    refine g_iconst dX9_legTime_19 kc_1 ?_
    refine g_isub dX9_legTime_20 ?_
    obtain ⟨p21, e21, h⟩ := obind h
    refine g_vP1 mv_X9_75 dX9_legTime_21 (ok_10 hi0) ⟨by decide, by decide⟩ (Nat.le_of_ble_eq_true rfl) (f_X9_timeAt_ok hi0 e21) ?_
    exact f_X9_legTime_24_ok h
  · replace h := gif_t q h
    refine g_aload_n dX9_legTime_10 rfl ?_
    refine gI_X9_33 (ok_10 hi0) dX9_legTime_11 ?_
    refine g_goto 24 dX9_legTime_14 rfl ?_
    exact f_X9_legTime_24_ok h
theorem dX2_placeOnLeg_0 : decode cX2_placeOnLeg 0 = .ok (.iconst 1, 1) := by decide +kernel
theorem dX2_placeOnLeg_1 : decode cX2_placeOnLeg 1 = .ok (.istore_n 3, 1) := by decide +kernel
theorem dX2_placeOnLeg_2 : decode cX2_placeOnLeg 2 = .ok (.iconst 0, 1) := by decide +kernel
theorem dX2_placeOnLeg_3 : decode cX2_placeOnLeg 3 = .ok (.istore 4, 2) := by decide +kernel
theorem dX2_placeOnLeg_5 : decode cX2_placeOnLeg 5 = .ok (.iload 4, 2) := by decide +kernel
theorem dX2_placeOnLeg_7 : decode cX2_placeOnLeg 7 = .ok (.aload_n 0, 1) := by decide +kernel
theorem dX2_placeOnLeg_8 : decode cX2_placeOnLeg 8 = .ok (.getfield 9, 3) := by decide +kernel
theorem dX2_placeOnLeg_11 : decode cX2_placeOnLeg 11 = .ok (.getfield 15, 3) := by decide +kernel
theorem dX2_placeOnLeg_14 : decode cX2_placeOnLeg 14 = .ok (.if_icmp .ge 68, 3) := by decide +kernel
theorem dX2_placeOnLeg_17 : decode cX2_placeOnLeg 17 = .ok (.aload_n 0, 1) := by decide +kernel
theorem dX2_placeOnLeg_18 : decode cX2_placeOnLeg 18 = .ok (.getfield 9, 3) := by decide +kernel
theorem dX2_placeOnLeg_21 : decode cX2_placeOnLeg 21 = .ok (.iload 4, 2) := by decide +kernel
theorem dX2_placeOnLeg_23 : decode cX2_placeOnLeg 23 = .ok (.aload_n 1, 1) := by decide +kernel
theorem dX2_placeOnLeg_24 : decode cX2_placeOnLeg 24 = .ok (.getfield 21, 3) := by decide +kernel
theorem dX2_placeOnLeg_27 : decode cX2_placeOnLeg 27 = .ok (.invokevirtual 38, 3) := by decide +kernel
theorem dX2_placeOnLeg_30 : decode cX2_placeOnLeg 30 = .ok (.ifCond .eq 19, 3) := by decide +kernel
theorem dX2_placeOnLeg_33 : decode cX2_placeOnLeg 33 = .ok (.aload_n 0, 1) := by decide +kernel
theorem dX2_placeOnLeg_34 : decode cX2_placeOnLeg 34 = .ok (.getfield 9, 3) := by decide +kernel
theorem dX2_placeOnLeg_37 : decode cX2_placeOnLeg 37 = .ok (.iload 4, 2) := by decide +kernel
theorem dX2_placeOnLeg_39 : decode cX2_placeOnLeg 39 = .ok (.invokevirtual 30, 3) := by decide +kernel
theorem dX2_placeOnLeg_42 : decode cX2_placeOnLeg 42 = .ok (.iload_n 2, 1) := by decide +kernel
theorem dX2_placeOnLeg_43 : decode cX2_placeOnLeg 43 = .ok (.invokevirtual 45, 3) := by decide +kernel
theorem dX2_placeOnLeg_46 : decode cX2_placeOnLeg 46 = .ok (.goto 4, 3) := by decide +kernel
theorem dX2_placeOnLeg_49 : decode cX2_placeOnLeg 49 = .ok (.iconst (-1), 1) := by decide +kernel
theorem dX2_placeOnLeg_50 : decode cX2_placeOnLeg 50 = .ok (.istore 5, 2) := by decide +kernel
theorem dX2_placeOnLeg_52 : decode cX2_placeOnLeg 52 = .ok (.iload_n 3, 1) := by decide +kernel
theorem dX2_placeOnLeg_53 : decode cX2_placeOnLeg 53 = .ok (.iload 5, 2) := by decide +kernel
theorem dX2_placeOnLeg_55 : decode cX2_placeOnLeg 55 = .ok (.iconst (-1), 1) := by decide +kernel
theorem dX2_placeOnLeg_56 : decode cX2_placeOnLeg 56 = .ok (.if_icmp .eq 17, 3) := by decide +kernel
theorem dX2_placeOnLeg_59 : decode cX2_placeOnLeg 59 = .ok (.iload 5, 2) := by decide +kernel
theorem dX2_placeOnLeg_61 : decode cX2_placeOnLeg 61 = .ok (.aload_n 1, 1) := by decide +kernel
theorem dX2_placeOnLeg_62 : decode cX2_placeOnLeg 62 = .ok (.iload_n 2, 1) := by decide +kernel
theorem dX2_placeOnLeg_63 : decode cX2_placeOnLeg 63 = .ok (.invokevirtual 45, 3) := by decide +kernel
theorem dX2_placeOnLeg_66 : decode cX2_placeOnLeg 66 = .ok (.if_icmp .ge 7, 3) := by decide +kernel
theorem dX2_placeOnLeg_69 : decode cX2_placeOnLeg 69 = .ok (.iconst 1, 1) := by decide +kernel
theorem dX2_placeOnLeg_70 : decode cX2_placeOnLeg 70 = .ok (.goto 4, 3) := by decide +kernel
theorem dX2_placeOnLeg_73 : decode cX2_placeOnLeg 73 = .ok (.iconst 0, 1) := by decide +kernel
theorem dX2_placeOnLeg_74 : decode cX2_placeOnLeg 74 = .ok (.iadd, 1) := by decide +kernel
theorem dX2_placeOnLeg_75 : decode cX2_placeOnLeg 75 = .ok (.istore_n 3, 1) := by decide +kernel
theorem dX2_placeOnLeg_76 : decode cX2_placeOnLeg 76 = .ok (.iinc 4 1, 3) := by decide +kernel
theorem dX2_placeOnLeg_79 : decode cX2_placeOnLeg 79 = .ok (.goto (-74), 3) := by decide +kernel
theorem dX2_placeOnLeg_82 : decode cX2_placeOnLeg 82 = .ok (.iload_n 3, 1) := by decide +kernel
theorem dX2_placeOnLeg_83 : decode cX2_placeOnLeg 83 = .ok (.ireturn, 1) := by decide +kernel
def f_X2_placeOnLeg_50 (i1 : Nat) (v2 : Int32) (v3 : Int32) (v4 : Int32) (k5 : Int32 → Int32 → gSt → Option (Int32 × gSt)) (vs0 : Int32) (σ : gSt) : Option (Int32 × gSt) :=
  if vs0 = (-1) then
    k5 (v3 + 0) (v4 + 1) σ
  else
    (f_X9_legTime i1 v2 σ).bind fun p63 =>
    if p63.1 ≤ vs0 then
      k5 (v3 + 0) (v4 + 1) p63.2
    else
      k5 (v3 + 1) (v4 + 1) p63.2
def f_X2_placeOnLeg_5 (i1 : Nat) (v2 : Int32) : Nat → Int32 → Int32 → gSt → Option (Int32 × gSt)
  | 0, _, _, _ => none
  | n + 1, v3, v4, σ =>
    if (σ 3 1 4) ≤ v4 then
      some (v3, σ)
    else
      (f_X4_isOf 1 v4 (σ 10 i1 5) σ).bind fun p27 =>
      if p27.1 = 0 then
        f_X2_placeOnLeg_50 i1 v2 v3 v4 (fun v3 v4 σ => f_X2_placeOnLeg_5 i1 v2 n v3 v4 σ) (-1) p27.2
      else
        (f_X4_runnerAt 1 v4 p27.2).bind fun p39 =>
        (f_X9_legTime p39.1 v2 p39.2).bind fun p43 =>
        f_X2_placeOnLeg_50 i1 v2 v3 v4 (fun v3 v4 σ => f_X2_placeOnLeg_5 i1 v2 n v3 v4 σ) p43.1 p43.2
def f_X2_placeOnLeg (i1 : Nat) (v2 : Int32) (σ : gSt) : Option (Int32 × gSt) :=
  f_X2_placeOnLeg_5 i1 v2 gFuel 1 0 σ
theorem f_X2_placeOnLeg_50_ok {i1 : Nat} {v2 : Int32} {v3 : Int32} {v4 : Int32} {k5 : Int32 → Int32 → gSt → Option (Int32 × gSt)} {vs0 : Int32} {r : (Int32 × gSt)} (hi1 : i1 < 20) (hk5 : ∀ {v3 : Int32} {v4 : Int32} {σ : gSt} {x5 : Option Value}, k5 v3 v4 σ = some r → G l w 0 41 RX2 cX2_placeOnLeg 6 (some .int) 2 44 (gE (some (.int r.1)) r.2) 5 [some (.ref (w.2.1 16 0)), some (.ref (w.2.1 10 i1)), some (.int v2), some (.int v3), some (.int v4), x5] [] σ) {σ : gSt} {x5 : Option Value} (h : f_X2_placeOnLeg_50 i1 v2 v3 v4 k5 vs0 σ = some r) : G l w 0 41 RX2 cX2_placeOnLeg 6 (some .int) 2 44 (gE (some (.int r.1)) r.2) 50 [some (.ref (w.2.1 16 0)), some (.ref (w.2.1 10 i1)), some (.int v2), some (.int v3), some (.int v4), x5] [.int vs0] σ := by
  unfold f_X2_placeOnLeg_50 at h
  refine g_istore5 dX2_placeOnLeg_50 ?_
  refine g_iload_n dX2_placeOnLeg_52 rfl ?_
  refine g_iload dX2_placeOnLeg_53 rfl ?_
  refine g_iconst dX2_placeOnLeg_55 kc_m1 ?_
  refine g_icmp_eq 73 dX2_placeOnLeg_56 rfl (fun q => ?_) (fun q => ?_)
  · replace h := gif_t q h
    refine g_iconst dX2_placeOnLeg_73 kc_0 ?_
    refine g_iadd dX2_placeOnLeg_74 ?_
    refine g_istore3 dX2_placeOnLeg_75 ?_
    refine g_inc4 kc_1 dX2_placeOnLeg_76 ?_
    refine g_goto 5 dX2_placeOnLeg_79 rfl ?_
    exact hk5 h
  · replace h := gif_f q h
    refine g_iload dX2_placeOnLeg_59 rfl ?_
    refine g_aload_n dX2_placeOnLeg_61 rfl ?_
    refine g_iload_n dX2_placeOnLeg_62 rfl ?_
    obtain ⟨p63, e63, h⟩ := obind h
    refine g_vP1 mv_X2_45 dX2_placeOnLeg_63 (ok_10 hi1) ⟨by decide, by decide⟩ (Nat.le_of_ble_eq_true rfl) (f_X9_legTime_ok hi1 e63) ?_
    refine g_icmp_ge 73 dX2_placeOnLeg_66 rfl (fun q => ?_) (fun q => ?_)
    · replace h := gif_t q h
      refine g_iconst dX2_placeOnLeg_73 kc_0 ?_
      refine g_iadd dX2_placeOnLeg_74 ?_
      refine g_istore3 dX2_placeOnLeg_75 ?_
      refine g_inc4 kc_1 dX2_placeOnLeg_76 ?_
      refine g_goto 5 dX2_placeOnLeg_79 rfl ?_
      exact hk5 h
    · replace h := gif_f q h
      refine g_iconst dX2_placeOnLeg_69 kc_1 ?_
      refine g_goto 74 dX2_placeOnLeg_70 rfl ?_
      refine g_iadd dX2_placeOnLeg_74 ?_
      refine g_istore3 dX2_placeOnLeg_75 ?_
      refine g_inc4 kc_1 dX2_placeOnLeg_76 ?_
      refine g_goto 5 dX2_placeOnLeg_79 rfl ?_
      exact hk5 h
theorem f_X2_placeOnLeg_5_ok {i1 : Nat} {v2 : Int32} {r : (Int32 × gSt)} (hi1 : i1 < 20) : ∀ (n : Nat) {v3 : Int32} {v4 : Int32} {σ : gSt} {x5 : Option Value}, f_X2_placeOnLeg_5 i1 v2 n v3 v4 σ = some r → G l w 0 41 RX2 cX2_placeOnLeg 6 (some .int) 2 44 (gE (some (.int r.1)) r.2) 5 [some (.ref (w.2.1 16 0)), some (.ref (w.2.1 10 i1)), some (.int v2), some (.int v3), some (.int v4), x5] [] σ := by
  intro n
  induction n with
  | zero => intro v3 v4 σ x5 h; rw [f_X2_placeOnLeg_5] at h; cases h
  | succ n ih =>
    intro v3 v4 σ x5 h
    rw [f_X2_placeOnLeg_5] at h
    refine g_iload dX2_placeOnLeg_5 rfl ?_
    refine g_aload_n dX2_placeOnLeg_7 rfl ?_
    refine gR_X2_9 ok_16 dX2_placeOnLeg_8 ?_
    refine gI_X2_15 (ok_3 (by decide)) dX2_placeOnLeg_11 ?_
    refine g_icmp_ge 82 dX2_placeOnLeg_14 rfl (fun q => ?_) (fun q => ?_)
    · replace h := gif_t q h
      refine g_iload_n dX2_placeOnLeg_82 rfl ?_
      cases h
      exact g_iret dX2_placeOnLeg_83 rfl ⟨rfl, rfl⟩
    · replace h := gif_f q h
      refine g_aload_n dX2_placeOnLeg_17 rfl ?_
      refine gR_X2_9 ok_16 dX2_placeOnLeg_18 ?_
      refine g_iload dX2_placeOnLeg_21 rfl ?_
      refine g_aload_n dX2_placeOnLeg_23 rfl ?_
      refine gI_X2_21 (ok_10 hi1) dX2_placeOnLeg_24 ?_
      obtain ⟨p27, e27, h⟩ := obind h
      refine g_vP2 mv_X2_38 dX2_placeOnLeg_27 (ok_3 (by decide)) ⟨by decide, by decide⟩ (Nat.le_of_ble_eq_true rfl) (f_X4_isOf_ok (by decide) e27) ?_
      refine g_if_eq 49 dX2_placeOnLeg_30 rfl (fun q => ?_) (fun q => ?_)
      · replace h := gif_t q h
        refine g_iconst dX2_placeOnLeg_49 kc_m1 ?_
        exact f_X2_placeOnLeg_50_ok hi1 (fun h => ih h) h
      · replace h := gif_f q h
        refine g_aload_n dX2_placeOnLeg_33 rfl ?_
        refine gR_X2_9 ok_16 dX2_placeOnLeg_34 ?_
        refine g_iload dX2_placeOnLeg_37 rfl ?_
        obtain ⟨p39, e39, h⟩ := obind h
        refine g_vR1 mv_X2_30 dX2_placeOnLeg_39 (ok_3 (by decide)) ⟨by decide, by decide⟩ (Nat.le_of_ble_eq_true rfl) (f_X4_runnerAt_ok (by decide) e39) (fun b39 => ?_)
        refine g_iload_n dX2_placeOnLeg_42 rfl ?_
        obtain ⟨p43, e43, h⟩ := obind h
        refine g_vP1 mv_X2_45 dX2_placeOnLeg_43 (ok_10 b39) ⟨by decide, by decide⟩ (Nat.le_of_ble_eq_true rfl) (f_X9_legTime_ok b39 e43) ?_
        refine g_goto 50 dX2_placeOnLeg_46 rfl ?_
        exact f_X2_placeOnLeg_50_ok hi1 (fun h => ih h) h
theorem f_X2_placeOnLeg_ok {i1 : Nat} {v2 : Int32} (hi1 : i1 < 20) {σ : gSt} {r : (Int32 × gSt)} (h : f_X2_placeOnLeg i1 v2 σ = some r) : Mt l w 0 41 yX2_placeOnLeg cX2_placeOnLeg 6 (some .int) 2 44 [.ref (w.2.1 16 0), .ref (w.2.1 10 i1), .int v2] σ (gE (some (.int r.1)) r.2) := by
  unfold f_X2_placeOnLeg at h
  refine g_start pn_X2 rfl rfl (Nat.le_of_ble_eq_true rfl) ?_
  show G l w 0 41 RX2 cX2_placeOnLeg 6 (some .int) 2 44 (gE (some (.int r.1)) r.2) 0 [some (.ref (w.2.1 16 0)), some (.ref (w.2.1 10 i1)), some (.int v2), none, none, none] [] σ
  refine g_iconst dX2_placeOnLeg_0 kc_1 ?_
  refine g_istore3 dX2_placeOnLeg_1 ?_
  refine g_iconst dX2_placeOnLeg_2 kc_0 ?_
  refine g_istore4 dX2_placeOnLeg_3 ?_
  exact f_X2_placeOnLeg_5_ok hi1 gFuel h
theorem dX2_leastSplit_0 : decode cX2_leastSplit 0 = .ok (.iconst (-1), 1) := by decide +kernel
theorem dX2_leastSplit_1 : decode cX2_leastSplit 1 = .ok (.istore_n 3, 1) := by decide +kernel
theorem dX2_leastSplit_2 : decode cX2_leastSplit 2 = .ok (.iconst 0, 1) := by decide +kernel
theorem dX2_leastSplit_3 : decode cX2_leastSplit 3 = .ok (.istore 4, 2) := by decide +kernel
theorem dX2_leastSplit_5 : decode cX2_leastSplit 5 = .ok (.iload 4, 2) := by decide +kernel
theorem dX2_leastSplit_7 : decode cX2_leastSplit 7 = .ok (.aload_n 0, 1) := by decide +kernel
theorem dX2_leastSplit_8 : decode cX2_leastSplit 8 = .ok (.getfield 9, 3) := by decide +kernel
theorem dX2_leastSplit_11 : decode cX2_leastSplit 11 = .ok (.getfield 15, 3) := by decide +kernel
theorem dX2_leastSplit_14 : decode cX2_leastSplit 14 = .ok (.if_icmp .ge 61, 3) := by decide +kernel
theorem dX2_leastSplit_17 : decode cX2_leastSplit 17 = .ok (.aload_n 0, 1) := by decide +kernel
theorem dX2_leastSplit_18 : decode cX2_leastSplit 18 = .ok (.getfield 9, 3) := by decide +kernel
theorem dX2_leastSplit_21 : decode cX2_leastSplit 21 = .ok (.iload 4, 2) := by decide +kernel
theorem dX2_leastSplit_23 : decode cX2_leastSplit 23 = .ok (.iload_n 1, 1) := by decide +kernel
theorem dX2_leastSplit_24 : decode cX2_leastSplit 24 = .ok (.invokevirtual 38, 3) := by decide +kernel
theorem dX2_leastSplit_27 : decode cX2_leastSplit 27 = .ok (.ifCond .eq 19, 3) := by decide +kernel
theorem dX2_leastSplit_30 : decode cX2_leastSplit 30 = .ok (.aload_n 0, 1) := by decide +kernel
theorem dX2_leastSplit_31 : decode cX2_leastSplit 31 = .ok (.getfield 9, 3) := by decide +kernel
theorem dX2_leastSplit_34 : decode cX2_leastSplit 34 = .ok (.iload 4, 2) := by decide +kernel
theorem dX2_leastSplit_36 : decode cX2_leastSplit 36 = .ok (.invokevirtual 30, 3) := by decide +kernel
theorem dX2_leastSplit_39 : decode cX2_leastSplit 39 = .ok (.iload_n 2, 1) := by decide +kernel
theorem dX2_leastSplit_40 : decode cX2_leastSplit 40 = .ok (.invokevirtual 41, 3) := by decide +kernel
theorem dX2_leastSplit_43 : decode cX2_leastSplit 43 = .ok (.goto 4, 3) := by decide +kernel
theorem dX2_leastSplit_46 : decode cX2_leastSplit 46 = .ok (.iconst (-1), 1) := by decide +kernel
theorem dX2_leastSplit_47 : decode cX2_leastSplit 47 = .ok (.istore 5, 2) := by decide +kernel
theorem dX2_leastSplit_49 : decode cX2_leastSplit 49 = .ok (.iload 5, 2) := by decide +kernel
theorem dX2_leastSplit_51 : decode cX2_leastSplit 51 = .ok (.iconst (-1), 1) := by decide +kernel
theorem dX2_leastSplit_52 : decode cX2_leastSplit 52 = .ok (.if_icmp .eq 17, 3) := by decide +kernel
theorem dX2_leastSplit_55 : decode cX2_leastSplit 55 = .ok (.iload_n 3, 1) := by decide +kernel
theorem dX2_leastSplit_56 : decode cX2_leastSplit 56 = .ok (.iconst (-1), 1) := by decide +kernel
theorem dX2_leastSplit_57 : decode cX2_leastSplit 57 = .ok (.if_icmp .eq 9, 3) := by decide +kernel
theorem dX2_leastSplit_60 : decode cX2_leastSplit 60 = .ok (.iload 5, 2) := by decide +kernel
theorem dX2_leastSplit_62 : decode cX2_leastSplit 62 = .ok (.iload_n 3, 1) := by decide +kernel
theorem dX2_leastSplit_63 : decode cX2_leastSplit 63 = .ok (.if_icmp .ge 6, 3) := by decide +kernel
theorem dX2_leastSplit_66 : decode cX2_leastSplit 66 = .ok (.iload 5, 2) := by decide +kernel
theorem dX2_leastSplit_68 : decode cX2_leastSplit 68 = .ok (.istore_n 3, 1) := by decide +kernel
theorem dX2_leastSplit_69 : decode cX2_leastSplit 69 = .ok (.iinc 4 1, 3) := by decide +kernel
theorem dX2_leastSplit_72 : decode cX2_leastSplit 72 = .ok (.goto (-67), 3) := by decide +kernel
theorem dX2_leastSplit_75 : decode cX2_leastSplit 75 = .ok (.iload_n 3, 1) := by decide +kernel
theorem dX2_leastSplit_76 : decode cX2_leastSplit 76 = .ok (.ireturn, 1) := by decide +kernel
def f_X2_leastSplit_47 (v1 : Int32) (v2 : Int32) (v3 : Int32) (v4 : Int32) (k5 : Int32 → Int32 → gSt → Option (Int32 × gSt)) (vs0 : Int32) (σ : gSt) : Option (Int32 × gSt) :=
  if vs0 = (-1) then
    k5 v3 (v4 + 1) σ
  else
    if v3 = (-1) then
      k5 vs0 (v4 + 1) σ
    else
      if v3 ≤ vs0 then
        k5 v3 (v4 + 1) σ
      else
        k5 vs0 (v4 + 1) σ
def f_X2_leastSplit_5 (v1 : Int32) (v2 : Int32) : Nat → Int32 → Int32 → gSt → Option (Int32 × gSt)
  | 0, _, _, _ => none
  | n + 1, v3, v4, σ =>
    if (σ 3 1 4) ≤ v4 then
      some (v3, σ)
    else
      (f_X4_isOf 1 v4 v1 σ).bind fun p24 =>
      if p24.1 = 0 then
        f_X2_leastSplit_47 v1 v2 v3 v4 (fun v3 v4 σ => f_X2_leastSplit_5 v1 v2 n v3 v4 σ) (-1) p24.2
      else
        (f_X4_runnerAt 1 v4 p24.2).bind fun p36 =>
        (f_X9_splitAt p36.1 v2 p36.2).bind fun p40 =>
        f_X2_leastSplit_47 v1 v2 v3 v4 (fun v3 v4 σ => f_X2_leastSplit_5 v1 v2 n v3 v4 σ) p40.1 p40.2
def f_X2_leastSplit (v1 : Int32) (v2 : Int32) (σ : gSt) : Option (Int32 × gSt) :=
  f_X2_leastSplit_5 v1 v2 gFuel (-1) 0 σ
theorem f_X2_leastSplit_47_ok {v1 : Int32} {v2 : Int32} {v3 : Int32} {v4 : Int32} {k5 : Int32 → Int32 → gSt → Option (Int32 × gSt)} {vs0 : Int32} {r : (Int32 × gSt)} (hk5 : ∀ {v3 : Int32} {v4 : Int32} {σ : gSt} {x5 : Option Value}, k5 v3 v4 σ = some r → G l w 0 41 RX2 cX2_leastSplit 6 (some .int) 2 43 (gE (some (.int r.1)) r.2) 5 [some (.ref (w.2.1 16 0)), some (.int v1), some (.int v2), some (.int v3), some (.int v4), x5] [] σ) {σ : gSt} {x5 : Option Value} (h : f_X2_leastSplit_47 v1 v2 v3 v4 k5 vs0 σ = some r) : G l w 0 41 RX2 cX2_leastSplit 6 (some .int) 2 43 (gE (some (.int r.1)) r.2) 47 [some (.ref (w.2.1 16 0)), some (.int v1), some (.int v2), some (.int v3), some (.int v4), x5] [.int vs0] σ := by
  unfold f_X2_leastSplit_47 at h
  refine g_istore5 dX2_leastSplit_47 ?_
  refine g_iload dX2_leastSplit_49 rfl ?_
  refine g_iconst dX2_leastSplit_51 kc_m1 ?_
  refine g_icmp_eq 69 dX2_leastSplit_52 rfl (fun q => ?_) (fun q => ?_)
  · replace h := gif_t q h
    refine g_inc4 kc_1 dX2_leastSplit_69 ?_
    refine g_goto 5 dX2_leastSplit_72 rfl ?_
    exact hk5 h
  · replace h := gif_f q h
    refine g_iload_n dX2_leastSplit_55 rfl ?_
    refine g_iconst dX2_leastSplit_56 kc_m1 ?_
    refine g_icmp_eq 66 dX2_leastSplit_57 rfl (fun q => ?_) (fun q => ?_)
    · replace h := gif_t q h
      refine g_iload dX2_leastSplit_66 rfl ?_
      refine g_istore3 dX2_leastSplit_68 ?_
      refine g_inc4 kc_1 dX2_leastSplit_69 ?_
      refine g_goto 5 dX2_leastSplit_72 rfl ?_
      exact hk5 h
    · replace h := gif_f q h
      refine g_iload dX2_leastSplit_60 rfl ?_
      refine g_iload_n dX2_leastSplit_62 rfl ?_
      refine g_icmp_ge 69 dX2_leastSplit_63 rfl (fun q => ?_) (fun q => ?_)
      · replace h := gif_t q h
        refine g_inc4 kc_1 dX2_leastSplit_69 ?_
        refine g_goto 5 dX2_leastSplit_72 rfl ?_
        exact hk5 h
      · replace h := gif_f q h
        refine g_iload dX2_leastSplit_66 rfl ?_
        refine g_istore3 dX2_leastSplit_68 ?_
        refine g_inc4 kc_1 dX2_leastSplit_69 ?_
        refine g_goto 5 dX2_leastSplit_72 rfl ?_
        exact hk5 h
theorem f_X2_leastSplit_5_ok {v1 : Int32} {v2 : Int32} {r : (Int32 × gSt)}  : ∀ (n : Nat) {v3 : Int32} {v4 : Int32} {σ : gSt} {x5 : Option Value}, f_X2_leastSplit_5 v1 v2 n v3 v4 σ = some r → G l w 0 41 RX2 cX2_leastSplit 6 (some .int) 2 43 (gE (some (.int r.1)) r.2) 5 [some (.ref (w.2.1 16 0)), some (.int v1), some (.int v2), some (.int v3), some (.int v4), x5] [] σ := by
  intro n
  induction n with
  | zero => intro v3 v4 σ x5 h; rw [f_X2_leastSplit_5] at h; cases h
  | succ n ih =>
    intro v3 v4 σ x5 h
    rw [f_X2_leastSplit_5] at h
    refine g_iload dX2_leastSplit_5 rfl ?_
    refine g_aload_n dX2_leastSplit_7 rfl ?_
    refine gR_X2_9 ok_16 dX2_leastSplit_8 ?_
    refine gI_X2_15 (ok_3 (by decide)) dX2_leastSplit_11 ?_
    refine g_icmp_ge 75 dX2_leastSplit_14 rfl (fun q => ?_) (fun q => ?_)
    · replace h := gif_t q h
      refine g_iload_n dX2_leastSplit_75 rfl ?_
      cases h
      exact g_iret dX2_leastSplit_76 rfl ⟨rfl, rfl⟩
    · replace h := gif_f q h
      refine g_aload_n dX2_leastSplit_17 rfl ?_
      refine gR_X2_9 ok_16 dX2_leastSplit_18 ?_
      refine g_iload dX2_leastSplit_21 rfl ?_
      refine g_iload_n dX2_leastSplit_23 rfl ?_
      obtain ⟨p24, e24, h⟩ := obind h
      refine g_vP2 mv_X2_38 dX2_leastSplit_24 (ok_3 (by decide)) ⟨by decide, by decide⟩ (Nat.le_of_ble_eq_true rfl) (f_X4_isOf_ok (by decide) e24) ?_
      refine g_if_eq 46 dX2_leastSplit_27 rfl (fun q => ?_) (fun q => ?_)
      · replace h := gif_t q h
        refine g_iconst dX2_leastSplit_46 kc_m1 ?_
        exact f_X2_leastSplit_47_ok (fun h => ih h) h
      · replace h := gif_f q h
        refine g_aload_n dX2_leastSplit_30 rfl ?_
        refine gR_X2_9 ok_16 dX2_leastSplit_31 ?_
        refine g_iload dX2_leastSplit_34 rfl ?_
        obtain ⟨p36, e36, h⟩ := obind h
        refine g_vR1 mv_X2_30 dX2_leastSplit_36 (ok_3 (by decide)) ⟨by decide, by decide⟩ (Nat.le_of_ble_eq_true rfl) (f_X4_runnerAt_ok (by decide) e36) (fun b36 => ?_)
        refine g_iload_n dX2_leastSplit_39 rfl ?_
        obtain ⟨p40, e40, h⟩ := obind h
        refine g_vP1 mv_X2_41 dX2_leastSplit_40 (ok_10 b36) ⟨by decide, by decide⟩ (Nat.le_of_ble_eq_true rfl) (f_X9_splitAt_ok b36 e40) ?_
        refine g_goto 47 dX2_leastSplit_43 rfl ?_
        exact f_X2_leastSplit_47_ok (fun h => ih h) h
theorem f_X2_leastSplit_ok {v1 : Int32} {v2 : Int32}  {σ : gSt} {r : (Int32 × gSt)} (h : f_X2_leastSplit v1 v2 σ = some r) : Mt l w 0 41 yX2_leastSplit cX2_leastSplit 6 (some .int) 2 43 [.ref (w.2.1 16 0), .int v1, .int v2] σ (gE (some (.int r.1)) r.2) := by
  unfold f_X2_leastSplit at h
  refine g_start pn_X2 rfl rfl (Nat.le_of_ble_eq_true rfl) ?_
  show G l w 0 41 RX2 cX2_leastSplit 6 (some .int) 2 43 (gE (some (.int r.1)) r.2) 0 [some (.ref (w.2.1 16 0)), some (.int v1), some (.int v2), none, none, none] [] σ
  refine g_iconst dX2_leastSplit_0 kc_m1 ?_
  refine g_istore3 dX2_leastSplit_1 ?_
  refine g_iconst dX2_leastSplit_2 kc_0 ?_
  refine g_istore4 dX2_leastSplit_3 ?_
  exact f_X2_leastSplit_5_ok gFuel h
theorem dX2_leader_0 : decode cX2_leader 0 = .ok (.aload_n 0, 1) := by decide +kernel
theorem dX2_leader_1 : decode cX2_leader 1 = .ok (.iload_n 1, 1) := by decide +kernel
theorem dX2_leader_2 : decode cX2_leader 2 = .ok (.iload_n 2, 1) := by decide +kernel
theorem dX2_leader_3 : decode cX2_leader 3 = .ok (.invokevirtual 48, 3) := by decide +kernel
theorem dX2_leader_6 : decode cX2_leader 6 = .ok (.istore_n 3, 1) := by decide +kernel
theorem dX2_leader_7 : decode cX2_leader 7 = .ok (.iconst 0, 1) := by decide +kernel
theorem dX2_leader_8 : decode cX2_leader 8 = .ok (.istore 4, 2) := by decide +kernel
theorem dX2_leader_10 : decode cX2_leader 10 = .ok (.iload 4, 2) := by decide +kernel
theorem dX2_leader_12 : decode cX2_leader 12 = .ok (.aload_n 0, 1) := by decide +kernel
theorem dX2_leader_13 : decode cX2_leader 13 = .ok (.getfield 9, 3) := by decide +kernel
theorem dX2_leader_16 : decode cX2_leader 16 = .ok (.getfield 15, 3) := by decide +kernel
theorem dX2_leader_19 : decode cX2_leader 19 = .ok (.if_icmp .ge 47, 3) := by decide +kernel
theorem dX2_leader_22 : decode cX2_leader 22 = .ok (.iload_n 3, 1) := by decide +kernel
theorem dX2_leader_23 : decode cX2_leader 23 = .ok (.iconst (-1), 1) := by decide +kernel
theorem dX2_leader_24 : decode cX2_leader 24 = .ok (.if_icmp .eq 36, 3) := by decide +kernel
theorem dX2_leader_27 : decode cX2_leader 27 = .ok (.aload_n 0, 1) := by decide +kernel
theorem dX2_leader_28 : decode cX2_leader 28 = .ok (.getfield 9, 3) := by decide +kernel
theorem dX2_leader_31 : decode cX2_leader 31 = .ok (.iload 4, 2) := by decide +kernel
theorem dX2_leader_33 : decode cX2_leader 33 = .ok (.iload_n 1, 1) := by decide +kernel
theorem dX2_leader_34 : decode cX2_leader 34 = .ok (.invokevirtual 38, 3) := by decide +kernel
theorem dX2_leader_37 : decode cX2_leader 37 = .ok (.ifCond .eq 23, 3) := by decide +kernel
theorem dX2_leader_40 : decode cX2_leader 40 = .ok (.aload_n 0, 1) := by decide +kernel
theorem dX2_leader_41 : decode cX2_leader 41 = .ok (.getfield 9, 3) := by decide +kernel
theorem dX2_leader_44 : decode cX2_leader 44 = .ok (.iload 4, 2) := by decide +kernel
theorem dX2_leader_46 : decode cX2_leader 46 = .ok (.invokevirtual 30, 3) := by decide +kernel
theorem dX2_leader_49 : decode cX2_leader 49 = .ok (.iload_n 2, 1) := by decide +kernel
theorem dX2_leader_50 : decode cX2_leader 50 = .ok (.invokevirtual 41, 3) := by decide +kernel
theorem dX2_leader_53 : decode cX2_leader 53 = .ok (.iload_n 3, 1) := by decide +kernel
theorem dX2_leader_54 : decode cX2_leader 54 = .ok (.if_icmp .ne 6, 3) := by decide +kernel
theorem dX2_leader_57 : decode cX2_leader 57 = .ok (.iload 4, 2) := by decide +kernel
theorem dX2_leader_59 : decode cX2_leader 59 = .ok (.ireturn, 1) := by decide +kernel
theorem dX2_leader_60 : decode cX2_leader 60 = .ok (.iinc 4 1, 3) := by decide +kernel
theorem dX2_leader_63 : decode cX2_leader 63 = .ok (.goto (-53), 3) := by decide +kernel
theorem dX2_leader_66 : decode cX2_leader 66 = .ok (.iconst (-1), 1) := by decide +kernel
theorem dX2_leader_67 : decode cX2_leader 67 = .ok (.ireturn, 1) := by decide +kernel
def f_X2_leader_10 (v1 : Int32) (v2 : Int32) (v3 : Int32) : Nat → Int32 → gSt → Option (Int32 × gSt)
  | 0, _, _ => none
  | n + 1, v4, σ =>
    if (σ 3 1 4) ≤ v4 then
      some ((-1), σ)
    else
      if v3 = (-1) then
        f_X2_leader_10 v1 v2 v3 n (v4 + 1) σ
      else
        (f_X4_isOf 1 v4 v1 σ).bind fun p34 =>
        if p34.1 = 0 then
          f_X2_leader_10 v1 v2 v3 n (v4 + 1) p34.2
        else
          (f_X4_runnerAt 1 v4 p34.2).bind fun p46 =>
          (f_X9_splitAt p46.1 v2 p46.2).bind fun p50 =>
          if p50.1 = v3 then
            some (v4, p50.2)
          else
            f_X2_leader_10 v1 v2 v3 n (v4 + 1) p50.2
def f_X2_leader (v1 : Int32) (v2 : Int32) (σ : gSt) : Option (Int32 × gSt) :=
  (f_X2_leastSplit v1 v2 σ).bind fun p3 =>
  f_X2_leader_10 v1 v2 p3.1 gFuel 0 p3.2
theorem f_X2_leader_10_ok {v1 : Int32} {v2 : Int32} {v3 : Int32} {r : (Int32 × gSt)}  : ∀ (n : Nat) {v4 : Int32} {σ : gSt} , f_X2_leader_10 v1 v2 v3 n v4 σ = some r → G l w 0 41 RX2 cX2_leader 5 (some .int) 3 68 (gE (some (.int r.1)) r.2) 10 [some (.ref (w.2.1 16 0)), some (.int v1), some (.int v2), some (.int v3), some (.int v4)] [] σ := by
  intro n
  induction n with
  | zero => intro v4 σ h; rw [f_X2_leader_10] at h; cases h
  | succ n ih =>
    intro v4 σ h
    rw [f_X2_leader_10] at h
    refine g_iload dX2_leader_10 rfl ?_
    refine g_aload_n dX2_leader_12 rfl ?_
    refine gR_X2_9 ok_16 dX2_leader_13 ?_
    refine gI_X2_15 (ok_3 (by decide)) dX2_leader_16 ?_
    refine g_icmp_ge 66 dX2_leader_19 rfl (fun q => ?_) (fun q => ?_)
    · replace h := gif_t q h
      refine g_iconst dX2_leader_66 kc_m1 ?_
      cases h
      exact g_iret dX2_leader_67 rfl ⟨rfl, rfl⟩
    · replace h := gif_f q h
      refine g_iload_n dX2_leader_22 rfl ?_
      refine g_iconst dX2_leader_23 kc_m1 ?_
      refine g_icmp_eq 60 dX2_leader_24 rfl (fun q => ?_) (fun q => ?_)
      · replace h := gif_t q h
        refine g_inc4 kc_1 dX2_leader_60 ?_
        refine g_goto 10 dX2_leader_63 rfl ?_
        exact ih h
      · replace h := gif_f q h
        refine g_aload_n dX2_leader_27 rfl ?_
        refine gR_X2_9 ok_16 dX2_leader_28 ?_
        refine g_iload dX2_leader_31 rfl ?_
        refine g_iload_n dX2_leader_33 rfl ?_
        obtain ⟨p34, e34, h⟩ := obind h
        refine g_vP2 mv_X2_38 dX2_leader_34 (ok_3 (by decide)) ⟨by decide, by decide⟩ (Nat.le_of_ble_eq_true rfl) (f_X4_isOf_ok (by decide) e34) ?_
        refine g_if_eq 60 dX2_leader_37 rfl (fun q => ?_) (fun q => ?_)
        · replace h := gif_t q h
          refine g_inc4 kc_1 dX2_leader_60 ?_
          refine g_goto 10 dX2_leader_63 rfl ?_
          exact ih h
        · replace h := gif_f q h
          refine g_aload_n dX2_leader_40 rfl ?_
          refine gR_X2_9 ok_16 dX2_leader_41 ?_
          refine g_iload dX2_leader_44 rfl ?_
          obtain ⟨p46, e46, h⟩ := obind h
          refine g_vR1 mv_X2_30 dX2_leader_46 (ok_3 (by decide)) ⟨by decide, by decide⟩ (Nat.le_of_ble_eq_true rfl) (f_X4_runnerAt_ok (by decide) e46) (fun b46 => ?_)
          refine g_iload_n dX2_leader_49 rfl ?_
          obtain ⟨p50, e50, h⟩ := obind h
          refine g_vP1 mv_X2_41 dX2_leader_50 (ok_10 b46) ⟨by decide, by decide⟩ (Nat.le_of_ble_eq_true rfl) (f_X9_splitAt_ok b46 e50) ?_
          refine g_iload_n dX2_leader_53 rfl ?_
          refine g_icmp_ne 60 dX2_leader_54 rfl (fun q => ?_) (fun q => ?_)
          · replace h := gif_f q h
            refine g_inc4 kc_1 dX2_leader_60 ?_
            refine g_goto 10 dX2_leader_63 rfl ?_
            exact ih h
          · replace h := gif_t q h
            refine g_iload dX2_leader_57 rfl ?_
            cases h
            exact g_iret dX2_leader_59 rfl ⟨rfl, rfl⟩
theorem f_X2_leader_ok {v1 : Int32} {v2 : Int32}  {σ : gSt} {r : (Int32 × gSt)} (h : f_X2_leader v1 v2 σ = some r) : Mt l w 0 41 yX2_leader cX2_leader 5 (some .int) 3 68 [.ref (w.2.1 16 0), .int v1, .int v2] σ (gE (some (.int r.1)) r.2) := by
  unfold f_X2_leader at h
  refine g_start pn_X2 rfl rfl (Nat.le_of_ble_eq_true rfl) ?_
  show G l w 0 41 RX2 cX2_leader 5 (some .int) 3 68 (gE (some (.int r.1)) r.2) 0 [some (.ref (w.2.1 16 0)), some (.int v1), some (.int v2), none, none] [] σ
  refine g_aload_n dX2_leader_0 rfl ?_
  refine g_iload_n dX2_leader_1 rfl ?_
  refine g_iload_n dX2_leader_2 rfl ?_
  obtain ⟨p3, e3, h⟩ := obind h
  refine g_vP2 mv_X2_48 dX2_leader_3 ok_16 ⟨by decide, by decide⟩ (Nat.le_of_ble_eq_true rfl) (f_X2_leastSplit_ok e3) ?_
  refine g_istore3 dX2_leader_6 ?_
  refine g_iconst dX2_leader_7 kc_0 ?_
  refine g_istore4 dX2_leader_8 ?_
  exact f_X2_leader_10_ok gFuel h
theorem dX2_leadChanges_0 : decode cX2_leadChanges 0 = .ok (.iconst 0, 1) := by decide +kernel
theorem dX2_leadChanges_1 : decode cX2_leadChanges 1 = .ok (.istore_n 2, 1) := by decide +kernel
theorem dX2_leadChanges_2 : decode cX2_leadChanges 2 = .ok (.iconst 0, 1) := by decide +kernel
theorem dX2_leadChanges_3 : decode cX2_leadChanges 3 = .ok (.istore_n 3, 1) := by decide +kernel
theorem dX2_leadChanges_4 : decode cX2_leadChanges 4 = .ok (.iload_n 3, 1) := by decide +kernel
theorem dX2_leadChanges_5 : decode cX2_leadChanges 5 = .ok (.aload_n 0, 1) := by decide +kernel
theorem dX2_leadChanges_6 : decode cX2_leadChanges 6 = .ok (.getfield 9, 3) := by decide +kernel
theorem dX2_leadChanges_9 : decode cX2_leadChanges 9 = .ok (.iload_n 1, 1) := by decide +kernel
theorem dX2_leadChanges_10 : decode cX2_leadChanges 10 = .ok (.invokevirtual 52, 3) := by decide +kernel
theorem dX2_leadChanges_13 : decode cX2_leadChanges 13 = .ok (.getfield 56, 3) := by decide +kernel
theorem dX2_leadChanges_16 : decode cX2_leadChanges 16 = .ok (.if_icmp .ge 54, 3) := by decide +kernel
theorem dX2_leadChanges_19 : decode cX2_leadChanges 19 = .ok (.aload_n 0, 1) := by decide +kernel
theorem dX2_leadChanges_20 : decode cX2_leadChanges 20 = .ok (.iload_n 1, 1) := by decide +kernel
theorem dX2_leadChanges_21 : decode cX2_leadChanges 21 = .ok (.iload_n 3, 1) := by decide +kernel
theorem dX2_leadChanges_22 : decode cX2_leadChanges 22 = .ok (.invokevirtual 61, 3) := by decide +kernel
theorem dX2_leadChanges_25 : decode cX2_leadChanges 25 = .ok (.istore 4, 2) := by decide +kernel
theorem dX2_leadChanges_27 : decode cX2_leadChanges 27 = .ok (.aload_n 0, 1) := by decide +kernel
theorem dX2_leadChanges_28 : decode cX2_leadChanges 28 = .ok (.iload_n 1, 1) := by decide +kernel
theorem dX2_leadChanges_29 : decode cX2_leadChanges 29 = .ok (.iload_n 3, 1) := by decide +kernel
theorem dX2_leadChanges_30 : decode cX2_leadChanges 30 = .ok (.iconst 1, 1) := by decide +kernel
theorem dX2_leadChanges_31 : decode cX2_leadChanges 31 = .ok (.iadd, 1) := by decide +kernel
theorem dX2_leadChanges_32 : decode cX2_leadChanges 32 = .ok (.invokevirtual 61, 3) := by decide +kernel
theorem dX2_leadChanges_35 : decode cX2_leadChanges 35 = .ok (.istore 5, 2) := by decide +kernel
theorem dX2_leadChanges_37 : decode cX2_leadChanges 37 = .ok (.iload_n 2, 1) := by decide +kernel
theorem dX2_leadChanges_38 : decode cX2_leadChanges 38 = .ok (.iload 4, 2) := by decide +kernel
theorem dX2_leadChanges_40 : decode cX2_leadChanges 40 = .ok (.iconst (-1), 1) := by decide +kernel
theorem dX2_leadChanges_41 : decode cX2_leadChanges 41 = .ok (.if_icmp .eq 20, 3) := by decide +kernel
theorem dX2_leadChanges_44 : decode cX2_leadChanges 44 = .ok (.iload 5, 2) := by decide +kernel
theorem dX2_leadChanges_46 : decode cX2_leadChanges 46 = .ok (.iconst (-1), 1) := by decide +kernel
theorem dX2_leadChanges_47 : decode cX2_leadChanges 47 = .ok (.if_icmp .eq 14, 3) := by decide +kernel
theorem dX2_leadChanges_50 : decode cX2_leadChanges 50 = .ok (.iload 4, 2) := by decide +kernel
theorem dX2_leadChanges_52 : decode cX2_leadChanges 52 = .ok (.iload 5, 2) := by decide +kernel
theorem dX2_leadChanges_54 : decode cX2_leadChanges 54 = .ok (.if_icmp .eq 7, 3) := by decide +kernel
theorem dX2_leadChanges_57 : decode cX2_leadChanges 57 = .ok (.iconst 1, 1) := by decide +kernel
theorem dX2_leadChanges_58 : decode cX2_leadChanges 58 = .ok (.goto 4, 3) := by decide +kernel
theorem dX2_leadChanges_61 : decode cX2_leadChanges 61 = .ok (.iconst 0, 1) := by decide +kernel
theorem dX2_leadChanges_62 : decode cX2_leadChanges 62 = .ok (.iadd, 1) := by decide +kernel
theorem dX2_leadChanges_63 : decode cX2_leadChanges 63 = .ok (.istore_n 2, 1) := by decide +kernel
theorem dX2_leadChanges_64 : decode cX2_leadChanges 64 = .ok (.iinc 3 1, 3) := by decide +kernel
theorem dX2_leadChanges_67 : decode cX2_leadChanges 67 = .ok (.goto (-63), 3) := by decide +kernel
theorem dX2_leadChanges_70 : decode cX2_leadChanges 70 = .ok (.iload_n 2, 1) := by decide +kernel
theorem dX2_leadChanges_71 : decode cX2_leadChanges 71 = .ok (.ireturn, 1) := by decide +kernel
def f_X2_leadChanges_4 (v1 : Int32) : Nat → Int32 → Int32 → gSt → Option (Int32 × gSt)
  | 0, _, _, _ => none
  | n + 1, v2, v3, σ =>
    (f_X4_courseAt 1 v1 σ).bind fun p10 =>
    if (p10.2 8 p10.1 2) ≤ v3 then
      some (v2, p10.2)
    else
      (f_X2_leader v1 v3 p10.2).bind fun p22 =>
      (f_X2_leader v1 (v3 + 1) p22.2).bind fun p32 =>
      if p22.1 = (-1) then
        f_X2_leadChanges_4 v1 n (v2 + 0) (v3 + 1) p32.2
      else
        if p32.1 = (-1) then
          f_X2_leadChanges_4 v1 n (v2 + 0) (v3 + 1) p32.2
        else
          if p22.1 = p32.1 then
            f_X2_leadChanges_4 v1 n (v2 + 0) (v3 + 1) p32.2
          else
            f_X2_leadChanges_4 v1 n (v2 + 1) (v3 + 1) p32.2
def f_X2_leadChanges (v1 : Int32) (σ : gSt) : Option (Int32 × gSt) :=
  f_X2_leadChanges_4 v1 gFuel 0 0 σ
theorem f_X2_leadChanges_4_ok {v1 : Int32} {r : (Int32 × gSt)}  : ∀ (n : Nat) {v2 : Int32} {v3 : Int32} {σ : gSt} {x4 x5 : Option Value}, f_X2_leadChanges_4 v1 n v2 v3 σ = some r → G l w 0 41 RX2 cX2_leadChanges 6 (some .int) 4 92 (gE (some (.int r.1)) r.2) 4 [some (.ref (w.2.1 16 0)), some (.int v1), some (.int v2), some (.int v3), x4, x5] [] σ := by
  intro n
  induction n with
  | zero => intro v2 v3 σ x4 x5 h; rw [f_X2_leadChanges_4] at h; cases h
  | succ n ih =>
    intro v2 v3 σ x4 x5 h
    rw [f_X2_leadChanges_4] at h
    refine g_iload_n dX2_leadChanges_4 rfl ?_
    refine g_aload_n dX2_leadChanges_5 rfl ?_
    refine gR_X2_9 ok_16 dX2_leadChanges_6 ?_
    refine g_iload_n dX2_leadChanges_9 rfl ?_
    obtain ⟨p10, e10, h⟩ := obind h
    refine g_vR1 mv_X2_52 dX2_leadChanges_10 (ok_3 (by decide)) ⟨by decide, by decide⟩ (Nat.le_of_ble_eq_true rfl) (f_X4_courseAt_ok (by decide) e10) (fun b10 => ?_)
    refine gI_X2_56 (ok_8 b10) dX2_leadChanges_13 ?_
    refine g_icmp_ge 70 dX2_leadChanges_16 rfl (fun q => ?_) (fun q => ?_)
    · replace h := gif_t q h
      refine g_iload_n dX2_leadChanges_70 rfl ?_
      cases h
      exact g_iret dX2_leadChanges_71 rfl ⟨rfl, rfl⟩
    · replace h := gif_f q h
      refine g_aload_n dX2_leadChanges_19 rfl ?_
      refine g_iload_n dX2_leadChanges_20 rfl ?_
      refine g_iload_n dX2_leadChanges_21 rfl ?_
      obtain ⟨p22, e22, h⟩ := obind h
      refine g_vP2 mv_X2_61 dX2_leadChanges_22 ok_16 ⟨by decide, by decide⟩ (Nat.le_of_ble_eq_true rfl) (f_X2_leader_ok e22) ?_
      refine g_istore4 dX2_leadChanges_25 ?_
      refine g_aload_n dX2_leadChanges_27 rfl ?_
      refine g_iload_n dX2_leadChanges_28 rfl ?_
      refine g_iload_n dX2_leadChanges_29 rfl ?_
      refine g_iconst dX2_leadChanges_30 kc_1 ?_
      refine g_iadd dX2_leadChanges_31 ?_
      obtain ⟨p32, e32, h⟩ := obind h
      refine g_vP2 mv_X2_61 dX2_leadChanges_32 ok_16 ⟨by decide, by decide⟩ (Nat.le_of_ble_eq_true rfl) (f_X2_leader_ok e32) ?_
      refine g_istore5 dX2_leadChanges_35 ?_
      refine g_iload_n dX2_leadChanges_37 rfl ?_
      refine g_iload dX2_leadChanges_38 rfl ?_
      refine g_iconst dX2_leadChanges_40 kc_m1 ?_
      refine g_icmp_eq 61 dX2_leadChanges_41 rfl (fun q => ?_) (fun q => ?_)
      · replace h := gif_t q h
        refine g_iconst dX2_leadChanges_61 kc_0 ?_
        refine g_iadd dX2_leadChanges_62 ?_
        refine g_istore2 dX2_leadChanges_63 ?_
        refine g_inc3 kc_1 dX2_leadChanges_64 ?_
        refine g_goto 4 dX2_leadChanges_67 rfl ?_
        exact ih h
      · replace h := gif_f q h
        refine g_iload dX2_leadChanges_44 rfl ?_
        refine g_iconst dX2_leadChanges_46 kc_m1 ?_
        refine g_icmp_eq 61 dX2_leadChanges_47 rfl (fun q => ?_) (fun q => ?_)
        · replace h := gif_t q h
          refine g_iconst dX2_leadChanges_61 kc_0 ?_
          refine g_iadd dX2_leadChanges_62 ?_
          refine g_istore2 dX2_leadChanges_63 ?_
          refine g_inc3 kc_1 dX2_leadChanges_64 ?_
          refine g_goto 4 dX2_leadChanges_67 rfl ?_
          exact ih h
        · replace h := gif_f q h
          refine g_iload dX2_leadChanges_50 rfl ?_
          refine g_iload dX2_leadChanges_52 rfl ?_
          refine g_icmp_eq 61 dX2_leadChanges_54 rfl (fun q => ?_) (fun q => ?_)
          · replace h := gif_t q h
            refine g_iconst dX2_leadChanges_61 kc_0 ?_
            refine g_iadd dX2_leadChanges_62 ?_
            refine g_istore2 dX2_leadChanges_63 ?_
            refine g_inc3 kc_1 dX2_leadChanges_64 ?_
            refine g_goto 4 dX2_leadChanges_67 rfl ?_
            exact ih h
          · replace h := gif_f q h
            refine g_iconst dX2_leadChanges_57 kc_1 ?_
            refine g_goto 62 dX2_leadChanges_58 rfl ?_
            refine g_iadd dX2_leadChanges_62 ?_
            refine g_istore2 dX2_leadChanges_63 ?_
            refine g_inc3 kc_1 dX2_leadChanges_64 ?_
            refine g_goto 4 dX2_leadChanges_67 rfl ?_
            exact ih h
theorem f_X2_leadChanges_ok {v1 : Int32}  {σ : gSt} {r : (Int32 × gSt)} (h : f_X2_leadChanges v1 σ = some r) : Mt l w 0 41 yX2_leadChanges cX2_leadChanges 6 (some .int) 4 92 [.ref (w.2.1 16 0), .int v1] σ (gE (some (.int r.1)) r.2) := by
  unfold f_X2_leadChanges at h
  refine g_start pn_X2 rfl rfl (Nat.le_of_ble_eq_true rfl) ?_
  show G l w 0 41 RX2 cX2_leadChanges 6 (some .int) 4 92 (gE (some (.int r.1)) r.2) 0 [some (.ref (w.2.1 16 0)), some (.int v1), none, none, none, none] [] σ
  refine g_iconst dX2_leadChanges_0 kc_0 ?_
  refine g_istore2 dX2_leadChanges_1 ?_
  refine g_iconst dX2_leadChanges_2 kc_0 ?_
  refine g_istore3 dX2_leadChanges_3 ?_
  exact f_X2_leadChanges_4_ok gFuel h
theorem dX2_aheadOf_0 : decode cX2_aheadOf 0 = .ok (.aload_n 0, 1) := by decide +kernel
theorem dX2_aheadOf_1 : decode cX2_aheadOf 1 = .ok (.getfield 9, 3) := by decide +kernel
theorem dX2_aheadOf_4 : decode cX2_aheadOf 4 = .ok (.iload_n 1, 1) := by decide +kernel
theorem dX2_aheadOf_5 : decode cX2_aheadOf 5 = .ok (.invokevirtual 30, 3) := by decide +kernel
theorem dX2_aheadOf_8 : decode cX2_aheadOf 8 = .ok (.invokevirtual 34, 3) := by decide +kernel
theorem dX2_aheadOf_11 : decode cX2_aheadOf 11 = .ok (.istore_n 3, 1) := by decide +kernel
theorem dX2_aheadOf_12 : decode cX2_aheadOf 12 = .ok (.iconst 0, 1) := by decide +kernel
theorem dX2_aheadOf_13 : decode cX2_aheadOf 13 = .ok (.istore 4, 2) := by decide +kernel
theorem dX2_aheadOf_15 : decode cX2_aheadOf 15 = .ok (.iconst 0, 1) := by decide +kernel
theorem dX2_aheadOf_16 : decode cX2_aheadOf 16 = .ok (.istore 5, 2) := by decide +kernel
theorem dX2_aheadOf_18 : decode cX2_aheadOf 18 = .ok (.iload 5, 2) := by decide +kernel
theorem dX2_aheadOf_20 : decode cX2_aheadOf 20 = .ok (.aload_n 0, 1) := by decide +kernel
theorem dX2_aheadOf_21 : decode cX2_aheadOf 21 = .ok (.getfield 9, 3) := by decide +kernel
theorem dX2_aheadOf_24 : decode cX2_aheadOf 24 = .ok (.getfield 15, 3) := by decide +kernel
theorem dX2_aheadOf_27 : decode cX2_aheadOf 27 = .ok (.if_icmp .ge 64, 3) := by decide +kernel
theorem dX2_aheadOf_30 : decode cX2_aheadOf 30 = .ok (.aload_n 0, 1) := by decide +kernel
theorem dX2_aheadOf_31 : decode cX2_aheadOf 31 = .ok (.getfield 9, 3) := by decide +kernel
theorem dX2_aheadOf_34 : decode cX2_aheadOf 34 = .ok (.iload 5, 2) := by decide +kernel
theorem dX2_aheadOf_36 : decode cX2_aheadOf 36 = .ok (.invokevirtual 30, 3) := by decide +kernel
theorem dX2_aheadOf_39 : decode cX2_aheadOf 39 = .ok (.invokevirtual 34, 3) := by decide +kernel
theorem dX2_aheadOf_42 : decode cX2_aheadOf 42 = .ok (.istore 6, 2) := by decide +kernel
theorem dX2_aheadOf_44 : decode cX2_aheadOf 44 = .ok (.iload 4, 2) := by decide +kernel
theorem dX2_aheadOf_46 : decode cX2_aheadOf 46 = .ok (.aload_n 0, 1) := by decide +kernel
theorem dX2_aheadOf_47 : decode cX2_aheadOf 47 = .ok (.getfield 9, 3) := by decide +kernel
theorem dX2_aheadOf_50 : decode cX2_aheadOf 50 = .ok (.iload 5, 2) := by decide +kernel
theorem dX2_aheadOf_52 : decode cX2_aheadOf 52 = .ok (.iload_n 2, 1) := by decide +kernel
theorem dX2_aheadOf_53 : decode cX2_aheadOf 53 = .ok (.invokevirtual 26, 3) := by decide +kernel
theorem dX2_aheadOf_56 : decode cX2_aheadOf 56 = .ok (.ifCond .eq 25, 3) := by decide +kernel
theorem dX2_aheadOf_59 : decode cX2_aheadOf 59 = .ok (.iload 6, 2) := by decide +kernel
theorem dX2_aheadOf_61 : decode cX2_aheadOf 61 = .ok (.iload_n 3, 1) := by decide +kernel
theorem dX2_aheadOf_62 : decode cX2_aheadOf 62 = .ok (.if_icmp .lt 15, 3) := by decide +kernel
theorem dX2_aheadOf_65 : decode cX2_aheadOf 65 = .ok (.iload 6, 2) := by decide +kernel
theorem dX2_aheadOf_67 : decode cX2_aheadOf 67 = .ok (.iload_n 3, 1) := by decide +kernel
theorem dX2_aheadOf_68 : decode cX2_aheadOf 68 = .ok (.if_icmp .ne 13, 3) := by decide +kernel
theorem dX2_aheadOf_71 : decode cX2_aheadOf 71 = .ok (.iload 5, 2) := by decide +kernel
theorem dX2_aheadOf_73 : decode cX2_aheadOf 73 = .ok (.iload_n 1, 1) := by decide +kernel
theorem dX2_aheadOf_74 : decode cX2_aheadOf 74 = .ok (.if_icmp .ge 7, 3) := by decide +kernel
theorem dX2_aheadOf_77 : decode cX2_aheadOf 77 = .ok (.iconst 1, 1) := by decide +kernel
theorem dX2_aheadOf_78 : decode cX2_aheadOf 78 = .ok (.goto 4, 3) := by decide +kernel
theorem dX2_aheadOf_81 : decode cX2_aheadOf 81 = .ok (.iconst 0, 1) := by decide +kernel
theorem dX2_aheadOf_82 : decode cX2_aheadOf 82 = .ok (.iadd, 1) := by decide +kernel
theorem dX2_aheadOf_83 : decode cX2_aheadOf 83 = .ok (.istore 4, 2) := by decide +kernel
theorem dX2_aheadOf_85 : decode cX2_aheadOf 85 = .ok (.iinc 5 1, 3) := by decide +kernel
theorem dX2_aheadOf_88 : decode cX2_aheadOf 88 = .ok (.goto (-70), 3) := by decide +kernel
theorem dX2_aheadOf_91 : decode cX2_aheadOf 91 = .ok (.iload 4, 2) := by decide +kernel
theorem dX2_aheadOf_93 : decode cX2_aheadOf 93 = .ok (.ireturn, 1) := by decide +kernel
def f_X2_aheadOf_18 (v1 : Int32) (v2 : Int32) (v3 : Int32) : Nat → Int32 → Int32 → gSt → Option (Int32 × gSt)
  | 0, _, _, _ => none
  | n + 1, v4, v5, σ =>
    if (σ 3 1 4) ≤ v5 then
      some (v4, σ)
    else
      (f_X4_runnerAt 1 v5 σ).bind fun p36 =>
      (f_X9_total p36.1 p36.2).bind fun p39 =>
      (f_X4_isValidOf 1 v5 v2 p39.2).bind fun p53 =>
      if p53.1 = 0 then
        f_X2_aheadOf_18 v1 v2 v3 n (v4 + 0) (v5 + 1) p53.2
      else
        if p39.1 < v3 then
          f_X2_aheadOf_18 v1 v2 v3 n (v4 + 1) (v5 + 1) p53.2
        else
          if p39.1 = v3 then
            if v1 ≤ v5 then
              f_X2_aheadOf_18 v1 v2 v3 n (v4 + 0) (v5 + 1) p53.2
            else
              f_X2_aheadOf_18 v1 v2 v3 n (v4 + 1) (v5 + 1) p53.2
          else
            f_X2_aheadOf_18 v1 v2 v3 n (v4 + 0) (v5 + 1) p53.2
def f_X2_aheadOf (v1 : Int32) (v2 : Int32) (σ : gSt) : Option (Int32 × gSt) :=
  (f_X4_runnerAt 1 v1 σ).bind fun p5 =>
  (f_X9_total p5.1 p5.2).bind fun p8 =>
  f_X2_aheadOf_18 v1 v2 p8.1 gFuel 0 0 p8.2
theorem f_X2_aheadOf_18_ok {v1 : Int32} {v2 : Int32} {v3 : Int32} {r : (Int32 × gSt)}  : ∀ (n : Nat) {v4 : Int32} {v5 : Int32} {σ : gSt} {x6 : Option Value}, f_X2_aheadOf_18 v1 v2 v3 n v4 v5 σ = some r → G l w 0 41 RX2 cX2_aheadOf 7 (some .int) 3 65 (gE (some (.int r.1)) r.2) 18 [some (.ref (w.2.1 16 0)), some (.int v1), some (.int v2), some (.int v3), some (.int v4), some (.int v5), x6] [] σ := by
  intro n
  induction n with
  | zero => intro v4 v5 σ x6 h; rw [f_X2_aheadOf_18] at h; cases h
  | succ n ih =>
    intro v4 v5 σ x6 h
    rw [f_X2_aheadOf_18] at h
    refine g_iload dX2_aheadOf_18 rfl ?_
    refine g_aload_n dX2_aheadOf_20 rfl ?_
    refine gR_X2_9 ok_16 dX2_aheadOf_21 ?_
    refine gI_X2_15 (ok_3 (by decide)) dX2_aheadOf_24 ?_
    refine g_icmp_ge 91 dX2_aheadOf_27 rfl (fun q => ?_) (fun q => ?_)
    · replace h := gif_t q h
      refine g_iload dX2_aheadOf_91 rfl ?_
      cases h
      exact g_iret dX2_aheadOf_93 rfl ⟨rfl, rfl⟩
    · replace h := gif_f q h
      refine g_aload_n dX2_aheadOf_30 rfl ?_
      refine gR_X2_9 ok_16 dX2_aheadOf_31 ?_
      refine g_iload dX2_aheadOf_34 rfl ?_
      obtain ⟨p36, e36, h⟩ := obind h
      refine g_vR1 mv_X2_30 dX2_aheadOf_36 (ok_3 (by decide)) ⟨by decide, by decide⟩ (Nat.le_of_ble_eq_true rfl) (f_X4_runnerAt_ok (by decide) e36) (fun b36 => ?_)
      obtain ⟨p39, e39, h⟩ := obind h
      refine g_vP0 mv_X2_34 dX2_aheadOf_39 (ok_10 b36) ⟨by decide, by decide⟩ (Nat.le_of_ble_eq_true rfl) (f_X9_total_ok b36 e39) ?_
      refine g_istore6 dX2_aheadOf_42 ?_
      refine g_iload dX2_aheadOf_44 rfl ?_
      refine g_aload_n dX2_aheadOf_46 rfl ?_
      refine gR_X2_9 ok_16 dX2_aheadOf_47 ?_
      refine g_iload dX2_aheadOf_50 rfl ?_
      refine g_iload_n dX2_aheadOf_52 rfl ?_
      obtain ⟨p53, e53, h⟩ := obind h
      refine g_vP2 mv_X2_26 dX2_aheadOf_53 (ok_3 (by decide)) ⟨by decide, by decide⟩ (Nat.le_of_ble_eq_true rfl) (f_X4_isValidOf_ok (by decide) e53) ?_
      refine g_if_eq 81 dX2_aheadOf_56 rfl (fun q => ?_) (fun q => ?_)
      · replace h := gif_t q h
        refine g_iconst dX2_aheadOf_81 kc_0 ?_
        refine g_iadd dX2_aheadOf_82 ?_
        refine g_istore4 dX2_aheadOf_83 ?_
        refine g_inc5 kc_1 dX2_aheadOf_85 ?_
        refine g_goto 18 dX2_aheadOf_88 rfl ?_
        exact ih h
      · replace h := gif_f q h
        refine g_iload dX2_aheadOf_59 rfl ?_
        refine g_iload_n dX2_aheadOf_61 rfl ?_
        refine g_icmp_lt 77 dX2_aheadOf_62 rfl (fun q => ?_) (fun q => ?_)
        · replace h := gif_t q h
          refine g_iconst dX2_aheadOf_77 kc_1 ?_
          refine g_goto 82 dX2_aheadOf_78 rfl ?_
          refine g_iadd dX2_aheadOf_82 ?_
          refine g_istore4 dX2_aheadOf_83 ?_
          refine g_inc5 kc_1 dX2_aheadOf_85 ?_
          refine g_goto 18 dX2_aheadOf_88 rfl ?_
          exact ih h
        · replace h := gif_f q h
          refine g_iload dX2_aheadOf_65 rfl ?_
          refine g_iload_n dX2_aheadOf_67 rfl ?_
          refine g_icmp_ne 81 dX2_aheadOf_68 rfl (fun q => ?_) (fun q => ?_)
          · replace h := gif_f q h
            refine g_iconst dX2_aheadOf_81 kc_0 ?_
            refine g_iadd dX2_aheadOf_82 ?_
            refine g_istore4 dX2_aheadOf_83 ?_
            refine g_inc5 kc_1 dX2_aheadOf_85 ?_
            refine g_goto 18 dX2_aheadOf_88 rfl ?_
            exact ih h
          · replace h := gif_t q h
            refine g_iload dX2_aheadOf_71 rfl ?_
            refine g_iload_n dX2_aheadOf_73 rfl ?_
            refine g_icmp_ge 81 dX2_aheadOf_74 rfl (fun q => ?_) (fun q => ?_)
            · replace h := gif_t q h
              refine g_iconst dX2_aheadOf_81 kc_0 ?_
              refine g_iadd dX2_aheadOf_82 ?_
              refine g_istore4 dX2_aheadOf_83 ?_
              refine g_inc5 kc_1 dX2_aheadOf_85 ?_
              refine g_goto 18 dX2_aheadOf_88 rfl ?_
              exact ih h
            · replace h := gif_f q h
              refine g_iconst dX2_aheadOf_77 kc_1 ?_
              refine g_goto 82 dX2_aheadOf_78 rfl ?_
              refine g_iadd dX2_aheadOf_82 ?_
              refine g_istore4 dX2_aheadOf_83 ?_
              refine g_inc5 kc_1 dX2_aheadOf_85 ?_
              refine g_goto 18 dX2_aheadOf_88 rfl ?_
              exact ih h
theorem f_X2_aheadOf_ok {v1 : Int32} {v2 : Int32}  {σ : gSt} {r : (Int32 × gSt)} (h : f_X2_aheadOf v1 v2 σ = some r) : Mt l w 0 41 yX2_aheadOf cX2_aheadOf 7 (some .int) 3 65 [.ref (w.2.1 16 0), .int v1, .int v2] σ (gE (some (.int r.1)) r.2) := by
  unfold f_X2_aheadOf at h
  refine g_start pn_X2 rfl rfl (Nat.le_of_ble_eq_true rfl) ?_
  show G l w 0 41 RX2 cX2_aheadOf 7 (some .int) 3 65 (gE (some (.int r.1)) r.2) 0 [some (.ref (w.2.1 16 0)), some (.int v1), some (.int v2), none, none, none, none] [] σ
  refine g_aload_n dX2_aheadOf_0 rfl ?_
  refine gR_X2_9 ok_16 dX2_aheadOf_1 ?_
  refine g_iload_n dX2_aheadOf_4 rfl ?_
  obtain ⟨p5, e5, h⟩ := obind h
  refine g_vR1 mv_X2_30 dX2_aheadOf_5 (ok_3 (by decide)) ⟨by decide, by decide⟩ (Nat.le_of_ble_eq_true rfl) (f_X4_runnerAt_ok (by decide) e5) (fun b5 => ?_)
  obtain ⟨p8, e8, h⟩ := obind h
  refine g_vP0 mv_X2_34 dX2_aheadOf_8 (ok_10 b5) ⟨by decide, by decide⟩ (Nat.le_of_ble_eq_true rfl) (f_X9_total_ok b5 e8) ?_
  refine g_istore3 dX2_aheadOf_11 ?_
  refine g_iconst dX2_aheadOf_12 kc_0 ?_
  refine g_istore4 dX2_aheadOf_13 ?_
  refine g_iconst dX2_aheadOf_15 kc_0 ?_
  refine g_istore5 dX2_aheadOf_16 ?_
  exact f_X2_aheadOf_18_ok gFuel h
theorem dX2_rankedAs_0 : decode cX2_rankedAs 0 = .ok (.iconst 0, 1) := by decide +kernel
theorem dX2_rankedAs_1 : decode cX2_rankedAs 1 = .ok (.istore_n 3, 1) := by decide +kernel
theorem dX2_rankedAs_2 : decode cX2_rankedAs 2 = .ok (.iload_n 3, 1) := by decide +kernel
theorem dX2_rankedAs_3 : decode cX2_rankedAs 3 = .ok (.aload_n 0, 1) := by decide +kernel
theorem dX2_rankedAs_4 : decode cX2_rankedAs 4 = .ok (.getfield 9, 3) := by decide +kernel
theorem dX2_rankedAs_7 : decode cX2_rankedAs 7 = .ok (.getfield 15, 3) := by decide +kernel
theorem dX2_rankedAs_10 : decode cX2_rankedAs 10 = .ok (.if_icmp .ge 33, 3) := by decide +kernel
theorem dX2_rankedAs_13 : decode cX2_rankedAs 13 = .ok (.aload_n 0, 1) := by decide +kernel
theorem dX2_rankedAs_14 : decode cX2_rankedAs 14 = .ok (.getfield 9, 3) := by decide +kernel
theorem dX2_rankedAs_17 : decode cX2_rankedAs 17 = .ok (.iload_n 3, 1) := by decide +kernel
theorem dX2_rankedAs_18 : decode cX2_rankedAs 18 = .ok (.iload_n 1, 1) := by decide +kernel
theorem dX2_rankedAs_19 : decode cX2_rankedAs 19 = .ok (.invokevirtual 26, 3) := by decide +kernel
theorem dX2_rankedAs_22 : decode cX2_rankedAs 22 = .ok (.ifCond .eq 15, 3) := by decide +kernel
theorem dX2_rankedAs_25 : decode cX2_rankedAs 25 = .ok (.aload_n 0, 1) := by decide +kernel
theorem dX2_rankedAs_26 : decode cX2_rankedAs 26 = .ok (.iload_n 3, 1) := by decide +kernel
theorem dX2_rankedAs_27 : decode cX2_rankedAs 27 = .ok (.iload_n 1, 1) := by decide +kernel
theorem dX2_rankedAs_28 : decode cX2_rankedAs 28 = .ok (.invokevirtual 64, 3) := by decide +kernel
theorem dX2_rankedAs_31 : decode cX2_rankedAs 31 = .ok (.iload_n 2, 1) := by decide +kernel
theorem dX2_rankedAs_32 : decode cX2_rankedAs 32 = .ok (.if_icmp .ne 5, 3) := by decide +kernel
theorem dX2_rankedAs_35 : decode cX2_rankedAs 35 = .ok (.iload_n 3, 1) := by decide +kernel
theorem dX2_rankedAs_36 : decode cX2_rankedAs 36 = .ok (.ireturn, 1) := by decide +kernel
theorem dX2_rankedAs_37 : decode cX2_rankedAs 37 = .ok (.iinc 3 1, 3) := by decide +kernel
theorem dX2_rankedAs_40 : decode cX2_rankedAs 40 = .ok (.goto (-38), 3) := by decide +kernel
theorem dX2_rankedAs_43 : decode cX2_rankedAs 43 = .ok (.bipush (-2), 2) := by decide +kernel
theorem dX2_rankedAs_45 : decode cX2_rankedAs 45 = .ok (.ireturn, 1) := by decide +kernel
def f_X2_rankedAs_2 (v1 : Int32) (v2 : Int32) : Nat → Int32 → gSt → Option (Int32 × gSt)
  | 0, _, _ => none
  | n + 1, v3, σ =>
    if (σ 3 1 4) ≤ v3 then
      some ((-2), σ)
    else
      (f_X4_isValidOf 1 v3 v1 σ).bind fun p19 =>
      if p19.1 = 0 then
        f_X2_rankedAs_2 v1 v2 n (v3 + 1) p19.2
      else
        (f_X2_aheadOf v3 v1 p19.2).bind fun p28 =>
        if p28.1 = v2 then
          some (v3, p28.2)
        else
          f_X2_rankedAs_2 v1 v2 n (v3 + 1) p28.2
def f_X2_rankedAs (v1 : Int32) (v2 : Int32) (σ : gSt) : Option (Int32 × gSt) :=
  f_X2_rankedAs_2 v1 v2 gFuel 0 σ
theorem f_X2_rankedAs_2_ok {v1 : Int32} {v2 : Int32} {r : (Int32 × gSt)}  : ∀ (n : Nat) {v3 : Int32} {σ : gSt} , f_X2_rankedAs_2 v1 v2 n v3 σ = some r → G l w 0 41 RX2 cX2_rankedAs 4 (some .int) 4 91 (gE (some (.int r.1)) r.2) 2 [some (.ref (w.2.1 16 0)), some (.int v1), some (.int v2), some (.int v3)] [] σ := by
  intro n
  induction n with
  | zero => intro v3 σ h; rw [f_X2_rankedAs_2] at h; cases h
  | succ n ih =>
    intro v3 σ h
    rw [f_X2_rankedAs_2] at h
    refine g_iload_n dX2_rankedAs_2 rfl ?_
    refine g_aload_n dX2_rankedAs_3 rfl ?_
    refine gR_X2_9 ok_16 dX2_rankedAs_4 ?_
    refine gI_X2_15 (ok_3 (by decide)) dX2_rankedAs_7 ?_
    refine g_icmp_ge 43 dX2_rankedAs_10 rfl (fun q => ?_) (fun q => ?_)
    · replace h := gif_t q h
      refine g_bipush dX2_rankedAs_43 kb_m2 ?_
      cases h
      exact g_iret dX2_rankedAs_45 rfl ⟨rfl, rfl⟩
    · replace h := gif_f q h
      refine g_aload_n dX2_rankedAs_13 rfl ?_
      refine gR_X2_9 ok_16 dX2_rankedAs_14 ?_
      refine g_iload_n dX2_rankedAs_17 rfl ?_
      refine g_iload_n dX2_rankedAs_18 rfl ?_
      obtain ⟨p19, e19, h⟩ := obind h
      refine g_vP2 mv_X2_26 dX2_rankedAs_19 (ok_3 (by decide)) ⟨by decide, by decide⟩ (Nat.le_of_ble_eq_true rfl) (f_X4_isValidOf_ok (by decide) e19) ?_
      refine g_if_eq 37 dX2_rankedAs_22 rfl (fun q => ?_) (fun q => ?_)
      · replace h := gif_t q h
        refine g_inc3 kc_1 dX2_rankedAs_37 ?_
        refine g_goto 2 dX2_rankedAs_40 rfl ?_
        exact ih h
      · replace h := gif_f q h
        refine g_aload_n dX2_rankedAs_25 rfl ?_
        refine g_iload_n dX2_rankedAs_26 rfl ?_
        refine g_iload_n dX2_rankedAs_27 rfl ?_
        obtain ⟨p28, e28, h⟩ := obind h
        refine g_vP2 mv_X2_64 dX2_rankedAs_28 ok_16 ⟨by decide, by decide⟩ (Nat.le_of_ble_eq_true rfl) (f_X2_aheadOf_ok e28) ?_
        refine g_iload_n dX2_rankedAs_31 rfl ?_
        refine g_icmp_ne 37 dX2_rankedAs_32 rfl (fun q => ?_) (fun q => ?_)
        · replace h := gif_f q h
          refine g_inc3 kc_1 dX2_rankedAs_37 ?_
          refine g_goto 2 dX2_rankedAs_40 rfl ?_
          exact ih h
        · replace h := gif_t q h
          refine g_iload_n dX2_rankedAs_35 rfl ?_
          cases h
          exact g_iret dX2_rankedAs_36 rfl ⟨rfl, rfl⟩
theorem f_X2_rankedAs_ok {v1 : Int32} {v2 : Int32}  {σ : gSt} {r : (Int32 × gSt)} (h : f_X2_rankedAs v1 v2 σ = some r) : Mt l w 0 41 yX2_rankedAs cX2_rankedAs 4 (some .int) 4 91 [.ref (w.2.1 16 0), .int v1, .int v2] σ (gE (some (.int r.1)) r.2) := by
  unfold f_X2_rankedAs at h
  refine g_start pn_X2 rfl rfl (Nat.le_of_ble_eq_true rfl) ?_
  show G l w 0 41 RX2 cX2_rankedAs 4 (some .int) 4 91 (gE (some (.int r.1)) r.2) 0 [some (.ref (w.2.1 16 0)), some (.int v1), some (.int v2), none] [] σ
  refine g_iconst dX2_rankedAs_0 kc_0 ?_
  refine g_istore3 dX2_rankedAs_1 ?_
  exact f_X2_rankedAs_2_ok gFuel h
end MI
