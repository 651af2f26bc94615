section MI
variable {l : Launch} {w : gWd}
theorem dX12_remembers_0 : decode cX12_remembers 0 = .ok (.aload_n 0, 1) := by decide +kernel
theorem dX12_remembers_1 : decode cX12_remembers 1 = .ok (.getfield 177, 3) := by decide +kernel
theorem dX12_remembers_4 : decode cX12_remembers 4 = .ok (.bipush 10, 2) := by decide +kernel
theorem dX12_remembers_6 : decode cX12_remembers 6 = .ok (.if_icmp .ne 49, 3) := by decide +kernel
theorem dX12_remembers_9 : decode cX12_remembers 9 = .ok (.aload_n 0, 1) := by decide +kernel
theorem dX12_remembers_10 : decode cX12_remembers 10 = .ok (.dup, 1) := by decide +kernel
theorem dX12_remembers_11 : decode cX12_remembers 11 = .ok (.getfield 177, 3) := by decide +kernel
theorem dX12_remembers_14 : decode cX12_remembers 14 = .ok (.iconst 1, 1) := by decide +kernel
theorem dX12_remembers_15 : decode cX12_remembers 15 = .ok (.isub, 1) := by decide +kernel
theorem dX12_remembers_16 : decode cX12_remembers 16 = .ok (.putfield 177, 3) := by decide +kernel
theorem dX12_remembers_19 : decode cX12_remembers 19 = .ok (.iconst 0, 1) := by decide +kernel
theorem dX12_remembers_20 : decode cX12_remembers 20 = .ok (.istore_n 1, 1) := by decide +kernel
theorem dX12_remembers_21 : decode cX12_remembers 21 = .ok (.iload_n 1, 1) := by decide +kernel
theorem dX12_remembers_22 : decode cX12_remembers 22 = .ok (.aload_n 0, 1) := by decide +kernel
theorem dX12_remembers_23 : decode cX12_remembers 23 = .ok (.getfield 177, 3) := by decide +kernel
theorem dX12_remembers_26 : decode cX12_remembers 26 = .ok (.sipush 397, 3) := by decide +kernel
theorem dX12_remembers_29 : decode cX12_remembers 29 = .ok (.imul, 1) := by decide +kernel
theorem dX12_remembers_30 : decode cX12_remembers 30 = .ok (.if_icmp .ge 25, 3) := by decide +kernel
theorem dX12_remembers_33 : decode cX12_remembers 33 = .ok (.aload_n 0, 1) := by decide +kernel
theorem dX12_remembers_34 : decode cX12_remembers 34 = .ok (.getfield 47, 3) := by decide +kernel
theorem dX12_remembers_37 : decode cX12_remembers 37 = .ok (.iload_n 1, 1) := by decide +kernel
theorem dX12_remembers_38 : decode cX12_remembers 38 = .ok (.aload_n 0, 1) := by decide +kernel
theorem dX12_remembers_39 : decode cX12_remembers 39 = .ok (.getfield 47, 3) := by decide +kernel
theorem dX12_remembers_42 : decode cX12_remembers 42 = .ok (.iload_n 1, 1) := by decide +kernel
theorem dX12_remembers_43 : decode cX12_remembers 43 = .ok (.sipush 397, 3) := by decide +kernel
theorem dX12_remembers_46 : decode cX12_remembers 46 = .ok (.iadd, 1) := by decide +kernel
theorem dX12_remembers_47 : decode cX12_remembers 47 = .ok (.iaload, 1) := by decide +kernel
theorem dX12_remembers_48 : decode cX12_remembers 48 = .ok (.iastore, 1) := by decide +kernel
theorem dX12_remembers_49 : decode cX12_remembers 49 = .ok (.iinc 1 1, 3) := by decide +kernel
theorem dX12_remembers_52 : decode cX12_remembers 52 = .ok (.goto (-31), 3) := by decide +kernel
theorem dX12_remembers_55 : decode cX12_remembers 55 = .ok (.aload_n 0, 1) := by decide +kernel
theorem dX12_remembers_56 : decode cX12_remembers 56 = .ok (.getfield 47, 3) := by decide +kernel
theorem dX12_remembers_59 : decode cX12_remembers 59 = .ok (.sipush 397, 3) := by decide +kernel
theorem dX12_remembers_62 : decode cX12_remembers 62 = .ok (.aload_n 0, 1) := by decide +kernel
theorem dX12_remembers_63 : decode cX12_remembers 63 = .ok (.getfield 177, 3) := by decide +kernel
theorem dX12_remembers_66 : decode cX12_remembers 66 = .ok (.imul, 1) := by decide +kernel
theorem dX12_remembers_67 : decode cX12_remembers 67 = .ok (.aload_n 0, 1) := by decide +kernel
theorem dX12_remembers_68 : decode cX12_remembers 68 = .ok (.getfield 17, 3) := by decide +kernel
theorem dX12_remembers_71 : decode cX12_remembers 71 = .ok (.iconst 0, 1) := by decide +kernel
theorem dX12_remembers_72 : decode cX12_remembers 72 = .ok (.sipush 397, 3) := by decide +kernel
theorem dX12_remembers_75 : decode cX12_remembers 75 = .ok (.invokestatic 180, 3) := by decide +kernel
theorem dX12_remembers_78 : decode cX12_remembers 78 = .ok (.aload_n 0, 1) := by decide +kernel
theorem dX12_remembers_79 : decode cX12_remembers 79 = .ok (.dup, 1) := by decide +kernel
theorem dX12_remembers_80 : decode cX12_remembers 80 = .ok (.getfield 177, 3) := by decide +kernel
theorem dX12_remembers_83 : decode cX12_remembers 83 = .ok (.iconst 1, 1) := by decide +kernel
theorem dX12_remembers_84 : decode cX12_remembers 84 = .ok (.iadd, 1) := by decide +kernel
theorem dX12_remembers_85 : decode cX12_remembers 85 = .ok (.putfield 177, 3) := by decide +kernel
theorem dX12_remembers_88 : decode cX12_remembers 88 = .ok (.return_, 1) := by decide +kernel
def f_X12_remembers_55  (σ : gSt) : Option gSt :=
  (f_X12_lays_k40_k30 (397 * (σ 28 0 30)) 0 397 σ).bind fun z75 =>
  some (gup z75 28 0 30 ((z75 28 0 30) + 1))
def f_X12_remembers_21  : Nat → Int32 → gSt → Option gSt
  | 0, _, _ => none
  | n + 1, v1, σ =>
    if ((σ 28 0 30) * 397) ≤ v1 then
      f_X12_remembers_55 σ
    else
      (gld σ 40 0 3970 (v1 + 397)).bind fun a47 =>
      (gst σ 40 0 3970 v1 a47).bind fun z48 =>
      f_X12_remembers_21 n (v1 + 1) z48
def f_X12_remembers (σ : gSt) : Option gSt :=
  if (σ 28 0 30) = 10 then
    f_X12_remembers_21 gFuel 0 (gup σ 28 0 30 ((σ 28 0 30) - 1))
  else
    f_X12_remembers_55 σ
theorem f_X12_remembers_55_ok  {r : gSt}  {σ : gSt} {x1 : Option Value} (h : f_X12_remembers_55 σ = some r) : G l w 0 41 RX12 cX12_remembers 2 none 1 25 (gE none r) 55 [some (.ref (w.2.1 28 0)), x1] [] σ := by
  unfold f_X12_remembers_55 at h
  refine g_aload_n dX12_remembers_55 rfl ?_
  refine gR_X12_47 ok_28 dX12_remembers_56 ?_
  refine g_sipush dX12_remembers_59 ks_397 ?_
  refine g_aload_n dX12_remembers_62 rfl ?_
  refine gI_X12_177 ok_28 dX12_remembers_63 ?_
  refine g_imul dX12_remembers_66 ?_
  refine g_aload_n dX12_remembers_67 rfl ?_
  refine gR_X12_17 ok_28 dX12_remembers_68 ?_
  refine g_iconst dX12_remembers_71 kc_0 ?_
  refine g_sipush dX12_remembers_72 ks_397 ?_
  obtain ⟨z75, e75, h⟩ := obind h
  refine g_sU5 ms_X12_180 dX12_remembers_75 ⟨by decide, by decide⟩ (Nat.le_of_ble_eq_true rfl) (f_X12_lays_k40_k30_ok e75) ?_
  refine g_aload_n dX12_remembers_78 rfl ?_
  refine g_dup dX12_remembers_79 rfl ?_
  refine gI_X12_177 ok_28 dX12_remembers_80 ?_
  refine g_iconst dX12_remembers_83 kc_1 ?_
  refine g_iadd dX12_remembers_84 ?_
  refine gP_X12_177 ok_28 dX12_remembers_85 ?_
  cases h
  exact g_vret dX12_remembers_88 rfl ⟨rfl, rfl⟩
theorem f_X12_remembers_21_ok  {r : gSt}  : ∀ (n : Nat) {v1 : Int32} {σ : gSt} , f_X12_remembers_21 n v1 σ = some r → G l w 0 41 RX12 cX12_remembers 2 none 1 25 (gE none r) 21 [some (.ref (w.2.1 28 0)), some (.int v1)] [] σ := by
  intro n
  induction n with
  | zero => intro v1 σ h; rw [f_X12_remembers_21] at h; cases h
  | succ n ih =>
    intro v1 σ h
    rw [f_X12_remembers_21] at h
    refine g_iload_n dX12_remembers_21 rfl ?_
    refine g_aload_n dX12_remembers_22 rfl ?_
    refine gI_X12_177 ok_28 dX12_remembers_23 ?_
    refine g_sipush dX12_remembers_26 ks_397 ?_
    refine g_imul dX12_remembers_29 ?_
    refine g_icmp_ge 55 dX12_remembers_30 rfl (fun q => ?_) (fun q => ?_)
    · replace h := gif_t q h
      exact f_X12_remembers_55_ok h
    · replace h := gif_f q h
      refine g_aload_n dX12_remembers_33 rfl ?_
      refine gR_X12_47 ok_28 dX12_remembers_34 ?_
      refine g_iload_n dX12_remembers_37 rfl ?_
      refine g_aload_n dX12_remembers_38 rfl ?_
      refine gR_X12_47 ok_28 dX12_remembers_39 ?_
      refine g_iload_n dX12_remembers_42 rfl ?_
      refine g_sipush dX12_remembers_43 ks_397 ?_
      refine g_iadd dX12_remembers_46 ?_
      obtain ⟨a47, e47, h⟩ := obind h
      refine g_ldB e47 ok_40 rfl rfl (by decide) dX12_remembers_47 ?_
      obtain ⟨z48, e48, h⟩ := obind h
      refine g_stB e48 ok_40 rfl rfl (by decide) dX12_remembers_48 ?_
      refine g_inc1 kc_1 dX12_remembers_49 ?_
      refine g_goto 21 dX12_remembers_52 rfl ?_
      exact ih h
theorem f_X12_remembers_ok   {σ : gSt} {r : gSt} (h : f_X12_remembers σ = some r) : Mt l w 0 41 yX12_remembers cX12_remembers 2 none 1 25 [.ref (w.2.1 28 0)] σ (gE none r) := by
  unfold f_X12_remembers at h
  refine g_start pn_X12 rfl rfl (Nat.le_of_ble_eq_true rfl) ?_
  show G l w 0 41 RX12 cX12_remembers 2 none 1 25 (gE none r) 0 [some (.ref (w.2.1 28 0)), none] [] σ
  refine g_aload_n dX12_remembers_0 rfl ?_
  refine gI_X12_177 ok_28 dX12_remembers_1 ?_
  refine g_bipush dX12_remembers_4 kb_10 ?_
  refine g_icmp_ne 55 dX12_remembers_6 rfl (fun q => ?_) (fun q => ?_)
  · replace h := gif_f q h
    exact f_X12_remembers_55_ok h
  · replace h := gif_t q h
    refine g_aload_n dX12_remembers_9 rfl ?_
    refine g_dup dX12_remembers_10 rfl ?_
    refine gI_X12_177 ok_28 dX12_remembers_11 ?_
    refine g_iconst dX12_remembers_14 kc_1 ?_
    refine g_isub dX12_remembers_15 ?_
    refine gP_X12_177 ok_28 dX12_remembers_16 ?_
    refine g_iconst dX12_remembers_19 kc_0 ?_
    refine g_istore1 dX12_remembers_20 ?_
    exact f_X12_remembers_21_ok gFuel h
theorem dX12_comes_0 : decode cX12_comes 0 = .ok (.aload_n 0, 1) := by decide +kernel
theorem dX12_comes_1 : decode cX12_comes 1 = .ok (.invokevirtual 325, 3) := by decide +kernel
theorem dX12_comes_4 : decode cX12_comes 4 = .ok (.aload_n 0, 1) := by decide +kernel
theorem dX12_comes_5 : decode cX12_comes 5 = .ok (.getfield 17, 3) := by decide +kernel
theorem dX12_comes_8 : decode cX12_comes 8 = .ok (.iload_n 1, 1) := by decide +kernel
theorem dX12_comes_9 : decode cX12_comes 9 = .ok (.iaload, 1) := by decide +kernel
theorem dX12_comes_10 : decode cX12_comes 10 = .ok (.istore_n 3, 1) := by decide +kernel
theorem dX12_comes_11 : decode cX12_comes 11 = .ok (.aload_n 0, 1) := by decide +kernel
theorem dX12_comes_12 : decode cX12_comes 12 = .ok (.getfield 17, 3) := by decide +kernel
theorem dX12_comes_15 : decode cX12_comes 15 = .ok (.iload_n 1, 1) := by decide +kernel
theorem dX12_comes_16 : decode cX12_comes 16 = .ok (.iload_n 2, 1) := by decide +kernel
theorem dX12_comes_17 : decode cX12_comes 17 = .ok (.iastore, 1) := by decide +kernel
theorem dX12_comes_18 : decode cX12_comes 18 = .ok (.iload_n 3, 1) := by decide +kernel
theorem dX12_comes_19 : decode cX12_comes 19 = .ok (.ireturn, 1) := by decide +kernel
def f_X12_comes (v1 : Int32) (v2 : Int32) (σ : gSt) : Option (Int32 × gSt) :=
  (f_X12_remembers σ).bind fun z1 =>
  (gld z1 30 0 397 v1).bind fun a9 =>
  (gst z1 30 0 397 v1 v2).bind fun z17 =>
  some (a9, z17)
theorem f_X12_comes_ok {v1 : Int32} {v2 : Int32}  {σ : gSt} {r : (Int32 × gSt)} (h : f_X12_comes v1 v2 σ = some r) : Mt l w 0 41 yX12_comes cX12_comes 4 (some .int) 2 46 [.ref (w.2.1 28 0), .int v1, .int v2] σ (gE (some (.int r.1)) r.2) := by
  unfold f_X12_comes at h
  refine g_start pn_X12 rfl rfl (Nat.le_of_ble_eq_true rfl) ?_
  show G l w 0 41 RX12 cX12_comes 4 (some .int) 2 46 (gE (some (.int r.1)) r.2) 0 [some (.ref (w.2.1 28 0)), some (.int v1), some (.int v2), none] [] σ
  refine g_aload_n dX12_comes_0 rfl ?_
  obtain ⟨z1, e1, h⟩ := obind h
  refine g_vU0 mv_X12_325 dX12_comes_1 ok_28 ⟨by decide, by decide⟩ (Nat.le_of_ble_eq_true rfl) (f_X12_remembers_ok e1) ?_
  refine g_aload_n dX12_comes_4 rfl ?_
  refine gR_X12_17 ok_28 dX12_comes_5 ?_
  refine g_iload_n dX12_comes_8 rfl ?_
  obtain ⟨a9, e9, h⟩ := obind h
  refine g_ldB e9 ok_30 rfl rfl (by decide) dX12_comes_9 ?_
  refine g_istore3 dX12_comes_10 ?_
  refine g_aload_n dX12_comes_11 rfl ?_
  refine gR_X12_17 ok_28 dX12_comes_12 ?_
  refine g_iload_n dX12_comes_15 rfl ?_
  refine g_iload_n dX12_comes_16 rfl ?_
  obtain ⟨z17, e17, h⟩ := obind h
  refine g_stB e17 ok_30 rfl rfl (by decide) dX12_comes_17 ?_
  refine g_iload_n dX12_comes_18 rfl ?_
  cases h
  exact g_iret dX12_comes_19 rfl ⟨rfl, rfl⟩
theorem dX12_add_0 : decode cX12_add 0 = .ok (.aload_n 0, 1) := by decide +kernel
theorem dX12_add_1 : decode cX12_add 1 = .ok (.iload_n 1, 1) := by decide +kernel
theorem dX12_add_2 : decode cX12_add 2 = .ok (.invokevirtual 187, 3) := by decide +kernel
theorem dX12_add_5 : decode cX12_add 5 = .ok (.istore 4, 2) := by decide +kernel
theorem dX12_add_7 : decode cX12_add 7 = .ok (.iload 4, 2) := by decide +kernel
theorem dX12_add_9 : decode cX12_add 9 = .ok (.iload 4, 2) := by decide +kernel
theorem dX12_add_11 : decode cX12_add 11 = .ok (.ifCond .eq 42, 3) := by decide +kernel
theorem dX12_add_14 : decode cX12_add 14 = .ok (.iload_n 2, 1) := by decide +kernel
theorem dX12_add_15 : decode cX12_add 15 = .ok (.iconst 1, 1) := by decide +kernel
theorem dX12_add_16 : decode cX12_add 16 = .ok (.bipush 99, 2) := by decide +kernel
theorem dX12_add_18 : decode cX12_add 18 = .ok (.invokestatic 79, 3) := by decide +kernel
theorem dX12_add_21 : decode cX12_add 21 = .ok (.ifCond .eq 32, 3) := by decide +kernel
theorem dX12_add_24 : decode cX12_add 24 = .ok (.iload_n 3, 1) := by decide +kernel
theorem dX12_add_25 : decode cX12_add 25 = .ok (.aload_n 0, 1) := by decide +kernel
theorem dX12_add_26 : decode cX12_add 26 = .ok (.getfield 17, 3) := by decide +kernel
theorem dX12_add_29 : decode cX12_add 29 = .ok (.bipush 47, 2) := by decide +kernel
theorem dX12_add_31 : decode cX12_add 31 = .ok (.iload_n 1, 1) := by decide +kernel
theorem dX12_add_32 : decode cX12_add 32 = .ok (.iadd, 1) := by decide +kernel
theorem dX12_add_33 : decode cX12_add 33 = .ok (.iaload, 1) := by decide +kernel
theorem dX12_add_34 : decode cX12_add 34 = .ok (.aload_n 0, 1) := by decide +kernel
theorem dX12_add_35 : decode cX12_add 35 = .ok (.getfield 17, 3) := by decide +kernel
theorem dX12_add_38 : decode cX12_add 38 = .ok (.bipush 57, 2) := by decide +kernel
theorem dX12_add_40 : decode cX12_add 40 = .ok (.iload_n 1, 1) := by decide +kernel
theorem dX12_add_41 : decode cX12_add 41 = .ok (.iadd, 1) := by decide +kernel
theorem dX12_add_42 : decode cX12_add 42 = .ok (.iaload, 1) := by decide +kernel
theorem dX12_add_43 : decode cX12_add 43 = .ok (.invokestatic 79, 3) := by decide +kernel
theorem dX12_add_46 : decode cX12_add 46 = .ok (.ifCond .eq 7, 3) := by decide +kernel
theorem dX12_add_49 : decode cX12_add 49 = .ok (.iconst 1, 1) := by decide +kernel
theorem dX12_add_50 : decode cX12_add 50 = .ok (.goto 4, 3) := by decide +kernel
theorem dX12_add_53 : decode cX12_add 53 = .ok (.iconst 0, 1) := by decide +kernel
theorem dX12_add_54 : decode cX12_add 54 = .ok (.invokestatic 157, 3) := by decide +kernel
theorem dX12_add_57 : decode cX12_add 57 = .ok (.istore 5, 2) := by decide +kernel
theorem dX12_add_59 : decode cX12_add 59 = .ok (.aload_n 0, 1) := by decide +kernel
theorem dX12_add_60 : decode cX12_add 60 = .ok (.iload 5, 2) := by decide +kernel
theorem dX12_add_62 : decode cX12_add 62 = .ok (.ifCond .eq 8, 3) := by decide +kernel
theorem dX12_add_65 : decode cX12_add 65 = .ok (.iload 5, 2) := by decide +kernel
theorem dX12_add_67 : decode cX12_add 67 = .ok (.goto 22, 3) := by decide +kernel
theorem dX12_add_70 : decode cX12_add 70 = .ok (.aload_n 0, 1) := by decide +kernel
theorem dX12_add_71 : decode cX12_add 71 = .ok (.getfield 17, 3) := by decide +kernel
theorem dX12_add_74 : decode cX12_add 74 = .ok (.bipush 67, 2) := by decide +kernel
theorem dX12_add_76 : decode cX12_add 76 = .ok (.iload_n 1, 1) := by decide +kernel
theorem dX12_add_77 : decode cX12_add 77 = .ok (.iadd, 1) := by decide +kernel
theorem dX12_add_78 : decode cX12_add 78 = .ok (.iaload, 1) := by decide +kernel
theorem dX12_add_79 : decode cX12_add 79 = .ok (.bipush 16, 2) := by decide +kernel
theorem dX12_add_81 : decode cX12_add 81 = .ok (.if_icmp .ne 7, 3) := by decide +kernel
theorem dX12_add_84 : decode cX12_add 84 = .ok (.iconst 3, 1) := by decide +kernel
theorem dX12_add_85 : decode cX12_add 85 = .ok (.goto 4, 3) := by decide +kernel
theorem dX12_add_88 : decode cX12_add 88 = .ok (.iconst 0, 1) := by decide +kernel
theorem dX12_add_89 : decode cX12_add 89 = .ok (.invokevirtual 161, 3) := by decide +kernel
theorem dX12_add_92 : decode cX12_add 92 = .ok (.ifCond .eq 5, 3) := by decide +kernel
theorem dX12_add_95 : decode cX12_add 95 = .ok (.iconst (-1), 1) := by decide +kernel
theorem dX12_add_96 : decode cX12_add 96 = .ok (.ireturn, 1) := by decide +kernel
theorem dX12_add_97 : decode cX12_add 97 = .ok (.aload_n 0, 1) := by decide +kernel
theorem dX12_add_98 : decode cX12_add 98 = .ok (.invokevirtual 325, 3) := by decide +kernel
theorem dX12_add_101 : decode cX12_add 101 = .ok (.aload_n 0, 1) := by decide +kernel
theorem dX12_add_102 : decode cX12_add 102 = .ok (.getfield 17, 3) := by decide +kernel
theorem dX12_add_105 : decode cX12_add 105 = .ok (.bipush 67, 2) := by decide +kernel
theorem dX12_add_107 : decode cX12_add 107 = .ok (.iload_n 1, 1) := by decide +kernel
theorem dX12_add_108 : decode cX12_add 108 = .ok (.iadd, 1) := by decide +kernel
theorem dX12_add_109 : decode cX12_add 109 = .ok (.iaload, 1) := by decide +kernel
theorem dX12_add_110 : decode cX12_add 110 = .ok (.istore 6, 2) := by decide +kernel
theorem dX12_add_112 : decode cX12_add 112 = .ok (.bipush 16, 2) := by decide +kernel
theorem dX12_add_114 : decode cX12_add 114 = .ok (.iload_n 1, 1) := by decide +kernel
theorem dX12_add_115 : decode cX12_add 115 = .ok (.imul, 1) := by decide +kernel
theorem dX12_add_116 : decode cX12_add 116 = .ok (.istore 7, 2) := by decide +kernel
theorem dX12_add_118 : decode cX12_add 118 = .ok (.iload 6, 2) := by decide +kernel
theorem dX12_add_120 : decode cX12_add 120 = .ok (.ifCond .le 87, 3) := by decide +kernel
theorem dX12_add_123 : decode cX12_add 123 = .ok (.aload_n 0, 1) := by decide +kernel
theorem dX12_add_124 : decode cX12_add 124 = .ok (.getfield 17, 3) := by decide +kernel
theorem dX12_add_127 : decode cX12_add 127 = .ok (.sipush 237, 3) := by decide +kernel
theorem dX12_add_130 : decode cX12_add 130 = .ok (.iload 7, 2) := by decide +kernel
theorem dX12_add_132 : decode cX12_add 132 = .ok (.iadd, 1) := by decide +kernel
theorem dX12_add_133 : decode cX12_add 133 = .ok (.iload 6, 2) := by decide +kernel
theorem dX12_add_135 : decode cX12_add 135 = .ok (.iadd, 1) := by decide +kernel
theorem dX12_add_136 : decode cX12_add 136 = .ok (.iconst 1, 1) := by decide +kernel
theorem dX12_add_137 : decode cX12_add 137 = .ok (.isub, 1) := by decide +kernel
theorem dX12_add_138 : decode cX12_add 138 = .ok (.iaload, 1) := by decide +kernel
theorem dX12_add_139 : decode cX12_add 139 = .ok (.iload_n 3, 1) := by decide +kernel
theorem dX12_add_140 : decode cX12_add 140 = .ok (.if_icmp .le 67, 3) := by decide +kernel
theorem dX12_add_143 : decode cX12_add 143 = .ok (.aload_n 0, 1) := by decide +kernel
theorem dX12_add_144 : decode cX12_add 144 = .ok (.getfield 17, 3) := by decide +kernel
theorem dX12_add_147 : decode cX12_add 147 = .ok (.sipush 237, 3) := by decide +kernel
theorem dX12_add_150 : decode cX12_add 150 = .ok (.iload 7, 2) := by decide +kernel
theorem dX12_add_152 : decode cX12_add 152 = .ok (.iadd, 1) := by decide +kernel
theorem dX12_add_153 : decode cX12_add 153 = .ok (.iload 6, 2) := by decide +kernel
theorem dX12_add_155 : decode cX12_add 155 = .ok (.iadd, 1) := by decide +kernel
theorem dX12_add_156 : decode cX12_add 156 = .ok (.aload_n 0, 1) := by decide +kernel
theorem dX12_add_157 : decode cX12_add 157 = .ok (.getfield 17, 3) := by decide +kernel
theorem dX12_add_160 : decode cX12_add 160 = .ok (.sipush 237, 3) := by decide +kernel
theorem dX12_add_163 : decode cX12_add 163 = .ok (.iload 7, 2) := by decide +kernel
theorem dX12_add_165 : decode cX12_add 165 = .ok (.iadd, 1) := by decide +kernel
theorem dX12_add_166 : decode cX12_add 166 = .ok (.iload 6, 2) := by decide +kernel
theorem dX12_add_168 : decode cX12_add 168 = .ok (.iadd, 1) := by decide +kernel
theorem dX12_add_169 : decode cX12_add 169 = .ok (.iconst 1, 1) := by decide +kernel
theorem dX12_add_170 : decode cX12_add 170 = .ok (.isub, 1) := by decide +kernel
theorem dX12_add_171 : decode cX12_add 171 = .ok (.iaload, 1) := by decide +kernel
theorem dX12_add_172 : decode cX12_add 172 = .ok (.iastore, 1) := by decide +kernel
theorem dX12_add_173 : decode cX12_add 173 = .ok (.aload_n 0, 1) := by decide +kernel
theorem dX12_add_174 : decode cX12_add 174 = .ok (.getfield 17, 3) := by decide +kernel
theorem dX12_add_177 : decode cX12_add 177 = .ok (.bipush 77, 2) := by decide +kernel
theorem dX12_add_179 : decode cX12_add 179 = .ok (.iload 7, 2) := by decide +kernel
theorem dX12_add_181 : decode cX12_add 181 = .ok (.iadd, 1) := by decide +kernel
theorem dX12_add_182 : decode cX12_add 182 = .ok (.iload 6, 2) := by decide +kernel
theorem dX12_add_184 : decode cX12_add 184 = .ok (.iadd, 1) := by decide +kernel
theorem dX12_add_185 : decode cX12_add 185 = .ok (.aload_n 0, 1) := by decide +kernel
theorem dX12_add_186 : decode cX12_add 186 = .ok (.getfield 17, 3) := by decide +kernel
theorem dX12_add_189 : decode cX12_add 189 = .ok (.bipush 77, 2) := by decide +kernel
theorem dX12_add_191 : decode cX12_add 191 = .ok (.iload 7, 2) := by decide +kernel
theorem dX12_add_193 : decode cX12_add 193 = .ok (.iadd, 1) := by decide +kernel
theorem dX12_add_194 : decode cX12_add 194 = .ok (.iload 6, 2) := by decide +kernel
theorem dX12_add_196 : decode cX12_add 196 = .ok (.iadd, 1) := by decide +kernel
theorem dX12_add_197 : decode cX12_add 197 = .ok (.iconst 1, 1) := by decide +kernel
theorem dX12_add_198 : decode cX12_add 198 = .ok (.isub, 1) := by decide +kernel
theorem dX12_add_199 : decode cX12_add 199 = .ok (.iaload, 1) := by decide +kernel
theorem dX12_add_200 : decode cX12_add 200 = .ok (.iastore, 1) := by decide +kernel
theorem dX12_add_201 : decode cX12_add 201 = .ok (.iinc 6 (-1), 3) := by decide +kernel
theorem dX12_add_204 : decode cX12_add 204 = .ok (.goto (-86), 3) := by decide +kernel
theorem dX12_add_207 : decode cX12_add 207 = .ok (.aload_n 0, 1) := by decide +kernel
theorem dX12_add_208 : decode cX12_add 208 = .ok (.getfield 17, 3) := by decide +kernel
theorem dX12_add_211 : decode cX12_add 211 = .ok (.sipush 237, 3) := by decide +kernel
theorem dX12_add_214 : decode cX12_add 214 = .ok (.iload 7, 2) := by decide +kernel
theorem dX12_add_216 : decode cX12_add 216 = .ok (.iadd, 1) := by decide +kernel
theorem dX12_add_217 : decode cX12_add 217 = .ok (.iload 6, 2) := by decide +kernel
theorem dX12_add_219 : decode cX12_add 219 = .ok (.iadd, 1) := by decide +kernel
theorem dX12_add_220 : decode cX12_add 220 = .ok (.iload_n 3, 1) := by decide +kernel
theorem dX12_add_221 : decode cX12_add 221 = .ok (.iastore, 1) := by decide +kernel
theorem dX12_add_222 : decode cX12_add 222 = .ok (.aload_n 0, 1) := by decide +kernel
theorem dX12_add_223 : decode cX12_add 223 = .ok (.getfield 17, 3) := by decide +kernel
theorem dX12_add_226 : decode cX12_add 226 = .ok (.bipush 77, 2) := by decide +kernel
theorem dX12_add_228 : decode cX12_add 228 = .ok (.iload 7, 2) := by decide +kernel
theorem dX12_add_230 : decode cX12_add 230 = .ok (.iadd, 1) := by decide +kernel
theorem dX12_add_231 : decode cX12_add 231 = .ok (.iload 6, 2) := by decide +kernel
theorem dX12_add_233 : decode cX12_add 233 = .ok (.iadd, 1) := by decide +kernel
theorem dX12_add_234 : decode cX12_add 234 = .ok (.iload_n 2, 1) := by decide +kernel
theorem dX12_add_235 : decode cX12_add 235 = .ok (.iastore, 1) := by decide +kernel
theorem dX12_add_236 : decode cX12_add 236 = .ok (.aload_n 0, 1) := by decide +kernel
theorem dX12_add_237 : decode cX12_add 237 = .ok (.getfield 17, 3) := by decide +kernel
theorem dX12_add_240 : decode cX12_add 240 = .ok (.bipush 67, 2) := by decide +kernel
theorem dX12_add_242 : decode cX12_add 242 = .ok (.iload_n 1, 1) := by decide +kernel
theorem dX12_add_243 : decode cX12_add 243 = .ok (.iadd, 1) := by decide +kernel
theorem dX12_add_244 : decode cX12_add 244 = .ok (.dup2, 1) := by decide +kernel
theorem dX12_add_245 : decode cX12_add 245 = .ok (.iaload, 1) := by decide +kernel
theorem dX12_add_246 : decode cX12_add 246 = .ok (.iconst 1, 1) := by decide +kernel
theorem dX12_add_247 : decode cX12_add 247 = .ok (.iadd, 1) := by decide +kernel
theorem dX12_add_248 : decode cX12_add 248 = .ok (.iastore, 1) := by decide +kernel
theorem dX12_add_249 : decode cX12_add 249 = .ok (.iload 6, 2) := by decide +kernel
theorem dX12_add_251 : decode cX12_add 251 = .ok (.ireturn, 1) := by decide +kernel
def f_X12_add_207 (v1 : Int32) (v2 : Int32) (v3 : Int32) (v6 : Int32) (v7 : Int32) (σ : gSt) : Option (Int32 × gSt) :=
  (gst σ 30 0 397 ((237 + v7) + v6) v3).bind fun z221 =>
  (gst z221 30 0 397 ((77 + v7) + v6) v2).bind fun z235 =>
  (gld z235 30 0 397 (67 + v1)).bind fun a245 =>
  (gst z235 30 0 397 (67 + v1) (a245 + 1)).bind fun z248 =>
  some (v6, z248)
def f_X12_add_118 (v1 : Int32) (v2 : Int32) (v3 : Int32) (v7 : Int32) : Nat → Int32 → gSt → Option (Int32 × gSt)
  | 0, _, _ => none
  | n + 1, v6, σ =>
    if v6 ≤ 0 then
      f_X12_add_207 v1 v2 v3 v6 v7 σ
    else
      (gld σ 30 0 397 (((237 + v7) + v6) - 1)).bind fun a138 =>
      if a138 ≤ v3 then
        f_X12_add_207 v1 v2 v3 v6 v7 σ
      else
        (gld σ 30 0 397 (((237 + v7) + v6) - 1)).bind fun a171 =>
        (gst σ 30 0 397 ((237 + v7) + v6) a171).bind fun z172 =>
        (gld z172 30 0 397 (((77 + v7) + v6) - 1)).bind fun a199 =>
        (gst z172 30 0 397 ((77 + v7) + v6) a199).bind fun z200 =>
        f_X12_add_118 v1 v2 v3 v7 n (v6 + (-1)) z200
def f_X12_add_89 (v1 : Int32) (v2 : Int32) (v3 : Int32) (vs1 : Int32) (σ : gSt) : Option (Int32 × gSt) :=
  (f_X12_isRefused vs1 σ).bind fun p89 =>
  if p89.1 = 0 then
    (f_X12_remembers p89.2).bind fun z98 =>
    (gld z98 30 0 397 (67 + v1)).bind fun a109 =>
    f_X12_add_118 v1 v2 v3 (16 * v1) gFuel a109 z98
  else
    some ((-1), p89.2)
def f_X12_add_54 (v1 : Int32) (v2 : Int32) (v3 : Int32) (vs0 : Int32) (vs1 : Int32) (σ : gSt) : Option (Int32 × gSt) :=
  (f_X12_unless_ vs0 vs1 σ).bind fun p54 =>
  if p54.1 = 0 then
    (gld p54.2 30 0 397 (67 + v1)).bind fun a78 =>
    if a78 = 16 then
      f_X12_add_89 v1 v2 v3 3 p54.2
    else
      f_X12_add_89 v1 v2 v3 0 p54.2
  else
    f_X12_add_89 v1 v2 v3 p54.1 p54.2
def f_X12_add_53 (v1 : Int32) (v2 : Int32) (v3 : Int32) (vs0 : Int32) (σ : gSt) : Option (Int32 × gSt) :=
  f_X12_add_54 v1 v2 v3 vs0 0 σ
def f_X12_add (v1 : Int32) (v2 : Int32) (v3 : Int32) (σ : gSt) : Option (Int32 × gSt) :=
  (f_X12_isRunner v1 σ).bind fun p2 =>
  if p2.1 = 0 then
    f_X12_add_53 v1 v2 v3 p2.1 p2.2
  else
    (f_X12_in v2 1 99 p2.2).bind fun p18 =>
    if p18.1 = 0 then
      f_X12_add_53 v1 v2 v3 p2.1 p18.2
    else
      (gld p18.2 30 0 397 (47 + v1)).bind fun a33 =>
      (gld p18.2 30 0 397 (57 + v1)).bind fun a42 =>
      (f_X12_in v3 a33 a42 p18.2).bind fun p43 =>
      if p43.1 = 0 then
        f_X12_add_53 v1 v2 v3 p2.1 p43.2
      else
        f_X12_add_54 v1 v2 v3 p2.1 1 p43.2
theorem f_X12_add_207_ok {v1 : Int32} {v2 : Int32} {v3 : Int32} {v6 : Int32} {v7 : Int32} {r : (Int32 × gSt)}  {σ : gSt} {x4 x5 : Option Value} (h : f_X12_add_207 v1 v2 v3 v6 v7 σ = some r) : G l w 0 41 RX12 cX12_add 8 (some .int) 2 46 (gE (some (.int r.1)) r.2) 207 [some (.ref (w.2.1 28 0)), some (.int v1), some (.int v2), some (.int v3), x4, x5, some (.int v6), some (.int v7)] [] σ := by
  unfold f_X12_add_207 at h
  refine g_aload_n dX12_add_207 rfl ?_
  refine gR_X12_17 ok_28 dX12_add_208 ?_
  refine g_sipush dX12_add_211 ks_237 ?_
  refine g_iload dX12_add_214 rfl ?_
  refine g_iadd dX12_add_216 ?_
  refine g_iload dX12_add_217 rfl ?_
  refine g_iadd dX12_add_219 ?_
  refine g_iload_n dX12_add_220 rfl ?_
  obtain ⟨z221, e221, h⟩ := obind h
  refine g_stB e221 ok_30 rfl rfl (by decide) dX12_add_221 ?_
  refine g_aload_n dX12_add_222 rfl ?_
  refine gR_X12_17 ok_28 dX12_add_223 ?_
  refine g_bipush dX12_add_226 kb_77 ?_
  refine g_iload dX12_add_228 rfl ?_
  refine g_iadd dX12_add_230 ?_
  refine g_iload dX12_add_231 rfl ?_
  refine g_iadd dX12_add_233 ?_
  refine g_iload_n dX12_add_234 rfl ?_
  obtain ⟨z235, e235, h⟩ := obind h
  refine g_stB e235 ok_30 rfl rfl (by decide) dX12_add_235 ?_
  refine g_aload_n dX12_add_236 rfl ?_
  refine gR_X12_17 ok_28 dX12_add_237 ?_
  refine g_bipush dX12_add_240 kb_67 ?_
  refine g_iload_n dX12_add_242 rfl ?_
  refine g_iadd dX12_add_243 ?_
  refine g_dup2 dX12_add_244 rfl rfl ?_
  obtain ⟨a245, e245, h⟩ := obind h
  refine g_ldB e245 ok_30 rfl rfl (by decide) dX12_add_245 ?_
  refine g_iconst dX12_add_246 kc_1 ?_
  refine g_iadd dX12_add_247 ?_
  obtain ⟨z248, e248, h⟩ := obind h
  refine g_stB e248 ok_30 rfl rfl (by decide) dX12_add_248 ?_
  refine g_iload dX12_add_249 rfl ?_
  cases h
  exact g_iret dX12_add_251 rfl ⟨rfl, rfl⟩
theorem f_X12_add_118_ok {v1 : Int32} {v2 : Int32} {v3 : Int32} {v7 : Int32} {r : (Int32 × gSt)}  : ∀ (n : Nat) {v6 : Int32} {σ : gSt} {x4 x5 : Option Value}, f_X12_add_118 v1 v2 v3 v7 n v6 σ = some r → G l w 0 41 RX12 cX12_add 8 (some .int) 2 46 (gE (some (.int r.1)) r.2) 118 [some (.ref (w.2.1 28 0)), some (.int v1), some (.int v2), some (.int v3), x4, x5, some (.int v6), some (.int v7)] [] σ := by
  intro n
  induction n with
  | zero => intro v6 σ x4 x5 h; rw [f_X12_add_118] at h; cases h
  | succ n ih =>
    intro v6 σ x4 x5 h
    rw [f_X12_add_118] at h
    refine g_iload dX12_add_118 rfl ?_
    refine g_if_le 207 dX12_add_120 rfl (fun q => ?_) (fun q => ?_)
    · replace h := gif_t q h
      exact f_X12_add_207_ok h
    · replace h := gif_f q h
      refine g_aload_n dX12_add_123 rfl ?_
      refine gR_X12_17 ok_28 dX12_add_124 ?_
      refine g_sipush dX12_add_127 ks_237 ?_
      refine g_iload dX12_add_130 rfl ?_
      refine g_iadd dX12_add_132 ?_
      refine g_iload dX12_add_133 rfl ?_
      refine g_iadd dX12_add_135 ?_
      refine g_iconst dX12_add_136 kc_1 ?_
      refine g_isub dX12_add_137 ?_
      obtain ⟨a138, e138, h⟩ := obind h
      refine g_ldB e138 ok_30 rfl rfl (by decide) dX12_add_138 ?_
      refine g_iload_n dX12_add_139 rfl ?_
      refine g_icmp_le 207 dX12_add_140 rfl (fun q => ?_) (fun q => ?_)
      · replace h := gif_t q h
        exact f_X12_add_207_ok h
      · replace h := gif_f q h
        refine g_aload_n dX12_add_143 rfl ?_
        refine gR_X12_17 ok_28 dX12_add_144 ?_
        refine g_sipush dX12_add_147 ks_237 ?_
        refine g_iload dX12_add_150 rfl ?_
        refine g_iadd dX12_add_152 ?_
        refine g_iload dX12_add_153 rfl ?_
        refine g_iadd dX12_add_155 ?_
        refine g_aload_n dX12_add_156 rfl ?_
        refine gR_X12_17 ok_28 dX12_add_157 ?_
        refine g_sipush dX12_add_160 ks_237 ?_
        refine g_iload dX12_add_163 rfl ?_
        refine g_iadd dX12_add_165 ?_
        refine g_iload dX12_add_166 rfl ?_
        refine g_iadd dX12_add_168 ?_
        refine g_iconst dX12_add_169 kc_1 ?_
        refine g_isub dX12_add_170 ?_
        obtain ⟨a171, e171, h⟩ := obind h
        refine g_ldB e171 ok_30 rfl rfl (by decide) dX12_add_171 ?_
        obtain ⟨z172, e172, h⟩ := obind h
        refine g_stB e172 ok_30 rfl rfl (by decide) dX12_add_172 ?_
        refine g_aload_n dX12_add_173 rfl ?_
        refine gR_X12_17 ok_28 dX12_add_174 ?_
        refine g_bipush dX12_add_177 kb_77 ?_
        refine g_iload dX12_add_179 rfl ?_
        refine g_iadd dX12_add_181 ?_
        refine g_iload dX12_add_182 rfl ?_
        refine g_iadd dX12_add_184 ?_
        refine g_aload_n dX12_add_185 rfl ?_
        refine gR_X12_17 ok_28 dX12_add_186 ?_
        refine g_bipush dX12_add_189 kb_77 ?_
        refine g_iload dX12_add_191 rfl ?_
        refine g_iadd dX12_add_193 ?_
        refine g_iload dX12_add_194 rfl ?_
        refine g_iadd dX12_add_196 ?_
        refine g_iconst dX12_add_197 kc_1 ?_
        refine g_isub dX12_add_198 ?_
        obtain ⟨a199, e199, h⟩ := obind h
        refine g_ldB e199 ok_30 rfl rfl (by decide) dX12_add_199 ?_
        obtain ⟨z200, e200, h⟩ := obind h
        refine g_stB e200 ok_30 rfl rfl (by decide) dX12_add_200 ?_
        refine g_inc6 kc_m1 dX12_add_201 ?_
        refine g_goto 118 dX12_add_204 rfl ?_
        exact ih h
theorem f_X12_add_89_ok {v1 : Int32} {v2 : Int32} {v3 : Int32} {vs1 : Int32} {r : (Int32 × gSt)}  {σ : gSt} {x4 x5 x6 x7 : Option Value} (h : f_X12_add_89 v1 v2 v3 vs1 σ = some r) : G l w 0 41 RX12 cX12_add 8 (some .int) 2 46 (gE (some (.int r.1)) r.2) 89 [some (.ref (w.2.1 28 0)), some (.int v1), some (.int v2), some (.int v3), x4, x5, x6, x7] [.int vs1, .ref (w.2.1 28 0)] σ := by
  unfold f_X12_add_89 at h
  obtain ⟨p89, e89, h⟩ := obind h
  refine g_vP1 mv_X12_161 dX12_add_89 ok_28 ⟨by decide, by decide⟩ (Nat.le_of_ble_eq_true rfl) (f_X12_isRefused_ok e89) ?_
  refine g_if_eq 97 dX12_add_92 rfl (fun q => ?_) (fun q => ?_)
  · replace h := gif_t q h
    refine g_aload_n dX12_add_97 rfl ?_
    obtain ⟨z98, e98, h⟩ := obind h
    refine g_vU0 mv_X12_325 dX12_add_98 ok_28 ⟨by decide, by decide⟩ (Nat.le_of_ble_eq_true rfl) (f_X12_remembers_ok e98) ?_
    refine g_aload_n dX12_add_101 rfl ?_
    refine gR_X12_17 ok_28 dX12_add_102 ?_
    refine g_bipush dX12_add_105 kb_67 ?_
    refine g_iload_n dX12_add_107 rfl ?_
    refine g_iadd dX12_add_108 ?_
    obtain ⟨a109, e109, h⟩ := obind h
    refine g_ldB e109 ok_30 rfl rfl (by decide) dX12_add_109 ?_
    refine g_istore6 dX12_add_110 ?_
    refine g_bipush dX12_add_112 kb_16 ?_
    refine g_iload_n dX12_add_114 rfl ?_
    refine g_imul dX12_add_115 ?_
    refine g_istore7 dX12_add_116 ?_
    exact f_X12_add_118_ok gFuel h
  · replace h := gif_f q h
    refine g_iconst dX12_add_95 kc_m1 ?_
    cases h
    exact g_iret dX12_add_96 rfl ⟨rfl, rfl⟩
theorem f_X12_add_54_ok {v1 : Int32} {v2 : Int32} {v3 : Int32} {vs0 : Int32} {vs1 : Int32} {r : (Int32 × gSt)}  {σ : gSt} {x4 x5 x6 x7 : Option Value} (h : f_X12_add_54 v1 v2 v3 vs0 vs1 σ = some r) : G l w 0 41 RX12 cX12_add 8 (some .int) 2 46 (gE (some (.int r.1)) r.2) 54 [some (.ref (w.2.1 28 0)), some (.int v1), some (.int v2), some (.int v3), x4, x5, x6, x7] [.int vs1, .int vs0] σ := by
  unfold f_X12_add_54 at h
  obtain ⟨p54, e54, h⟩ := obind h
  refine g_sP2 ms_X12_157 dX12_add_54 ⟨by decide, by decide⟩ (Nat.le_of_ble_eq_true rfl) (f_X12_unless__ok e54) ?_
  refine g_istore5 dX12_add_57 ?_
  refine g_aload_n dX12_add_59 rfl ?_
  refine g_iload dX12_add_60 rfl ?_
  refine g_if_eq 70 dX12_add_62 rfl (fun q => ?_) (fun q => ?_)
  · replace h := gif_t q h
    refine g_aload_n dX12_add_70 rfl ?_
    refine gR_X12_17 ok_28 dX12_add_71 ?_
    refine g_bipush dX12_add_74 kb_67 ?_
    refine g_iload_n dX12_add_76 rfl ?_
    refine g_iadd dX12_add_77 ?_
    obtain ⟨a78, e78, h⟩ := obind h
    refine g_ldB e78 ok_30 rfl rfl (by decide) dX12_add_78 ?_
    refine g_bipush dX12_add_79 kb_16 ?_
    refine g_icmp_ne 88 dX12_add_81 rfl (fun q => ?_) (fun q => ?_)
    · replace h := gif_f q h
      refine g_iconst dX12_add_88 kc_0 ?_
      exact f_X12_add_89_ok h
    · replace h := gif_t q h
      refine g_iconst dX12_add_84 kc_3 ?_
      refine g_goto 89 dX12_add_85 rfl ?_
      exact f_X12_add_89_ok h
  · replace h := gif_f q h
    refine g_iload dX12_add_65 rfl ?_
    refine g_goto 89 dX12_add_67 rfl ?_
    exact f_X12_add_89_ok h
theorem f_X12_add_53_ok {v1 : Int32} {v2 : Int32} {v3 : Int32} {vs0 : Int32} {r : (Int32 × gSt)}  {σ : gSt} {x4 x5 x6 x7 : Option Value} (h : f_X12_add_53 v1 v2 v3 vs0 σ = some r) : G l w 0 41 RX12 cX12_add 8 (some .int) 2 46 (gE (some (.int r.1)) r.2) 53 [some (.ref (w.2.1 28 0)), some (.int v1), some (.int v2), some (.int v3), x4, x5, x6, x7] [.int vs0] σ := by
  unfold f_X12_add_53 at h
  refine g_iconst dX12_add_53 kc_0 ?_
  exact f_X12_add_54_ok h
theorem f_X12_add_ok {v1 : Int32} {v2 : Int32} {v3 : Int32}  {σ : gSt} {r : (Int32 × gSt)} (h : f_X12_add v1 v2 v3 σ = some r) : Mt l w 0 41 yX12_add cX12_add 8 (some .int) 2 46 [.ref (w.2.1 28 0), .int v1, .int v2, .int v3] σ (gE (some (.int r.1)) r.2) := by
  unfold f_X12_add at h
  refine g_start pn_X12 rfl rfl (Nat.le_of_ble_eq_true rfl) ?_
  show G l w 0 41 RX12 cX12_add 8 (some .int) 2 46 (gE (some (.int r.1)) r.2) 0 [some (.ref (w.2.1 28 0)), some (.int v1), some (.int v2), some (.int v3), none, none, none, none] [] σ
  refine g_aload_n dX12_add_0 rfl ?_
  refine g_iload_n dX12_add_1 rfl ?_
  obtain ⟨p2, e2, h⟩ := obind h
  refine g_vP1 mv_X12_187 dX12_add_2 ok_28 ⟨by decide, by decide⟩ (Nat.le_of_ble_eq_true rfl) (f_X12_isRunner_ok e2) ?_
  refine g_istore4 dX12_add_5 ?_
  refine g_iload dX12_add_7 rfl ?_
  refine g_iload dX12_add_9 rfl ?_
  refine g_if_eq 53 dX12_add_11 rfl (fun q => ?_) (fun q => ?_)
  · replace h := gif_t q h
    exact f_X12_add_53_ok h
  · replace h := gif_f q h
    refine g_iload_n dX12_add_14 rfl ?_
    refine g_iconst dX12_add_15 kc_1 ?_
    refine g_bipush dX12_add_16 kb_99 ?_
    obtain ⟨p18, e18, h⟩ := obind h
    refine g_sP3 ms_X12_79 dX12_add_18 ⟨by decide, by decide⟩ (Nat.le_of_ble_eq_true rfl) (f_X12_in_ok e18) ?_
    refine g_if_eq 53 dX12_add_21 rfl (fun q => ?_) (fun q => ?_)
    · replace h := gif_t q h
      exact f_X12_add_53_ok h
    · replace h := gif_f q h
      refine g_iload_n dX12_add_24 rfl ?_
      refine g_aload_n dX12_add_25 rfl ?_
      refine gR_X12_17 ok_28 dX12_add_26 ?_
      refine g_bipush dX12_add_29 kb_47 ?_
      refine g_iload_n dX12_add_31 rfl ?_
      refine g_iadd dX12_add_32 ?_
      obtain ⟨a33, e33, h⟩ := obind h
      refine g_ldB e33 ok_30 rfl rfl (by decide) dX12_add_33 ?_
      refine g_aload_n dX12_add_34 rfl ?_
      refine gR_X12_17 ok_28 dX12_add_35 ?_
      refine g_bipush dX12_add_38 kb_57 ?_
      refine g_iload_n dX12_add_40 rfl ?_
      refine g_iadd dX12_add_41 ?_
      obtain ⟨a42, e42, h⟩ := obind h
      refine g_ldB e42 ok_30 rfl rfl (by decide) dX12_add_42 ?_
      obtain ⟨p43, e43, h⟩ := obind h
      refine g_sP3 ms_X12_79 dX12_add_43 ⟨by decide, by decide⟩ (Nat.le_of_ble_eq_true rfl) (f_X12_in_ok e43) ?_
      refine g_if_eq 53 dX12_add_46 rfl (fun q => ?_) (fun q => ?_)
      · replace h := gif_t q h
        exact f_X12_add_53_ok h
      · replace h := gif_f q h
        refine g_iconst dX12_add_49 kc_1 ?_
        refine g_goto 54 dX12_add_50 rfl ?_
        exact f_X12_add_54_ok h
theorem dX12_drop_0 : decode cX12_drop 0 = .ok (.aload_n 0, 1) := by decide +kernel
theorem dX12_drop_1 : decode cX12_drop 1 = .ok (.aload_n 0, 1) := by decide +kernel
theorem dX12_drop_2 : decode cX12_drop 2 = .ok (.iload_n 1, 1) := by decide +kernel
theorem dX12_drop_3 : decode cX12_drop 3 = .ok (.iload_n 2, 1) := by decide +kernel
theorem dX12_drop_4 : decode cX12_drop 4 = .ok (.invokevirtual 258, 3) := by decide +kernel
theorem dX12_drop_7 : decode cX12_drop 7 = .ok (.invokestatic 234, 3) := by decide +kernel
theorem dX12_drop_10 : decode cX12_drop 10 = .ok (.invokevirtual 161, 3) := by decide +kernel
theorem dX12_drop_13 : decode cX12_drop 13 = .ok (.ifCond .eq 5, 3) := by decide +kernel
theorem dX12_drop_16 : decode cX12_drop 16 = .ok (.iconst (-1), 1) := by decide +kernel
theorem dX12_drop_17 : decode cX12_drop 17 = .ok (.ireturn, 1) := by decide +kernel
theorem dX12_drop_18 : decode cX12_drop 18 = .ok (.aload_n 0, 1) := by decide +kernel
theorem dX12_drop_19 : decode cX12_drop 19 = .ok (.invokevirtual 325, 3) := by decide +kernel
theorem dX12_drop_22 : decode cX12_drop 22 = .ok (.bipush 16, 2) := by decide +kernel
theorem dX12_drop_24 : decode cX12_drop 24 = .ok (.iload_n 1, 1) := by decide +kernel
theorem dX12_drop_25 : decode cX12_drop 25 = .ok (.imul, 1) := by decide +kernel
theorem dX12_drop_26 : decode cX12_drop 26 = .ok (.istore_n 3, 1) := by decide +kernel
theorem dX12_drop_27 : decode cX12_drop 27 = .ok (.aload_n 0, 1) := by decide +kernel
theorem dX12_drop_28 : decode cX12_drop 28 = .ok (.getfield 17, 3) := by decide +kernel
theorem dX12_drop_31 : decode cX12_drop 31 = .ok (.bipush 77, 2) := by decide +kernel
theorem dX12_drop_33 : decode cX12_drop 33 = .ok (.iload_n 3, 1) := by decide +kernel
theorem dX12_drop_34 : decode cX12_drop 34 = .ok (.iadd, 1) := by decide +kernel
theorem dX12_drop_35 : decode cX12_drop 35 = .ok (.iload_n 2, 1) := by decide +kernel
theorem dX12_drop_36 : decode cX12_drop 36 = .ok (.iadd, 1) := by decide +kernel
theorem dX12_drop_37 : decode cX12_drop 37 = .ok (.iaload, 1) := by decide +kernel
theorem dX12_drop_38 : decode cX12_drop 38 = .ok (.istore 4, 2) := by decide +kernel
theorem dX12_drop_40 : decode cX12_drop 40 = .ok (.aload_n 0, 1) := by decide +kernel
theorem dX12_drop_41 : decode cX12_drop 41 = .ok (.getfield 17, 3) := by decide +kernel
theorem dX12_drop_44 : decode cX12_drop 44 = .ok (.bipush 67, 2) := by decide +kernel
theorem dX12_drop_46 : decode cX12_drop 46 = .ok (.iload_n 1, 1) := by decide +kernel
theorem dX12_drop_47 : decode cX12_drop 47 = .ok (.iadd, 1) := by decide +kernel
theorem dX12_drop_48 : decode cX12_drop 48 = .ok (.dup2, 1) := by decide +kernel
theorem dX12_drop_49 : decode cX12_drop 49 = .ok (.iaload, 1) := by decide +kernel
theorem dX12_drop_50 : decode cX12_drop 50 = .ok (.iconst 1, 1) := by decide +kernel
theorem dX12_drop_51 : decode cX12_drop 51 = .ok (.isub, 1) := by decide +kernel
theorem dX12_drop_52 : decode cX12_drop 52 = .ok (.iastore, 1) := by decide +kernel
theorem dX12_drop_53 : decode cX12_drop 53 = .ok (.iload_n 2, 1) := by decide +kernel
theorem dX12_drop_54 : decode cX12_drop 54 = .ok (.istore 5, 2) := by decide +kernel
theorem dX12_drop_56 : decode cX12_drop 56 = .ok (.iload 5, 2) := by decide +kernel
theorem dX12_drop_58 : decode cX12_drop 58 = .ok (.aload_n 0, 1) := by decide +kernel
theorem dX12_drop_59 : decode cX12_drop 59 = .ok (.getfield 17, 3) := by decide +kernel
theorem dX12_drop_62 : decode cX12_drop 62 = .ok (.bipush 67, 2) := by decide +kernel
theorem dX12_drop_64 : decode cX12_drop 64 = .ok (.iload_n 1, 1) := by decide +kernel
theorem dX12_drop_65 : decode cX12_drop 65 = .ok (.iadd, 1) := by decide +kernel
theorem dX12_drop_66 : decode cX12_drop 66 = .ok (.iaload, 1) := by decide +kernel
theorem dX12_drop_67 : decode cX12_drop 67 = .ok (.if_icmp .ge 63, 3) := by decide +kernel
theorem dX12_drop_70 : decode cX12_drop 70 = .ok (.aload_n 0, 1) := by decide +kernel
theorem dX12_drop_71 : decode cX12_drop 71 = .ok (.getfield 17, 3) := by decide +kernel
theorem dX12_drop_74 : decode cX12_drop 74 = .ok (.sipush 237, 3) := by decide +kernel
theorem dX12_drop_77 : decode cX12_drop 77 = .ok (.iload_n 3, 1) := by decide +kernel
theorem dX12_drop_78 : decode cX12_drop 78 = .ok (.iadd, 1) := by decide +kernel
theorem dX12_drop_79 : decode cX12_drop 79 = .ok (.iload 5, 2) := by decide +kernel
theorem dX12_drop_81 : decode cX12_drop 81 = .ok (.iadd, 1) := by decide +kernel
theorem dX12_drop_82 : decode cX12_drop 82 = .ok (.aload_n 0, 1) := by decide +kernel
theorem dX12_drop_83 : decode cX12_drop 83 = .ok (.getfield 17, 3) := by decide +kernel
theorem dX12_drop_86 : decode cX12_drop 86 = .ok (.sipush 237, 3) := by decide +kernel
theorem dX12_drop_89 : decode cX12_drop 89 = .ok (.iload_n 3, 1) := by decide +kernel
theorem dX12_drop_90 : decode cX12_drop 90 = .ok (.iadd, 1) := by decide +kernel
theorem dX12_drop_91 : decode cX12_drop 91 = .ok (.iload 5, 2) := by decide +kernel
theorem dX12_drop_93 : decode cX12_drop 93 = .ok (.iadd, 1) := by decide +kernel
theorem dX12_drop_94 : decode cX12_drop 94 = .ok (.iconst 1, 1) := by decide +kernel
theorem dX12_drop_95 : decode cX12_drop 95 = .ok (.iadd, 1) := by decide +kernel
theorem dX12_drop_96 : decode cX12_drop 96 = .ok (.iaload, 1) := by decide +kernel
theorem dX12_drop_97 : decode cX12_drop 97 = .ok (.iastore, 1) := by decide +kernel
theorem dX12_drop_98 : decode cX12_drop 98 = .ok (.aload_n 0, 1) := by decide +kernel
theorem dX12_drop_99 : decode cX12_drop 99 = .ok (.getfield 17, 3) := by decide +kernel
theorem dX12_drop_102 : decode cX12_drop 102 = .ok (.bipush 77, 2) := by decide +kernel
theorem dX12_drop_104 : decode cX12_drop 104 = .ok (.iload_n 3, 1) := by decide +kernel
theorem dX12_drop_105 : decode cX12_drop 105 = .ok (.iadd, 1) := by decide +kernel
theorem dX12_drop_106 : decode cX12_drop 106 = .ok (.iload 5, 2) := by decide +kernel
theorem dX12_drop_108 : decode cX12_drop 108 = .ok (.iadd, 1) := by decide +kernel
theorem dX12_drop_109 : decode cX12_drop 109 = .ok (.aload_n 0, 1) := by decide +kernel
theorem dX12_drop_110 : decode cX12_drop 110 = .ok (.getfield 17, 3) := by decide +kernel
theorem dX12_drop_113 : decode cX12_drop 113 = .ok (.bipush 77, 2) := by decide +kernel
theorem dX12_drop_115 : decode cX12_drop 115 = .ok (.iload_n 3, 1) := by decide +kernel
theorem dX12_drop_116 : decode cX12_drop 116 = .ok (.iadd, 1) := by decide +kernel
theorem dX12_drop_117 : decode cX12_drop 117 = .ok (.iload 5, 2) := by decide +kernel
theorem dX12_drop_119 : decode cX12_drop 119 = .ok (.iadd, 1) := by decide +kernel
theorem dX12_drop_120 : decode cX12_drop 120 = .ok (.iconst 1, 1) := by decide +kernel
theorem dX12_drop_121 : decode cX12_drop 121 = .ok (.iadd, 1) := by decide +kernel
theorem dX12_drop_122 : decode cX12_drop 122 = .ok (.iaload, 1) := by decide +kernel
theorem dX12_drop_123 : decode cX12_drop 123 = .ok (.iastore, 1) := by decide +kernel
theorem dX12_drop_124 : decode cX12_drop 124 = .ok (.iinc 5 1, 3) := by decide +kernel
theorem dX12_drop_127 : decode cX12_drop 127 = .ok (.goto (-71), 3) := by decide +kernel
theorem dX12_drop_130 : decode cX12_drop 130 = .ok (.iload 4, 2) := by decide +kernel
theorem dX12_drop_132 : decode cX12_drop 132 = .ok (.ireturn, 1) := by decide +kernel
def f_X12_drop_56 (v1 : Int32) (v3 : Int32) (v4 : Int32) : Nat → Int32 → gSt → Option (Int32 × gSt)
  | 0, _, _ => none
  | n + 1, v5, σ =>
    (gld σ 30 0 397 (67 + v1)).bind fun a66 =>
    if a66 ≤ v5 then
      some (v4, σ)
    else
      (gld σ 30 0 397 (((237 + v3) + v5) + 1)).bind fun a96 =>
      (gst σ 30 0 397 ((237 + v3) + v5) a96).bind fun z97 =>
      (gld z97 30 0 397 (((77 + v3) + v5) + 1)).bind fun a122 =>
      (gst z97 30 0 397 ((77 + v3) + v5) a122).bind fun z123 =>
      f_X12_drop_56 v1 v3 v4 n (v5 + 1) z123
def f_X12_drop (v1 : Int32) (v2 : Int32) (σ : gSt) : Option (Int32 × gSt) :=
  (f_X12_isPunch v1 v2 σ).bind fun p4 =>
  (f_X12_unless p4.1 p4.2).bind fun p7 =>
  (f_X12_isRefused p7.1 p7.2).bind fun p10 =>
  if p10.1 = 0 then
    (f_X12_remembers p10.2).bind fun z19 =>
    (gld z19 30 0 397 ((77 + (16 * v1)) + v2)).bind fun a37 =>
    (gld z19 30 0 397 (67 + v1)).bind fun a49 =>
    (gst z19 30 0 397 (67 + v1) (a49 - 1)).bind fun z52 =>
    f_X12_drop_56 v1 (16 * v1) a37 gFuel v2 z52
  else
    some ((-1), p10.2)
theorem f_X12_drop_56_ok {v1 : Int32} {v3 : Int32} {v4 : Int32} {r : (Int32 × gSt)}  : ∀ (n : Nat) {v5 : Int32} {σ : gSt} {x2 : Option Value}, f_X12_drop_56 v1 v3 v4 n v5 σ = some r → G l w 0 41 RX12 cX12_drop 6 (some .int) 3 65 (gE (some (.int r.1)) r.2) 56 [some (.ref (w.2.1 28 0)), some (.int v1), x2, some (.int v3), some (.int v4), some (.int v5)] [] σ := by
  intro n
  induction n with
  | zero => intro v5 σ x2 h; rw [f_X12_drop_56] at h; cases h
  | succ n ih =>
    intro v5 σ x2 h
    rw [f_X12_drop_56] at h
    refine g_iload dX12_drop_56 rfl ?_
    refine g_aload_n dX12_drop_58 rfl ?_
    refine gR_X12_17 ok_28 dX12_drop_59 ?_
    refine g_bipush dX12_drop_62 kb_67 ?_
    refine g_iload_n dX12_drop_64 rfl ?_
    refine g_iadd dX12_drop_65 ?_
    obtain ⟨a66, e66, h⟩ := obind h
    refine g_ldB e66 ok_30 rfl rfl (by decide) dX12_drop_66 ?_
    refine g_icmp_ge 130 dX12_drop_67 rfl (fun q => ?_) (fun q => ?_)
    · replace h := gif_t q h
      refine g_iload dX12_drop_130 rfl ?_
      cases h
      exact g_iret dX12_drop_132 rfl ⟨rfl, rfl⟩
    · replace h := gif_f q h
      refine g_aload_n dX12_drop_70 rfl ?_
      refine gR_X12_17 ok_28 dX12_drop_71 ?_
      refine g_sipush dX12_drop_74 ks_237 ?_
      refine g_iload_n dX12_drop_77 rfl ?_
      refine g_iadd dX12_drop_78 ?_
      refine g_iload dX12_drop_79 rfl ?_
      refine g_iadd dX12_drop_81 ?_
      refine g_aload_n dX12_drop_82 rfl ?_
      refine gR_X12_17 ok_28 dX12_drop_83 ?_
      refine g_sipush dX12_drop_86 ks_237 ?_
      refine g_iload_n dX12_drop_89 rfl ?_
      refine g_iadd dX12_drop_90 ?_
      refine g_iload dX12_drop_91 rfl ?_
      refine g_iadd dX12_drop_93 ?_
      refine g_iconst dX12_drop_94 kc_1 ?_
      refine g_iadd dX12_drop_95 ?_
      obtain ⟨a96, e96, h⟩ := obind h
      refine g_ldB e96 ok_30 rfl rfl (by decide) dX12_drop_96 ?_
      obtain ⟨z97, e97, h⟩ := obind h
      refine g_stB e97 ok_30 rfl rfl (by decide) dX12_drop_97 ?_
      refine g_aload_n dX12_drop_98 rfl ?_
      refine gR_X12_17 ok_28 dX12_drop_99 ?_
      refine g_bipush dX12_drop_102 kb_77 ?_
      refine g_iload_n dX12_drop_104 rfl ?_
      refine g_iadd dX12_drop_105 ?_
      refine g_iload dX12_drop_106 rfl ?_
      refine g_iadd dX12_drop_108 ?_
      refine g_aload_n dX12_drop_109 rfl ?_
      refine gR_X12_17 ok_28 dX12_drop_110 ?_
      refine g_bipush dX12_drop_113 kb_77 ?_
      refine g_iload_n dX12_drop_115 rfl ?_
      refine g_iadd dX12_drop_116 ?_
      refine g_iload dX12_drop_117 rfl ?_
      refine g_iadd dX12_drop_119 ?_
      refine g_iconst dX12_drop_120 kc_1 ?_
      refine g_iadd dX12_drop_121 ?_
      obtain ⟨a122, e122, h⟩ := obind h
      refine g_ldB e122 ok_30 rfl rfl (by decide) dX12_drop_122 ?_
      obtain ⟨z123, e123, h⟩ := obind h
      refine g_stB e123 ok_30 rfl rfl (by decide) dX12_drop_123 ?_
      refine g_inc5 kc_1 dX12_drop_124 ?_
      refine g_goto 56 dX12_drop_127 rfl ?_
      exact ih h
theorem f_X12_drop_ok {v1 : Int32} {v2 : Int32}  {σ : gSt} {r : (Int32 × gSt)} (h : f_X12_drop v1 v2 σ = some r) : Mt l w 0 41 yX12_drop cX12_drop 6 (some .int) 3 65 [.ref (w.2.1 28 0), .int v1, .int v2] σ (gE (some (.int r.1)) r.2) := by
  unfold f_X12_drop at h
  refine g_start pn_X12 rfl rfl (Nat.le_of_ble_eq_true rfl) ?_
  show G l w 0 41 RX12 cX12_drop 6 (some .int) 3 65 (gE (some (.int r.1)) r.2) 0 [some (.ref (w.2.1 28 0)), some (.int v1), some (.int v2), none, none, none] [] σ
  refine g_aload_n dX12_drop_0 rfl ?_
  refine g_aload_n dX12_drop_1 rfl ?_
  refine g_iload_n dX12_drop_2 rfl ?_
  refine g_iload_n dX12_drop_3 rfl ?_
  obtain ⟨p4, e4, h⟩ := obind h
  refine g_vP2 mv_X12_258 dX12_drop_4 ok_28 ⟨by decide, by decide⟩ (Nat.le_of_ble_eq_true rfl) (f_X12_isPunch_ok e4) ?_
  obtain ⟨p7, e7, h⟩ := obind h
  refine g_sP1 ms_X12_234 dX12_drop_7 ⟨by decide, by decide⟩ (Nat.le_of_ble_eq_true rfl) (f_X12_unless_ok e7) ?_
  obtain ⟨p10, e10, h⟩ := obind h
  refine g_vP1 mv_X12_161 dX12_drop_10 ok_28 ⟨by decide, by decide⟩ (Nat.le_of_ble_eq_true rfl) (f_X12_isRefused_ok e10) ?_
  refine g_if_eq 18 dX12_drop_13 rfl (fun q => ?_) (fun q => ?_)
  · replace h := gif_t q h
    refine g_aload_n dX12_drop_18 rfl ?_
    obtain ⟨z19, e19, h⟩ := obind h
    refine g_vU0 mv_X12_325 dX12_drop_19 ok_28 ⟨by decide, by decide⟩ (Nat.le_of_ble_eq_true rfl) (f_X12_remembers_ok e19) ?_
    refine g_bipush dX12_drop_22 kb_16 ?_
    refine g_iload_n dX12_drop_24 rfl ?_
    refine g_imul dX12_drop_25 ?_
    refine g_istore3 dX12_drop_26 ?_
    refine g_aload_n dX12_drop_27 rfl ?_
    refine gR_X12_17 ok_28 dX12_drop_28 ?_
    refine g_bipush dX12_drop_31 kb_77 ?_
    refine g_iload_n dX12_drop_33 rfl ?_
    refine g_iadd dX12_drop_34 ?_
    refine g_iload_n dX12_drop_35 rfl ?_
    refine g_iadd dX12_drop_36 ?_
    obtain ⟨a37, e37, h⟩ := obind h
    refine g_ldB e37 ok_30 rfl rfl (by decide) dX12_drop_37 ?_
    refine g_istore4 dX12_drop_38 ?_
    refine g_aload_n dX12_drop_40 rfl ?_
    refine gR_X12_17 ok_28 dX12_drop_41 ?_
    refine g_bipush dX12_drop_44 kb_67 ?_
    refine g_iload_n dX12_drop_46 rfl ?_
    refine g_iadd dX12_drop_47 ?_
    refine g_dup2 dX12_drop_48 rfl rfl ?_
    obtain ⟨a49, e49, h⟩ := obind h
    refine g_ldB e49 ok_30 rfl rfl (by decide) dX12_drop_49 ?_
    refine g_iconst dX12_drop_50 kc_1 ?_
    refine g_isub dX12_drop_51 ?_
    obtain ⟨z52, e52, h⟩ := obind h
    refine g_stB e52 ok_30 rfl rfl (by decide) dX12_drop_52 ?_
    refine g_iload_n dX12_drop_53 rfl ?_
    refine g_istore5 dX12_drop_54 ?_
    exact f_X12_drop_56_ok gFuel h
  · replace h := gif_f q h
    refine g_iconst dX12_drop_16 kc_m1 ?_
    cases h
    exact g_iret dX12_drop_17 rfl ⟨rfl, rfl⟩
theorem dX12_start_0 : decode cX12_start 0 = .ok (.aload_n 0, 1) := by decide +kernel
theorem dX12_start_1 : decode cX12_start 1 = .ok (.iload_n 1, 1) := by decide +kernel
theorem dX12_start_2 : decode cX12_start 2 = .ok (.invokevirtual 187, 3) := by decide +kernel
theorem dX12_start_5 : decode cX12_start 5 = .ok (.istore_n 3, 1) := by decide +kernel
theorem dX12_start_6 : decode cX12_start 6 = .ok (.iload_n 3, 1) := by decide +kernel
theorem dX12_start_7 : decode cX12_start 7 = .ok (.iload_n 3, 1) := by decide +kernel
theorem dX12_start_8 : decode cX12_start 8 = .ok (.ifCond .eq 26, 3) := by decide +kernel
theorem dX12_start_11 : decode cX12_start 11 = .ok (.iload_n 2, 1) := by decide +kernel
theorem dX12_start_12 : decode cX12_start 12 = .ok (.iconst 0, 1) := by decide +kernel
theorem dX12_start_13 : decode cX12_start 13 = .ok (.aload_n 0, 1) := by decide +kernel
theorem dX12_start_14 : decode cX12_start 14 = .ok (.getfield 17, 3) := by decide +kernel
theorem dX12_start_17 : decode cX12_start 17 = .ok (.bipush 57, 2) := by decide +kernel
theorem dX12_start_19 : decode cX12_start 19 = .ok (.iload_n 1, 1) := by decide +kernel
theorem dX12_start_20 : decode cX12_start 20 = .ok (.iadd, 1) := by decide +kernel
theorem dX12_start_21 : decode cX12_start 21 = .ok (.iaload, 1) := by decide +kernel
theorem dX12_start_22 : decode cX12_start 22 = .ok (.iconst 1, 1) := by decide +kernel
theorem dX12_start_23 : decode cX12_start 23 = .ok (.isub, 1) := by decide +kernel
theorem dX12_start_24 : decode cX12_start 24 = .ok (.invokestatic 79, 3) := by decide +kernel
theorem dX12_start_27 : decode cX12_start 27 = .ok (.ifCond .eq 7, 3) := by decide +kernel
theorem dX12_start_30 : decode cX12_start 30 = .ok (.iconst 1, 1) := by decide +kernel
theorem dX12_start_31 : decode cX12_start 31 = .ok (.goto 4, 3) := by decide +kernel
theorem dX12_start_34 : decode cX12_start 34 = .ok (.iconst 0, 1) := by decide +kernel
theorem dX12_start_35 : decode cX12_start 35 = .ok (.invokestatic 157, 3) := by decide +kernel
theorem dX12_start_38 : decode cX12_start 38 = .ok (.istore 4, 2) := by decide +kernel
theorem dX12_start_40 : decode cX12_start 40 = .ok (.aload_n 0, 1) := by decide +kernel
theorem dX12_start_41 : decode cX12_start 41 = .ok (.iload 4, 2) := by decide +kernel
theorem dX12_start_43 : decode cX12_start 43 = .ok (.ifCond .eq 8, 3) := by decide +kernel
theorem dX12_start_46 : decode cX12_start 46 = .ok (.iload 4, 2) := by decide +kernel
theorem dX12_start_48 : decode cX12_start 48 = .ok (.goto 30, 3) := by decide +kernel
theorem dX12_start_51 : decode cX12_start 51 = .ok (.aload_n 0, 1) := by decide +kernel
theorem dX12_start_52 : decode cX12_start 52 = .ok (.getfield 17, 3) := by decide +kernel
theorem dX12_start_55 : decode cX12_start 55 = .ok (.bipush 67, 2) := by decide +kernel
theorem dX12_start_57 : decode cX12_start 57 = .ok (.iload_n 1, 1) := by decide +kernel
theorem dX12_start_58 : decode cX12_start 58 = .ok (.iadd, 1) := by decide +kernel
theorem dX12_start_59 : decode cX12_start 59 = .ok (.iaload, 1) := by decide +kernel
theorem dX12_start_60 : decode cX12_start 60 = .ok (.ifCond .le 17, 3) := by decide +kernel
theorem dX12_start_63 : decode cX12_start 63 = .ok (.aload_n 0, 1) := by decide +kernel
theorem dX12_start_64 : decode cX12_start 64 = .ok (.iload_n 1, 1) := by decide +kernel
theorem dX12_start_65 : decode cX12_start 65 = .ok (.iconst 0, 1) := by decide +kernel
theorem dX12_start_66 : decode cX12_start 66 = .ok (.invokevirtual 209, 3) := by decide +kernel
theorem dX12_start_69 : decode cX12_start 69 = .ok (.iload_n 2, 1) := by decide +kernel
theorem dX12_start_70 : decode cX12_start 70 = .ok (.if_icmp .ge 7, 3) := by decide +kernel
theorem dX12_start_73 : decode cX12_start 73 = .ok (.iconst 5, 1) := by decide +kernel
theorem dX12_start_74 : decode cX12_start 74 = .ok (.goto 4, 3) := by decide +kernel
theorem dX12_start_77 : decode cX12_start 77 = .ok (.iconst 0, 1) := by decide +kernel
theorem dX12_start_78 : decode cX12_start 78 = .ok (.invokevirtual 161, 3) := by decide +kernel
theorem dX12_start_81 : decode cX12_start 81 = .ok (.ifCond .eq 5, 3) := by decide +kernel
theorem dX12_start_84 : decode cX12_start 84 = .ok (.iconst (-1), 1) := by decide +kernel
theorem dX12_start_85 : decode cX12_start 85 = .ok (.ireturn, 1) := by decide +kernel
theorem dX12_start_86 : decode cX12_start 86 = .ok (.aload_n 0, 1) := by decide +kernel
theorem dX12_start_87 : decode cX12_start 87 = .ok (.bipush 47, 2) := by decide +kernel
theorem dX12_start_89 : decode cX12_start 89 = .ok (.iload_n 1, 1) := by decide +kernel
theorem dX12_start_90 : decode cX12_start 90 = .ok (.iadd, 1) := by decide +kernel
theorem dX12_start_91 : decode cX12_start 91 = .ok (.iload_n 2, 1) := by decide +kernel
theorem dX12_start_92 : decode cX12_start 92 = .ok (.invokevirtual 328, 3) := by decide +kernel
theorem dX12_start_95 : decode cX12_start 95 = .ok (.ireturn, 1) := by decide +kernel
def f_X12_start_78 (v1 : Int32) (v2 : Int32) (vs1 : Int32) (σ : gSt) : Option (Int32 × gSt) :=
  (f_X12_isRefused vs1 σ).bind fun p78 =>
  if p78.1 = 0 then
    (f_X12_comes (47 + v1) v2 p78.2).bind fun p92 =>
    some (p92.1, p92.2)
  else
    some ((-1), p78.2)
def f_X12_start_77 (v1 : Int32) (v2 : Int32) (σ : gSt) : Option (Int32 × gSt) :=
  f_X12_start_78 v1 v2 0 σ
def f_X12_start_35 (v1 : Int32) (v2 : Int32) (vs0 : Int32) (vs1 : Int32) (σ : gSt) : Option (Int32 × gSt) :=
  (f_X12_unless_ vs0 vs1 σ).bind fun p35 =>
  if p35.1 = 0 then
    (gld p35.2 30 0 397 (67 + v1)).bind fun a59 =>
    if a59 ≤ 0 then
      f_X12_start_77 v1 v2 p35.2
    else
      (f_X12_punchTime v1 0 p35.2).bind fun p66 =>
      if v2 ≤ p66.1 then
        f_X12_start_77 v1 v2 p66.2
      else
        f_X12_start_78 v1 v2 5 p66.2
  else
    f_X12_start_78 v1 v2 p35.1 p35.2
def f_X12_start_34 (v1 : Int32) (v2 : Int32) (vs0 : Int32) (σ : gSt) : Option (Int32 × gSt) :=
  f_X12_start_35 v1 v2 vs0 0 σ
def f_X12_start (v1 : Int32) (v2 : Int32) (σ : gSt) : Option (Int32 × gSt) :=
  (f_X12_isRunner v1 σ).bind fun p2 =>
  if p2.1 = 0 then
    f_X12_start_34 v1 v2 p2.1 p2.2
  else
    (gld p2.2 30 0 397 (57 + v1)).bind fun a21 =>
    (f_X12_in v2 0 (a21 - 1) p2.2).bind fun p24 =>
    if p24.1 = 0 then
      f_X12_start_34 v1 v2 p2.1 p24.2
    else
      f_X12_start_35 v1 v2 p2.1 1 p24.2
theorem f_X12_start_78_ok {v1 : Int32} {v2 : Int32} {vs1 : Int32} {r : (Int32 × gSt)}  {σ : gSt} {x3 x4 : Option Value} (h : f_X12_start_78 v1 v2 vs1 σ = some r) : G l w 0 41 RX12 cX12_start 5 (some .int) 3 69 (gE (some (.int r.1)) r.2) 78 [some (.ref (w.2.1 28 0)), some (.int v1), some (.int v2), x3, x4] [.int vs1, .ref (w.2.1 28 0)] σ := by
  unfold f_X12_start_78 at h
  obtain ⟨p78, e78, h⟩ := obind h
  refine g_vP1 mv_X12_161 dX12_start_78 ok_28 ⟨by decide, by decide⟩ (Nat.le_of_ble_eq_true rfl) (f_X12_isRefused_ok e78) ?_
  refine g_if_eq 86 dX12_start_81 rfl (fun q => ?_) (fun q => ?_)
  · replace h := gif_t q h
    refine g_aload_n dX12_start_86 rfl ?_
    refine g_bipush dX12_start_87 kb_47 ?_
    refine g_iload_n dX12_start_89 rfl ?_
    refine g_iadd dX12_start_90 ?_
    refine g_iload_n dX12_start_91 rfl ?_
    obtain ⟨p92, e92, h⟩ := obind h
    refine g_vP2 mv_X12_328 dX12_start_92 ok_28 ⟨by decide, by decide⟩ (Nat.le_of_ble_eq_true rfl) (f_X12_comes_ok e92) ?_
    cases h
    exact g_iret dX12_start_95 rfl ⟨rfl, rfl⟩
  · replace h := gif_f q h
    refine g_iconst dX12_start_84 kc_m1 ?_
    cases h
    exact g_iret dX12_start_85 rfl ⟨rfl, rfl⟩
theorem f_X12_start_77_ok {v1 : Int32} {v2 : Int32} {r : (Int32 × gSt)}  {σ : gSt} {x3 x4 : Option Value} (h : f_X12_start_77 v1 v2 σ = some r) : G l w 0 41 RX12 cX12_start 5 (some .int) 3 69 (gE (some (.int r.1)) r.2) 77 [some (.ref (w.2.1 28 0)), some (.int v1), some (.int v2), x3, x4] [.ref (w.2.1 28 0)] σ := by
  unfold f_X12_start_77 at h
  refine g_iconst dX12_start_77 kc_0 ?_
  exact f_X12_start_78_ok h
theorem f_X12_start_35_ok {v1 : Int32} {v2 : Int32} {vs0 : Int32} {vs1 : Int32} {r : (Int32 × gSt)}  {σ : gSt} {x3 x4 : Option Value} (h : f_X12_start_35 v1 v2 vs0 vs1 σ = some r) : G l w 0 41 RX12 cX12_start 5 (some .int) 3 69 (gE (some (.int r.1)) r.2) 35 [some (.ref (w.2.1 28 0)), some (.int v1), some (.int v2), x3, x4] [.int vs1, .int vs0] σ := by
  unfold f_X12_start_35 at h
  obtain ⟨p35, e35, h⟩ := obind h
  refine g_sP2 ms_X12_157 dX12_start_35 ⟨by decide, by decide⟩ (Nat.le_of_ble_eq_true rfl) (f_X12_unless__ok e35) ?_
  refine g_istore4 dX12_start_38 ?_
  refine g_aload_n dX12_start_40 rfl ?_
  refine g_iload dX12_start_41 rfl ?_
  refine g_if_eq 51 dX12_start_43 rfl (fun q => ?_) (fun q => ?_)
  · replace h := gif_t q h
    refine g_aload_n dX12_start_51 rfl ?_
    refine gR_X12_17 ok_28 dX12_start_52 ?_
    refine g_bipush dX12_start_55 kb_67 ?_
    refine g_iload_n dX12_start_57 rfl ?_
    refine g_iadd dX12_start_58 ?_
    obtain ⟨a59, e59, h⟩ := obind h
    refine g_ldB e59 ok_30 rfl rfl (by decide) dX12_start_59 ?_
    refine g_if_le 77 dX12_start_60 rfl (fun q => ?_) (fun q => ?_)
    · replace h := gif_t q h
      exact f_X12_start_77_ok h
    · replace h := gif_f q h
      refine g_aload_n dX12_start_63 rfl ?_
      refine g_iload_n dX12_start_64 rfl ?_
      refine g_iconst dX12_start_65 kc_0 ?_
      obtain ⟨p66, e66, h⟩ := obind h
      refine g_vP2 mv_X12_209 dX12_start_66 ok_28 ⟨by decide, by decide⟩ (Nat.le_of_ble_eq_true rfl) (f_X12_punchTime_ok e66) ?_
      refine g_iload_n dX12_start_69 rfl ?_
      refine g_icmp_ge 77 dX12_start_70 rfl (fun q => ?_) (fun q => ?_)
      · replace h := gif_t q h
        exact f_X12_start_77_ok h
      · replace h := gif_f q h
        refine g_iconst dX12_start_73 kc_5 ?_
        refine g_goto 78 dX12_start_74 rfl ?_
        exact f_X12_start_78_ok h
  · replace h := gif_f q h
    refine g_iload dX12_start_46 rfl ?_
    refine g_goto 78 dX12_start_48 rfl ?_
    exact f_X12_start_78_ok h
theorem f_X12_start_34_ok {v1 : Int32} {v2 : Int32} {vs0 : Int32} {r : (Int32 × gSt)}  {σ : gSt} {x3 x4 : Option Value} (h : f_X12_start_34 v1 v2 vs0 σ = some r) : G l w 0 41 RX12 cX12_start 5 (some .int) 3 69 (gE (some (.int r.1)) r.2) 34 [some (.ref (w.2.1 28 0)), some (.int v1), some (.int v2), x3, x4] [.int vs0] σ := by
  unfold f_X12_start_34 at h
  refine g_iconst dX12_start_34 kc_0 ?_
  exact f_X12_start_35_ok h
theorem f_X12_start_ok {v1 : Int32} {v2 : Int32}  {σ : gSt} {r : (Int32 × gSt)} (h : f_X12_start v1 v2 σ = some r) : Mt l w 0 41 yX12_start cX12_start 5 (some .int) 3 69 [.ref (w.2.1 28 0), .int v1, .int v2] σ (gE (some (.int r.1)) r.2) := by
  unfold f_X12_start at h
  refine g_start pn_X12 rfl rfl (Nat.le_of_ble_eq_true rfl) ?_
  show G l w 0 41 RX12 cX12_start 5 (some .int) 3 69 (gE (some (.int r.1)) r.2) 0 [some (.ref (w.2.1 28 0)), some (.int v1), some (.int v2), none, none] [] σ
  refine g_aload_n dX12_start_0 rfl ?_
  refine g_iload_n dX12_start_1 rfl ?_
  obtain ⟨p2, e2, h⟩ := obind h
  refine g_vP1 mv_X12_187 dX12_start_2 ok_28 ⟨by decide, by decide⟩ (Nat.le_of_ble_eq_true rfl) (f_X12_isRunner_ok e2) ?_
  refine g_istore3 dX12_start_5 ?_
  refine g_iload_n dX12_start_6 rfl ?_
  refine g_iload_n dX12_start_7 rfl ?_
  refine g_if_eq 34 dX12_start_8 rfl (fun q => ?_) (fun q => ?_)
  · replace h := gif_t q h
    exact f_X12_start_34_ok h
  · replace h := gif_f q h
    refine g_iload_n dX12_start_11 rfl ?_
    refine g_iconst dX12_start_12 kc_0 ?_
    refine g_aload_n dX12_start_13 rfl ?_
    refine gR_X12_17 ok_28 dX12_start_14 ?_
    refine g_bipush dX12_start_17 kb_57 ?_
    refine g_iload_n dX12_start_19 rfl ?_
    refine g_iadd dX12_start_20 ?_
    obtain ⟨a21, e21, h⟩ := obind h
    refine g_ldB e21 ok_30 rfl rfl (by decide) dX12_start_21 ?_
    refine g_iconst dX12_start_22 kc_1 ?_
    refine g_isub dX12_start_23 ?_
    obtain ⟨p24, e24, h⟩ := obind h
    refine g_sP3 ms_X12_79 dX12_start_24 ⟨by decide, by decide⟩ (Nat.le_of_ble_eq_true rfl) (f_X12_in_ok e24) ?_
    refine g_if_eq 34 dX12_start_27 rfl (fun q => ?_) (fun q => ?_)
    · replace h := gif_t q h
      exact f_X12_start_34_ok h
    · replace h := gif_f q h
      refine g_iconst dX12_start_30 kc_1 ?_
      refine g_goto 35 dX12_start_31 rfl ?_
      exact f_X12_start_35_ok h
theorem dX12_finish_0 : decode cX12_finish 0 = .ok (.aload_n 0, 1) := by decide +kernel
theorem dX12_finish_1 : decode cX12_finish 1 = .ok (.iload_n 1, 1) := by decide +kernel
theorem dX12_finish_2 : decode cX12_finish 2 = .ok (.invokevirtual 187, 3) := by decide +kernel
theorem dX12_finish_5 : decode cX12_finish 5 = .ok (.istore_n 3, 1) := by decide +kernel
theorem dX12_finish_6 : decode cX12_finish 6 = .ok (.iload_n 3, 1) := by decide +kernel
theorem dX12_finish_7 : decode cX12_finish 7 = .ok (.iload_n 3, 1) := by decide +kernel
theorem dX12_finish_8 : decode cX12_finish 8 = .ok (.ifCond .eq 28, 3) := by decide +kernel
theorem dX12_finish_11 : decode cX12_finish 11 = .ok (.iload_n 2, 1) := by decide +kernel
theorem dX12_finish_12 : decode cX12_finish 12 = .ok (.aload_n 0, 1) := by decide +kernel
theorem dX12_finish_13 : decode cX12_finish 13 = .ok (.getfield 17, 3) := by decide +kernel
theorem dX12_finish_16 : decode cX12_finish 16 = .ok (.bipush 47, 2) := by decide +kernel
theorem dX12_finish_18 : decode cX12_finish 18 = .ok (.iload_n 1, 1) := by decide +kernel
theorem dX12_finish_19 : decode cX12_finish 19 = .ok (.iadd, 1) := by decide +kernel
theorem dX12_finish_20 : decode cX12_finish 20 = .ok (.iaload, 1) := by decide +kernel
theorem dX12_finish_21 : decode cX12_finish 21 = .ok (.iconst 1, 1) := by decide +kernel
theorem dX12_finish_22 : decode cX12_finish 22 = .ok (.iadd, 1) := by decide +kernel
theorem dX12_finish_23 : decode cX12_finish 23 = .ok (.sipush 9999, 3) := by decide +kernel
theorem dX12_finish_26 : decode cX12_finish 26 = .ok (.invokestatic 79, 3) := by decide +kernel
theorem dX12_finish_29 : decode cX12_finish 29 = .ok (.ifCond .eq 7, 3) := by decide +kernel
theorem dX12_finish_32 : decode cX12_finish 32 = .ok (.iconst 1, 1) := by decide +kernel
theorem dX12_finish_33 : decode cX12_finish 33 = .ok (.goto 4, 3) := by decide +kernel
theorem dX12_finish_36 : decode cX12_finish 36 = .ok (.iconst 0, 1) := by decide +kernel
theorem dX12_finish_37 : decode cX12_finish 37 = .ok (.invokestatic 157, 3) := by decide +kernel
theorem dX12_finish_40 : decode cX12_finish 40 = .ok (.istore 4, 2) := by decide +kernel
theorem dX12_finish_42 : decode cX12_finish 42 = .ok (.aload_n 0, 1) := by decide +kernel
theorem dX12_finish_43 : decode cX12_finish 43 = .ok (.iload 4, 2) := by decide +kernel
theorem dX12_finish_45 : decode cX12_finish 45 = .ok (.ifCond .eq 8, 3) := by decide +kernel
theorem dX12_finish_48 : decode cX12_finish 48 = .ok (.iload 4, 2) := by decide +kernel
theorem dX12_finish_50 : decode cX12_finish 50 = .ok (.goto 40, 3) := by decide +kernel
theorem dX12_finish_53 : decode cX12_finish 53 = .ok (.aload_n 0, 1) := by decide +kernel
theorem dX12_finish_54 : decode cX12_finish 54 = .ok (.getfield 17, 3) := by decide +kernel
theorem dX12_finish_57 : decode cX12_finish 57 = .ok (.bipush 67, 2) := by decide +kernel
theorem dX12_finish_59 : decode cX12_finish 59 = .ok (.iload_n 1, 1) := by decide +kernel
theorem dX12_finish_60 : decode cX12_finish 60 = .ok (.iadd, 1) := by decide +kernel
theorem dX12_finish_61 : decode cX12_finish 61 = .ok (.iaload, 1) := by decide +kernel
theorem dX12_finish_62 : decode cX12_finish 62 = .ok (.ifCond .le 27, 3) := by decide +kernel
theorem dX12_finish_65 : decode cX12_finish 65 = .ok (.aload_n 0, 1) := by decide +kernel
theorem dX12_finish_66 : decode cX12_finish 66 = .ok (.iload_n 1, 1) := by decide +kernel
theorem dX12_finish_67 : decode cX12_finish 67 = .ok (.aload_n 0, 1) := by decide +kernel
theorem dX12_finish_68 : decode cX12_finish 68 = .ok (.getfield 17, 3) := by decide +kernel
theorem dX12_finish_71 : decode cX12_finish 71 = .ok (.bipush 67, 2) := by decide +kernel
theorem dX12_finish_73 : decode cX12_finish 73 = .ok (.iload_n 1, 1) := by decide +kernel
theorem dX12_finish_74 : decode cX12_finish 74 = .ok (.iadd, 1) := by decide +kernel
theorem dX12_finish_75 : decode cX12_finish 75 = .ok (.iaload, 1) := by decide +kernel
theorem dX12_finish_76 : decode cX12_finish 76 = .ok (.iconst 1, 1) := by decide +kernel
theorem dX12_finish_77 : decode cX12_finish 77 = .ok (.isub, 1) := by decide +kernel
theorem dX12_finish_78 : decode cX12_finish 78 = .ok (.invokevirtual 209, 3) := by decide +kernel
theorem dX12_finish_81 : decode cX12_finish 81 = .ok (.iload_n 2, 1) := by decide +kernel
theorem dX12_finish_82 : decode cX12_finish 82 = .ok (.if_icmp .le 7, 3) := by decide +kernel
theorem dX12_finish_85 : decode cX12_finish 85 = .ok (.iconst 5, 1) := by decide +kernel
theorem dX12_finish_86 : decode cX12_finish 86 = .ok (.goto 4, 3) := by decide +kernel
theorem dX12_finish_89 : decode cX12_finish 89 = .ok (.iconst 0, 1) := by decide +kernel
theorem dX12_finish_90 : decode cX12_finish 90 = .ok (.invokevirtual 161, 3) := by decide +kernel
theorem dX12_finish_93 : decode cX12_finish 93 = .ok (.ifCond .eq 5, 3) := by decide +kernel
theorem dX12_finish_96 : decode cX12_finish 96 = .ok (.iconst (-1), 1) := by decide +kernel
theorem dX12_finish_97 : decode cX12_finish 97 = .ok (.ireturn, 1) := by decide +kernel
theorem dX12_finish_98 : decode cX12_finish 98 = .ok (.aload_n 0, 1) := by decide +kernel
theorem dX12_finish_99 : decode cX12_finish 99 = .ok (.bipush 57, 2) := by decide +kernel
theorem dX12_finish_101 : decode cX12_finish 101 = .ok (.iload_n 1, 1) := by decide +kernel
theorem dX12_finish_102 : decode cX12_finish 102 = .ok (.iadd, 1) := by decide +kernel
theorem dX12_finish_103 : decode cX12_finish 103 = .ok (.iload_n 2, 1) := by decide +kernel
theorem dX12_finish_104 : decode cX12_finish 104 = .ok (.invokevirtual 328, 3) := by decide +kernel
theorem dX12_finish_107 : decode cX12_finish 107 = .ok (.ireturn, 1) := by decide +kernel
def f_X12_finish_90 (v1 : Int32) (v2 : Int32) (vs1 : Int32) (σ : gSt) : Option (Int32 × gSt) :=
  (f_X12_isRefused vs1 σ).bind fun p90 =>
  if p90.1 = 0 then
    (f_X12_comes (57 + v1) v2 p90.2).bind fun p104 =>
    some (p104.1, p104.2)
  else
    some ((-1), p90.2)
def f_X12_finish_89 (v1 : Int32) (v2 : Int32) (σ : gSt) : Option (Int32 × gSt) :=
  f_X12_finish_90 v1 v2 0 σ
def f_X12_finish_37 (v1 : Int32) (v2 : Int32) (vs0 : Int32) (vs1 : Int32) (σ : gSt) : Option (Int32 × gSt) :=
  (f_X12_unless_ vs0 vs1 σ).bind fun p37 =>
  if p37.1 = 0 then
    (gld p37.2 30 0 397 (67 + v1)).bind fun a61 =>
    if a61 ≤ 0 then
      f_X12_finish_89 v1 v2 p37.2
    else
      (gld p37.2 30 0 397 (67 + v1)).bind fun a75 =>
      (f_X12_punchTime v1 (a75 - 1) p37.2).bind fun p78 =>
      if p78.1 ≤ v2 then
        f_X12_finish_89 v1 v2 p78.2
      else
        f_X12_finish_90 v1 v2 5 p78.2
  else
    f_X12_finish_90 v1 v2 p37.1 p37.2
def f_X12_finish_36 (v1 : Int32) (v2 : Int32) (vs0 : Int32) (σ : gSt) : Option (Int32 × gSt) :=
  f_X12_finish_37 v1 v2 vs0 0 σ
def f_X12_finish (v1 : Int32) (v2 : Int32) (σ : gSt) : Option (Int32 × gSt) :=
  (f_X12_isRunner v1 σ).bind fun p2 =>
  if p2.1 = 0 then
    f_X12_finish_36 v1 v2 p2.1 p2.2
  else
    (gld p2.2 30 0 397 (47 + v1)).bind fun a20 =>
    (f_X12_in v2 (a20 + 1) 9999 p2.2).bind fun p26 =>
    if p26.1 = 0 then
      f_X12_finish_36 v1 v2 p2.1 p26.2
    else
      f_X12_finish_37 v1 v2 p2.1 1 p26.2
theorem f_X12_finish_90_ok {v1 : Int32} {v2 : Int32} {vs1 : Int32} {r : (Int32 × gSt)}  {σ : gSt} {x3 x4 : Option Value} (h : f_X12_finish_90 v1 v2 vs1 σ = some r) : G l w 0 41 RX12 cX12_finish 5 (some .int) 3 69 (gE (some (.int r.1)) r.2) 90 [some (.ref (w.2.1 28 0)), some (.int v1), some (.int v2), x3, x4] [.int vs1, .ref (w.2.1 28 0)] σ := by
  unfold f_X12_finish_90 at h
  obtain ⟨p90, e90, h⟩ := obind h
  refine g_vP1 mv_X12_161 dX12_finish_90 ok_28 ⟨by decide, by decide⟩ (Nat.le_of_ble_eq_true rfl) (f_X12_isRefused_ok e90) ?_
  refine g_if_eq 98 dX12_finish_93 rfl (fun q => ?_) (fun q => ?_)
  · replace h := gif_t q h
    refine g_aload_n dX12_finish_98 rfl ?_
    refine g_bipush dX12_finish_99 kb_57 ?_
    refine g_iload_n dX12_finish_101 rfl ?_
    refine g_iadd dX12_finish_102 ?_
    refine g_iload_n dX12_finish_103 rfl ?_
    obtain ⟨p104, e104, h⟩ := obind h
    refine g_vP2 mv_X12_328 dX12_finish_104 ok_28 ⟨by decide, by decide⟩ (Nat.le_of_ble_eq_true rfl) (f_X12_comes_ok e104) ?_
    cases h
    exact g_iret dX12_finish_107 rfl ⟨rfl, rfl⟩
  · replace h := gif_f q h
    refine g_iconst dX12_finish_96 kc_m1 ?_
    cases h
    exact g_iret dX12_finish_97 rfl ⟨rfl, rfl⟩
theorem f_X12_finish_89_ok {v1 : Int32} {v2 : Int32} {r : (Int32 × gSt)}  {σ : gSt} {x3 x4 : Option Value} (h : f_X12_finish_89 v1 v2 σ = some r) : G l w 0 41 RX12 cX12_finish 5 (some .int) 3 69 (gE (some (.int r.1)) r.2) 89 [some (.ref (w.2.1 28 0)), some (.int v1), some (.int v2), x3, x4] [.ref (w.2.1 28 0)] σ := by
  unfold f_X12_finish_89 at h
  refine g_iconst dX12_finish_89 kc_0 ?_
  exact f_X12_finish_90_ok h
theorem f_X12_finish_37_ok {v1 : Int32} {v2 : Int32} {vs0 : Int32} {vs1 : Int32} {r : (Int32 × gSt)}  {σ : gSt} {x3 x4 : Option Value} (h : f_X12_finish_37 v1 v2 vs0 vs1 σ = some r) : G l w 0 41 RX12 cX12_finish 5 (some .int) 3 69 (gE (some (.int r.1)) r.2) 37 [some (.ref (w.2.1 28 0)), some (.int v1), some (.int v2), x3, x4] [.int vs1, .int vs0] σ := by
  unfold f_X12_finish_37 at h
  obtain ⟨p37, e37, h⟩ := obind h
  refine g_sP2 ms_X12_157 dX12_finish_37 ⟨by decide, by decide⟩ (Nat.le_of_ble_eq_true rfl) (f_X12_unless__ok e37) ?_
  refine g_istore4 dX12_finish_40 ?_
  refine g_aload_n dX12_finish_42 rfl ?_
  refine g_iload dX12_finish_43 rfl ?_
  refine g_if_eq 53 dX12_finish_45 rfl (fun q => ?_) (fun q => ?_)
  · replace h := gif_t q h
    refine g_aload_n dX12_finish_53 rfl ?_
    refine gR_X12_17 ok_28 dX12_finish_54 ?_
    refine g_bipush dX12_finish_57 kb_67 ?_
    refine g_iload_n dX12_finish_59 rfl ?_
    refine g_iadd dX12_finish_60 ?_
    obtain ⟨a61, e61, h⟩ := obind h
    refine g_ldB e61 ok_30 rfl rfl (by decide) dX12_finish_61 ?_
    refine g_if_le 89 dX12_finish_62 rfl (fun q => ?_) (fun q => ?_)
    · replace h := gif_t q h
      exact f_X12_finish_89_ok h
    · replace h := gif_f q h
      refine g_aload_n dX12_finish_65 rfl ?_
      refine g_iload_n dX12_finish_66 rfl ?_
      refine g_aload_n dX12_finish_67 rfl ?_
      refine gR_X12_17 ok_28 dX12_finish_68 ?_
      refine g_bipush dX12_finish_71 kb_67 ?_
      refine g_iload_n dX12_finish_73 rfl ?_
      refine g_iadd dX12_finish_74 ?_
      obtain ⟨a75, e75, h⟩ := obind h
      refine g_ldB e75 ok_30 rfl rfl (by decide) dX12_finish_75 ?_
      refine g_iconst dX12_finish_76 kc_1 ?_
      refine g_isub dX12_finish_77 ?_
      obtain ⟨p78, e78, h⟩ := obind h
      refine g_vP2 mv_X12_209 dX12_finish_78 ok_28 ⟨by decide, by decide⟩ (Nat.le_of_ble_eq_true rfl) (f_X12_punchTime_ok e78) ?_
      refine g_iload_n dX12_finish_81 rfl ?_
      refine g_icmp_le 89 dX12_finish_82 rfl (fun q => ?_) (fun q => ?_)
      · replace h := gif_t q h
        exact f_X12_finish_89_ok h
      · replace h := gif_f q h
        refine g_iconst dX12_finish_85 kc_5 ?_
        refine g_goto 90 dX12_finish_86 rfl ?_
        exact f_X12_finish_90_ok h
  · replace h := gif_f q h
    refine g_iload dX12_finish_48 rfl ?_
    refine g_goto 90 dX12_finish_50 rfl ?_
    exact f_X12_finish_90_ok h
theorem f_X12_finish_36_ok {v1 : Int32} {v2 : Int32} {vs0 : Int32} {r : (Int32 × gSt)}  {σ : gSt} {x3 x4 : Option Value} (h : f_X12_finish_36 v1 v2 vs0 σ = some r) : G l w 0 41 RX12 cX12_finish 5 (some .int) 3 69 (gE (some (.int r.1)) r.2) 36 [some (.ref (w.2.1 28 0)), some (.int v1), some (.int v2), x3, x4] [.int vs0] σ := by
  unfold f_X12_finish_36 at h
  refine g_iconst dX12_finish_36 kc_0 ?_
  exact f_X12_finish_37_ok h
theorem f_X12_finish_ok {v1 : Int32} {v2 : Int32}  {σ : gSt} {r : (Int32 × gSt)} (h : f_X12_finish v1 v2 σ = some r) : Mt l w 0 41 yX12_finish cX12_finish 5 (some .int) 3 69 [.ref (w.2.1 28 0), .int v1, .int v2] σ (gE (some (.int r.1)) r.2) := by
  unfold f_X12_finish at h
  refine g_start pn_X12 rfl rfl (Nat.le_of_ble_eq_true rfl) ?_
  show G l w 0 41 RX12 cX12_finish 5 (some .int) 3 69 (gE (some (.int r.1)) r.2) 0 [some (.ref (w.2.1 28 0)), some (.int v1), some (.int v2), none, none] [] σ
  refine g_aload_n dX12_finish_0 rfl ?_
  refine g_iload_n dX12_finish_1 rfl ?_
  obtain ⟨p2, e2, h⟩ := obind h
  refine g_vP1 mv_X12_187 dX12_finish_2 ok_28 ⟨by decide, by decide⟩ (Nat.le_of_ble_eq_true rfl) (f_X12_isRunner_ok e2) ?_
  refine g_istore3 dX12_finish_5 ?_
  refine g_iload_n dX12_finish_6 rfl ?_
  refine g_iload_n dX12_finish_7 rfl ?_
  refine g_if_eq 36 dX12_finish_8 rfl (fun q => ?_) (fun q => ?_)
  · replace h := gif_t q h
    exact f_X12_finish_36_ok h
  · replace h := gif_f q h
    refine g_iload_n dX12_finish_11 rfl ?_
    refine g_aload_n dX12_finish_12 rfl ?_
    refine gR_X12_17 ok_28 dX12_finish_13 ?_
    refine g_bipush dX12_finish_16 kb_47 ?_
    refine g_iload_n dX12_finish_18 rfl ?_
    refine g_iadd dX12_finish_19 ?_
    obtain ⟨a20, e20, h⟩ := obind h
    refine g_ldB e20 ok_30 rfl rfl (by decide) dX12_finish_20 ?_
    refine g_iconst dX12_finish_21 kc_1 ?_
    refine g_iadd dX12_finish_22 ?_
    refine g_sipush dX12_finish_23 ks_9999 ?_
    obtain ⟨p26, e26, h⟩ := obind h
    refine g_sP3 ms_X12_79 dX12_finish_26 ⟨by decide, by decide⟩ (Nat.le_of_ble_eq_true rfl) (f_X12_in_ok e26) ?_
    refine g_if_eq 36 dX12_finish_29 rfl (fun q => ?_) (fun q => ?_)
    · replace h := gif_t q h
      exact f_X12_finish_36_ok h
    · replace h := gif_f q h
      refine g_iconst dX12_finish_32 kc_1 ?_
      refine g_goto 37 dX12_finish_33 rfl ?_
      exact f_X12_finish_37_ok h
theorem dX12_move_0 : decode cX12_move 0 = .ok (.aload_n 0, 1) := by decide +kernel
theorem dX12_move_1 : decode cX12_move 1 = .ok (.aload_n 0, 1) := by decide +kernel
theorem dX12_move_2 : decode cX12_move 2 = .ok (.iload_n 1, 1) := by decide +kernel
theorem dX12_move_3 : decode cX12_move 3 = .ok (.invokevirtual 187, 3) := by decide +kernel
theorem dX12_move_6 : decode cX12_move 6 = .ok (.ifCond .eq 15, 3) := by decide +kernel
theorem dX12_move_9 : decode cX12_move 9 = .ok (.aload_n 0, 1) := by decide +kernel
theorem dX12_move_10 : decode cX12_move 10 = .ok (.iload_n 2, 1) := by decide +kernel
theorem dX12_move_11 : decode cX12_move 11 = .ok (.invokevirtual 184, 3) := by decide +kernel
theorem dX12_move_14 : decode cX12_move 14 = .ok (.ifCond .eq 7, 3) := by decide +kernel
theorem dX12_move_17 : decode cX12_move 17 = .ok (.iconst 1, 1) := by decide +kernel
theorem dX12_move_18 : decode cX12_move 18 = .ok (.goto 4, 3) := by decide +kernel
theorem dX12_move_21 : decode cX12_move 21 = .ok (.iconst 0, 1) := by decide +kernel
theorem dX12_move_22 : decode cX12_move 22 = .ok (.invokestatic 234, 3) := by decide +kernel
theorem dX12_move_25 : decode cX12_move 25 = .ok (.invokevirtual 161, 3) := by decide +kernel
theorem dX12_move_28 : decode cX12_move 28 = .ok (.ifCond .eq 7, 3) := by decide +kernel
theorem dX12_move_31 : decode cX12_move 31 = .ok (.iconst (-1), 1) := by decide +kernel
theorem dX12_move_32 : decode cX12_move 32 = .ok (.goto 12, 3) := by decide +kernel
theorem dX12_move_35 : decode cX12_move 35 = .ok (.aload_n 0, 1) := by decide +kernel
theorem dX12_move_36 : decode cX12_move 36 = .ok (.bipush 37, 2) := by decide +kernel
theorem dX12_move_38 : decode cX12_move 38 = .ok (.iload_n 1, 1) := by decide +kernel
theorem dX12_move_39 : decode cX12_move 39 = .ok (.iadd, 1) := by decide +kernel
theorem dX12_move_40 : decode cX12_move 40 = .ok (.iload_n 2, 1) := by decide +kernel
theorem dX12_move_41 : decode cX12_move 41 = .ok (.invokevirtual 328, 3) := by decide +kernel
theorem dX12_move_44 : decode cX12_move 44 = .ok (.ireturn, 1) := by decide +kernel
def f_X12_move_22 (v1 : Int32) (v2 : Int32) (vs1 : Int32) (σ : gSt) : Option (Int32 × gSt) :=
  (f_X12_unless vs1 σ).bind fun p22 =>
  (f_X12_isRefused p22.1 p22.2).bind fun p25 =>
  if p25.1 = 0 then
    (f_X12_comes (37 + v1) v2 p25.2).bind fun p41 =>
    some (p41.1, p41.2)
  else
    some ((-1), p25.2)
def f_X12_move_21 (v1 : Int32) (v2 : Int32) (σ : gSt) : Option (Int32 × gSt) :=
  f_X12_move_22 v1 v2 0 σ
def f_X12_move (v1 : Int32) (v2 : Int32) (σ : gSt) : Option (Int32 × gSt) :=
  (f_X12_isRunner v1 σ).bind fun p3 =>
  if p3.1 = 0 then
    f_X12_move_21 v1 v2 p3.2
  else
    (f_X12_isCourse v2 p3.2).bind fun p11 =>
    if p11.1 = 0 then
      f_X12_move_21 v1 v2 p11.2
    else
      f_X12_move_22 v1 v2 1 p11.2
theorem f_X12_move_22_ok {v1 : Int32} {v2 : Int32} {vs1 : Int32} {r : (Int32 × gSt)}  {σ : gSt}  (h : f_X12_move_22 v1 v2 vs1 σ = some r) : G l w 0 41 RX12 cX12_move 3 (some .int) 3 69 (gE (some (.int r.1)) r.2) 22 [some (.ref (w.2.1 28 0)), some (.int v1), some (.int v2)] [.int vs1, .ref (w.2.1 28 0)] σ := by
  unfold f_X12_move_22 at h
  obtain ⟨p22, e22, h⟩ := obind h
  refine g_sP1 ms_X12_234 dX12_move_22 ⟨by decide, by decide⟩ (Nat.le_of_ble_eq_true rfl) (f_X12_unless_ok e22) ?_
  obtain ⟨p25, e25, h⟩ := obind h
  refine g_vP1 mv_X12_161 dX12_move_25 ok_28 ⟨by decide, by decide⟩ (Nat.le_of_ble_eq_true rfl) (f_X12_isRefused_ok e25) ?_
  refine g_if_eq 35 dX12_move_28 rfl (fun q => ?_) (fun q => ?_)
  · replace h := gif_t q h
    refine g_aload_n dX12_move_35 rfl ?_
    refine g_bipush dX12_move_36 kb_37 ?_
    refine g_iload_n dX12_move_38 rfl ?_
    refine g_iadd dX12_move_39 ?_
    refine g_iload_n dX12_move_40 rfl ?_
    obtain ⟨p41, e41, h⟩ := obind h
    refine g_vP2 mv_X12_328 dX12_move_41 ok_28 ⟨by decide, by decide⟩ (Nat.le_of_ble_eq_true rfl) (f_X12_comes_ok e41) ?_
    cases h
    exact g_iret dX12_move_44 rfl ⟨rfl, rfl⟩
  · replace h := gif_f q h
    refine g_iconst dX12_move_31 kc_m1 ?_
    refine g_goto 44 dX12_move_32 rfl ?_
    cases h
    exact g_iret dX12_move_44 rfl ⟨rfl, rfl⟩
theorem f_X12_move_21_ok {v1 : Int32} {v2 : Int32} {r : (Int32 × gSt)}  {σ : gSt}  (h : f_X12_move_21 v1 v2 σ = some r) : G l w 0 41 RX12 cX12_move 3 (some .int) 3 69 (gE (some (.int r.1)) r.2) 21 [some (.ref (w.2.1 28 0)), some (.int v1), some (.int v2)] [.ref (w.2.1 28 0)] σ := by
  unfold f_X12_move_21 at h
  refine g_iconst dX12_move_21 kc_0 ?_
  exact f_X12_move_22_ok h
theorem f_X12_move_ok {v1 : Int32} {v2 : Int32}  {σ : gSt} {r : (Int32 × gSt)} (h : f_X12_move v1 v2 σ = some r) : Mt l w 0 41 yX12_move cX12_move 3 (some .int) 3 69 [.ref (w.2.1 28 0), .int v1, .int v2] σ (gE (some (.int r.1)) r.2) := by
  unfold f_X12_move at h
  refine g_start pn_X12 rfl rfl (Nat.le_of_ble_eq_true rfl) ?_
  show G l w 0 41 RX12 cX12_move 3 (some .int) 3 69 (gE (some (.int r.1)) r.2) 0 [some (.ref (w.2.1 28 0)), some (.int v1), some (.int v2)] [] σ
  refine g_aload_n dX12_move_0 rfl ?_
  refine g_aload_n dX12_move_1 rfl ?_
  refine g_iload_n dX12_move_2 rfl ?_
  obtain ⟨p3, e3, h⟩ := obind h
  refine g_vP1 mv_X12_187 dX12_move_3 ok_28 ⟨by decide, by decide⟩ (Nat.le_of_ble_eq_true rfl) (f_X12_isRunner_ok e3) ?_
  refine g_if_eq 21 dX12_move_6 rfl (fun q => ?_) (fun q => ?_)
  · replace h := gif_t q h
    exact f_X12_move_21_ok h
  · replace h := gif_f q h
    refine g_aload_n dX12_move_9 rfl ?_
    refine g_iload_n dX12_move_10 rfl ?_
    obtain ⟨p11, e11, h⟩ := obind h
    refine g_vP1 mv_X12_184 dX12_move_11 ok_28 ⟨by decide, by decide⟩ (Nat.le_of_ble_eq_true rfl) (f_X12_isCourse_ok e11) ?_
    refine g_if_eq 21 dX12_move_14 rfl (fun q => ?_) (fun q => ?_)
    · replace h := gif_t q h
      exact f_X12_move_21_ok h
    · replace h := gif_f q h
      refine g_iconst dX12_move_17 kc_1 ?_
      refine g_goto 22 dX12_move_18 rfl ?_
      exact f_X12_move_22_ok h
theorem dX12_become_0 : decode cX12_become 0 = .ok (.aload_n 0, 1) := by decide +kernel
theorem dX12_become_1 : decode cX12_become 1 = .ok (.aload_n 0, 1) := by decide +kernel
theorem dX12_become_2 : decode cX12_become 2 = .ok (.getfield 173, 3) := by decide +kernel
theorem dX12_become_5 : decode cX12_become 5 = .ok (.ifCond .eq 16, 3) := by decide +kernel
theorem dX12_become_8 : decode cX12_become 8 = .ok (.iload_n 1, 1) := by decide +kernel
theorem dX12_become_9 : decode cX12_become 9 = .ok (.iconst 0, 1) := by decide +kernel
theorem dX12_become_10 : decode cX12_become 10 = .ok (.iconst 1, 1) := by decide +kernel
theorem dX12_become_11 : decode cX12_become 11 = .ok (.invokestatic 79, 3) := by decide +kernel
theorem dX12_become_14 : decode cX12_become 14 = .ok (.ifCond .eq 7, 3) := by decide +kernel
theorem dX12_become_17 : decode cX12_become 17 = .ok (.iconst 1, 1) := by decide +kernel
theorem dX12_become_18 : decode cX12_become 18 = .ok (.goto 4, 3) := by decide +kernel
theorem dX12_become_21 : decode cX12_become 21 = .ok (.iconst 0, 1) := by decide +kernel
theorem dX12_become_22 : decode cX12_become 22 = .ok (.iload_n 2, 1) := by decide +kernel
theorem dX12_become_23 : decode cX12_become 23 = .ok (.iconst 0, 1) := by decide +kernel
theorem dX12_become_24 : decode cX12_become 24 = .ok (.sipush 600, 3) := by decide +kernel
theorem dX12_become_27 : decode cX12_become 27 = .ok (.invokestatic 79, 3) := by decide +kernel
theorem dX12_become_30 : decode cX12_become 30 = .ok (.invokestatic 157, 3) := by decide +kernel
theorem dX12_become_33 : decode cX12_become 33 = .ok (.invokevirtual 161, 3) := by decide +kernel
theorem dX12_become_36 : decode cX12_become 36 = .ok (.ifCond .eq 7, 3) := by decide +kernel
theorem dX12_become_39 : decode cX12_become 39 = .ok (.iconst (-1), 1) := by decide +kernel
theorem dX12_become_40 : decode cX12_become 40 = .ok (.goto 11, 3) := by decide +kernel
theorem dX12_become_43 : decode cX12_become 43 = .ok (.aload_n 0, 1) := by decide +kernel
theorem dX12_become_44 : decode cX12_become 44 = .ok (.iconst 2, 1) := by decide +kernel
theorem dX12_become_45 : decode cX12_become 45 = .ok (.iload_n 1, 1) := by decide +kernel
theorem dX12_become_46 : decode cX12_become 46 = .ok (.iadd, 1) := by decide +kernel
theorem dX12_become_47 : decode cX12_become 47 = .ok (.iload_n 2, 1) := by decide +kernel
theorem dX12_become_48 : decode cX12_become 48 = .ok (.invokevirtual 328, 3) := by decide +kernel
theorem dX12_become_51 : decode cX12_become 51 = .ok (.ireturn, 1) := by decide +kernel
def f_X12_become_22 (v1 : Int32) (v2 : Int32) (vs1 : Int32) (σ : gSt) : Option (Int32 × gSt) :=
  (f_X12_in v2 0 600 σ).bind fun p27 =>
  (f_X12_unless_ vs1 p27.1 p27.2).bind fun p30 =>
  (f_X12_isRefused p30.1 p30.2).bind fun p33 =>
  if p33.1 = 0 then
    (f_X12_comes (2 + v1) v2 p33.2).bind fun p48 =>
    some (p48.1, p48.2)
  else
    some ((-1), p33.2)
def f_X12_become_21 (v1 : Int32) (v2 : Int32) (σ : gSt) : Option (Int32 × gSt) :=
  f_X12_become_22 v1 v2 0 σ
def f_X12_become (v1 : Int32) (v2 : Int32) (σ : gSt) : Option (Int32 × gSt) :=
  if (σ 28 0 6) = 0 then
    f_X12_become_21 v1 v2 σ
  else
    (f_X12_in v1 0 1 σ).bind fun p11 =>
    if p11.1 = 0 then
      f_X12_become_21 v1 v2 p11.2
    else
      f_X12_become_22 v1 v2 1 p11.2
theorem f_X12_become_22_ok {v1 : Int32} {v2 : Int32} {vs1 : Int32} {r : (Int32 × gSt)}  {σ : gSt}  (h : f_X12_become_22 v1 v2 vs1 σ = some r) : G l w 0 41 RX12 cX12_become 3 (some .int) 3 69 (gE (some (.int r.1)) r.2) 22 [some (.ref (w.2.1 28 0)), some (.int v1), some (.int v2)] [.int vs1, .ref (w.2.1 28 0)] σ := by
  unfold f_X12_become_22 at h
  refine g_iload_n dX12_become_22 rfl ?_
  refine g_iconst dX12_become_23 kc_0 ?_
  refine g_sipush dX12_become_24 ks_600 ?_
  obtain ⟨p27, e27, h⟩ := obind h
  refine g_sP3 ms_X12_79 dX12_become_27 ⟨by decide, by decide⟩ (Nat.le_of_ble_eq_true rfl) (f_X12_in_ok e27) ?_
  obtain ⟨p30, e30, h⟩ := obind h
  refine g_sP2 ms_X12_157 dX12_become_30 ⟨by decide, by decide⟩ (Nat.le_of_ble_eq_true rfl) (f_X12_unless__ok e30) ?_
  obtain ⟨p33, e33, h⟩ := obind h
  refine g_vP1 mv_X12_161 dX12_become_33 ok_28 ⟨by decide, by decide⟩ (Nat.le_of_ble_eq_true rfl) (f_X12_isRefused_ok e33) ?_
  refine g_if_eq 43 dX12_become_36 rfl (fun q => ?_) (fun q => ?_)
  · replace h := gif_t q h
    refine g_aload_n dX12_become_43 rfl ?_
    refine g_iconst dX12_become_44 kc_2 ?_
    refine g_iload_n dX12_become_45 rfl ?_
    refine g_iadd dX12_become_46 ?_
    refine g_iload_n dX12_become_47 rfl ?_
    obtain ⟨p48, e48, h⟩ := obind h
    refine g_vP2 mv_X12_328 dX12_become_48 ok_28 ⟨by decide, by decide⟩ (Nat.le_of_ble_eq_true rfl) (f_X12_comes_ok e48) ?_
    cases h
    exact g_iret dX12_become_51 rfl ⟨rfl, rfl⟩
  · replace h := gif_f q h
    refine g_iconst dX12_become_39 kc_m1 ?_
    refine g_goto 51 dX12_become_40 rfl ?_
    cases h
    exact g_iret dX12_become_51 rfl ⟨rfl, rfl⟩
theorem f_X12_become_21_ok {v1 : Int32} {v2 : Int32} {r : (Int32 × gSt)}  {σ : gSt}  (h : f_X12_become_21 v1 v2 σ = some r) : G l w 0 41 RX12 cX12_become 3 (some .int) 3 69 (gE (some (.int r.1)) r.2) 21 [some (.ref (w.2.1 28 0)), some (.int v1), some (.int v2)] [.ref (w.2.1 28 0)] σ := by
  unfold f_X12_become_21 at h
  refine g_iconst dX12_become_21 kc_0 ?_
  exact f_X12_become_22_ok h
theorem f_X12_become_ok {v1 : Int32} {v2 : Int32}  {σ : gSt} {r : (Int32 × gSt)} (h : f_X12_become v1 v2 σ = some r) : Mt l w 0 41 yX12_become cX12_become 3 (some .int) 3 69 [.ref (w.2.1 28 0), .int v1, .int v2] σ (gE (some (.int r.1)) r.2) := by
  unfold f_X12_become at h
  refine g_start pn_X12 rfl rfl (Nat.le_of_ble_eq_true rfl) ?_
  show G l w 0 41 RX12 cX12_become 3 (some .int) 3 69 (gE (some (.int r.1)) r.2) 0 [some (.ref (w.2.1 28 0)), some (.int v1), some (.int v2)] [] σ
  refine g_aload_n dX12_become_0 rfl ?_
  refine g_aload_n dX12_become_1 rfl ?_
  refine gI_X12_173 ok_28 dX12_become_2 ?_
  refine g_if_eq 21 dX12_become_5 rfl (fun q => ?_) (fun q => ?_)
  · replace h := gif_t q h
    exact f_X12_become_21_ok h
  · replace h := gif_f q h
    refine g_iload_n dX12_become_8 rfl ?_
    refine g_iconst dX12_become_9 kc_0 ?_
    refine g_iconst dX12_become_10 kc_1 ?_
    obtain ⟨p11, e11, h⟩ := obind h
    refine g_sP3 ms_X12_79 dX12_become_11 ⟨by decide, by decide⟩ (Nat.le_of_ble_eq_true rfl) (f_X12_in_ok e11) ?_
    refine g_if_eq 21 dX12_become_14 rfl (fun q => ?_) (fun q => ?_)
    · replace h := gif_t q h
      exact f_X12_become_21_ok h
    · replace h := gif_f q h
      refine g_iconst dX12_become_17 kc_1 ?_
      refine g_goto 22 dX12_become_18 rfl ?_
      exact f_X12_become_22_ok h
theorem dX12_isBeside_0 : decode cX12_isBeside 0 = .ok (.iload_n 2, 1) := by decide +kernel
theorem dX12_isBeside_1 : decode cX12_isBeside 1 = .ok (.ifCond .le 15, 3) := by decide +kernel
theorem dX12_isBeside_4 : decode cX12_isBeside 4 = .ok (.aload_n 0, 1) := by decide +kernel
theorem dX12_isBeside_5 : decode cX12_isBeside 5 = .ok (.iload_n 1, 1) := by decide +kernel
theorem dX12_isBeside_6 : decode cX12_isBeside 6 = .ok (.iload_n 2, 1) := by decide +kernel
theorem dX12_isBeside_7 : decode cX12_isBeside 7 = .ok (.iconst 1, 1) := by decide +kernel
theorem dX12_isBeside_8 : decode cX12_isBeside 8 = .ok (.isub, 1) := by decide +kernel
theorem dX12_isBeside_9 : decode cX12_isBeside 9 = .ok (.invokevirtual 197, 3) := by decide +kernel
theorem dX12_isBeside_12 : decode cX12_isBeside 12 = .ok (.iload_n 3, 1) := by decide +kernel
theorem dX12_isBeside_13 : decode cX12_isBeside 13 = .ok (.if_icmp .eq 29, 3) := by decide +kernel
theorem dX12_isBeside_16 : decode cX12_isBeside 16 = .ok (.iload_n 2, 1) := by decide +kernel
theorem dX12_isBeside_17 : decode cX12_isBeside 17 = .ok (.aload_n 0, 1) := by decide +kernel
theorem dX12_isBeside_18 : decode cX12_isBeside 18 = .ok (.getfield 17, 3) := by decide +kernel
theorem dX12_isBeside_21 : decode cX12_isBeside 21 = .ok (.iconst 4, 1) := by decide +kernel
theorem dX12_isBeside_22 : decode cX12_isBeside 22 = .ok (.iload_n 1, 1) := by decide +kernel
theorem dX12_isBeside_23 : decode cX12_isBeside 23 = .ok (.iadd, 1) := by decide +kernel
theorem dX12_isBeside_24 : decode cX12_isBeside 24 = .ok (.iaload, 1) := by decide +kernel
theorem dX12_isBeside_25 : decode cX12_isBeside 25 = .ok (.iconst 1, 1) := by decide +kernel
theorem dX12_isBeside_26 : decode cX12_isBeside 26 = .ok (.isub, 1) := by decide +kernel
theorem dX12_isBeside_27 : decode cX12_isBeside 27 = .ok (.if_icmp .ge 19, 3) := by decide +kernel
theorem dX12_isBeside_30 : decode cX12_isBeside 30 = .ok (.aload_n 0, 1) := by decide +kernel
theorem dX12_isBeside_31 : decode cX12_isBeside 31 = .ok (.iload_n 1, 1) := by decide +kernel
theorem dX12_isBeside_32 : decode cX12_isBeside 32 = .ok (.iload_n 2, 1) := by decide +kernel
theorem dX12_isBeside_33 : decode cX12_isBeside 33 = .ok (.iconst 1, 1) := by decide +kernel
theorem dX12_isBeside_34 : decode cX12_isBeside 34 = .ok (.iadd, 1) := by decide +kernel
theorem dX12_isBeside_35 : decode cX12_isBeside 35 = .ok (.invokevirtual 197, 3) := by decide +kernel
theorem dX12_isBeside_38 : decode cX12_isBeside 38 = .ok (.iload_n 3, 1) := by decide +kernel
theorem dX12_isBeside_39 : decode cX12_isBeside 39 = .ok (.if_icmp .ne 7, 3) := by decide +kernel
theorem dX12_isBeside_42 : decode cX12_isBeside 42 = .ok (.iconst 1, 1) := by decide +kernel
theorem dX12_isBeside_43 : decode cX12_isBeside 43 = .ok (.goto 4, 3) := by decide +kernel
theorem dX12_isBeside_46 : decode cX12_isBeside 46 = .ok (.iconst 0, 1) := by decide +kernel
theorem dX12_isBeside_47 : decode cX12_isBeside 47 = .ok (.ireturn, 1) := by decide +kernel
def f_X12_isBeside_16 (v1 : Int32) (v2 : Int32) (v3 : Int32) (σ : gSt) : Option (Int32 × gSt) :=
  (gld σ 30 0 397 (4 + v1)).bind fun a24 =>
  if (a24 - 1) ≤ v2 then
    some (0, σ)
  else
    (f_X12_codeOf v1 (v2 + 1) σ).bind fun p35 =>
    if p35.1 = v3 then
      some (1, p35.2)
    else
      some (0, p35.2)
def f_X12_isBeside (v1 : Int32) (v2 : Int32) (v3 : Int32) (σ : gSt) : Option (Int32 × gSt) :=
  if v2 ≤ 0 then
    f_X12_isBeside_16 v1 v2 v3 σ
  else
    (f_X12_codeOf v1 (v2 - 1) σ).bind fun p9 =>
    if p9.1 = v3 then
      some (1, p9.2)
    else
      f_X12_isBeside_16 v1 v2 v3 p9.2
theorem f_X12_isBeside_16_ok {v1 : Int32} {v2 : Int32} {v3 : Int32} {r : (Int32 × gSt)}  {σ : gSt}  (h : f_X12_isBeside_16 v1 v2 v3 σ = some r) : G l w 0 41 RX12 cX12_isBeside 4 (some .boolean) 1 22 (gE (some (.int r.1)) r.2) 16 [some (.ref (w.2.1 28 0)), some (.int v1), some (.int v2), some (.int v3)] [] σ := by
  unfold f_X12_isBeside_16 at h
  refine g_iload_n dX12_isBeside_16 rfl ?_
  refine g_aload_n dX12_isBeside_17 rfl ?_
  refine gR_X12_17 ok_28 dX12_isBeside_18 ?_
  refine g_iconst dX12_isBeside_21 kc_4 ?_
  refine g_iload_n dX12_isBeside_22 rfl ?_
  refine g_iadd dX12_isBeside_23 ?_
  obtain ⟨a24, e24, h⟩ := obind h
  refine g_ldB e24 ok_30 rfl rfl (by decide) dX12_isBeside_24 ?_
  refine g_iconst dX12_isBeside_25 kc_1 ?_
  refine g_isub dX12_isBeside_26 ?_
  refine g_icmp_ge 46 dX12_isBeside_27 rfl (fun q => ?_) (fun q => ?_)
  · replace h := gif_t q h
    refine g_iconst dX12_isBeside_46 kc_0 ?_
    cases h
    exact g_zret0 dX12_isBeside_47 rfl
  · replace h := gif_f q h
    refine g_aload_n dX12_isBeside_30 rfl ?_
    refine g_iload_n dX12_isBeside_31 rfl ?_
    refine g_iload_n dX12_isBeside_32 rfl ?_
    refine g_iconst dX12_isBeside_33 kc_1 ?_
    refine g_iadd dX12_isBeside_34 ?_
    obtain ⟨p35, e35, h⟩ := obind h
    refine g_vP2 mv_X12_197 dX12_isBeside_35 ok_28 ⟨by decide, by decide⟩ (Nat.le_of_ble_eq_true rfl) (f_X12_codeOf_ok e35) ?_
    refine g_iload_n dX12_isBeside_38 rfl ?_
    refine g_icmp_ne 46 dX12_isBeside_39 rfl (fun q => ?_) (fun q => ?_)
    · replace h := gif_f q h
      refine g_iconst dX12_isBeside_46 kc_0 ?_
      cases h
      exact g_zret0 dX12_isBeside_47 rfl
    · replace h := gif_t q h
      refine g_iconst dX12_isBeside_42 kc_1 ?_
      refine g_goto 47 dX12_isBeside_43 rfl ?_
      cases h
      exact g_zret1 dX12_isBeside_47 rfl
theorem f_X12_isBeside_ok {v1 : Int32} {v2 : Int32} {v3 : Int32}  {σ : gSt} {r : (Int32 × gSt)} (h : f_X12_isBeside v1 v2 v3 σ = some r) : Mt l w 0 41 yX12_isBeside cX12_isBeside 4 (some .boolean) 1 22 [.ref (w.2.1 28 0), .int v1, .int v2, .int v3] σ (gE (some (.int r.1)) r.2) := by
  unfold f_X12_isBeside at h
  refine g_start pn_X12 rfl rfl (Nat.le_of_ble_eq_true rfl) ?_
  show G l w 0 41 RX12 cX12_isBeside 4 (some .boolean) 1 22 (gE (some (.int r.1)) r.2) 0 [some (.ref (w.2.1 28 0)), some (.int v1), some (.int v2), some (.int v3)] [] σ
  refine g_iload_n dX12_isBeside_0 rfl ?_
  refine g_if_le 16 dX12_isBeside_1 rfl (fun q => ?_) (fun q => ?_)
  · replace h := gif_t q h
    exact f_X12_isBeside_16_ok h
  · replace h := gif_f q h
    refine g_aload_n dX12_isBeside_4 rfl ?_
    refine g_iload_n dX12_isBeside_5 rfl ?_
    refine g_iload_n dX12_isBeside_6 rfl ?_
    refine g_iconst dX12_isBeside_7 kc_1 ?_
    refine g_isub dX12_isBeside_8 ?_
    obtain ⟨p9, e9, h⟩ := obind h
    refine g_vP2 mv_X12_197 dX12_isBeside_9 ok_28 ⟨by decide, by decide⟩ (Nat.le_of_ble_eq_true rfl) (f_X12_codeOf_ok e9) ?_
    refine g_iload_n dX12_isBeside_12 rfl ?_
    refine g_icmp_eq 42 dX12_isBeside_13 rfl (fun q => ?_) (fun q => ?_)
    · replace h := gif_t q h
      refine g_iconst dX12_isBeside_42 kc_1 ?_
      refine g_goto 47 dX12_isBeside_43 rfl ?_
      cases h
      exact g_zret1 dX12_isBeside_47 rfl
    · replace h := gif_f q h
      exact f_X12_isBeside_16_ok h
theorem dX12_recode_0 : decode cX12_recode 0 = .ok (.aload_n 0, 1) := by decide +kernel
theorem dX12_recode_1 : decode cX12_recode 1 = .ok (.iload_n 1, 1) := by decide +kernel
theorem dX12_recode_2 : decode cX12_recode 2 = .ok (.iload_n 2, 1) := by decide +kernel
theorem dX12_recode_3 : decode cX12_recode 3 = .ok (.invokevirtual 252, 3) := by decide +kernel
theorem dX12_recode_6 : decode cX12_recode 6 = .ok (.iload_n 3, 1) := by decide +kernel
theorem dX12_recode_7 : decode cX12_recode 7 = .ok (.iconst 1, 1) := by decide +kernel
theorem dX12_recode_8 : decode cX12_recode 8 = .ok (.bipush 99, 2) := by decide +kernel
theorem dX12_recode_10 : decode cX12_recode 10 = .ok (.invokestatic 79, 3) := by decide +kernel
theorem dX12_recode_13 : decode cX12_recode 13 = .ok (.invokestatic 157, 3) := by decide +kernel
theorem dX12_recode_16 : decode cX12_recode 16 = .ok (.istore 4, 2) := by decide +kernel
theorem dX12_recode_18 : decode cX12_recode 18 = .ok (.aload_n 0, 1) := by decide +kernel
theorem dX12_recode_19 : decode cX12_recode 19 = .ok (.iload 4, 2) := by decide +kernel
theorem dX12_recode_21 : decode cX12_recode 21 = .ok (.ifCond .eq 8, 3) := by decide +kernel
theorem dX12_recode_24 : decode cX12_recode 24 = .ok (.iload 4, 2) := by decide +kernel
theorem dX12_recode_26 : decode cX12_recode 26 = .ok (.goto 18, 3) := by decide +kernel
theorem dX12_recode_29 : decode cX12_recode 29 = .ok (.aload_n 0, 1) := by decide +kernel
theorem dX12_recode_30 : decode cX12_recode 30 = .ok (.iload_n 1, 1) := by decide +kernel
theorem dX12_recode_31 : decode cX12_recode 31 = .ok (.iload_n 2, 1) := by decide +kernel
theorem dX12_recode_32 : decode cX12_recode 32 = .ok (.iload_n 3, 1) := by decide +kernel
theorem dX12_recode_33 : decode cX12_recode 33 = .ok (.invokevirtual 331, 3) := by decide +kernel
theorem dX12_recode_36 : decode cX12_recode 36 = .ok (.ifCond .eq 7, 3) := by decide +kernel
theorem dX12_recode_39 : decode cX12_recode 39 = .ok (.iconst 5, 1) := by decide +kernel
theorem dX12_recode_40 : decode cX12_recode 40 = .ok (.goto 4, 3) := by decide +kernel
theorem dX12_recode_43 : decode cX12_recode 43 = .ok (.iconst 0, 1) := by decide +kernel
theorem dX12_recode_44 : decode cX12_recode 44 = .ok (.invokevirtual 161, 3) := by decide +kernel
theorem dX12_recode_47 : decode cX12_recode 47 = .ok (.ifCond .eq 5, 3) := by decide +kernel
theorem dX12_recode_50 : decode cX12_recode 50 = .ok (.iconst (-1), 1) := by decide +kernel
theorem dX12_recode_51 : decode cX12_recode 51 = .ok (.ireturn, 1) := by decide +kernel
theorem dX12_recode_52 : decode cX12_recode 52 = .ok (.aload_n 0, 1) := by decide +kernel
theorem dX12_recode_53 : decode cX12_recode 53 = .ok (.bipush 7, 2) := by decide +kernel
theorem dX12_recode_55 : decode cX12_recode 55 = .ok (.bipush 10, 2) := by decide +kernel
theorem dX12_recode_57 : decode cX12_recode 57 = .ok (.iload_n 1, 1) := by decide +kernel
theorem dX12_recode_58 : decode cX12_recode 58 = .ok (.imul, 1) := by decide +kernel
theorem dX12_recode_59 : decode cX12_recode 59 = .ok (.iadd, 1) := by decide +kernel
theorem dX12_recode_60 : decode cX12_recode 60 = .ok (.iload_n 2, 1) := by decide +kernel
theorem dX12_recode_61 : decode cX12_recode 61 = .ok (.iadd, 1) := by decide +kernel
theorem dX12_recode_62 : decode cX12_recode 62 = .ok (.iload_n 3, 1) := by decide +kernel
theorem dX12_recode_63 : decode cX12_recode 63 = .ok (.invokevirtual 328, 3) := by decide +kernel
theorem dX12_recode_66 : decode cX12_recode 66 = .ok (.ireturn, 1) := by decide +kernel
def f_X12_recode_44 (v1 : Int32) (v2 : Int32) (v3 : Int32) (vs1 : Int32) (σ : gSt) : Option (Int32 × gSt) :=
  (f_X12_isRefused vs1 σ).bind fun p44 =>
  if p44.1 = 0 then
    (f_X12_comes ((7 + (10 * v1)) + v2) v3 p44.2).bind fun p63 =>
    some (p63.1, p63.2)
  else
    some ((-1), p44.2)
def f_X12_recode (v1 : Int32) (v2 : Int32) (v3 : Int32) (σ : gSt) : Option (Int32 × gSt) :=
  (f_X12_isControl v1 v2 σ).bind fun p3 =>
  (f_X12_in v3 1 99 p3.2).bind fun p10 =>
  (f_X12_unless_ p3.1 p10.1 p10.2).bind fun p13 =>
  if p13.1 = 0 then
    (f_X12_isBeside v1 v2 v3 p13.2).bind fun p33 =>
    if p33.1 = 0 then
      f_X12_recode_44 v1 v2 v3 0 p33.2
    else
      f_X12_recode_44 v1 v2 v3 5 p33.2
  else
    f_X12_recode_44 v1 v2 v3 p13.1 p13.2
theorem f_X12_recode_44_ok {v1 : Int32} {v2 : Int32} {v3 : Int32} {vs1 : Int32} {r : (Int32 × gSt)}  {σ : gSt} {x4 : Option Value} (h : f_X12_recode_44 v1 v2 v3 vs1 σ = some r) : G l w 0 41 RX12 cX12_recode 5 (some .int) 3 69 (gE (some (.int r.1)) r.2) 44 [some (.ref (w.2.1 28 0)), some (.int v1), some (.int v2), some (.int v3), x4] [.int vs1, .ref (w.2.1 28 0)] σ := by
  unfold f_X12_recode_44 at h
  obtain ⟨p44, e44, h⟩ := obind h
  refine g_vP1 mv_X12_161 dX12_recode_44 ok_28 ⟨by decide, by decide⟩ (Nat.le_of_ble_eq_true rfl) (f_X12_isRefused_ok e44) ?_
  refine g_if_eq 52 dX12_recode_47 rfl (fun q => ?_) (fun q => ?_)
  · replace h := gif_t q h
    refine g_aload_n dX12_recode_52 rfl ?_
    refine g_bipush dX12_recode_53 kb_7 ?_
    refine g_bipush dX12_recode_55 kb_10 ?_
    refine g_iload_n dX12_recode_57 rfl ?_
    refine g_imul dX12_recode_58 ?_
    refine g_iadd dX12_recode_59 ?_
    refine g_iload_n dX12_recode_60 rfl ?_
    refine g_iadd dX12_recode_61 ?_
    refine g_iload_n dX12_recode_62 rfl ?_
    obtain ⟨p63, e63, h⟩ := obind h
    refine g_vP2 mv_X12_328 dX12_recode_63 ok_28 ⟨by decide, by decide⟩ (Nat.le_of_ble_eq_true rfl) (f_X12_comes_ok e63) ?_
    cases h
    exact g_iret dX12_recode_66 rfl ⟨rfl, rfl⟩
  · replace h := gif_f q h
    refine g_iconst dX12_recode_50 kc_m1 ?_
    cases h
    exact g_iret dX12_recode_51 rfl ⟨rfl, rfl⟩
theorem f_X12_recode_ok {v1 : Int32} {v2 : Int32} {v3 : Int32}  {σ : gSt} {r : (Int32 × gSt)} (h : f_X12_recode v1 v2 v3 σ = some r) : Mt l w 0 41 yX12_recode cX12_recode 5 (some .int) 3 69 [.ref (w.2.1 28 0), .int v1, .int v2, .int v3] σ (gE (some (.int r.1)) r.2) := by
  unfold f_X12_recode at h
  refine g_start pn_X12 rfl rfl (Nat.le_of_ble_eq_true rfl) ?_
  show G l w 0 41 RX12 cX12_recode 5 (some .int) 3 69 (gE (some (.int r.1)) r.2) 0 [some (.ref (w.2.1 28 0)), some (.int v1), some (.int v2), some (.int v3), none] [] σ
  refine g_aload_n dX12_recode_0 rfl ?_
  refine g_iload_n dX12_recode_1 rfl ?_
  refine g_iload_n dX12_recode_2 rfl ?_
  obtain ⟨p3, e3, h⟩ := obind h
  refine g_vP2 mv_X12_252 dX12_recode_3 ok_28 ⟨by decide, by decide⟩ (Nat.le_of_ble_eq_true rfl) (f_X12_isControl_ok e3) ?_
  refine g_iload_n dX12_recode_6 rfl ?_
  refine g_iconst dX12_recode_7 kc_1 ?_
  refine g_bipush dX12_recode_8 kb_99 ?_
  obtain ⟨p10, e10, h⟩ := obind h
  refine g_sP3 ms_X12_79 dX12_recode_10 ⟨by decide, by decide⟩ (Nat.le_of_ble_eq_true rfl) (f_X12_in_ok e10) ?_
  obtain ⟨p13, e13, h⟩ := obind h
  refine g_sP2 ms_X12_157 dX12_recode_13 ⟨by decide, by decide⟩ (Nat.le_of_ble_eq_true rfl) (f_X12_unless__ok e13) ?_
  refine g_istore4 dX12_recode_16 ?_
  refine g_aload_n dX12_recode_18 rfl ?_
  refine g_iload dX12_recode_19 rfl ?_
  refine g_if_eq 29 dX12_recode_21 rfl (fun q => ?_) (fun q => ?_)
  · replace h := gif_t q h
    refine g_aload_n dX12_recode_29 rfl ?_
    refine g_iload_n dX12_recode_30 rfl ?_
    refine g_iload_n dX12_recode_31 rfl ?_
    refine g_iload_n dX12_recode_32 rfl ?_
    obtain ⟨p33, e33, h⟩ := obind h
    refine g_vP3 mv_X12_331 dX12_recode_33 ok_28 ⟨by decide, by decide⟩ (Nat.le_of_ble_eq_true rfl) (f_X12_isBeside_ok e33) ?_
    refine g_if_eq 43 dX12_recode_36 rfl (fun q => ?_) (fun q => ?_)
    · replace h := gif_t q h
      refine g_iconst dX12_recode_43 kc_0 ?_
      exact f_X12_recode_44_ok h
    · replace h := gif_f q h
      refine g_iconst dX12_recode_39 kc_5 ?_
      refine g_goto 44 dX12_recode_40 rfl ?_
      exact f_X12_recode_44_ok h
  · replace h := gif_f q h
    refine g_iload dX12_recode_24 rfl ?_
    refine g_goto 44 dX12_recode_26 rfl ?_
    exact f_X12_recode_44_ok h
theorem dX12_wouldBeAlike_0 : decode cX12_wouldBeAlike 0 = .ok (.iload_n 2, 1) := by decide +kernel
theorem dX12_wouldBeAlike_1 : decode cX12_wouldBeAlike 1 = .ok (.ifCond .le 40, 3) := by decide +kernel
theorem dX12_wouldBeAlike_4 : decode cX12_wouldBeAlike 4 = .ok (.iload_n 2, 1) := by decide +kernel
theorem dX12_wouldBeAlike_5 : decode cX12_wouldBeAlike 5 = .ok (.aload_n 0, 1) := by decide +kernel
theorem dX12_wouldBeAlike_6 : decode cX12_wouldBeAlike 6 = .ok (.getfield 17, 3) := by decide +kernel
theorem dX12_wouldBeAlike_9 : decode cX12_wouldBeAlike 9 = .ok (.iconst 4, 1) := by decide +kernel
theorem dX12_wouldBeAlike_10 : decode cX12_wouldBeAlike 10 = .ok (.iload_n 1, 1) := by decide +kernel
theorem dX12_wouldBeAlike_11 : decode cX12_wouldBeAlike 11 = .ok (.iadd, 1) := by decide +kernel
theorem dX12_wouldBeAlike_12 : decode cX12_wouldBeAlike 12 = .ok (.iaload, 1) := by decide +kernel
theorem dX12_wouldBeAlike_13 : decode cX12_wouldBeAlike 13 = .ok (.iconst 1, 1) := by decide +kernel
theorem dX12_wouldBeAlike_14 : decode cX12_wouldBeAlike 14 = .ok (.isub, 1) := by decide +kernel
theorem dX12_wouldBeAlike_15 : decode cX12_wouldBeAlike 15 = .ok (.if_icmp .ge 26, 3) := by decide +kernel
theorem dX12_wouldBeAlike_18 : decode cX12_wouldBeAlike 18 = .ok (.aload_n 0, 1) := by decide +kernel
theorem dX12_wouldBeAlike_19 : decode cX12_wouldBeAlike 19 = .ok (.iload_n 1, 1) := by decide +kernel
theorem dX12_wouldBeAlike_20 : decode cX12_wouldBeAlike 20 = .ok (.iload_n 2, 1) := by decide +kernel
theorem dX12_wouldBeAlike_21 : decode cX12_wouldBeAlike 21 = .ok (.iconst 1, 1) := by decide +kernel
theorem dX12_wouldBeAlike_22 : decode cX12_wouldBeAlike 22 = .ok (.isub, 1) := by decide +kernel
theorem dX12_wouldBeAlike_23 : decode cX12_wouldBeAlike 23 = .ok (.invokevirtual 197, 3) := by decide +kernel
theorem dX12_wouldBeAlike_26 : decode cX12_wouldBeAlike 26 = .ok (.aload_n 0, 1) := by decide +kernel
theorem dX12_wouldBeAlike_27 : decode cX12_wouldBeAlike 27 = .ok (.iload_n 1, 1) := by decide +kernel
theorem dX12_wouldBeAlike_28 : decode cX12_wouldBeAlike 28 = .ok (.iload_n 2, 1) := by decide +kernel
theorem dX12_wouldBeAlike_29 : decode cX12_wouldBeAlike 29 = .ok (.iconst 1, 1) := by decide +kernel
theorem dX12_wouldBeAlike_30 : decode cX12_wouldBeAlike 30 = .ok (.iadd, 1) := by decide +kernel
theorem dX12_wouldBeAlike_31 : decode cX12_wouldBeAlike 31 = .ok (.invokevirtual 197, 3) := by decide +kernel
theorem dX12_wouldBeAlike_34 : decode cX12_wouldBeAlike 34 = .ok (.if_icmp .ne 7, 3) := by decide +kernel
theorem dX12_wouldBeAlike_37 : decode cX12_wouldBeAlike 37 = .ok (.iconst 1, 1) := by decide +kernel
theorem dX12_wouldBeAlike_38 : decode cX12_wouldBeAlike 38 = .ok (.goto 4, 3) := by decide +kernel
theorem dX12_wouldBeAlike_41 : decode cX12_wouldBeAlike 41 = .ok (.iconst 0, 1) := by decide +kernel
theorem dX12_wouldBeAlike_42 : decode cX12_wouldBeAlike 42 = .ok (.ireturn, 1) := by decide +kernel
def f_X12_wouldBeAlike (v1 : Int32) (v2 : Int32) (σ : gSt) : Option (Int32 × gSt) :=
  if v2 ≤ 0 then
    some (0, σ)
  else
    (gld σ 30 0 397 (4 + v1)).bind fun a12 =>
    if (a12 - 1) ≤ v2 then
      some (0, σ)
    else
      (f_X12_codeOf v1 (v2 - 1) σ).bind fun p23 =>
      (f_X12_codeOf v1 (v2 + 1) p23.2).bind fun p31 =>
      if p23.1 = p31.1 then
        some (1, p31.2)
      else
        some (0, p31.2)
theorem f_X12_wouldBeAlike_ok {v1 : Int32} {v2 : Int32}  {σ : gSt} {r : (Int32 × gSt)} (h : f_X12_wouldBeAlike v1 v2 σ = some r) : Mt l w 0 41 yX12_wouldBeAlike cX12_wouldBeAlike 3 (some .boolean) 1 22 [.ref (w.2.1 28 0), .int v1, .int v2] σ (gE (some (.int r.1)) r.2) := by
  unfold f_X12_wouldBeAlike at h
  refine g_start pn_X12 rfl rfl (Nat.le_of_ble_eq_true rfl) ?_
  show G l w 0 41 RX12 cX12_wouldBeAlike 3 (some .boolean) 1 22 (gE (some (.int r.1)) r.2) 0 [some (.ref (w.2.1 28 0)), some (.int v1), some (.int v2)] [] σ
  refine g_iload_n dX12_wouldBeAlike_0 rfl ?_
  refine g_if_le 41 dX12_wouldBeAlike_1 rfl (fun q => ?_) (fun q => ?_)
  · replace h := gif_t q h
    refine g_iconst dX12_wouldBeAlike_41 kc_0 ?_
    cases h
    exact g_zret0 dX12_wouldBeAlike_42 rfl
  · replace h := gif_f q h
    refine g_iload_n dX12_wouldBeAlike_4 rfl ?_
    refine g_aload_n dX12_wouldBeAlike_5 rfl ?_
    refine gR_X12_17 ok_28 dX12_wouldBeAlike_6 ?_
    refine g_iconst dX12_wouldBeAlike_9 kc_4 ?_
    refine g_iload_n dX12_wouldBeAlike_10 rfl ?_
    refine g_iadd dX12_wouldBeAlike_11 ?_
    obtain ⟨a12, e12, h⟩ := obind h
    refine g_ldB e12 ok_30 rfl rfl (by decide) dX12_wouldBeAlike_12 ?_
    refine g_iconst dX12_wouldBeAlike_13 kc_1 ?_
    refine g_isub dX12_wouldBeAlike_14 ?_
    refine g_icmp_ge 41 dX12_wouldBeAlike_15 rfl (fun q => ?_) (fun q => ?_)
    · replace h := gif_t q h
      refine g_iconst dX12_wouldBeAlike_41 kc_0 ?_
      cases h
      exact g_zret0 dX12_wouldBeAlike_42 rfl
    · replace h := gif_f q h
      refine g_aload_n dX12_wouldBeAlike_18 rfl ?_
      refine g_iload_n dX12_wouldBeAlike_19 rfl ?_
      refine g_iload_n dX12_wouldBeAlike_20 rfl ?_
      refine g_iconst dX12_wouldBeAlike_21 kc_1 ?_
      refine g_isub dX12_wouldBeAlike_22 ?_
      obtain ⟨p23, e23, h⟩ := obind h
      refine g_vP2 mv_X12_197 dX12_wouldBeAlike_23 ok_28 ⟨by decide, by decide⟩ (Nat.le_of_ble_eq_true rfl) (f_X12_codeOf_ok e23) ?_
      refine g_aload_n dX12_wouldBeAlike_26 rfl ?_
      refine g_iload_n dX12_wouldBeAlike_27 rfl ?_
      refine g_iload_n dX12_wouldBeAlike_28 rfl ?_
      refine g_iconst dX12_wouldBeAlike_29 kc_1 ?_
      refine g_iadd dX12_wouldBeAlike_30 ?_
      obtain ⟨p31, e31, h⟩ := obind h
      refine g_vP2 mv_X12_197 dX12_wouldBeAlike_31 ok_28 ⟨by decide, by decide⟩ (Nat.le_of_ble_eq_true rfl) (f_X12_codeOf_ok e31) ?_
      refine g_icmp_ne 41 dX12_wouldBeAlike_34 rfl (fun q => ?_) (fun q => ?_)
      · replace h := gif_f q h
        refine g_iconst dX12_wouldBeAlike_41 kc_0 ?_
        cases h
        exact g_zret0 dX12_wouldBeAlike_42 rfl
      · replace h := gif_t q h
        refine g_iconst dX12_wouldBeAlike_37 kc_1 ?_
        refine g_goto 42 dX12_wouldBeAlike_38 rfl ?_
        cases h
        exact g_zret1 dX12_wouldBeAlike_42 rfl
theorem dX12_cancel_0 : decode cX12_cancel 0 = .ok (.aload_n 0, 1) := by decide +kernel
theorem dX12_cancel_1 : decode cX12_cancel 1 = .ok (.aload_n 0, 1) := by decide +kernel
theorem dX12_cancel_2 : decode cX12_cancel 2 = .ok (.iload_n 1, 1) := by decide +kernel
theorem dX12_cancel_3 : decode cX12_cancel 3 = .ok (.iload_n 2, 1) := by decide +kernel
theorem dX12_cancel_4 : decode cX12_cancel 4 = .ok (.invokevirtual 252, 3) := by decide +kernel
theorem dX12_cancel_7 : decode cX12_cancel 7 = .ok (.ifCond .ne 7, 3) := by decide +kernel
theorem dX12_cancel_10 : decode cX12_cancel 10 = .ok (.iconst 1, 1) := by decide +kernel
theorem dX12_cancel_11 : decode cX12_cancel 11 = .ok (.goto 29, 3) := by decide +kernel
theorem dX12_cancel_14 : decode cX12_cancel 14 = .ok (.aload_n 0, 1) := by decide +kernel
theorem dX12_cancel_15 : decode cX12_cancel 15 = .ok (.getfield 17, 3) := by decide +kernel
theorem dX12_cancel_18 : decode cX12_cancel 18 = .ok (.iconst 4, 1) := by decide +kernel
theorem dX12_cancel_19 : decode cX12_cancel 19 = .ok (.iload_n 1, 1) := by decide +kernel
theorem dX12_cancel_20 : decode cX12_cancel 20 = .ok (.iadd, 1) := by decide +kernel
theorem dX12_cancel_21 : decode cX12_cancel 21 = .ok (.iaload, 1) := by decide +kernel
theorem dX12_cancel_22 : decode cX12_cancel 22 = .ok (.iconst 1, 1) := by decide +kernel
theorem dX12_cancel_23 : decode cX12_cancel 23 = .ok (.if_icmp .eq 12, 3) := by decide +kernel
theorem dX12_cancel_26 : decode cX12_cancel 26 = .ok (.aload_n 0, 1) := by decide +kernel
theorem dX12_cancel_27 : decode cX12_cancel 27 = .ok (.iload_n 1, 1) := by decide +kernel
theorem dX12_cancel_28 : decode cX12_cancel 28 = .ok (.iload_n 2, 1) := by decide +kernel
theorem dX12_cancel_29 : decode cX12_cancel 29 = .ok (.invokevirtual 334, 3) := by decide +kernel
theorem dX12_cancel_32 : decode cX12_cancel 32 = .ok (.ifCond .eq 7, 3) := by decide +kernel
theorem dX12_cancel_35 : decode cX12_cancel 35 = .ok (.iconst 5, 1) := by decide +kernel
theorem dX12_cancel_36 : decode cX12_cancel 36 = .ok (.goto 4, 3) := by decide +kernel
theorem dX12_cancel_39 : decode cX12_cancel 39 = .ok (.iconst 0, 1) := by decide +kernel
theorem dX12_cancel_40 : decode cX12_cancel 40 = .ok (.invokevirtual 161, 3) := by decide +kernel
theorem dX12_cancel_43 : decode cX12_cancel 43 = .ok (.ifCond .eq 5, 3) := by decide +kernel
theorem dX12_cancel_46 : decode cX12_cancel 46 = .ok (.iconst (-1), 1) := by decide +kernel
theorem dX12_cancel_47 : decode cX12_cancel 47 = .ok (.ireturn, 1) := by decide +kernel
theorem dX12_cancel_48 : decode cX12_cancel 48 = .ok (.aload_n 0, 1) := by decide +kernel
theorem dX12_cancel_49 : decode cX12_cancel 49 = .ok (.invokevirtual 325, 3) := by decide +kernel
theorem dX12_cancel_52 : decode cX12_cancel 52 = .ok (.aload_n 0, 1) := by decide +kernel
theorem dX12_cancel_53 : decode cX12_cancel 53 = .ok (.getfield 17, 3) := by decide +kernel
theorem dX12_cancel_56 : decode cX12_cancel 56 = .ok (.iconst 4, 1) := by decide +kernel
theorem dX12_cancel_57 : decode cX12_cancel 57 = .ok (.iload_n 1, 1) := by decide +kernel
theorem dX12_cancel_58 : decode cX12_cancel 58 = .ok (.iadd, 1) := by decide +kernel
theorem dX12_cancel_59 : decode cX12_cancel 59 = .ok (.dup2, 1) := by decide +kernel
theorem dX12_cancel_60 : decode cX12_cancel 60 = .ok (.iaload, 1) := by decide +kernel
theorem dX12_cancel_61 : decode cX12_cancel 61 = .ok (.iconst 1, 1) := by decide +kernel
theorem dX12_cancel_62 : decode cX12_cancel 62 = .ok (.isub, 1) := by decide +kernel
theorem dX12_cancel_63 : decode cX12_cancel 63 = .ok (.iastore, 1) := by decide +kernel
theorem dX12_cancel_64 : decode cX12_cancel 64 = .ok (.iload_n 2, 1) := by decide +kernel
theorem dX12_cancel_65 : decode cX12_cancel 65 = .ok (.istore_n 3, 1) := by decide +kernel
theorem dX12_cancel_66 : decode cX12_cancel 66 = .ok (.iload_n 3, 1) := by decide +kernel
theorem dX12_cancel_67 : decode cX12_cancel 67 = .ok (.aload_n 0, 1) := by decide +kernel
theorem dX12_cancel_68 : decode cX12_cancel 68 = .ok (.getfield 17, 3) := by decide +kernel
theorem dX12_cancel_71 : decode cX12_cancel 71 = .ok (.iconst 4, 1) := by decide +kernel
theorem dX12_cancel_72 : decode cX12_cancel 72 = .ok (.iload_n 1, 1) := by decide +kernel
theorem dX12_cancel_73 : decode cX12_cancel 73 = .ok (.iadd, 1) := by decide +kernel
theorem dX12_cancel_74 : decode cX12_cancel 74 = .ok (.iaload, 1) := by decide +kernel
theorem dX12_cancel_75 : decode cX12_cancel 75 = .ok (.if_icmp .ge 39, 3) := by decide +kernel
theorem dX12_cancel_78 : decode cX12_cancel 78 = .ok (.aload_n 0, 1) := by decide +kernel
theorem dX12_cancel_79 : decode cX12_cancel 79 = .ok (.getfield 17, 3) := by decide +kernel
theorem dX12_cancel_82 : decode cX12_cancel 82 = .ok (.bipush 7, 2) := by decide +kernel
theorem dX12_cancel_84 : decode cX12_cancel 84 = .ok (.bipush 10, 2) := by decide +kernel
theorem dX12_cancel_86 : decode cX12_cancel 86 = .ok (.iload_n 1, 1) := by decide +kernel
theorem dX12_cancel_87 : decode cX12_cancel 87 = .ok (.imul, 1) := by decide +kernel
theorem dX12_cancel_88 : decode cX12_cancel 88 = .ok (.iadd, 1) := by decide +kernel
theorem dX12_cancel_89 : decode cX12_cancel 89 = .ok (.iload_n 3, 1) := by decide +kernel
theorem dX12_cancel_90 : decode cX12_cancel 90 = .ok (.iadd, 1) := by decide +kernel
theorem dX12_cancel_91 : decode cX12_cancel 91 = .ok (.aload_n 0, 1) := by decide +kernel
theorem dX12_cancel_92 : decode cX12_cancel 92 = .ok (.getfield 17, 3) := by decide +kernel
theorem dX12_cancel_95 : decode cX12_cancel 95 = .ok (.bipush 7, 2) := by decide +kernel
theorem dX12_cancel_97 : decode cX12_cancel 97 = .ok (.bipush 10, 2) := by decide +kernel
theorem dX12_cancel_99 : decode cX12_cancel 99 = .ok (.iload_n 1, 1) := by decide +kernel
theorem dX12_cancel_100 : decode cX12_cancel 100 = .ok (.imul, 1) := by decide +kernel
theorem dX12_cancel_101 : decode cX12_cancel 101 = .ok (.iadd, 1) := by decide +kernel
theorem dX12_cancel_102 : decode cX12_cancel 102 = .ok (.iload_n 3, 1) := by decide +kernel
theorem dX12_cancel_103 : decode cX12_cancel 103 = .ok (.iadd, 1) := by decide +kernel
theorem dX12_cancel_104 : decode cX12_cancel 104 = .ok (.iconst 1, 1) := by decide +kernel
theorem dX12_cancel_105 : decode cX12_cancel 105 = .ok (.iadd, 1) := by decide +kernel
theorem dX12_cancel_106 : decode cX12_cancel 106 = .ok (.iaload, 1) := by decide +kernel
theorem dX12_cancel_107 : decode cX12_cancel 107 = .ok (.iastore, 1) := by decide +kernel
theorem dX12_cancel_108 : decode cX12_cancel 108 = .ok (.iinc 3 1, 3) := by decide +kernel
theorem dX12_cancel_111 : decode cX12_cancel 111 = .ok (.goto (-45), 3) := by decide +kernel
theorem dX12_cancel_114 : decode cX12_cancel 114 = .ok (.aload_n 0, 1) := by decide +kernel
theorem dX12_cancel_115 : decode cX12_cancel 115 = .ok (.getfield 17, 3) := by decide +kernel
theorem dX12_cancel_118 : decode cX12_cancel 118 = .ok (.iconst 4, 1) := by decide +kernel
theorem dX12_cancel_119 : decode cX12_cancel 119 = .ok (.iload_n 1, 1) := by decide +kernel
theorem dX12_cancel_120 : decode cX12_cancel 120 = .ok (.iadd, 1) := by decide +kernel
theorem dX12_cancel_121 : decode cX12_cancel 121 = .ok (.iaload, 1) := by decide +kernel
theorem dX12_cancel_122 : decode cX12_cancel 122 = .ok (.ireturn, 1) := by decide +kernel
def f_X12_cancel_66 (v1 : Int32) : Nat → Int32 → gSt → Option (Int32 × gSt)
  | 0, _, _ => none
  | n + 1, v3, σ =>
    (gld σ 30 0 397 (4 + v1)).bind fun a74 =>
    if a74 ≤ v3 then
      (gld σ 30 0 397 (4 + v1)).bind fun a121 =>
      some (a121, σ)
    else
      (gld σ 30 0 397 (((7 + (10 * v1)) + v3) + 1)).bind fun a106 =>
      (gst σ 30 0 397 ((7 + (10 * v1)) + v3) a106).bind fun z107 =>
      f_X12_cancel_66 v1 n (v3 + 1) z107
def f_X12_cancel_40 (v1 : Int32) (v2 : Int32) (vs1 : Int32) (σ : gSt) : Option (Int32 × gSt) :=
  (f_X12_isRefused vs1 σ).bind fun p40 =>
  if p40.1 = 0 then
    (f_X12_remembers p40.2).bind fun z49 =>
    (gld z49 30 0 397 (4 + v1)).bind fun a60 =>
    (gst z49 30 0 397 (4 + v1) (a60 - 1)).bind fun z63 =>
    f_X12_cancel_66 v1 gFuel v2 z63
  else
    some ((-1), p40.2)
def f_X12_cancel_35 (v1 : Int32) (v2 : Int32) (σ : gSt) : Option (Int32 × gSt) :=
  f_X12_cancel_40 v1 v2 5 σ
def f_X12_cancel (v1 : Int32) (v2 : Int32) (σ : gSt) : Option (Int32 × gSt) :=
  (f_X12_isControl v1 v2 σ).bind fun p4 =>
  if p4.1 = 0 then
    f_X12_cancel_40 v1 v2 1 p4.2
  else
    (gld p4.2 30 0 397 (4 + v1)).bind fun a21 =>
    if a21 = 1 then
      f_X12_cancel_35 v1 v2 p4.2
    else
      (f_X12_wouldBeAlike v1 v2 p4.2).bind fun p29 =>
      if p29.1 = 0 then
        f_X12_cancel_40 v1 v2 0 p29.2
      else
        f_X12_cancel_35 v1 v2 p29.2
theorem f_X12_cancel_66_ok {v1 : Int32} {r : (Int32 × gSt)}  : ∀ (n : Nat) {v3 : Int32} {σ : gSt} {x2 : Option Value}, f_X12_cancel_66 v1 n v3 σ = some r → G l w 0 41 RX12 cX12_cancel 4 (some .int) 3 65 (gE (some (.int r.1)) r.2) 66 [some (.ref (w.2.1 28 0)), some (.int v1), x2, some (.int v3)] [] σ := by
  intro n
  induction n with
  | zero => intro v3 σ x2 h; rw [f_X12_cancel_66] at h; cases h
  | succ n ih =>
    intro v3 σ x2 h
    rw [f_X12_cancel_66] at h
    refine g_iload_n dX12_cancel_66 rfl ?_
    refine g_aload_n dX12_cancel_67 rfl ?_
    refine gR_X12_17 ok_28 dX12_cancel_68 ?_
    refine g_iconst dX12_cancel_71 kc_4 ?_
    refine g_iload_n dX12_cancel_72 rfl ?_
    refine g_iadd dX12_cancel_73 ?_
    obtain ⟨a74, e74, h⟩ := obind h
    refine g_ldB e74 ok_30 rfl rfl (by decide) dX12_cancel_74 ?_
    refine g_icmp_ge 114 dX12_cancel_75 rfl (fun q => ?_) (fun q => ?_)
    · replace h := gif_t q h
      refine g_aload_n dX12_cancel_114 rfl ?_
      refine gR_X12_17 ok_28 dX12_cancel_115 ?_
      refine g_iconst dX12_cancel_118 kc_4 ?_
      refine g_iload_n dX12_cancel_119 rfl ?_
      refine g_iadd dX12_cancel_120 ?_
      obtain ⟨a121, e121, h⟩ := obind h
      refine g_ldB e121 ok_30 rfl rfl (by decide) dX12_cancel_121 ?_
      cases h
      exact g_iret dX12_cancel_122 rfl ⟨rfl, rfl⟩
    · replace h := gif_f q h
      refine g_aload_n dX12_cancel_78 rfl ?_
      refine gR_X12_17 ok_28 dX12_cancel_79 ?_
      refine g_bipush dX12_cancel_82 kb_7 ?_
      refine g_bipush dX12_cancel_84 kb_10 ?_
      refine g_iload_n dX12_cancel_86 rfl ?_
      refine g_imul dX12_cancel_87 ?_
      refine g_iadd dX12_cancel_88 ?_
      refine g_iload_n dX12_cancel_89 rfl ?_
      refine g_iadd dX12_cancel_90 ?_
      refine g_aload_n dX12_cancel_91 rfl ?_
      refine gR_X12_17 ok_28 dX12_cancel_92 ?_
      refine g_bipush dX12_cancel_95 kb_7 ?_
      refine g_bipush dX12_cancel_97 kb_10 ?_
      refine g_iload_n dX12_cancel_99 rfl ?_
      refine g_imul dX12_cancel_100 ?_
      refine g_iadd dX12_cancel_101 ?_
      refine g_iload_n dX12_cancel_102 rfl ?_
      refine g_iadd dX12_cancel_103 ?_
      refine g_iconst dX12_cancel_104 kc_1 ?_
      refine g_iadd dX12_cancel_105 ?_
      obtain ⟨a106, e106, h⟩ := obind h
      refine g_ldB e106 ok_30 rfl rfl (by decide) dX12_cancel_106 ?_
      obtain ⟨z107, e107, h⟩ := obind h
      refine g_stB e107 ok_30 rfl rfl (by decide) dX12_cancel_107 ?_
      refine g_inc3 kc_1 dX12_cancel_108 ?_
      refine g_goto 66 dX12_cancel_111 rfl ?_
      exact ih h
theorem f_X12_cancel_40_ok {v1 : Int32} {v2 : Int32} {vs1 : Int32} {r : (Int32 × gSt)}  {σ : gSt} {x3 : Option Value} (h : f_X12_cancel_40 v1 v2 vs1 σ = some r) : G l w 0 41 RX12 cX12_cancel 4 (some .int) 3 65 (gE (some (.int r.1)) r.2) 40 [some (.ref (w.2.1 28 0)), some (.int v1), some (.int v2), x3] [.int vs1, .ref (w.2.1 28 0)] σ := by
  unfold f_X12_cancel_40 at h
  obtain ⟨p40, e40, h⟩ := obind h
  refine g_vP1 mv_X12_161 dX12_cancel_40 ok_28 ⟨by decide, by decide⟩ (Nat.le_of_ble_eq_true rfl) (f_X12_isRefused_ok e40) ?_
  refine g_if_eq 48 dX12_cancel_43 rfl (fun q => ?_) (fun q => ?_)
  · replace h := gif_t q h
    refine g_aload_n dX12_cancel_48 rfl ?_
    obtain ⟨z49, e49, h⟩ := obind h
    refine g_vU0 mv_X12_325 dX12_cancel_49 ok_28 ⟨by decide, by decide⟩ (Nat.le_of_ble_eq_true rfl) (f_X12_remembers_ok e49) ?_
    refine g_aload_n dX12_cancel_52 rfl ?_
    refine gR_X12_17 ok_28 dX12_cancel_53 ?_
    refine g_iconst dX12_cancel_56 kc_4 ?_
    refine g_iload_n dX12_cancel_57 rfl ?_
    refine g_iadd dX12_cancel_58 ?_
    refine g_dup2 dX12_cancel_59 rfl rfl ?_
    obtain ⟨a60, e60, h⟩ := obind h
    refine g_ldB e60 ok_30 rfl rfl (by decide) dX12_cancel_60 ?_
    refine g_iconst dX12_cancel_61 kc_1 ?_
    refine g_isub dX12_cancel_62 ?_
    obtain ⟨z63, e63, h⟩ := obind h
    refine g_stB e63 ok_30 rfl rfl (by decide) dX12_cancel_63 ?_
    refine g_iload_n dX12_cancel_64 rfl ?_
    refine g_istore3 dX12_cancel_65 ?_
    exact f_X12_cancel_66_ok gFuel h
  · replace h := gif_f q h
    refine g_iconst dX12_cancel_46 kc_m1 ?_
    cases h
    exact g_iret dX12_cancel_47 rfl ⟨rfl, rfl⟩
theorem f_X12_cancel_35_ok {v1 : Int32} {v2 : Int32} {r : (Int32 × gSt)}  {σ : gSt} {x3 : Option Value} (h : f_X12_cancel_35 v1 v2 σ = some r) : G l w 0 41 RX12 cX12_cancel 4 (some .int) 3 65 (gE (some (.int r.1)) r.2) 35 [some (.ref (w.2.1 28 0)), some (.int v1), some (.int v2), x3] [.ref (w.2.1 28 0)] σ := by
  unfold f_X12_cancel_35 at h
  refine g_iconst dX12_cancel_35 kc_5 ?_
  refine g_goto 40 dX12_cancel_36 rfl ?_
  exact f_X12_cancel_40_ok h
theorem f_X12_cancel_ok {v1 : Int32} {v2 : Int32}  {σ : gSt} {r : (Int32 × gSt)} (h : f_X12_cancel v1 v2 σ = some r) : Mt l w 0 41 yX12_cancel cX12_cancel 4 (some .int) 3 65 [.ref (w.2.1 28 0), .int v1, .int v2] σ (gE (some (.int r.1)) r.2) := by
  unfold f_X12_cancel at h
  refine g_start pn_X12 rfl rfl (Nat.le_of_ble_eq_true rfl) ?_
  show G l w 0 41 RX12 cX12_cancel 4 (some .int) 3 65 (gE (some (.int r.1)) r.2) 0 [some (.ref (w.2.1 28 0)), some (.int v1), some (.int v2), none] [] σ
  refine g_aload_n dX12_cancel_0 rfl ?_
  refine g_aload_n dX12_cancel_1 rfl ?_
  refine g_iload_n dX12_cancel_2 rfl ?_
  refine g_iload_n dX12_cancel_3 rfl ?_
  obtain ⟨p4, e4, h⟩ := obind h
  refine g_vP2 mv_X12_252 dX12_cancel_4 ok_28 ⟨by decide, by decide⟩ (Nat.le_of_ble_eq_true rfl) (f_X12_isControl_ok e4) ?_
  refine g_if_ne 14 dX12_cancel_7 rfl (fun q => ?_) (fun q => ?_)
  · replace h := gif_f q h
    refine g_aload_n dX12_cancel_14 rfl ?_
    refine gR_X12_17 ok_28 dX12_cancel_15 ?_
    refine g_iconst dX12_cancel_18 kc_4 ?_
    refine g_iload_n dX12_cancel_19 rfl ?_
    refine g_iadd dX12_cancel_20 ?_
    obtain ⟨a21, e21, h⟩ := obind h
    refine g_ldB e21 ok_30 rfl rfl (by decide) dX12_cancel_21 ?_
    refine g_iconst dX12_cancel_22 kc_1 ?_
    refine g_icmp_eq 35 dX12_cancel_23 rfl (fun q => ?_) (fun q => ?_)
    · replace h := gif_t q h
      exact f_X12_cancel_35_ok h
    · replace h := gif_f q h
      refine g_aload_n dX12_cancel_26 rfl ?_
      refine g_iload_n dX12_cancel_27 rfl ?_
      refine g_iload_n dX12_cancel_28 rfl ?_
      obtain ⟨p29, e29, h⟩ := obind h
      refine g_vP2 mv_X12_334 dX12_cancel_29 ok_28 ⟨by decide, by decide⟩ (Nat.le_of_ble_eq_true rfl) (f_X12_wouldBeAlike_ok e29) ?_
      refine g_if_eq 39 dX12_cancel_32 rfl (fun q => ?_) (fun q => ?_)
      · replace h := gif_t q h
        refine g_iconst dX12_cancel_39 kc_0 ?_
        exact f_X12_cancel_40_ok h
      · replace h := gif_f q h
        exact f_X12_cancel_35_ok h
  · replace h := gif_t q h
    refine g_iconst dX12_cancel_10 kc_1 ?_
    refine g_goto 40 dX12_cancel_11 rfl ?_
    exact f_X12_cancel_40_ok h
def f_X12_lays_k30_k40_3 (v1 : Int32) (v3 : Int32) (v4 : Int32) : Nat → Int32 → gSt → Option gSt
  | 0, _, _ => none
  | n + 1, v5, σ =>
    if v4 ≤ v5 then
      some σ
    else
      (gld σ 40 0 3970 (v3 + v5)).bind fun a20 =>
      (gst σ 30 0 397 (v1 + v5) a20).bind fun z21 =>
      f_X12_lays_k30_k40_3 v1 v3 v4 n (v5 + 1) z21
def f_X12_lays_k30_k40 (v1 : Int32) (v3 : Int32) (v4 : Int32) (σ : gSt) : Option gSt :=
  f_X12_lays_k30_k40_3 v1 v3 v4 gFuel 0 σ
theorem f_X12_lays_k30_k40_3_ok {v1 : Int32} {v3 : Int32} {v4 : Int32} {r : gSt}  : ∀ (n : Nat) {v5 : Int32} {σ : gSt} , f_X12_lays_k30_k40_3 v1 v3 v4 n v5 σ = some r → G l w 0 41 RX12 cX12_lays 6 none 0 0 (gE none r) 3 [some (.ref (w.2.1 30 0)), some (.int v1), some (.ref (w.2.1 40 0)), some (.int v3), some (.int v4), some (.int v5)] [] σ := by
  intro n
  induction n with
  | zero => intro v5 σ h; rw [f_X12_lays_k30_k40_3] at h; cases h
  | succ n ih =>
    intro v5 σ h
    rw [f_X12_lays_k30_k40_3] at h
    refine g_iload dX12_lays_3 rfl ?_
    refine g_iload dX12_lays_5 rfl ?_
    refine g_icmp_ge 28 dX12_lays_7 rfl (fun q => ?_) (fun q => ?_)
    · replace h := gif_t q h
      cases h
      exact g_vret dX12_lays_28 rfl ⟨rfl, rfl⟩
    · replace h := gif_f q h
      refine g_aload_n dX12_lays_10 rfl ?_
      refine g_iload_n dX12_lays_11 rfl ?_
      refine g_iload dX12_lays_12 rfl ?_
      refine g_iadd dX12_lays_14 ?_
      refine g_aload_n dX12_lays_15 rfl ?_
      refine g_iload_n dX12_lays_16 rfl ?_
      refine g_iload dX12_lays_17 rfl ?_
      refine g_iadd dX12_lays_19 ?_
      obtain ⟨a20, e20, h⟩ := obind h
      refine g_ldB e20 ok_40 rfl rfl (by decide) dX12_lays_20 ?_
      obtain ⟨z21, e21, h⟩ := obind h
      refine g_stB e21 ok_30 rfl rfl (by decide) dX12_lays_21 ?_
      refine g_inc5 kc_1 dX12_lays_22 ?_
      refine g_goto 3 dX12_lays_25 rfl ?_
      exact ih h
theorem f_X12_lays_k30_k40_ok {v1 : Int32} {v3 : Int32} {v4 : Int32}  {σ : gSt} {r : gSt} (h : f_X12_lays_k30_k40 v1 v3 v4 σ = some r) : Mt l w 0 41 yX12_lays cX12_lays 6 none 0 0 [.ref (w.2.1 30 0), .int v1, .ref (w.2.1 40 0), .int v3, .int v4] σ (gE none r) := by
  unfold f_X12_lays_k30_k40 at h
  refine g_start pn_X12 rfl rfl (Nat.le_of_ble_eq_true rfl) ?_
  show G l w 0 41 RX12 cX12_lays 6 none 0 0 (gE none r) 0 [some (.ref (w.2.1 30 0)), some (.int v1), some (.ref (w.2.1 40 0)), some (.int v3), some (.int v4), none] [] σ
  refine g_iconst dX12_lays_0 kc_0 ?_
  refine g_istore5 dX12_lays_1 ?_
  exact f_X12_lays_k30_k40_3_ok gFuel h
theorem dX12_undo_0 : decode cX12_undo 0 = .ok (.aload_n 0, 1) := by decide +kernel
theorem dX12_undo_1 : decode cX12_undo 1 = .ok (.aload_n 0, 1) := by decide +kernel
theorem dX12_undo_2 : decode cX12_undo 2 = .ok (.getfield 173, 3) := by decide +kernel
theorem dX12_undo_5 : decode cX12_undo 5 = .ok (.ifCond .ne 7, 3) := by decide +kernel
theorem dX12_undo_8 : decode cX12_undo 8 = .ok (.iconst 1, 1) := by decide +kernel
theorem dX12_undo_9 : decode cX12_undo 9 = .ok (.goto 15, 3) := by decide +kernel
theorem dX12_undo_12 : decode cX12_undo 12 = .ok (.aload_n 0, 1) := by decide +kernel
theorem dX12_undo_13 : decode cX12_undo 13 = .ok (.getfield 177, 3) := by decide +kernel
theorem dX12_undo_16 : decode cX12_undo 16 = .ok (.ifCond .ne 7, 3) := by decide +kernel
theorem dX12_undo_19 : decode cX12_undo 19 = .ok (.iconst 5, 1) := by decide +kernel
theorem dX12_undo_20 : decode cX12_undo 20 = .ok (.goto 4, 3) := by decide +kernel
theorem dX12_undo_23 : decode cX12_undo 23 = .ok (.iconst 0, 1) := by decide +kernel
theorem dX12_undo_24 : decode cX12_undo 24 = .ok (.invokevirtual 161, 3) := by decide +kernel
theorem dX12_undo_27 : decode cX12_undo 27 = .ok (.ifCond .eq 5, 3) := by decide +kernel
theorem dX12_undo_30 : decode cX12_undo 30 = .ok (.iconst (-1), 1) := by decide +kernel
theorem dX12_undo_31 : decode cX12_undo 31 = .ok (.ireturn, 1) := by decide +kernel
theorem dX12_undo_32 : decode cX12_undo 32 = .ok (.aload_n 0, 1) := by decide +kernel
theorem dX12_undo_33 : decode cX12_undo 33 = .ok (.dup, 1) := by decide +kernel
theorem dX12_undo_34 : decode cX12_undo 34 = .ok (.getfield 177, 3) := by decide +kernel
theorem dX12_undo_37 : decode cX12_undo 37 = .ok (.iconst 1, 1) := by decide +kernel
theorem dX12_undo_38 : decode cX12_undo 38 = .ok (.isub, 1) := by decide +kernel
theorem dX12_undo_39 : decode cX12_undo 39 = .ok (.putfield 177, 3) := by decide +kernel
theorem dX12_undo_42 : decode cX12_undo 42 = .ok (.aload_n 0, 1) := by decide +kernel
theorem dX12_undo_43 : decode cX12_undo 43 = .ok (.getfield 17, 3) := by decide +kernel
theorem dX12_undo_46 : decode cX12_undo 46 = .ok (.iconst 0, 1) := by decide +kernel
theorem dX12_undo_47 : decode cX12_undo 47 = .ok (.aload_n 0, 1) := by decide +kernel
theorem dX12_undo_48 : decode cX12_undo 48 = .ok (.getfield 47, 3) := by decide +kernel
theorem dX12_undo_51 : decode cX12_undo 51 = .ok (.sipush 397, 3) := by decide +kernel
theorem dX12_undo_54 : decode cX12_undo 54 = .ok (.aload_n 0, 1) := by decide +kernel
theorem dX12_undo_55 : decode cX12_undo 55 = .ok (.getfield 177, 3) := by decide +kernel
theorem dX12_undo_58 : decode cX12_undo 58 = .ok (.imul, 1) := by decide +kernel
theorem dX12_undo_59 : decode cX12_undo 59 = .ok (.sipush 397, 3) := by decide +kernel
theorem dX12_undo_62 : decode cX12_undo 62 = .ok (.invokestatic 180, 3) := by decide +kernel
theorem dX12_undo_65 : decode cX12_undo 65 = .ok (.aload_n 0, 1) := by decide +kernel
theorem dX12_undo_66 : decode cX12_undo 66 = .ok (.getfield 177, 3) := by decide +kernel
theorem dX12_undo_69 : decode cX12_undo 69 = .ok (.ireturn, 1) := by decide +kernel
def f_X12_undo_24 (vs1 : Int32) (σ : gSt) : Option (Int32 × gSt) :=
  (f_X12_isRefused vs1 σ).bind fun p24 =>
  if p24.1 = 0 then
    (f_X12_lays_k30_k40 0 (397 * ((gup p24.2 28 0 30 ((p24.2 28 0 30) - 1)) 28 0 30)) 397 (gup p24.2 28 0 30 ((p24.2 28 0 30) - 1))).bind fun z62 =>
    some ((z62 28 0 30), z62)
  else
    some ((-1), p24.2)
def f_X12_undo (σ : gSt) : Option (Int32 × gSt) :=
  if (σ 28 0 6) = 0 then
    f_X12_undo_24 1 σ
  else
    if (σ 28 0 30) = 0 then
      f_X12_undo_24 5 σ
    else
      f_X12_undo_24 0 σ
theorem f_X12_undo_24_ok {vs1 : Int32} {r : (Int32 × gSt)}  {σ : gSt}  (h : f_X12_undo_24 vs1 σ = some r) : G l w 0 41 RX12 cX12_undo 1 (some .int) 1 25 (gE (some (.int r.1)) r.2) 24 [some (.ref (w.2.1 28 0))] [.int vs1, .ref (w.2.1 28 0)] σ := by
  unfold f_X12_undo_24 at h
  obtain ⟨p24, e24, h⟩ := obind h
  refine g_vP1 mv_X12_161 dX12_undo_24 ok_28 ⟨by decide, by decide⟩ (Nat.le_of_ble_eq_true rfl) (f_X12_isRefused_ok e24) ?_
  refine g_if_eq 32 dX12_undo_27 rfl (fun q => ?_) (fun q => ?_)
  · replace h := gif_t q h
    refine g_aload_n dX12_undo_32 rfl ?_
    refine g_dup dX12_undo_33 rfl ?_
    refine gI_X12_177 ok_28 dX12_undo_34 ?_
    refine g_iconst dX12_undo_37 kc_1 ?_
    refine g_isub dX12_undo_38 ?_
    refine gP_X12_177 ok_28 dX12_undo_39 ?_
    refine g_aload_n dX12_undo_42 rfl ?_
    refine gR_X12_17 ok_28 dX12_undo_43 ?_
    refine g_iconst dX12_undo_46 kc_0 ?_
    refine g_aload_n dX12_undo_47 rfl ?_
    refine gR_X12_47 ok_28 dX12_undo_48 ?_
    refine g_sipush dX12_undo_51 ks_397 ?_
    refine g_aload_n dX12_undo_54 rfl ?_
    refine gI_X12_177 ok_28 dX12_undo_55 ?_
    refine g_imul dX12_undo_58 ?_
    refine g_sipush dX12_undo_59 ks_397 ?_
    obtain ⟨z62, e62, h⟩ := obind h
    refine g_sU5 ms_X12_180 dX12_undo_62 ⟨by decide, by decide⟩ (Nat.le_of_ble_eq_true rfl) (f_X12_lays_k30_k40_ok e62) ?_
    refine g_aload_n dX12_undo_65 rfl ?_
    refine gI_X12_177 ok_28 dX12_undo_66 ?_
    cases h
    exact g_iret dX12_undo_69 rfl ⟨rfl, rfl⟩
  · replace h := gif_f q h
    refine g_iconst dX12_undo_30 kc_m1 ?_
    cases h
    exact g_iret dX12_undo_31 rfl ⟨rfl, rfl⟩
theorem f_X12_undo_ok   {σ : gSt} {r : (Int32 × gSt)} (h : f_X12_undo σ = some r) : Mt l w 0 41 yX12_undo cX12_undo 1 (some .int) 1 25 [.ref (w.2.1 28 0)] σ (gE (some (.int r.1)) r.2) := by
  unfold f_X12_undo at h
  refine g_start pn_X12 rfl rfl (Nat.le_of_ble_eq_true rfl) ?_
  show G l w 0 41 RX12 cX12_undo 1 (some .int) 1 25 (gE (some (.int r.1)) r.2) 0 [some (.ref (w.2.1 28 0))] [] σ
  refine g_aload_n dX12_undo_0 rfl ?_
  refine g_aload_n dX12_undo_1 rfl ?_
  refine gI_X12_173 ok_28 dX12_undo_2 ?_
  refine g_if_ne 12 dX12_undo_5 rfl (fun q => ?_) (fun q => ?_)
  · replace h := gif_f q h
    refine g_aload_n dX12_undo_12 rfl ?_
    refine gI_X12_177 ok_28 dX12_undo_13 ?_
    refine g_if_ne 23 dX12_undo_16 rfl (fun q => ?_) (fun q => ?_)
    · replace h := gif_f q h
      refine g_iconst dX12_undo_23 kc_0 ?_
      exact f_X12_undo_24_ok h
    · replace h := gif_t q h
      refine g_iconst dX12_undo_19 kc_5 ?_
      refine g_goto 24 dX12_undo_20 rfl ?_
      exact f_X12_undo_24_ok h
  · replace h := gif_t q h
    refine g_iconst dX12_undo_8 kc_1 ?_
    refine g_goto 24 dX12_undo_9 rfl ?_
    exact f_X12_undo_24_ok h
def f_X12_isAt_k32_40 (v2 : Int32) (v3 : Int32) (v4 : Int32) (v5 : Int32) (v6 : Int32) (k19 : Int32 → Int32 → gSt → Option (Int32 × gSt)) (vs0 : Int32) (σ : gSt) : Option (Int32 × gSt) :=
  if v5 = 0 then
    k19 0 (v6 + 1) σ
  else
    if vs0 = 0 then
      (gld σ 32 0 78 (v2 + v6)).bind fun a90 =>
      if a90 = 0 then
        k19 1 (v6 + 1) σ
      else
        k19 0 (v6 + 1) σ
    else
      (gld σ 29 0 900 (v3 + v6)).bind fun a60 =>
      if a60 = 0 then
        k19 0 (v6 + 1) σ
      else
        (gld σ 32 0 78 (v2 + v6)).bind fun a69 =>
        (gld σ 29 0 900 (v3 + v6)).bind fun a78 =>
        if a69 = a78 then
          k19 1 (v6 + 1) σ
        else
          k19 0 (v6 + 1) σ
def f_X12_isAt_k32_19 (v2 : Int32) (v3 : Int32) (v4 : Int32) : Nat → Int32 → Int32 → gSt → Option (Int32 × gSt)
  | 0, _, _, _ => none
  | n + 1, v5, v6, σ =>
    if 6 ≤ v6 then
      gzr v5 σ
    else
      if v4 ≤ (v3 + v6) then
        f_X12_isAt_k32_40 v2 v3 v4 v5 v6 (fun v5 v6 σ => f_X12_isAt_k32_19 v2 v3 v4 n v5 v6 σ) 0 σ
      else
        f_X12_isAt_k32_40 v2 v3 v4 v5 v6 (fun v5 v6 σ => f_X12_isAt_k32_19 v2 v3 v4 n v5 v6 σ) 1 σ
def f_X12_isAt_k32 (v2 : Int32) (v3 : Int32) (v4 : Int32) (σ : gSt) : Option (Int32 × gSt) :=
  if 6 < (v4 - v3) then
    f_X12_isAt_k32_19 v2 v3 v4 gFuel 0 0 σ
  else
    f_X12_isAt_k32_19 v2 v3 v4 gFuel 1 0 σ
theorem f_X12_isAt_k32_40_ok {v2 : Int32} {v3 : Int32} {v4 : Int32} {v5 : Int32} {v6 : Int32} {k19 : Int32 → Int32 → gSt → Option (Int32 × gSt)} {vs0 : Int32} {r : (Int32 × gSt)} (hk19 : ∀ {v5 : Int32} {v6 : Int32} {σ : gSt} {x7 : Option Value}, k19 v5 v6 σ = some r → G l w 0 41 RX12 cX12_isAt 8 (some .boolean) 0 0 (gE (some (.int r.1)) r.2) 19 [some (.ref (w.2.1 28 0)), some (.ref (w.2.1 32 0)), some (.int v2), some (.int v3), some (.int v4), some (.int v5), some (.int v6), x7] [] σ) {σ : gSt} {x7 : Option Value} (h : f_X12_isAt_k32_40 v2 v3 v4 v5 v6 k19 vs0 σ = some r) : G l w 0 41 RX12 cX12_isAt 8 (some .boolean) 0 0 (gE (some (.int r.1)) r.2) 40 [some (.ref (w.2.1 28 0)), some (.ref (w.2.1 32 0)), some (.int v2), some (.int v3), some (.int v4), some (.int v5), some (.int v6), x7] [.int vs0] σ := by
  unfold f_X12_isAt_k32_40 at h
  refine g_istore7 dX12_isAt_40 ?_
  refine g_iload dX12_isAt_42 rfl ?_
  refine g_if_eq 98 dX12_isAt_44 rfl (fun q => ?_) (fun q => ?_)
  · replace h := gif_t q h
    refine g_iconst dX12_isAt_98 kc_0 ?_
    refine g_istore5 dX12_isAt_99 ?_
    refine g_inc6 kc_1 dX12_isAt_101 ?_
    refine g_goto 19 dX12_isAt_104 rfl ?_
    exact hk19 h
  · replace h := gif_f q h
    refine g_iload dX12_isAt_47 rfl ?_
    refine g_if_eq 85 dX12_isAt_49 rfl (fun q => ?_) (fun q => ?_)
    · replace h := gif_t q h
      refine g_aload_n dX12_isAt_85 rfl ?_
      refine g_iload_n dX12_isAt_86 rfl ?_
      refine g_iload dX12_isAt_87 rfl ?_
      refine g_iadd dX12_isAt_89 ?_
      obtain ⟨a90, e90, h⟩ := obind h
      refine g_ldB e90 ok_32 rfl rfl (by decide) dX12_isAt_90 ?_
      refine g_if_ne 98 dX12_isAt_91 rfl (fun q => ?_) (fun q => ?_)
      · replace h := gif_f q h
        refine g_iconst dX12_isAt_98 kc_0 ?_
        refine g_istore5 dX12_isAt_99 ?_
        refine g_inc6 kc_1 dX12_isAt_101 ?_
        refine g_goto 19 dX12_isAt_104 rfl ?_
        exact hk19 h
      · replace h := gif_t q h
        refine g_iconst dX12_isAt_94 kc_1 ?_
        refine g_goto 99 dX12_isAt_95 rfl ?_
        refine g_istore5 dX12_isAt_99 ?_
        refine g_inc6 kc_1 dX12_isAt_101 ?_
        refine g_goto 19 dX12_isAt_104 rfl ?_
        exact hk19 h
    · replace h := gif_f q h
      refine g_aload_n dX12_isAt_52 rfl ?_
      refine gR_X12_13 ok_28 dX12_isAt_53 ?_
      refine g_iload_n dX12_isAt_56 rfl ?_
      refine g_iload dX12_isAt_57 rfl ?_
      refine g_iadd dX12_isAt_59 ?_
      obtain ⟨a60, e60, h⟩ := obind h
      refine g_ldB e60 ok_29 rfl rfl (by decide) dX12_isAt_60 ?_
      refine g_if_eq 98 dX12_isAt_61 rfl (fun q => ?_) (fun q => ?_)
      · replace h := gif_t q h
        refine g_iconst dX12_isAt_98 kc_0 ?_
        refine g_istore5 dX12_isAt_99 ?_
        refine g_inc6 kc_1 dX12_isAt_101 ?_
        refine g_goto 19 dX12_isAt_104 rfl ?_
        exact hk19 h
      · replace h := gif_f q h
        refine g_aload_n dX12_isAt_64 rfl ?_
        refine g_iload_n dX12_isAt_65 rfl ?_
        refine g_iload dX12_isAt_66 rfl ?_
        refine g_iadd dX12_isAt_68 ?_
        obtain ⟨a69, e69, h⟩ := obind h
        refine g_ldB e69 ok_32 rfl rfl (by decide) dX12_isAt_69 ?_
        refine g_aload_n dX12_isAt_70 rfl ?_
        refine gR_X12_13 ok_28 dX12_isAt_71 ?_
        refine g_iload_n dX12_isAt_74 rfl ?_
        refine g_iload dX12_isAt_75 rfl ?_
        refine g_iadd dX12_isAt_77 ?_
        obtain ⟨a78, e78, h⟩ := obind h
        refine g_ldB e78 ok_29 rfl rfl (by decide) dX12_isAt_78 ?_
        refine g_icmp_ne 98 dX12_isAt_79 rfl (fun q => ?_) (fun q => ?_)
        · replace h := gif_f q h
          refine g_iconst dX12_isAt_98 kc_0 ?_
          refine g_istore5 dX12_isAt_99 ?_
          refine g_inc6 kc_1 dX12_isAt_101 ?_
          refine g_goto 19 dX12_isAt_104 rfl ?_
          exact hk19 h
        · replace h := gif_t q h
          refine g_goto 94 dX12_isAt_82 rfl ?_
          refine g_iconst dX12_isAt_94 kc_1 ?_
          refine g_goto 99 dX12_isAt_95 rfl ?_
          refine g_istore5 dX12_isAt_99 ?_
          refine g_inc6 kc_1 dX12_isAt_101 ?_
          refine g_goto 19 dX12_isAt_104 rfl ?_
          exact hk19 h
theorem f_X12_isAt_k32_19_ok {v2 : Int32} {v3 : Int32} {v4 : Int32} {r : (Int32 × gSt)}  : ∀ (n : Nat) {v5 : Int32} {v6 : Int32} {σ : gSt} {x7 : Option Value}, f_X12_isAt_k32_19 v2 v3 v4 n v5 v6 σ = some r → G l w 0 41 RX12 cX12_isAt 8 (some .boolean) 0 0 (gE (some (.int r.1)) r.2) 19 [some (.ref (w.2.1 28 0)), some (.ref (w.2.1 32 0)), some (.int v2), some (.int v3), some (.int v4), some (.int v5), some (.int v6), x7] [] σ := by
  intro n
  induction n with
  | zero => intro v5 v6 σ x7 h; rw [f_X12_isAt_k32_19] at h; cases h
  | succ n ih =>
    intro v5 v6 σ x7 h
    rw [f_X12_isAt_k32_19] at h
    refine g_iload dX12_isAt_19 rfl ?_
    refine g_bipush dX12_isAt_21 kb_6 ?_
    refine g_icmp_ge 107 dX12_isAt_23 rfl (fun q => ?_) (fun q => ?_)
    · replace h := gif_t q h
      refine g_iload dX12_isAt_107 rfl ?_
      exact g_zretG h dX12_isAt_109 rfl
    · replace h := gif_f q h
      refine g_iload_n dX12_isAt_26 rfl ?_
      refine g_iload dX12_isAt_27 rfl ?_
      refine g_iadd dX12_isAt_29 ?_
      refine g_iload dX12_isAt_30 rfl ?_
      refine g_icmp_ge 39 dX12_isAt_32 rfl (fun q => ?_) (fun q => ?_)
      · replace h := gif_t q h
        refine g_iconst dX12_isAt_39 kc_0 ?_
        exact f_X12_isAt_k32_40_ok (fun h => ih h) h
      · replace h := gif_f q h
        refine g_iconst dX12_isAt_35 kc_1 ?_
        refine g_goto 40 dX12_isAt_36 rfl ?_
        exact f_X12_isAt_k32_40_ok (fun h => ih h) h
theorem f_X12_isAt_k32_ok {v2 : Int32} {v3 : Int32} {v4 : Int32}  {σ : gSt} {r : (Int32 × gSt)} (h : f_X12_isAt_k32 v2 v3 v4 σ = some r) : Mt l w 0 41 yX12_isAt cX12_isAt 8 (some .boolean) 0 0 [.ref (w.2.1 28 0), .ref (w.2.1 32 0), .int v2, .int v3, .int v4] σ (gE (some (.int r.1)) r.2) := by
  unfold f_X12_isAt_k32 at h
  refine g_start pn_X12 rfl rfl (Nat.le_of_ble_eq_true rfl) ?_
  show G l w 0 41 RX12 cX12_isAt 8 (some .boolean) 0 0 (gE (some (.int r.1)) r.2) 0 [some (.ref (w.2.1 28 0)), some (.ref (w.2.1 32 0)), some (.int v2), some (.int v3), some (.int v4), none, none, none] [] σ
  refine g_iload dX12_isAt_0 rfl ?_
  refine g_iload_n dX12_isAt_2 rfl ?_
  refine g_isub dX12_isAt_3 ?_
  refine g_bipush dX12_isAt_4 kb_6 ?_
  refine g_icmp_gt 13 dX12_isAt_6 rfl (fun q => ?_) (fun q => ?_)
  · replace h := gif_t q h
    refine g_iconst dX12_isAt_13 kc_0 ?_
    refine g_istore5 dX12_isAt_14 ?_
    refine g_iconst dX12_isAt_16 kc_0 ?_
    refine g_istore6 dX12_isAt_17 ?_
    exact f_X12_isAt_k32_19_ok gFuel h
  · replace h := gif_f q h
    refine g_iconst dX12_isAt_9 kc_1 ?_
    refine g_goto 14 dX12_isAt_10 rfl ?_
    refine g_istore5 dX12_isAt_14 ?_
    refine g_iconst dX12_isAt_16 kc_0 ?_
    refine g_istore6 dX12_isAt_17 ?_
    exact f_X12_isAt_k32_19_ok gFuel h
theorem dX12_named_0 : decode cX12_named 0 = .ok (.aload_n 0, 1) := by decide +kernel
theorem dX12_named_1 : decode cX12_named 1 = .ok (.iconst 0, 1) := by decide +kernel
theorem dX12_named_2 : decode cX12_named 2 = .ok (.putfield 50, 3) := by decide +kernel
theorem dX12_named_5 : decode cX12_named 5 = .ok (.iconst 0, 1) := by decide +kernel
theorem dX12_named_6 : decode cX12_named 6 = .ok (.istore_n 3, 1) := by decide +kernel
theorem dX12_named_7 : decode cX12_named 7 = .ok (.iload_n 1, 1) := by decide +kernel
theorem dX12_named_8 : decode cX12_named 8 = .ok (.iconst 0, 1) := by decide +kernel
theorem dX12_named_9 : decode cX12_named 9 = .ok (.aload_n 0, 1) := by decide +kernel
theorem dX12_named_10 : decode cX12_named 10 = .ok (.getfield 56, 3) := by decide +kernel
theorem dX12_named_13 : decode cX12_named 13 = .ok (.invokestatic 79, 3) := by decide +kernel
theorem dX12_named_16 : decode cX12_named 16 = .ok (.ifCond .eq 7, 3) := by decide +kernel
theorem dX12_named_19 : decode cX12_named 19 = .ok (.iload_n 1, 1) := by decide +kernel
theorem dX12_named_20 : decode cX12_named 20 = .ok (.goto 4, 3) := by decide +kernel
theorem dX12_named_23 : decode cX12_named 23 = .ok (.iconst 0, 1) := by decide +kernel
theorem dX12_named_24 : decode cX12_named 24 = .ok (.istore 4, 2) := by decide +kernel
theorem dX12_named_26 : decode cX12_named 26 = .ok (.iload_n 3, 1) := by decide +kernel
theorem dX12_named_27 : decode cX12_named 27 = .ok (.iload 4, 2) := by decide +kernel
theorem dX12_named_29 : decode cX12_named 29 = .ok (.if_icmp .ge 20, 3) := by decide +kernel
theorem dX12_named_32 : decode cX12_named 32 = .ok (.aload_n 0, 1) := by decide +kernel
theorem dX12_named_33 : decode cX12_named 33 = .ok (.getfield 13, 3) := by decide +kernel
theorem dX12_named_36 : decode cX12_named 36 = .ok (.iload_n 3, 1) := by decide +kernel
theorem dX12_named_37 : decode cX12_named 37 = .ok (.iaload, 1) := by decide +kernel
theorem dX12_named_38 : decode cX12_named 38 = .ok (.bipush 32, 2) := by decide +kernel
theorem dX12_named_40 : decode cX12_named 40 = .ok (.if_icmp .ne 9, 3) := by decide +kernel
theorem dX12_named_43 : decode cX12_named 43 = .ok (.iinc 3 1, 3) := by decide +kernel
theorem dX12_named_46 : decode cX12_named 46 = .ok (.goto (-20), 3) := by decide +kernel
theorem dX12_named_49 : decode cX12_named 49 = .ok (.iload 4, 2) := by decide +kernel
theorem dX12_named_51 : decode cX12_named 51 = .ok (.iload_n 3, 1) := by decide +kernel
theorem dX12_named_52 : decode cX12_named 52 = .ok (.if_icmp .le 23, 3) := by decide +kernel
theorem dX12_named_55 : decode cX12_named 55 = .ok (.aload_n 0, 1) := by decide +kernel
theorem dX12_named_56 : decode cX12_named 56 = .ok (.getfield 13, 3) := by decide +kernel
theorem dX12_named_59 : decode cX12_named 59 = .ok (.iload 4, 2) := by decide +kernel
theorem dX12_named_61 : decode cX12_named 61 = .ok (.iconst 1, 1) := by decide +kernel
theorem dX12_named_62 : decode cX12_named 62 = .ok (.isub, 1) := by decide +kernel
theorem dX12_named_63 : decode cX12_named 63 = .ok (.iaload, 1) := by decide +kernel
theorem dX12_named_64 : decode cX12_named 64 = .ok (.bipush 32, 2) := by decide +kernel
theorem dX12_named_66 : decode cX12_named 66 = .ok (.if_icmp .ne 9, 3) := by decide +kernel
theorem dX12_named_69 : decode cX12_named 69 = .ok (.iinc 4 (-1), 3) := by decide +kernel
theorem dX12_named_72 : decode cX12_named 72 = .ok (.goto (-23), 3) := by decide +kernel
theorem dX12_named_75 : decode cX12_named 75 = .ok (.iload_n 2, 1) := by decide +kernel
theorem dX12_named_76 : decode cX12_named 76 = .ok (.ifCond .eq 7, 3) := by decide +kernel
theorem dX12_named_79 : decode cX12_named 79 = .ok (.iconst 0, 1) := by decide +kernel
theorem dX12_named_80 : decode cX12_named 80 = .ok (.goto 4, 3) := by decide +kernel
theorem dX12_named_83 : decode cX12_named 83 = .ok (.iconst 3, 1) := by decide +kernel
theorem dX12_named_84 : decode cX12_named 84 = .ok (.istore 5, 2) := by decide +kernel
theorem dX12_named_86 : decode cX12_named 86 = .ok (.iconst 0, 1) := by decide +kernel
theorem dX12_named_87 : decode cX12_named 87 = .ok (.istore 6, 2) := by decide +kernel
theorem dX12_named_89 : decode cX12_named 89 = .ok (.iload 4, 2) := by decide +kernel
theorem dX12_named_91 : decode cX12_named 91 = .ok (.iload_n 3, 1) := by decide +kernel
theorem dX12_named_92 : decode cX12_named 92 = .ok (.if_icmp .le 53, 3) := by decide +kernel
theorem dX12_named_95 : decode cX12_named 95 = .ok (.iload 6, 2) := by decide +kernel
theorem dX12_named_97 : decode cX12_named 97 = .ok (.aload_n 0, 1) := by decide +kernel
theorem dX12_named_98 : decode cX12_named 98 = .ok (.getfield 17, 3) := by decide +kernel
theorem dX12_named_101 : decode cX12_named 101 = .ok (.iload_n 2, 1) := by decide +kernel
theorem dX12_named_102 : decode cX12_named 102 = .ok (.ifCond .eq 7, 3) := by decide +kernel
theorem dX12_named_105 : decode cX12_named 105 = .ok (.iconst 0, 1) := by decide +kernel
theorem dX12_named_106 : decode cX12_named 106 = .ok (.goto 4, 3) := by decide +kernel
theorem dX12_named_109 : decode cX12_named 109 = .ok (.iconst 1, 1) := by decide +kernel
theorem dX12_named_110 : decode cX12_named 110 = .ok (.iaload, 1) := by decide +kernel
theorem dX12_named_111 : decode cX12_named 111 = .ok (.if_icmp .ge 34, 3) := by decide +kernel
theorem dX12_named_114 : decode cX12_named 114 = .ok (.aload_n 0, 1) := by decide +kernel
theorem dX12_named_115 : decode cX12_named 115 = .ok (.aload_n 0, 1) := by decide +kernel
theorem dX12_named_116 : decode cX12_named 116 = .ok (.getfield 23, 3) := by decide +kernel
theorem dX12_named_119 : decode cX12_named 119 = .ok (.bipush 6, 2) := by decide +kernel
theorem dX12_named_121 : decode cX12_named 121 = .ok (.iload 5, 2) := by decide +kernel
theorem dX12_named_123 : decode cX12_named 123 = .ok (.iload 6, 2) := by decide +kernel
theorem dX12_named_125 : decode cX12_named 125 = .ok (.iadd, 1) := by decide +kernel
theorem dX12_named_126 : decode cX12_named 126 = .ok (.imul, 1) := by decide +kernel
theorem dX12_named_127 : decode cX12_named 127 = .ok (.iload_n 3, 1) := by decide +kernel
theorem dX12_named_128 : decode cX12_named 128 = .ok (.iload 4, 2) := by decide +kernel
theorem dX12_named_130 : decode cX12_named 130 = .ok (.invokevirtual 114, 3) := by decide +kernel
theorem dX12_named_133 : decode cX12_named 133 = .ok (.ifCond .eq 6, 3) := by decide +kernel
theorem dX12_named_136 : decode cX12_named 136 = .ok (.iload 6, 2) := by decide +kernel
theorem dX12_named_138 : decode cX12_named 138 = .ok (.ireturn, 1) := by decide +kernel
theorem dX12_named_139 : decode cX12_named 139 = .ok (.iinc 6 1, 3) := by decide +kernel
theorem dX12_named_142 : decode cX12_named 142 = .ok (.goto (-53), 3) := by decide +kernel
theorem dX12_named_145 : decode cX12_named 145 = .ok (.aload_n 0, 1) := by decide +kernel
theorem dX12_named_146 : decode cX12_named 146 = .ok (.iconst 1, 1) := by decide +kernel
theorem dX12_named_147 : decode cX12_named 147 = .ok (.putfield 50, 3) := by decide +kernel
theorem dX12_named_150 : decode cX12_named 150 = .ok (.iconst 0, 1) := by decide +kernel
theorem dX12_named_151 : decode cX12_named 151 = .ok (.ireturn, 1) := by decide +kernel
def f_X12_named_110 (v2 : Int32) (v3 : Int32) (v4 : Int32) (v5 : Int32) (v6 : Int32) (k89 : Int32 → gSt → Option (Int32 × gSt)) (vs0 : Int32) (vs2 : Int32) (σ : gSt) : Option (Int32 × gSt) :=
  (gld σ 30 0 397 vs2).bind fun a110 =>
  if a110 ≤ vs0 then
    some (0, (gup σ 28 0 0 1))
  else
    (f_X12_isAt_k32 (6 * (v5 + v6)) v3 v4 σ).bind fun p130 =>
    if p130.1 = 0 then
      k89 (v6 + 1) p130.2
    else
      some (v6, p130.2)
def f_X12_named_89 (v2 : Int32) (v3 : Int32) (v4 : Int32) (v5 : Int32) : Nat → Int32 → gSt → Option (Int32 × gSt)
  | 0, _, _ => none
  | n + 1, v6, σ =>
    if v4 ≤ v3 then
      some (0, (gup σ 28 0 0 1))
    else
      if v2 = 0 then
        f_X12_named_110 v2 v3 v4 v5 v6 (fun v6 σ => f_X12_named_89 v2 v3 v4 v5 n v6 σ) v6 1 σ
      else
        f_X12_named_110 v2 v3 v4 v5 v6 (fun v6 σ => f_X12_named_89 v2 v3 v4 v5 n v6 σ) v6 0 σ
def f_X12_named_75 (v2 : Int32) (v3 : Int32) (v4 : Int32) (σ : gSt) : Option (Int32 × gSt) :=
  if v2 = 0 then
    f_X12_named_89 v2 v3 v4 3 gFuel 0 σ
  else
    f_X12_named_89 v2 v3 v4 0 gFuel 0 σ
def f_X12_named_49 (v2 : Int32) (v3 : Int32) : Nat → Int32 → gSt → Option (Int32 × gSt)
  | 0, _, _ => none
  | n + 1, v4, σ =>
    if v4 ≤ v3 then
      f_X12_named_75 v2 v3 v4 σ
    else
      (gld σ 29 0 900 (v4 - 1)).bind fun a63 =>
      if a63 = 32 then
        f_X12_named_49 v2 v3 n (v4 + (-1)) σ
      else
        f_X12_named_75 v2 v3 v4 σ
def f_X12_named_26 (v2 : Int32) (v4 : Int32) : Nat → Int32 → gSt → Option (Int32 × gSt)
  | 0, _, _ => none
  | n + 1, v3, σ =>
    if v4 ≤ v3 then
      f_X12_named_49 v2 v3 gFuel v4 σ
    else
      (gld σ 29 0 900 v3).bind fun a37 =>
      if a37 = 32 then
        f_X12_named_26 v2 v4 n (v3 + 1) σ
      else
        f_X12_named_49 v2 v3 gFuel v4 σ
def f_X12_named (v1 : Int32) (v2 : Int32) (σ : gSt) : Option (Int32 × gSt) :=
  (f_X12_in v1 0 ((gup σ 28 0 0 0) 28 0 5) (gup σ 28 0 0 0)).bind fun p13 =>
  if p13.1 = 0 then
    f_X12_named_26 v2 0 gFuel 0 p13.2
  else
    f_X12_named_26 v2 v1 gFuel 0 p13.2
theorem f_X12_named_110_ok {v2 : Int32} {v3 : Int32} {v4 : Int32} {v5 : Int32} {v6 : Int32} {k89 : Int32 → gSt → Option (Int32 × gSt)} {vs0 : Int32} {vs2 : Int32} {r : (Int32 × gSt)} (hk89 : ∀ {v6 : Int32} {σ : gSt} {x1 : Option Value}, k89 v6 σ = some r → G l w 0 41 RX12 cX12_named 7 (some .int) 1 27 (gE (some (.int r.1)) r.2) 89 [some (.ref (w.2.1 28 0)), x1, some (.int v2), some (.int v3), some (.int v4), some (.int v5), some (.int v6)] [] σ) {σ : gSt} {x1 : Option Value} (h : f_X12_named_110 v2 v3 v4 v5 v6 k89 vs0 vs2 σ = some r) : G l w 0 41 RX12 cX12_named 7 (some .int) 1 27 (gE (some (.int r.1)) r.2) 110 [some (.ref (w.2.1 28 0)), x1, some (.int v2), some (.int v3), some (.int v4), some (.int v5), some (.int v6)] [.int vs2, .ref (w.2.1 30 0), .int vs0] σ := by
  unfold f_X12_named_110 at h
  obtain ⟨a110, e110, h⟩ := obind h
  refine g_ldB e110 ok_30 rfl rfl (by decide) dX12_named_110 ?_
  refine g_icmp_ge 145 dX12_named_111 rfl (fun q => ?_) (fun q => ?_)
  · replace h := gif_t q h
    refine g_aload_n dX12_named_145 rfl ?_
    refine g_iconst dX12_named_146 kc_1 ?_
    refine gP_X12_50 ok_28 dX12_named_147 ?_
    refine g_iconst dX12_named_150 kc_0 ?_
    cases h
    exact g_iret dX12_named_151 rfl ⟨rfl, rfl⟩
  · replace h := gif_f q h
    refine g_aload_n dX12_named_114 rfl ?_
    refine g_aload_n dX12_named_115 rfl ?_
    refine gR_X12_23 ok_28 dX12_named_116 ?_
    refine g_bipush dX12_named_119 kb_6 ?_
    refine g_iload dX12_named_121 rfl ?_
    refine g_iload dX12_named_123 rfl ?_
    refine g_iadd dX12_named_125 ?_
    refine g_imul dX12_named_126 ?_
    refine g_iload_n dX12_named_127 rfl ?_
    refine g_iload dX12_named_128 rfl ?_
    obtain ⟨p130, e130, h⟩ := obind h
    refine g_vP4 mv_X12_114 dX12_named_130 ok_28 ⟨by decide, by decide⟩ (Nat.le_of_ble_eq_true rfl) (f_X12_isAt_k32_ok e130) ?_
    refine g_if_eq 139 dX12_named_133 rfl (fun q => ?_) (fun q => ?_)
    · replace h := gif_t q h
      refine g_inc6 kc_1 dX12_named_139 ?_
      refine g_goto 89 dX12_named_142 rfl ?_
      exact hk89 h
    · replace h := gif_f q h
      refine g_iload dX12_named_136 rfl ?_
      cases h
      exact g_iret dX12_named_138 rfl ⟨rfl, rfl⟩
theorem f_X12_named_89_ok {v2 : Int32} {v3 : Int32} {v4 : Int32} {v5 : Int32} {r : (Int32 × gSt)}  : ∀ (n : Nat) {v6 : Int32} {σ : gSt} {x1 : Option Value}, f_X12_named_89 v2 v3 v4 v5 n v6 σ = some r → G l w 0 41 RX12 cX12_named 7 (some .int) 1 27 (gE (some (.int r.1)) r.2) 89 [some (.ref (w.2.1 28 0)), x1, some (.int v2), some (.int v3), some (.int v4), some (.int v5), some (.int v6)] [] σ := by
  intro n
  induction n with
  | zero => intro v6 σ x1 h; rw [f_X12_named_89] at h; cases h
  | succ n ih =>
    intro v6 σ x1 h
    rw [f_X12_named_89] at h
    refine g_iload dX12_named_89 rfl ?_
    refine g_iload_n dX12_named_91 rfl ?_
    refine g_icmp_le 145 dX12_named_92 rfl (fun q => ?_) (fun q => ?_)
    · replace h := gif_t q h
      refine g_aload_n dX12_named_145 rfl ?_
      refine g_iconst dX12_named_146 kc_1 ?_
      refine gP_X12_50 ok_28 dX12_named_147 ?_
      refine g_iconst dX12_named_150 kc_0 ?_
      cases h
      exact g_iret dX12_named_151 rfl ⟨rfl, rfl⟩
    · replace h := gif_f q h
      refine g_iload dX12_named_95 rfl ?_
      refine g_aload_n dX12_named_97 rfl ?_
      refine gR_X12_17 ok_28 dX12_named_98 ?_
      refine g_iload_n dX12_named_101 rfl ?_
      refine g_if_eq 109 dX12_named_102 rfl (fun q => ?_) (fun q => ?_)
      · replace h := gif_t q h
        refine g_iconst dX12_named_109 kc_1 ?_
        exact f_X12_named_110_ok (fun h => ih h) h
      · replace h := gif_f q h
        refine g_iconst dX12_named_105 kc_0 ?_
        refine g_goto 110 dX12_named_106 rfl ?_
        exact f_X12_named_110_ok (fun h => ih h) h
theorem f_X12_named_75_ok {v2 : Int32} {v3 : Int32} {v4 : Int32} {r : (Int32 × gSt)}  {σ : gSt} {x1 x5 x6 : Option Value} (h : f_X12_named_75 v2 v3 v4 σ = some r) : G l w 0 41 RX12 cX12_named 7 (some .int) 1 27 (gE (some (.int r.1)) r.2) 75 [some (.ref (w.2.1 28 0)), x1, some (.int v2), some (.int v3), some (.int v4), x5, x6] [] σ := by
  unfold f_X12_named_75 at h
  refine g_iload_n dX12_named_75 rfl ?_
  refine g_if_eq 83 dX12_named_76 rfl (fun q => ?_) (fun q => ?_)
  · replace h := gif_t q h
    refine g_iconst dX12_named_83 kc_3 ?_
    refine g_istore5 dX12_named_84 ?_
    refine g_iconst dX12_named_86 kc_0 ?_
    refine g_istore6 dX12_named_87 ?_
    exact f_X12_named_89_ok gFuel h
  · replace h := gif_f q h
    refine g_iconst dX12_named_79 kc_0 ?_
    refine g_goto 84 dX12_named_80 rfl ?_
    refine g_istore5 dX12_named_84 ?_
    refine g_iconst dX12_named_86 kc_0 ?_
    refine g_istore6 dX12_named_87 ?_
    exact f_X12_named_89_ok gFuel h
theorem f_X12_named_49_ok {v2 : Int32} {v3 : Int32} {r : (Int32 × gSt)}  : ∀ (n : Nat) {v4 : Int32} {σ : gSt} {x1 x5 x6 : Option Value}, f_X12_named_49 v2 v3 n v4 σ = some r → G l w 0 41 RX12 cX12_named 7 (some .int) 1 27 (gE (some (.int r.1)) r.2) 49 [some (.ref (w.2.1 28 0)), x1, some (.int v2), some (.int v3), some (.int v4), x5, x6] [] σ := by
  intro n
  induction n with
  | zero => intro v4 σ x1 x5 x6 h; rw [f_X12_named_49] at h; cases h
  | succ n ih =>
    intro v4 σ x1 x5 x6 h
    rw [f_X12_named_49] at h
    refine g_iload dX12_named_49 rfl ?_
    refine g_iload_n dX12_named_51 rfl ?_
    refine g_icmp_le 75 dX12_named_52 rfl (fun q => ?_) (fun q => ?_)
    · replace h := gif_t q h
      exact f_X12_named_75_ok h
    · replace h := gif_f q h
      refine g_aload_n dX12_named_55 rfl ?_
      refine gR_X12_13 ok_28 dX12_named_56 ?_
      refine g_iload dX12_named_59 rfl ?_
      refine g_iconst dX12_named_61 kc_1 ?_
      refine g_isub dX12_named_62 ?_
      obtain ⟨a63, e63, h⟩ := obind h
      refine g_ldB e63 ok_29 rfl rfl (by decide) dX12_named_63 ?_
      refine g_bipush dX12_named_64 kb_32 ?_
      refine g_icmp_ne 75 dX12_named_66 rfl (fun q => ?_) (fun q => ?_)
      · replace h := gif_f q h
        exact f_X12_named_75_ok h
      · replace h := gif_t q h
        refine g_inc4 kc_m1 dX12_named_69 ?_
        refine g_goto 49 dX12_named_72 rfl ?_
        exact ih h
theorem f_X12_named_26_ok {v2 : Int32} {v4 : Int32} {r : (Int32 × gSt)}  : ∀ (n : Nat) {v3 : Int32} {σ : gSt} {x1 x5 x6 : Option Value}, f_X12_named_26 v2 v4 n v3 σ = some r → G l w 0 41 RX12 cX12_named 7 (some .int) 1 27 (gE (some (.int r.1)) r.2) 26 [some (.ref (w.2.1 28 0)), x1, some (.int v2), some (.int v3), some (.int v4), x5, x6] [] σ := by
  intro n
  induction n with
  | zero => intro v3 σ x1 x5 x6 h; rw [f_X12_named_26] at h; cases h
  | succ n ih =>
    intro v3 σ x1 x5 x6 h
    rw [f_X12_named_26] at h
    refine g_iload_n dX12_named_26 rfl ?_
    refine g_iload dX12_named_27 rfl ?_
    refine g_icmp_ge 49 dX12_named_29 rfl (fun q => ?_) (fun q => ?_)
    · replace h := gif_t q h
      exact f_X12_named_49_ok gFuel h
    · replace h := gif_f q h
      refine g_aload_n dX12_named_32 rfl ?_
      refine gR_X12_13 ok_28 dX12_named_33 ?_
      refine g_iload_n dX12_named_36 rfl ?_
      obtain ⟨a37, e37, h⟩ := obind h
      refine g_ldB e37 ok_29 rfl rfl (by decide) dX12_named_37 ?_
      refine g_bipush dX12_named_38 kb_32 ?_
      refine g_icmp_ne 49 dX12_named_40 rfl (fun q => ?_) (fun q => ?_)
      · replace h := gif_f q h
        exact f_X12_named_49_ok gFuel h
      · replace h := gif_t q h
        refine g_inc3 kc_1 dX12_named_43 ?_
        refine g_goto 26 dX12_named_46 rfl ?_
        exact ih h
theorem f_X12_named_ok {v1 : Int32} {v2 : Int32}  {σ : gSt} {r : (Int32 × gSt)} (h : f_X12_named v1 v2 σ = some r) : Mt l w 0 41 yX12_named cX12_named 7 (some .int) 1 27 [.ref (w.2.1 28 0), .int v1, .int v2] σ (gE (some (.int r.1)) r.2) := by
  unfold f_X12_named at h
  refine g_start pn_X12 rfl rfl (Nat.le_of_ble_eq_true rfl) ?_
  show G l w 0 41 RX12 cX12_named 7 (some .int) 1 27 (gE (some (.int r.1)) r.2) 0 [some (.ref (w.2.1 28 0)), some (.int v1), some (.int v2), none, none, none, none] [] σ
  refine g_aload_n dX12_named_0 rfl ?_
  refine g_iconst dX12_named_1 kc_0 ?_
  refine gP_X12_50 ok_28 dX12_named_2 ?_
  refine g_iconst dX12_named_5 kc_0 ?_
  refine g_istore3 dX12_named_6 ?_
  refine g_iload_n dX12_named_7 rfl ?_
  refine g_iconst dX12_named_8 kc_0 ?_
  refine g_aload_n dX12_named_9 rfl ?_
  refine gI_X12_56 ok_28 dX12_named_10 ?_
  obtain ⟨p13, e13, h⟩ := obind h
  refine g_sP3 ms_X12_79 dX12_named_13 ⟨by decide, by decide⟩ (Nat.le_of_ble_eq_true rfl) (f_X12_in_ok e13) ?_
  refine g_if_eq 23 dX12_named_16 rfl (fun q => ?_) (fun q => ?_)
  · replace h := gif_t q h
    refine g_iconst dX12_named_23 kc_0 ?_
    refine g_istore4 dX12_named_24 ?_
    exact f_X12_named_26_ok gFuel h
  · replace h := gif_f q h
    refine g_iload_n dX12_named_19 rfl ?_
    refine g_goto 24 dX12_named_20 rfl ?_
    refine g_istore4 dX12_named_24 ?_
    exact f_X12_named_26_ok gFuel h
theorem dX12_size_0 : decode cX12_size 0 = .ok (.aload_n 0, 1) := by decide +kernel
theorem dX12_size_1 : decode cX12_size 1 = .ok (.iconst 0, 1) := by decide +kernel
theorem dX12_size_2 : decode cX12_size 2 = .ok (.putfield 50, 3) := by decide +kernel
theorem dX12_size_5 : decode cX12_size 5 = .ok (.aload_n 0, 1) := by decide +kernel
theorem dX12_size_6 : decode cX12_size 6 = .ok (.getfield 56, 3) := by decide +kernel
theorem dX12_size_9 : decode cX12_size 9 = .ok (.ireturn, 1) := by decide +kernel
def f_X12_size (σ : gSt) : Option (Int32 × gSt) :=
  some (((gup σ 28 0 0 0) 28 0 5), (gup σ 28 0 0 0))
theorem f_X12_size_ok   {σ : gSt} {r : (Int32 × gSt)} (h : f_X12_size σ = some r) : Mt l w 0 41 yX12_size cX12_size 1 (some .int) 0 0 [.ref (w.2.1 28 0)] σ (gE (some (.int r.1)) r.2) := by
  unfold f_X12_size at h
  refine g_start pn_X12 rfl rfl (Nat.le_of_ble_eq_true rfl) ?_
  show G l w 0 41 RX12 cX12_size 1 (some .int) 0 0 (gE (some (.int r.1)) r.2) 0 [some (.ref (w.2.1 28 0))] [] σ
  refine g_aload_n dX12_size_0 rfl ?_
  refine g_iconst dX12_size_1 kc_0 ?_
  refine gP_X12_50 ok_28 dX12_size_2 ?_
  refine g_aload_n dX12_size_5 rfl ?_
  refine gI_X12_56 ok_28 dX12_size_6 ?_
  cases h
  exact g_iret dX12_size_9 rfl ⟨rfl, rfl⟩
theorem dX12_trouble_0 : decode cX12_trouble 0 = .ok (.aload_n 0, 1) := by decide +kernel
theorem dX12_trouble_1 : decode cX12_trouble 1 = .ok (.iconst 0, 1) := by decide +kernel
theorem dX12_trouble_2 : decode cX12_trouble 2 = .ok (.putfield 50, 3) := by decide +kernel
theorem dX12_trouble_5 : decode cX12_trouble 5 = .ok (.aload_n 0, 1) := by decide +kernel
theorem dX12_trouble_6 : decode cX12_trouble 6 = .ok (.getfield 53, 3) := by decide +kernel
theorem dX12_trouble_9 : decode cX12_trouble 9 = .ok (.ireturn, 1) := by decide +kernel
def f_X12_trouble (σ : gSt) : Option (Int32 × gSt) :=
  some (((gup σ 28 0 0 0) 28 0 1), (gup σ 28 0 0 0))
theorem f_X12_trouble_ok   {σ : gSt} {r : (Int32 × gSt)} (h : f_X12_trouble σ = some r) : Mt l w 0 41 yX12_trouble cX12_trouble 1 (some .int) 0 0 [.ref (w.2.1 28 0)] σ (gE (some (.int r.1)) r.2) := by
  unfold f_X12_trouble at h
  refine g_start pn_X12 rfl rfl (Nat.le_of_ble_eq_true rfl) ?_
  show G l w 0 41 RX12 cX12_trouble 1 (some .int) 0 0 (gE (some (.int r.1)) r.2) 0 [some (.ref (w.2.1 28 0))] [] σ
  refine g_aload_n dX12_trouble_0 rfl ?_
  refine g_iconst dX12_trouble_1 kc_0 ?_
  refine gP_X12_50 ok_28 dX12_trouble_2 ?_
  refine g_aload_n dX12_trouble_5 rfl ?_
  refine gI_X12_53 ok_28 dX12_trouble_6 ?_
  cases h
  exact g_iret dX12_trouble_9 rfl ⟨rfl, rfl⟩
end MI
