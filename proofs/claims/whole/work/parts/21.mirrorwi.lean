section MI
variable {l : Launch} {w : gWd} {aK aV : Nat → Nat}
theorem dX12_isName_0 : decode cX12_isName 0 = .ok (.aload_n 0, 1) := by decide +kernel
theorem dX12_isName_1 : decode cX12_isName 1 = .ok (.getfield 76, 3) := by decide +kernel
theorem dX12_isName_4 : decode cX12_isName 4 = .ok (.iconst 2, 1) := by decide +kernel
theorem dX12_isName_5 : decode cX12_isName 5 = .ok (.if_icmp .ne 43, 3) := by decide +kernel
theorem dX12_isName_8 : decode cX12_isName 8 = .ok (.aload_n 0, 1) := by decide +kernel
theorem dX12_isName_9 : decode cX12_isName 9 = .ok (.ldc 102, 2) := by decide +kernel
theorem dX12_isName_11 : decode cX12_isName 11 = .ok (.invokevirtual 104, 3) := by decide +kernel
theorem dX12_isName_14 : decode cX12_isName 14 = .ok (.ifCond .ne 34, 3) := by decide +kernel
theorem dX12_isName_17 : decode cX12_isName 17 = .ok (.aload_n 0, 1) := by decide +kernel
theorem dX12_isName_18 : decode cX12_isName 18 = .ok (.ldc 108, 2) := by decide +kernel
theorem dX12_isName_20 : decode cX12_isName 20 = .ok (.invokevirtual 104, 3) := by decide +kernel
theorem dX12_isName_23 : decode cX12_isName 23 = .ok (.ifCond .ne 25, 3) := by decide +kernel
theorem dX12_isName_26 : decode cX12_isName 26 = .ok (.aload_n 0, 1) := by decide +kernel
theorem dX12_isName_27 : decode cX12_isName 27 = .ok (.ldc 110, 2) := by decide +kernel
theorem dX12_isName_29 : decode cX12_isName 29 = .ok (.invokevirtual 104, 3) := by decide +kernel
theorem dX12_isName_32 : decode cX12_isName 32 = .ok (.ifCond .ne 16, 3) := by decide +kernel
theorem dX12_isName_35 : decode cX12_isName 35 = .ok (.aload_n 0, 1) := by decide +kernel
theorem dX12_isName_36 : decode cX12_isName 36 = .ok (.ldc 112, 2) := by decide +kernel
theorem dX12_isName_38 : decode cX12_isName 38 = .ok (.invokevirtual 104, 3) := by decide +kernel
theorem dX12_isName_41 : decode cX12_isName 41 = .ok (.ifCond .ne 7, 3) := by decide +kernel
theorem dX12_isName_44 : decode cX12_isName 44 = .ok (.iconst 1, 1) := by decide +kernel
theorem dX12_isName_45 : decode cX12_isName 45 = .ok (.goto 4, 3) := by decide +kernel
theorem dX12_isName_48 : decode cX12_isName 48 = .ok (.iconst 0, 1) := by decide +kernel
theorem dX12_isName_49 : decode cX12_isName 49 = .ok (.ireturn, 1) := by decide +kernel
def f_X12_isName (σ : gSt) : Option (Int32 × gSt) :=
  if (σ 28 0 14) = 2 then
    (f_isW 0 σ).bind fun p11 =>
    if p11.1 = 0 then
      (f_isW 1 p11.2).bind fun p20 =>
      if p20.1 = 0 then
        (f_isW 2 p20.2).bind fun p29 =>
        if p29.1 = 0 then
          (f_isW 3 p29.2).bind fun p38 =>
          if p38.1 = 0 then
            some (1, p38.2)
          else
            some (0, p38.2)
        else
          some (0, p29.2)
      else
        some (0, p20.2)
    else
      some (0, p11.2)
  else
    some (0, σ)
theorem f_X12_isName_ok  (hW : gEnv w aK aV) {σ : gSt} {r : (Int32 × gSt)} (h : f_X12_isName σ = some r) : Mt l w 0 41 yX12_isName cX12_isName 1 (some .boolean) 5 107 [.ref (w.2.1 28 0)] σ (gE (some (.int r.1)) r.2) := by
  unfold f_X12_isName at h
  refine g_start pn_X12 rfl rfl (Nat.le_of_ble_eq_true rfl) ?_
  show G l w 0 41 RX12 cX12_isName 1 (some .boolean) 5 107 (gE (some (.int r.1)) r.2) 0 [some (.ref (w.2.1 28 0))] [] σ
  refine g_aload_n dX12_isName_0 rfl ?_
  refine gI_X12_76 ok_28 dX12_isName_1 ?_
  refine g_iconst dX12_isName_4 kc_2 ?_
  refine g_icmp_ne 48 dX12_isName_5 rfl (fun q => ?_) (fun q => ?_)
  · replace h := gif_f q h
    refine g_iconst dX12_isName_48 kc_0 ?_
    cases h
    exact g_zret0 dX12_isName_49 rfl
  · replace h := gif_t q h
    refine g_aload_n dX12_isName_8 rfl ?_
    obtain ⟨p11, e11, h⟩ := obind h
    refine g_isW (i := 0) hW (by decide) rfl dX12_isName_9 dX12_isName_11 ⟨by decide, by decide⟩ (Nat.le_of_ble_eq_true rfl) e11 ?_
    refine g_if_ne 48 dX12_isName_14 rfl (fun q => ?_) (fun q => ?_)
    · replace h := gif_f q h
      refine g_iconst dX12_isName_48 kc_0 ?_
      cases h
      exact g_zret0 dX12_isName_49 rfl
    · replace h := gif_t q h
      refine g_aload_n dX12_isName_17 rfl ?_
      obtain ⟨p20, e20, h⟩ := obind h
      refine g_isW (i := 1) hW (by decide) rfl dX12_isName_18 dX12_isName_20 ⟨by decide, by decide⟩ (Nat.le_of_ble_eq_true rfl) e20 ?_
      refine g_if_ne 48 dX12_isName_23 rfl (fun q => ?_) (fun q => ?_)
      · replace h := gif_f q h
        refine g_iconst dX12_isName_48 kc_0 ?_
        cases h
        exact g_zret0 dX12_isName_49 rfl
      · replace h := gif_t q h
        refine g_aload_n dX12_isName_26 rfl ?_
        obtain ⟨p29, e29, h⟩ := obind h
        refine g_isW (i := 2) hW (by decide) rfl dX12_isName_27 dX12_isName_29 ⟨by decide, by decide⟩ (Nat.le_of_ble_eq_true rfl) e29 ?_
        refine g_if_ne 48 dX12_isName_32 rfl (fun q => ?_) (fun q => ?_)
        · replace h := gif_f q h
          refine g_iconst dX12_isName_48 kc_0 ?_
          cases h
          exact g_zret0 dX12_isName_49 rfl
        · replace h := gif_t q h
          refine g_aload_n dX12_isName_35 rfl ?_
          obtain ⟨p38, e38, h⟩ := obind h
          refine g_isW (i := 3) hW (by decide) rfl dX12_isName_36 dX12_isName_38 ⟨by decide, by decide⟩ (Nat.le_of_ble_eq_true rfl) e38 ?_
          refine g_if_ne 48 dX12_isName_41 rfl (fun q => ?_) (fun q => ?_)
          · replace h := gif_f q h
            refine g_iconst dX12_isName_48 kc_0 ?_
            cases h
            exact g_zret0 dX12_isName_49 rfl
          · replace h := gif_t q h
            refine g_iconst dX12_isName_44 kc_1 ?_
            refine g_goto 49 dX12_isName_45 rfl ?_
            cases h
            exact g_zret1 dX12_isName_49 rfl
theorem dX12_takesName_0 : decode cX12_takesName 0 = .ok (.aload_n 0, 1) := by decide +kernel
theorem dX12_takesName_1 : decode cX12_takesName 1 = .ok (.invokevirtual 118, 3) := by decide +kernel
theorem dX12_takesName_4 : decode cX12_takesName 4 = .ok (.aload_n 0, 1) := by decide +kernel
theorem dX12_takesName_5 : decode cX12_takesName 5 = .ok (.invokevirtual 121, 3) := by decide +kernel
theorem dX12_takesName_8 : decode cX12_takesName 8 = .ok (.ifCond .ne 9, 3) := by decide +kernel
theorem dX12_takesName_11 : decode cX12_takesName 11 = .ok (.aload_n 0, 1) := by decide +kernel
theorem dX12_takesName_12 : decode cX12_takesName 12 = .ok (.iconst 1, 1) := by decide +kernel
theorem dX12_takesName_13 : decode cX12_takesName 13 = .ok (.invokevirtual 125, 3) := by decide +kernel
theorem dX12_takesName_16 : decode cX12_takesName 16 = .ok (.ireturn, 1) := by decide +kernel
theorem dX12_takesName_17 : decode cX12_takesName 17 = .ok (.aload_n 0, 1) := by decide +kernel
theorem dX12_takesName_18 : decode cX12_takesName 18 = .ok (.iconst 0, 1) := by decide +kernel
theorem dX12_takesName_19 : decode cX12_takesName 19 = .ok (.aload_n 0, 1) := by decide +kernel
theorem dX12_takesName_20 : decode cX12_takesName 20 = .ok (.getfield 20, 3) := by decide +kernel
theorem dX12_takesName_23 : decode cX12_takesName 23 = .ok (.iconst 0, 1) := by decide +kernel
theorem dX12_takesName_24 : decode cX12_takesName 24 = .ok (.iaload, 1) := by decide +kernel
theorem dX12_takesName_25 : decode cX12_takesName 25 = .ok (.invokevirtual 129, 3) := by decide +kernel
theorem dX12_takesName_28 : decode cX12_takesName 28 = .ok (.iconst (-1), 1) := by decide +kernel
theorem dX12_takesName_29 : decode cX12_takesName 29 = .ok (.if_icmp .ne 18, 3) := by decide +kernel
theorem dX12_takesName_32 : decode cX12_takesName 32 = .ok (.aload_n 0, 1) := by decide +kernel
theorem dX12_takesName_33 : decode cX12_takesName 33 = .ok (.iconst 3, 1) := by decide +kernel
theorem dX12_takesName_34 : decode cX12_takesName 34 = .ok (.aload_n 0, 1) := by decide +kernel
theorem dX12_takesName_35 : decode cX12_takesName 35 = .ok (.getfield 20, 3) := by decide +kernel
theorem dX12_takesName_38 : decode cX12_takesName 38 = .ok (.iconst 1, 1) := by decide +kernel
theorem dX12_takesName_39 : decode cX12_takesName 39 = .ok (.iaload, 1) := by decide +kernel
theorem dX12_takesName_40 : decode cX12_takesName 40 = .ok (.invokevirtual 129, 3) := by decide +kernel
theorem dX12_takesName_43 : decode cX12_takesName 43 = .ok (.iconst (-1), 1) := by decide +kernel
theorem dX12_takesName_44 : decode cX12_takesName 44 = .ok (.if_icmp .eq 9, 3) := by decide +kernel
theorem dX12_takesName_47 : decode cX12_takesName 47 = .ok (.aload_n 0, 1) := by decide +kernel
theorem dX12_takesName_48 : decode cX12_takesName 48 = .ok (.iconst 3, 1) := by decide +kernel
theorem dX12_takesName_49 : decode cX12_takesName 49 = .ok (.invokevirtual 125, 3) := by decide +kernel
theorem dX12_takesName_52 : decode cX12_takesName 52 = .ok (.ireturn, 1) := by decide +kernel
theorem dX12_takesName_53 : decode cX12_takesName 53 = .ok (.iconst 0, 1) := by decide +kernel
theorem dX12_takesName_54 : decode cX12_takesName 54 = .ok (.istore_n 2, 1) := by decide +kernel
theorem dX12_takesName_55 : decode cX12_takesName 55 = .ok (.iload_n 2, 1) := by decide +kernel
theorem dX12_takesName_56 : decode cX12_takesName 56 = .ok (.bipush 6, 2) := by decide +kernel
theorem dX12_takesName_58 : decode cX12_takesName 58 = .ok (.if_icmp .ge 48, 3) := by decide +kernel
theorem dX12_takesName_61 : decode cX12_takesName 61 = .ok (.aload_n 0, 1) := by decide +kernel
theorem dX12_takesName_62 : decode cX12_takesName 62 = .ok (.getfield 26, 3) := by decide +kernel
theorem dX12_takesName_65 : decode cX12_takesName 65 = .ok (.bipush 6, 2) := by decide +kernel
theorem dX12_takesName_67 : decode cX12_takesName 67 = .ok (.iload_n 1, 1) := by decide +kernel
theorem dX12_takesName_68 : decode cX12_takesName 68 = .ok (.imul, 1) := by decide +kernel
theorem dX12_takesName_69 : decode cX12_takesName 69 = .ok (.iload_n 2, 1) := by decide +kernel
theorem dX12_takesName_70 : decode cX12_takesName 70 = .ok (.iadd, 1) := by decide +kernel
theorem dX12_takesName_71 : decode cX12_takesName 71 = .ok (.aload_n 0, 1) := by decide +kernel
theorem dX12_takesName_72 : decode cX12_takesName 72 = .ok (.getfield 73, 3) := by decide +kernel
theorem dX12_takesName_75 : decode cX12_takesName 75 = .ok (.iload_n 2, 1) := by decide +kernel
theorem dX12_takesName_76 : decode cX12_takesName 76 = .ok (.iadd, 1) := by decide +kernel
theorem dX12_takesName_77 : decode cX12_takesName 77 = .ok (.aload_n 0, 1) := by decide +kernel
theorem dX12_takesName_78 : decode cX12_takesName 78 = .ok (.getfield 66, 3) := by decide +kernel
theorem dX12_takesName_81 : decode cX12_takesName 81 = .ok (.if_icmp .ge 17, 3) := by decide +kernel
theorem dX12_takesName_84 : decode cX12_takesName 84 = .ok (.aload_n 0, 1) := by decide +kernel
theorem dX12_takesName_85 : decode cX12_takesName 85 = .ok (.getfield 13, 3) := by decide +kernel
theorem dX12_takesName_88 : decode cX12_takesName 88 = .ok (.aload_n 0, 1) := by decide +kernel
theorem dX12_takesName_89 : decode cX12_takesName 89 = .ok (.getfield 73, 3) := by decide +kernel
theorem dX12_takesName_92 : decode cX12_takesName 92 = .ok (.iload_n 2, 1) := by decide +kernel
theorem dX12_takesName_93 : decode cX12_takesName 93 = .ok (.iadd, 1) := by decide +kernel
theorem dX12_takesName_94 : decode cX12_takesName 94 = .ok (.iaload, 1) := by decide +kernel
theorem dX12_takesName_95 : decode cX12_takesName 95 = .ok (.goto 4, 3) := by decide +kernel
theorem dX12_takesName_98 : decode cX12_takesName 98 = .ok (.iconst 0, 1) := by decide +kernel
theorem dX12_takesName_99 : decode cX12_takesName 99 = .ok (.iastore, 1) := by decide +kernel
theorem dX12_takesName_100 : decode cX12_takesName 100 = .ok (.iinc 2 1, 3) := by decide +kernel
theorem dX12_takesName_103 : decode cX12_takesName 103 = .ok (.goto (-48), 3) := by decide +kernel
theorem dX12_takesName_106 : decode cX12_takesName 106 = .ok (.aload_n 0, 1) := by decide +kernel
theorem dX12_takesName_107 : decode cX12_takesName 107 = .ok (.invokevirtual 118, 3) := by decide +kernel
theorem dX12_takesName_110 : decode cX12_takesName 110 = .ok (.iconst 1, 1) := by decide +kernel
theorem dX12_takesName_111 : decode cX12_takesName 111 = .ok (.ireturn, 1) := by decide +kernel
def f_X12_takesName_55 (v1 : Int32) : Nat → Int32 → gSt → Option (Int32 × gSt)
  | 0, _, _ => none
  | n + 1, v2, σ =>
    if 6 ≤ v2 then
      (f_X12_goesOn σ).bind fun z107 =>
      some (1, z107)
    else
      if (σ 28 0 13) ≤ ((σ 28 0 12) + v2) then
        (gst σ 33 0 78 ((6 * v1) + v2) 0).bind fun z99 =>
        f_X12_takesName_55 v1 n (v2 + 1) z99
      else
        (gld σ 29 0 900 ((σ 28 0 12) + v2)).bind fun a94 =>
        (gst σ 33 0 78 ((6 * v1) + v2) a94).bind fun z99 =>
        f_X12_takesName_55 v1 n (v2 + 1) z99
def f_X12_takesName (v1 : Int32) (σ : gSt) : Option (Int32 × gSt) :=
  (f_X12_goesOn σ).bind fun z1 =>
  (f_X12_isName z1).bind fun p5 =>
  if p5.1 = 0 then
    (f_X12_errs 1 p5.2).bind fun p13 =>
    gzr p13.1 p13.2
  else
    (gld p5.2 31 0 397 0).bind fun a24 =>
    (f_X12_namedHere 0 a24 p5.2).bind fun p25 =>
    if p25.1 = (-1) then
      (gld p25.2 31 0 397 1).bind fun a39 =>
      (f_X12_namedHere 3 a39 p25.2).bind fun p40 =>
      if p40.1 = (-1) then
        f_X12_takesName_55 v1 gFuel 0 p40.2
      else
        (f_X12_errs 3 p40.2).bind fun p49 =>
        gzr p49.1 p49.2
    else
      (f_X12_errs 3 p25.2).bind fun p49 =>
      gzr p49.1 p49.2
theorem f_X12_takesName_55_ok {v1 : Int32} {r : (Int32 × gSt)} (hW : gEnv w aK aV) : ∀ (n : Nat) {v2 : Int32} {σ : gSt} , f_X12_takesName_55 v1 n v2 σ = some r → G l w 0 41 RX12 cX12_takesName 3 (some .boolean) 6 127 (gE (some (.int r.1)) r.2) 55 [some (.ref (w.2.1 28 0)), some (.int v1), some (.int v2)] [] σ := by
  intro n
  induction n with
  | zero => intro v2 σ h; rw [f_X12_takesName_55] at h; cases h
  | succ n ih =>
    intro v2 σ h
    rw [f_X12_takesName_55] at h
    refine g_iload_n dX12_takesName_55 rfl ?_
    refine g_bipush dX12_takesName_56 kb_6 ?_
    refine g_icmp_ge 106 dX12_takesName_58 rfl (fun q => ?_) (fun q => ?_)
    · replace h := gif_t q h
      refine g_aload_n dX12_takesName_106 rfl ?_
      obtain ⟨z107, e107, h⟩ := obind h
      refine g_vU0 mv_X12_118 dX12_takesName_107 ok_28 ⟨by decide, by decide⟩ (Nat.le_of_ble_eq_true rfl) (f_X12_goesOn_ok e107) ?_
      refine g_iconst dX12_takesName_110 kc_1 ?_
      cases h
      exact g_zret1 dX12_takesName_111 rfl
    · replace h := gif_f q h
      refine g_aload_n dX12_takesName_61 rfl ?_
      refine gR_X12_26 ok_28 dX12_takesName_62 ?_
      refine g_bipush dX12_takesName_65 kb_6 ?_
      refine g_iload_n dX12_takesName_67 rfl ?_
      refine g_imul dX12_takesName_68 ?_
      refine g_iload_n dX12_takesName_69 rfl ?_
      refine g_iadd dX12_takesName_70 ?_
      refine g_aload_n dX12_takesName_71 rfl ?_
      refine gI_X12_73 ok_28 dX12_takesName_72 ?_
      refine g_iload_n dX12_takesName_75 rfl ?_
      refine g_iadd dX12_takesName_76 ?_
      refine g_aload_n dX12_takesName_77 rfl ?_
      refine gI_X12_66 ok_28 dX12_takesName_78 ?_
      refine g_icmp_ge 98 dX12_takesName_81 rfl (fun q => ?_) (fun q => ?_)
      · replace h := gif_t q h
        refine g_iconst dX12_takesName_98 kc_0 ?_
        obtain ⟨z99, e99, h⟩ := obind h
        refine g_stB e99 ok_33 rfl rfl (by decide) dX12_takesName_99 ?_
        refine g_inc2 kc_1 dX12_takesName_100 ?_
        refine g_goto 55 dX12_takesName_103 rfl ?_
        exact ih h
      · replace h := gif_f q h
        refine g_aload_n dX12_takesName_84 rfl ?_
        refine gR_X12_13 ok_28 dX12_takesName_85 ?_
        refine g_aload_n dX12_takesName_88 rfl ?_
        refine gI_X12_73 ok_28 dX12_takesName_89 ?_
        refine g_iload_n dX12_takesName_92 rfl ?_
        refine g_iadd dX12_takesName_93 ?_
        obtain ⟨a94, e94, h⟩ := obind h
        refine g_ldB e94 ok_29 rfl rfl (by decide) dX12_takesName_94 ?_
        refine g_goto 99 dX12_takesName_95 rfl ?_
        obtain ⟨z99, e99, h⟩ := obind h
        refine g_stB e99 ok_33 rfl rfl (by decide) dX12_takesName_99 ?_
        refine g_inc2 kc_1 dX12_takesName_100 ?_
        refine g_goto 55 dX12_takesName_103 rfl ?_
        exact ih h
theorem f_X12_takesName_ok {v1 : Int32} (hW : gEnv w aK aV) {σ : gSt} {r : (Int32 × gSt)} (h : f_X12_takesName v1 σ = some r) : Mt l w 0 41 yX12_takesName cX12_takesName 3 (some .boolean) 6 127 [.ref (w.2.1 28 0), .int v1] σ (gE (some (.int r.1)) r.2) := by
  unfold f_X12_takesName at h
  refine g_start pn_X12 rfl rfl (Nat.le_of_ble_eq_true rfl) ?_
  show G l w 0 41 RX12 cX12_takesName 3 (some .boolean) 6 127 (gE (some (.int r.1)) r.2) 0 [some (.ref (w.2.1 28 0)), some (.int v1), none] [] σ
  refine g_aload_n dX12_takesName_0 rfl ?_
  obtain ⟨z1, e1, h⟩ := obind h
  refine g_vU0 mv_X12_118 dX12_takesName_1 ok_28 ⟨by decide, by decide⟩ (Nat.le_of_ble_eq_true rfl) (f_X12_goesOn_ok e1) ?_
  refine g_aload_n dX12_takesName_4 rfl ?_
  obtain ⟨p5, e5, h⟩ := obind h
  refine g_vP0 mv_X12_121 dX12_takesName_5 ok_28 ⟨by decide, by decide⟩ (Nat.le_of_ble_eq_true rfl) (f_X12_isName_ok hW e5) ?_
  refine g_if_ne 17 dX12_takesName_8 rfl (fun q => ?_) (fun q => ?_)
  · replace h := gif_f q h
    refine g_aload_n dX12_takesName_17 rfl ?_
    refine g_iconst dX12_takesName_18 kc_0 ?_
    refine g_aload_n dX12_takesName_19 rfl ?_
    refine gR_X12_20 ok_28 dX12_takesName_20 ?_
    refine g_iconst dX12_takesName_23 kc_0 ?_
    obtain ⟨a24, e24, h⟩ := obind h
    refine g_ldB e24 ok_31 rfl rfl (by decide) dX12_takesName_24 ?_
    obtain ⟨p25, e25, h⟩ := obind h
    refine g_vP2 mv_X12_129 dX12_takesName_25 ok_28 ⟨by decide, by decide⟩ (Nat.le_of_ble_eq_true rfl) (f_X12_namedHere_ok e25) ?_
    refine g_iconst dX12_takesName_28 kc_m1 ?_
    refine g_icmp_ne 47 dX12_takesName_29 rfl (fun q => ?_) (fun q => ?_)
    · replace h := gif_f q h
      refine g_aload_n dX12_takesName_47 rfl ?_
      refine g_iconst dX12_takesName_48 kc_3 ?_
      obtain ⟨p49, e49, h⟩ := obind h
      refine g_vP1 mv_X12_125 dX12_takesName_49 ok_28 ⟨by decide, by decide⟩ (Nat.le_of_ble_eq_true rfl) (f_X12_errs_ok e49) ?_
      exact g_zretG h dX12_takesName_52 rfl
    · replace h := gif_t q h
      refine g_aload_n dX12_takesName_32 rfl ?_
      refine g_iconst dX12_takesName_33 kc_3 ?_
      refine g_aload_n dX12_takesName_34 rfl ?_
      refine gR_X12_20 ok_28 dX12_takesName_35 ?_
      refine g_iconst dX12_takesName_38 kc_1 ?_
      obtain ⟨a39, e39, h⟩ := obind h
      refine g_ldB e39 ok_31 rfl rfl (by decide) dX12_takesName_39 ?_
      obtain ⟨p40, e40, h⟩ := obind h
      refine g_vP2 mv_X12_129 dX12_takesName_40 ok_28 ⟨by decide, by decide⟩ (Nat.le_of_ble_eq_true rfl) (f_X12_namedHere_ok e40) ?_
      refine g_iconst dX12_takesName_43 kc_m1 ?_
      refine g_icmp_eq 53 dX12_takesName_44 rfl (fun q => ?_) (fun q => ?_)
      · replace h := gif_t q h
        refine g_iconst dX12_takesName_53 kc_0 ?_
        refine g_istore2 dX12_takesName_54 ?_
        exact f_X12_takesName_55_ok hW gFuel h
      · replace h := gif_f q h
        refine g_aload_n dX12_takesName_47 rfl ?_
        refine g_iconst dX12_takesName_48 kc_3 ?_
        obtain ⟨p49, e49, h⟩ := obind h
        refine g_vP1 mv_X12_125 dX12_takesName_49 ok_28 ⟨by decide, by decide⟩ (Nat.le_of_ble_eq_true rfl) (f_X12_errs_ok e49) ?_
        exact g_zretG h dX12_takesName_52 rfl
  · replace h := gif_t q h
    refine g_aload_n dX12_takesName_11 rfl ?_
    refine g_iconst dX12_takesName_12 kc_1 ?_
    obtain ⟨p13, e13, h⟩ := obind h
    refine g_vP1 mv_X12_125 dX12_takesName_13 ok_28 ⟨by decide, by decide⟩ (Nat.le_of_ble_eq_true rfl) (f_X12_errs_ok e13) ?_
    exact g_zretG h dX12_takesName_16 rfl
theorem dX12_readCourse_0 : decode cX12_readCourse 0 = .ok (.aload_n 0, 1) := by decide +kernel
theorem dX12_readCourse_1 : decode cX12_readCourse 1 = .ok (.getfield 20, 3) := by decide +kernel
theorem dX12_readCourse_4 : decode cX12_readCourse 4 = .ok (.iconst 0, 1) := by decide +kernel
theorem dX12_readCourse_5 : decode cX12_readCourse 5 = .ok (.iaload, 1) := by decide +kernel
theorem dX12_readCourse_6 : decode cX12_readCourse 6 = .ok (.istore_n 1, 1) := by decide +kernel
theorem dX12_readCourse_7 : decode cX12_readCourse 7 = .ok (.iload_n 1, 1) := by decide +kernel
theorem dX12_readCourse_8 : decode cX12_readCourse 8 = .ok (.iconst 3, 1) := by decide +kernel
theorem dX12_readCourse_9 : decode cX12_readCourse 9 = .ok (.if_icmp .ne 9, 3) := by decide +kernel
theorem dX12_readCourse_12 : decode cX12_readCourse 12 = .ok (.aload_n 0, 1) := by decide +kernel
theorem dX12_readCourse_13 : decode cX12_readCourse 13 = .ok (.iconst 4, 1) := by decide +kernel
theorem dX12_readCourse_14 : decode cX12_readCourse 14 = .ok (.invokevirtual 125, 3) := by decide +kernel
theorem dX12_readCourse_17 : decode cX12_readCourse 17 = .ok (.ireturn, 1) := by decide +kernel
theorem dX12_readCourse_18 : decode cX12_readCourse 18 = .ok (.aload_n 0, 1) := by decide +kernel
theorem dX12_readCourse_19 : decode cX12_readCourse 19 = .ok (.iload_n 1, 1) := by decide +kernel
theorem dX12_readCourse_20 : decode cX12_readCourse 20 = .ok (.invokevirtual 133, 3) := by decide +kernel
theorem dX12_readCourse_23 : decode cX12_readCourse 23 = .ok (.ifCond .ne 5, 3) := by decide +kernel
theorem dX12_readCourse_26 : decode cX12_readCourse 26 = .ok (.iconst 0, 1) := by decide +kernel
theorem dX12_readCourse_27 : decode cX12_readCourse 27 = .ok (.ireturn, 1) := by decide +kernel
theorem dX12_readCourse_28 : decode cX12_readCourse 28 = .ok (.iconst 0, 1) := by decide +kernel
theorem dX12_readCourse_29 : decode cX12_readCourse 29 = .ok (.istore_n 2, 1) := by decide +kernel
theorem dX12_readCourse_30 : decode cX12_readCourse 30 = .ok (.iconst 1, 1) := by decide +kernel
theorem dX12_readCourse_31 : decode cX12_readCourse 31 = .ok (.istore_n 3, 1) := by decide +kernel
theorem dX12_readCourse_32 : decode cX12_readCourse 32 = .ok (.iload_n 3, 1) := by decide +kernel
theorem dX12_readCourse_33 : decode cX12_readCourse 33 = .ok (.ifCond .eq 126, 3) := by decide +kernel
theorem dX12_readCourse_36 : decode cX12_readCourse 36 = .ok (.aload_n 0, 1) := by decide +kernel
theorem dX12_readCourse_37 : decode cX12_readCourse 37 = .ok (.getfield 76, 3) := by decide +kernel
theorem dX12_readCourse_40 : decode cX12_readCourse 40 = .ok (.iconst 3, 1) := by decide +kernel
theorem dX12_readCourse_41 : decode cX12_readCourse 41 = .ok (.if_icmp .eq 9, 3) := by decide +kernel
theorem dX12_readCourse_44 : decode cX12_readCourse 44 = .ok (.aload_n 0, 1) := by decide +kernel
theorem dX12_readCourse_45 : decode cX12_readCourse 45 = .ok (.iconst 1, 1) := by decide +kernel
theorem dX12_readCourse_46 : decode cX12_readCourse 46 = .ok (.invokevirtual 125, 3) := by decide +kernel
theorem dX12_readCourse_49 : decode cX12_readCourse 49 = .ok (.ireturn, 1) := by decide +kernel
theorem dX12_readCourse_50 : decode cX12_readCourse 50 = .ok (.aload_n 0, 1) := by decide +kernel
theorem dX12_readCourse_51 : decode cX12_readCourse 51 = .ok (.getfield 83, 3) := by decide +kernel
theorem dX12_readCourse_54 : decode cX12_readCourse 54 = .ok (.iconst 1, 1) := by decide +kernel
theorem dX12_readCourse_55 : decode cX12_readCourse 55 = .ok (.bipush 99, 2) := by decide +kernel
theorem dX12_readCourse_57 : decode cX12_readCourse 57 = .ok (.invokestatic 79, 3) := by decide +kernel
theorem dX12_readCourse_60 : decode cX12_readCourse 60 = .ok (.ifCond .eq 30, 3) := by decide +kernel
theorem dX12_readCourse_63 : decode cX12_readCourse 63 = .ok (.iload_n 2, 1) := by decide +kernel
theorem dX12_readCourse_64 : decode cX12_readCourse 64 = .ok (.ifCond .le 32, 3) := by decide +kernel
theorem dX12_readCourse_67 : decode cX12_readCourse 67 = .ok (.aload_n 0, 1) := by decide +kernel
theorem dX12_readCourse_68 : decode cX12_readCourse 68 = .ok (.getfield 83, 3) := by decide +kernel
theorem dX12_readCourse_71 : decode cX12_readCourse 71 = .ok (.aload_n 0, 1) := by decide +kernel
theorem dX12_readCourse_72 : decode cX12_readCourse 72 = .ok (.getfield 20, 3) := by decide +kernel
theorem dX12_readCourse_75 : decode cX12_readCourse 75 = .ok (.bipush 7, 2) := by decide +kernel
theorem dX12_readCourse_77 : decode cX12_readCourse 77 = .ok (.bipush 10, 2) := by decide +kernel
theorem dX12_readCourse_79 : decode cX12_readCourse 79 = .ok (.iload_n 1, 1) := by decide +kernel
theorem dX12_readCourse_80 : decode cX12_readCourse 80 = .ok (.imul, 1) := by decide +kernel
theorem dX12_readCourse_81 : decode cX12_readCourse 81 = .ok (.iadd, 1) := by decide +kernel
theorem dX12_readCourse_82 : decode cX12_readCourse 82 = .ok (.iload_n 2, 1) := by decide +kernel
theorem dX12_readCourse_83 : decode cX12_readCourse 83 = .ok (.iadd, 1) := by decide +kernel
theorem dX12_readCourse_84 : decode cX12_readCourse 84 = .ok (.iconst 1, 1) := by decide +kernel
theorem dX12_readCourse_85 : decode cX12_readCourse 85 = .ok (.isub, 1) := by decide +kernel
theorem dX12_readCourse_86 : decode cX12_readCourse 86 = .ok (.iaload, 1) := by decide +kernel
theorem dX12_readCourse_87 : decode cX12_readCourse 87 = .ok (.if_icmp .ne 9, 3) := by decide +kernel
theorem dX12_readCourse_90 : decode cX12_readCourse 90 = .ok (.aload_n 0, 1) := by decide +kernel
theorem dX12_readCourse_91 : decode cX12_readCourse 91 = .ok (.iconst 2, 1) := by decide +kernel
theorem dX12_readCourse_92 : decode cX12_readCourse 92 = .ok (.invokevirtual 125, 3) := by decide +kernel
theorem dX12_readCourse_95 : decode cX12_readCourse 95 = .ok (.ireturn, 1) := by decide +kernel
theorem dX12_readCourse_96 : decode cX12_readCourse 96 = .ok (.iload_n 2, 1) := by decide +kernel
theorem dX12_readCourse_97 : decode cX12_readCourse 97 = .ok (.bipush 10, 2) := by decide +kernel
theorem dX12_readCourse_99 : decode cX12_readCourse 99 = .ok (.if_icmp .ne 9, 3) := by decide +kernel
theorem dX12_readCourse_102 : decode cX12_readCourse 102 = .ok (.aload_n 0, 1) := by decide +kernel
theorem dX12_readCourse_103 : decode cX12_readCourse 103 = .ok (.iconst 4, 1) := by decide +kernel
theorem dX12_readCourse_104 : decode cX12_readCourse 104 = .ok (.invokevirtual 125, 3) := by decide +kernel
theorem dX12_readCourse_107 : decode cX12_readCourse 107 = .ok (.ireturn, 1) := by decide +kernel
theorem dX12_readCourse_108 : decode cX12_readCourse 108 = .ok (.aload_n 0, 1) := by decide +kernel
theorem dX12_readCourse_109 : decode cX12_readCourse 109 = .ok (.getfield 20, 3) := by decide +kernel
theorem dX12_readCourse_112 : decode cX12_readCourse 112 = .ok (.bipush 7, 2) := by decide +kernel
theorem dX12_readCourse_114 : decode cX12_readCourse 114 = .ok (.bipush 10, 2) := by decide +kernel
theorem dX12_readCourse_116 : decode cX12_readCourse 116 = .ok (.iload_n 1, 1) := by decide +kernel
theorem dX12_readCourse_117 : decode cX12_readCourse 117 = .ok (.imul, 1) := by decide +kernel
theorem dX12_readCourse_118 : decode cX12_readCourse 118 = .ok (.iadd, 1) := by decide +kernel
theorem dX12_readCourse_119 : decode cX12_readCourse 119 = .ok (.iload_n 2, 1) := by decide +kernel
theorem dX12_readCourse_120 : decode cX12_readCourse 120 = .ok (.iadd, 1) := by decide +kernel
theorem dX12_readCourse_121 : decode cX12_readCourse 121 = .ok (.aload_n 0, 1) := by decide +kernel
theorem dX12_readCourse_122 : decode cX12_readCourse 122 = .ok (.getfield 83, 3) := by decide +kernel
theorem dX12_readCourse_125 : decode cX12_readCourse 125 = .ok (.iastore, 1) := by decide +kernel
theorem dX12_readCourse_126 : decode cX12_readCourse 126 = .ok (.iinc 2 1, 3) := by decide +kernel
theorem dX12_readCourse_129 : decode cX12_readCourse 129 = .ok (.aload_n 0, 1) := by decide +kernel
theorem dX12_readCourse_130 : decode cX12_readCourse 130 = .ok (.invokevirtual 118, 3) := by decide +kernel
theorem dX12_readCourse_133 : decode cX12_readCourse 133 = .ok (.aload_n 0, 1) := by decide +kernel
theorem dX12_readCourse_134 : decode cX12_readCourse 134 = .ok (.getfield 76, 3) := by decide +kernel
theorem dX12_readCourse_137 : decode cX12_readCourse 137 = .ok (.bipush 44, 2) := by decide +kernel
theorem dX12_readCourse_139 : decode cX12_readCourse 139 = .ok (.if_icmp .ne 7, 3) := by decide +kernel
theorem dX12_readCourse_142 : decode cX12_readCourse 142 = .ok (.iconst 1, 1) := by decide +kernel
theorem dX12_readCourse_143 : decode cX12_readCourse 143 = .ok (.goto 4, 3) := by decide +kernel
theorem dX12_readCourse_146 : decode cX12_readCourse 146 = .ok (.iconst 0, 1) := by decide +kernel
theorem dX12_readCourse_147 : decode cX12_readCourse 147 = .ok (.istore_n 3, 1) := by decide +kernel
theorem dX12_readCourse_148 : decode cX12_readCourse 148 = .ok (.iload_n 3, 1) := by decide +kernel
theorem dX12_readCourse_149 : decode cX12_readCourse 149 = .ok (.ifCond .eq (-117), 3) := by decide +kernel
theorem dX12_readCourse_152 : decode cX12_readCourse 152 = .ok (.aload_n 0, 1) := by decide +kernel
theorem dX12_readCourse_153 : decode cX12_readCourse 153 = .ok (.invokevirtual 118, 3) := by decide +kernel
theorem dX12_readCourse_156 : decode cX12_readCourse 156 = .ok (.goto (-124), 3) := by decide +kernel
theorem dX12_readCourse_159 : decode cX12_readCourse 159 = .ok (.aload_n 0, 1) := by decide +kernel
theorem dX12_readCourse_160 : decode cX12_readCourse 160 = .ok (.getfield 20, 3) := by decide +kernel
theorem dX12_readCourse_163 : decode cX12_readCourse 163 = .ok (.iconst 4, 1) := by decide +kernel
theorem dX12_readCourse_164 : decode cX12_readCourse 164 = .ok (.iload_n 1, 1) := by decide +kernel
theorem dX12_readCourse_165 : decode cX12_readCourse 165 = .ok (.iadd, 1) := by decide +kernel
theorem dX12_readCourse_166 : decode cX12_readCourse 166 = .ok (.iload_n 2, 1) := by decide +kernel
theorem dX12_readCourse_167 : decode cX12_readCourse 167 = .ok (.iastore, 1) := by decide +kernel
theorem dX12_readCourse_168 : decode cX12_readCourse 168 = .ok (.aload_n 0, 1) := by decide +kernel
theorem dX12_readCourse_169 : decode cX12_readCourse 169 = .ok (.getfield 20, 3) := by decide +kernel
theorem dX12_readCourse_172 : decode cX12_readCourse 172 = .ok (.iconst 0, 1) := by decide +kernel
theorem dX12_readCourse_173 : decode cX12_readCourse 173 = .ok (.dup2, 1) := by decide +kernel
theorem dX12_readCourse_174 : decode cX12_readCourse 174 = .ok (.iaload, 1) := by decide +kernel
theorem dX12_readCourse_175 : decode cX12_readCourse 175 = .ok (.iconst 1, 1) := by decide +kernel
theorem dX12_readCourse_176 : decode cX12_readCourse 176 = .ok (.iadd, 1) := by decide +kernel
theorem dX12_readCourse_177 : decode cX12_readCourse 177 = .ok (.iastore, 1) := by decide +kernel
theorem dX12_readCourse_178 : decode cX12_readCourse 178 = .ok (.iconst 1, 1) := by decide +kernel
theorem dX12_readCourse_179 : decode cX12_readCourse 179 = .ok (.ireturn, 1) := by decide +kernel
def f_X12_readCourse_147 (v1 : Int32) (v2 : Int32) (k32 : Int32 → Int32 → gSt → Option (Int32 × gSt)) (vs0 : Int32) (σ : gSt) : Option (Int32 × gSt) :=
  if vs0 = 0 then
    k32 v2 vs0 σ
  else
    (f_X12_goesOn σ).bind fun z153 =>
    k32 v2 vs0 z153
def f_X12_readCourse_96 (v1 : Int32) (v2 : Int32) (k32 : Int32 → Int32 → gSt → Option (Int32 × gSt)) (σ : gSt) : Option (Int32 × gSt) :=
  if v2 = 10 then
    (f_X12_errs 4 σ).bind fun p104 =>
    gzr p104.1 p104.2
  else
    (gst σ 31 0 397 ((7 + (10 * v1)) + v2) (σ 28 0 15)).bind fun z125 =>
    (f_X12_goesOn z125).bind fun z130 =>
    if (z130 28 0 14) = 44 then
      f_X12_readCourse_147 v1 (v2 + 1) k32 1 z130
    else
      f_X12_readCourse_147 v1 (v2 + 1) k32 0 z130
def f_X12_readCourse_32 (v1 : Int32) : Nat → Int32 → Int32 → gSt → Option (Int32 × gSt)
  | 0, _, _, _ => none
  | n + 1, v2, v3, σ =>
    if v3 = 0 then
      (gst σ 31 0 397 (4 + v1) v2).bind fun z167 =>
      (gld z167 31 0 397 0).bind fun a174 =>
      (gst z167 31 0 397 0 (a174 + 1)).bind fun z177 =>
      some (1, z177)
    else
      if (σ 28 0 14) = 3 then
        (f_X12_in (σ 28 0 15) 1 99 σ).bind fun p57 =>
        if p57.1 = 0 then
          (f_X12_errs 2 p57.2).bind fun p92 =>
          gzr p92.1 p92.2
        else
          if v2 ≤ 0 then
            f_X12_readCourse_96 v1 v2 (fun v2 v3 σ => f_X12_readCourse_32 v1 n v2 v3 σ) p57.2
          else
            (gld p57.2 31 0 397 (((7 + (10 * v1)) + v2) - 1)).bind fun a86 =>
            if (p57.2 28 0 15) = a86 then
              (f_X12_errs 2 p57.2).bind fun p92 =>
              gzr p92.1 p92.2
            else
              f_X12_readCourse_96 v1 v2 (fun v2 v3 σ => f_X12_readCourse_32 v1 n v2 v3 σ) p57.2
      else
        (f_X12_errs 1 σ).bind fun p46 =>
        gzr p46.1 p46.2
def f_X12_readCourse (σ : gSt) : Option (Int32 × gSt) :=
  (gld σ 31 0 397 0).bind fun a5 =>
  if a5 = 3 then
    (f_X12_errs 4 σ).bind fun p14 =>
    gzr p14.1 p14.2
  else
    (f_X12_takesName a5 σ).bind fun p20 =>
    if p20.1 = 0 then
      some (0, p20.2)
    else
      f_X12_readCourse_32 a5 gFuel 0 1 p20.2
theorem f_X12_readCourse_147_ok {v1 : Int32} {v2 : Int32} {k32 : Int32 → Int32 → gSt → Option (Int32 × gSt)} {vs0 : Int32} {r : (Int32 × gSt)} (hW : gEnv w aK aV) (hk32 : ∀ {v2 : Int32} {v3 : Int32} {σ : gSt} , k32 v2 v3 σ = some r → G l w 0 41 RX12 cX12_readCourse 4 (some .boolean) 7 149 (gE (some (.int r.1)) r.2) 32 [some (.ref (w.2.1 28 0)), some (.int v1), some (.int v2), some (.int v3)] [] σ) {σ : gSt} {x3 : Option Value} (h : f_X12_readCourse_147 v1 v2 k32 vs0 σ = some r) : G l w 0 41 RX12 cX12_readCourse 4 (some .boolean) 7 149 (gE (some (.int r.1)) r.2) 147 [some (.ref (w.2.1 28 0)), some (.int v1), some (.int v2), x3] [.int vs0] σ := by
  unfold f_X12_readCourse_147 at h
  refine g_istore3 dX12_readCourse_147 ?_
  refine g_iload_n dX12_readCourse_148 rfl ?_
  refine g_if_eq 32 dX12_readCourse_149 rfl (fun q => ?_) (fun q => ?_)
  · replace h := gif_t q h
    exact hk32 h
  · replace h := gif_f q h
    refine g_aload_n dX12_readCourse_152 rfl ?_
    obtain ⟨z153, e153, h⟩ := obind h
    refine g_vU0 mv_X12_118 dX12_readCourse_153 ok_28 ⟨by decide, by decide⟩ (Nat.le_of_ble_eq_true rfl) (f_X12_goesOn_ok e153) ?_
    refine g_goto 32 dX12_readCourse_156 rfl ?_
    exact hk32 h
theorem f_X12_readCourse_96_ok {v1 : Int32} {v2 : Int32} {k32 : Int32 → Int32 → gSt → Option (Int32 × gSt)} {r : (Int32 × gSt)} (hW : gEnv w aK aV) (hk32 : ∀ {v2 : Int32} {v3 : Int32} {σ : gSt} , k32 v2 v3 σ = some r → G l w 0 41 RX12 cX12_readCourse 4 (some .boolean) 7 149 (gE (some (.int r.1)) r.2) 32 [some (.ref (w.2.1 28 0)), some (.int v1), some (.int v2), some (.int v3)] [] σ) {σ : gSt} {x3 : Option Value} (h : f_X12_readCourse_96 v1 v2 k32 σ = some r) : G l w 0 41 RX12 cX12_readCourse 4 (some .boolean) 7 149 (gE (some (.int r.1)) r.2) 96 [some (.ref (w.2.1 28 0)), some (.int v1), some (.int v2), x3] [] σ := by
  unfold f_X12_readCourse_96 at h
  refine g_iload_n dX12_readCourse_96 rfl ?_
  refine g_bipush dX12_readCourse_97 kb_10 ?_
  refine g_icmp_ne 108 dX12_readCourse_99 rfl (fun q => ?_) (fun q => ?_)
  · replace h := gif_f q h
    refine g_aload_n dX12_readCourse_108 rfl ?_
    refine gR_X12_20 ok_28 dX12_readCourse_109 ?_
    refine g_bipush dX12_readCourse_112 kb_7 ?_
    refine g_bipush dX12_readCourse_114 kb_10 ?_
    refine g_iload_n dX12_readCourse_116 rfl ?_
    refine g_imul dX12_readCourse_117 ?_
    refine g_iadd dX12_readCourse_118 ?_
    refine g_iload_n dX12_readCourse_119 rfl ?_
    refine g_iadd dX12_readCourse_120 ?_
    refine g_aload_n dX12_readCourse_121 rfl ?_
    refine gI_X12_83 ok_28 dX12_readCourse_122 ?_
    obtain ⟨z125, e125, h⟩ := obind h
    refine g_stB e125 ok_31 rfl rfl (by decide) dX12_readCourse_125 ?_
    refine g_inc2 kc_1 dX12_readCourse_126 ?_
    refine g_aload_n dX12_readCourse_129 rfl ?_
    obtain ⟨z130, e130, h⟩ := obind h
    refine g_vU0 mv_X12_118 dX12_readCourse_130 ok_28 ⟨by decide, by decide⟩ (Nat.le_of_ble_eq_true rfl) (f_X12_goesOn_ok e130) ?_
    refine g_aload_n dX12_readCourse_133 rfl ?_
    refine gI_X12_76 ok_28 dX12_readCourse_134 ?_
    refine g_bipush dX12_readCourse_137 kb_44 ?_
    refine g_icmp_ne 146 dX12_readCourse_139 rfl (fun q => ?_) (fun q => ?_)
    · replace h := gif_f q h
      refine g_iconst dX12_readCourse_146 kc_0 ?_
      exact f_X12_readCourse_147_ok hW hk32 h
    · replace h := gif_t q h
      refine g_iconst dX12_readCourse_142 kc_1 ?_
      refine g_goto 147 dX12_readCourse_143 rfl ?_
      exact f_X12_readCourse_147_ok hW hk32 h
  · replace h := gif_t q h
    refine g_aload_n dX12_readCourse_102 rfl ?_
    refine g_iconst dX12_readCourse_103 kc_4 ?_
    obtain ⟨p104, e104, h⟩ := obind h
    refine g_vP1 mv_X12_125 dX12_readCourse_104 ok_28 ⟨by decide, by decide⟩ (Nat.le_of_ble_eq_true rfl) (f_X12_errs_ok e104) ?_
    exact g_zretG h dX12_readCourse_107 rfl
theorem f_X12_readCourse_32_ok {v1 : Int32} {r : (Int32 × gSt)} (hW : gEnv w aK aV) : ∀ (n : Nat) {v2 : Int32} {v3 : Int32} {σ : gSt} , f_X12_readCourse_32 v1 n v2 v3 σ = some r → G l w 0 41 RX12 cX12_readCourse 4 (some .boolean) 7 149 (gE (some (.int r.1)) r.2) 32 [some (.ref (w.2.1 28 0)), some (.int v1), some (.int v2), some (.int v3)] [] σ := by
  intro n
  induction n with
  | zero => intro v2 v3 σ h; rw [f_X12_readCourse_32] at h; cases h
  | succ n ih =>
    intro v2 v3 σ h
    rw [f_X12_readCourse_32] at h
    refine g_iload_n dX12_readCourse_32 rfl ?_
    refine g_if_eq 159 dX12_readCourse_33 rfl (fun q => ?_) (fun q => ?_)
    · replace h := gif_t q h
      refine g_aload_n dX12_readCourse_159 rfl ?_
      refine gR_X12_20 ok_28 dX12_readCourse_160 ?_
      refine g_iconst dX12_readCourse_163 kc_4 ?_
      refine g_iload_n dX12_readCourse_164 rfl ?_
      refine g_iadd dX12_readCourse_165 ?_
      refine g_iload_n dX12_readCourse_166 rfl ?_
      obtain ⟨z167, e167, h⟩ := obind h
      refine g_stB e167 ok_31 rfl rfl (by decide) dX12_readCourse_167 ?_
      refine g_aload_n dX12_readCourse_168 rfl ?_
      refine gR_X12_20 ok_28 dX12_readCourse_169 ?_
      refine g_iconst dX12_readCourse_172 kc_0 ?_
      refine g_dup2 dX12_readCourse_173 rfl rfl ?_
      obtain ⟨a174, e174, h⟩ := obind h
      refine g_ldB e174 ok_31 rfl rfl (by decide) dX12_readCourse_174 ?_
      refine g_iconst dX12_readCourse_175 kc_1 ?_
      refine g_iadd dX12_readCourse_176 ?_
      obtain ⟨z177, e177, h⟩ := obind h
      refine g_stB e177 ok_31 rfl rfl (by decide) dX12_readCourse_177 ?_
      refine g_iconst dX12_readCourse_178 kc_1 ?_
      cases h
      exact g_zret1 dX12_readCourse_179 rfl
    · replace h := gif_f q h
      refine g_aload_n dX12_readCourse_36 rfl ?_
      refine gI_X12_76 ok_28 dX12_readCourse_37 ?_
      refine g_iconst dX12_readCourse_40 kc_3 ?_
      refine g_icmp_eq 50 dX12_readCourse_41 rfl (fun q => ?_) (fun q => ?_)
      · replace h := gif_t q h
        refine g_aload_n dX12_readCourse_50 rfl ?_
        refine gI_X12_83 ok_28 dX12_readCourse_51 ?_
        refine g_iconst dX12_readCourse_54 kc_1 ?_
        refine g_bipush dX12_readCourse_55 kb_99 ?_
        obtain ⟨p57, e57, h⟩ := obind h
        refine g_sP3 ms_X12_79 dX12_readCourse_57 ⟨by decide, by decide⟩ (Nat.le_of_ble_eq_true rfl) (f_X12_in_ok e57) ?_
        refine g_if_eq 90 dX12_readCourse_60 rfl (fun q => ?_) (fun q => ?_)
        · replace h := gif_t q h
          refine g_aload_n dX12_readCourse_90 rfl ?_
          refine g_iconst dX12_readCourse_91 kc_2 ?_
          obtain ⟨p92, e92, h⟩ := obind h
          refine g_vP1 mv_X12_125 dX12_readCourse_92 ok_28 ⟨by decide, by decide⟩ (Nat.le_of_ble_eq_true rfl) (f_X12_errs_ok e92) ?_
          exact g_zretG h dX12_readCourse_95 rfl
        · replace h := gif_f q h
          refine g_iload_n dX12_readCourse_63 rfl ?_
          refine g_if_le 96 dX12_readCourse_64 rfl (fun q => ?_) (fun q => ?_)
          · replace h := gif_t q h
            exact f_X12_readCourse_96_ok hW (fun h => ih h) h
          · replace h := gif_f q h
            refine g_aload_n dX12_readCourse_67 rfl ?_
            refine gI_X12_83 ok_28 dX12_readCourse_68 ?_
            refine g_aload_n dX12_readCourse_71 rfl ?_
            refine gR_X12_20 ok_28 dX12_readCourse_72 ?_
            refine g_bipush dX12_readCourse_75 kb_7 ?_
            refine g_bipush dX12_readCourse_77 kb_10 ?_
            refine g_iload_n dX12_readCourse_79 rfl ?_
            refine g_imul dX12_readCourse_80 ?_
            refine g_iadd dX12_readCourse_81 ?_
            refine g_iload_n dX12_readCourse_82 rfl ?_
            refine g_iadd dX12_readCourse_83 ?_
            refine g_iconst dX12_readCourse_84 kc_1 ?_
            refine g_isub dX12_readCourse_85 ?_
            obtain ⟨a86, e86, h⟩ := obind h
            refine g_ldB e86 ok_31 rfl rfl (by decide) dX12_readCourse_86 ?_
            refine g_icmp_ne 96 dX12_readCourse_87 rfl (fun q => ?_) (fun q => ?_)
            · replace h := gif_f q h
              exact f_X12_readCourse_96_ok hW (fun h => ih h) h
            · replace h := gif_t q h
              refine g_aload_n dX12_readCourse_90 rfl ?_
              refine g_iconst dX12_readCourse_91 kc_2 ?_
              obtain ⟨p92, e92, h⟩ := obind h
              refine g_vP1 mv_X12_125 dX12_readCourse_92 ok_28 ⟨by decide, by decide⟩ (Nat.le_of_ble_eq_true rfl) (f_X12_errs_ok e92) ?_
              exact g_zretG h dX12_readCourse_95 rfl
      · replace h := gif_f q h
        refine g_aload_n dX12_readCourse_44 rfl ?_
        refine g_iconst dX12_readCourse_45 kc_1 ?_
        obtain ⟨p46, e46, h⟩ := obind h
        refine g_vP1 mv_X12_125 dX12_readCourse_46 ok_28 ⟨by decide, by decide⟩ (Nat.le_of_ble_eq_true rfl) (f_X12_errs_ok e46) ?_
        exact g_zretG h dX12_readCourse_49 rfl
theorem f_X12_readCourse_ok  (hW : gEnv w aK aV) {σ : gSt} {r : (Int32 × gSt)} (h : f_X12_readCourse σ = some r) : Mt l w 0 41 yX12_readCourse cX12_readCourse 4 (some .boolean) 7 149 [.ref (w.2.1 28 0)] σ (gE (some (.int r.1)) r.2) := by
  unfold f_X12_readCourse at h
  refine g_start pn_X12 rfl rfl (Nat.le_of_ble_eq_true rfl) ?_
  show G l w 0 41 RX12 cX12_readCourse 4 (some .boolean) 7 149 (gE (some (.int r.1)) r.2) 0 [some (.ref (w.2.1 28 0)), none, none, none] [] σ
  refine g_aload_n dX12_readCourse_0 rfl ?_
  refine gR_X12_20 ok_28 dX12_readCourse_1 ?_
  refine g_iconst dX12_readCourse_4 kc_0 ?_
  obtain ⟨a5, e5, h⟩ := obind h
  refine g_ldB e5 ok_31 rfl rfl (by decide) dX12_readCourse_5 ?_
  refine g_istore1 dX12_readCourse_6 ?_
  refine g_iload_n dX12_readCourse_7 rfl ?_
  refine g_iconst dX12_readCourse_8 kc_3 ?_
  refine g_icmp_ne 18 dX12_readCourse_9 rfl (fun q => ?_) (fun q => ?_)
  · replace h := gif_f q h
    refine g_aload_n dX12_readCourse_18 rfl ?_
    refine g_iload_n dX12_readCourse_19 rfl ?_
    obtain ⟨p20, e20, h⟩ := obind h
    refine g_vP1 mv_X12_133 dX12_readCourse_20 ok_28 ⟨by decide, by decide⟩ (Nat.le_of_ble_eq_true rfl) (f_X12_takesName_ok hW e20) ?_
    refine g_if_ne 28 dX12_readCourse_23 rfl (fun q => ?_) (fun q => ?_)
    · replace h := gif_f q h
      refine g_iconst dX12_readCourse_28 kc_0 ?_
      refine g_istore2 dX12_readCourse_29 ?_
      refine g_iconst dX12_readCourse_30 kc_1 ?_
      refine g_istore3 dX12_readCourse_31 ?_
      exact f_X12_readCourse_32_ok hW gFuel h
    · replace h := gif_t q h
      refine g_iconst dX12_readCourse_26 kc_0 ?_
      cases h
      exact g_zret0 dX12_readCourse_27 rfl
  · replace h := gif_t q h
    refine g_aload_n dX12_readCourse_12 rfl ?_
    refine g_iconst dX12_readCourse_13 kc_4 ?_
    obtain ⟨p14, e14, h⟩ := obind h
    refine g_vP1 mv_X12_125 dX12_readCourse_14 ok_28 ⟨by decide, by decide⟩ (Nat.le_of_ble_eq_true rfl) (f_X12_errs_ok e14) ?_
    exact g_zretG h dX12_readCourse_17 rfl
theorem dX12_readRunner_0 : decode cX12_readRunner 0 = .ok (.aload_n 0, 1) := by decide +kernel
theorem dX12_readRunner_1 : decode cX12_readRunner 1 = .ok (.getfield 20, 3) := by decide +kernel
theorem dX12_readRunner_4 : decode cX12_readRunner 4 = .ok (.iconst 1, 1) := by decide +kernel
theorem dX12_readRunner_5 : decode cX12_readRunner 5 = .ok (.iaload, 1) := by decide +kernel
theorem dX12_readRunner_6 : decode cX12_readRunner 6 = .ok (.istore_n 1, 1) := by decide +kernel
theorem dX12_readRunner_7 : decode cX12_readRunner 7 = .ok (.iload_n 1, 1) := by decide +kernel
theorem dX12_readRunner_8 : decode cX12_readRunner 8 = .ok (.bipush 10, 2) := by decide +kernel
theorem dX12_readRunner_10 : decode cX12_readRunner 10 = .ok (.if_icmp .ne 9, 3) := by decide +kernel
theorem dX12_readRunner_13 : decode cX12_readRunner 13 = .ok (.aload_n 0, 1) := by decide +kernel
theorem dX12_readRunner_14 : decode cX12_readRunner 14 = .ok (.iconst 4, 1) := by decide +kernel
theorem dX12_readRunner_15 : decode cX12_readRunner 15 = .ok (.invokevirtual 125, 3) := by decide +kernel
theorem dX12_readRunner_18 : decode cX12_readRunner 18 = .ok (.ireturn, 1) := by decide +kernel
theorem dX12_readRunner_19 : decode cX12_readRunner 19 = .ok (.aload_n 0, 1) := by decide +kernel
theorem dX12_readRunner_20 : decode cX12_readRunner 20 = .ok (.iconst 3, 1) := by decide +kernel
theorem dX12_readRunner_21 : decode cX12_readRunner 21 = .ok (.iload_n 1, 1) := by decide +kernel
theorem dX12_readRunner_22 : decode cX12_readRunner 22 = .ok (.iadd, 1) := by decide +kernel
theorem dX12_readRunner_23 : decode cX12_readRunner 23 = .ok (.invokevirtual 133, 3) := by decide +kernel
theorem dX12_readRunner_26 : decode cX12_readRunner 26 = .ok (.ifCond .ne 5, 3) := by decide +kernel
theorem dX12_readRunner_29 : decode cX12_readRunner 29 = .ok (.iconst 0, 1) := by decide +kernel
theorem dX12_readRunner_30 : decode cX12_readRunner 30 = .ok (.ireturn, 1) := by decide +kernel
theorem dX12_readRunner_31 : decode cX12_readRunner 31 = .ok (.aload_n 0, 1) := by decide +kernel
theorem dX12_readRunner_32 : decode cX12_readRunner 32 = .ok (.invokevirtual 121, 3) := by decide +kernel
theorem dX12_readRunner_35 : decode cX12_readRunner 35 = .ok (.ifCond .ne 9, 3) := by decide +kernel
theorem dX12_readRunner_38 : decode cX12_readRunner 38 = .ok (.aload_n 0, 1) := by decide +kernel
theorem dX12_readRunner_39 : decode cX12_readRunner 39 = .ok (.iconst 1, 1) := by decide +kernel
theorem dX12_readRunner_40 : decode cX12_readRunner 40 = .ok (.invokevirtual 125, 3) := by decide +kernel
theorem dX12_readRunner_43 : decode cX12_readRunner 43 = .ok (.ireturn, 1) := by decide +kernel
theorem dX12_readRunner_44 : decode cX12_readRunner 44 = .ok (.aload_n 0, 1) := by decide +kernel
theorem dX12_readRunner_45 : decode cX12_readRunner 45 = .ok (.getfield 20, 3) := by decide +kernel
theorem dX12_readRunner_48 : decode cX12_readRunner 48 = .ok (.bipush 37, 2) := by decide +kernel
theorem dX12_readRunner_50 : decode cX12_readRunner 50 = .ok (.iload_n 1, 1) := by decide +kernel
theorem dX12_readRunner_51 : decode cX12_readRunner 51 = .ok (.iadd, 1) := by decide +kernel
theorem dX12_readRunner_52 : decode cX12_readRunner 52 = .ok (.aload_n 0, 1) := by decide +kernel
theorem dX12_readRunner_53 : decode cX12_readRunner 53 = .ok (.iconst 0, 1) := by decide +kernel
theorem dX12_readRunner_54 : decode cX12_readRunner 54 = .ok (.aload_n 0, 1) := by decide +kernel
theorem dX12_readRunner_55 : decode cX12_readRunner 55 = .ok (.getfield 20, 3) := by decide +kernel
theorem dX12_readRunner_58 : decode cX12_readRunner 58 = .ok (.iconst 0, 1) := by decide +kernel
theorem dX12_readRunner_59 : decode cX12_readRunner 59 = .ok (.iaload, 1) := by decide +kernel
theorem dX12_readRunner_60 : decode cX12_readRunner 60 = .ok (.invokevirtual 129, 3) := by decide +kernel
theorem dX12_readRunner_63 : decode cX12_readRunner 63 = .ok (.iastore, 1) := by decide +kernel
theorem dX12_readRunner_64 : decode cX12_readRunner 64 = .ok (.aload_n 0, 1) := by decide +kernel
theorem dX12_readRunner_65 : decode cX12_readRunner 65 = .ok (.getfield 20, 3) := by decide +kernel
theorem dX12_readRunner_68 : decode cX12_readRunner 68 = .ok (.bipush 37, 2) := by decide +kernel
theorem dX12_readRunner_70 : decode cX12_readRunner 70 = .ok (.iload_n 1, 1) := by decide +kernel
theorem dX12_readRunner_71 : decode cX12_readRunner 71 = .ok (.iadd, 1) := by decide +kernel
theorem dX12_readRunner_72 : decode cX12_readRunner 72 = .ok (.iaload, 1) := by decide +kernel
theorem dX12_readRunner_73 : decode cX12_readRunner 73 = .ok (.iconst (-1), 1) := by decide +kernel
theorem dX12_readRunner_74 : decode cX12_readRunner 74 = .ok (.if_icmp .ne 9, 3) := by decide +kernel
theorem dX12_readRunner_77 : decode cX12_readRunner 77 = .ok (.aload_n 0, 1) := by decide +kernel
theorem dX12_readRunner_78 : decode cX12_readRunner 78 = .ok (.iconst 3, 1) := by decide +kernel
theorem dX12_readRunner_79 : decode cX12_readRunner 79 = .ok (.invokevirtual 125, 3) := by decide +kernel
theorem dX12_readRunner_82 : decode cX12_readRunner 82 = .ok (.ireturn, 1) := by decide +kernel
theorem dX12_readRunner_83 : decode cX12_readRunner 83 = .ok (.aload_n 0, 1) := by decide +kernel
theorem dX12_readRunner_84 : decode cX12_readRunner 84 = .ok (.invokevirtual 118, 3) := by decide +kernel
theorem dX12_readRunner_87 : decode cX12_readRunner 87 = .ok (.aload_n 0, 1) := by decide +kernel
theorem dX12_readRunner_88 : decode cX12_readRunner 88 = .ok (.bipush 47, 2) := by decide +kernel
theorem dX12_readRunner_90 : decode cX12_readRunner 90 = .ok (.iload_n 1, 1) := by decide +kernel
theorem dX12_readRunner_91 : decode cX12_readRunner 91 = .ok (.iadd, 1) := by decide +kernel
theorem dX12_readRunner_92 : decode cX12_readRunner 92 = .ok (.iconst 0, 1) := by decide +kernel
theorem dX12_readRunner_93 : decode cX12_readRunner 93 = .ok (.sipush 9998, 3) := by decide +kernel
theorem dX12_readRunner_96 : decode cX12_readRunner 96 = .ok (.invokevirtual 136, 3) := by decide +kernel
theorem dX12_readRunner_99 : decode cX12_readRunner 99 = .ok (.ifCond .eq 28, 3) := by decide +kernel
theorem dX12_readRunner_102 : decode cX12_readRunner 102 = .ok (.aload_n 0, 1) := by decide +kernel
theorem dX12_readRunner_103 : decode cX12_readRunner 103 = .ok (.bipush 57, 2) := by decide +kernel
theorem dX12_readRunner_105 : decode cX12_readRunner 105 = .ok (.iload_n 1, 1) := by decide +kernel
theorem dX12_readRunner_106 : decode cX12_readRunner 106 = .ok (.iadd, 1) := by decide +kernel
theorem dX12_readRunner_107 : decode cX12_readRunner 107 = .ok (.aload_n 0, 1) := by decide +kernel
theorem dX12_readRunner_108 : decode cX12_readRunner 108 = .ok (.getfield 20, 3) := by decide +kernel
theorem dX12_readRunner_111 : decode cX12_readRunner 111 = .ok (.bipush 47, 2) := by decide +kernel
theorem dX12_readRunner_113 : decode cX12_readRunner 113 = .ok (.iload_n 1, 1) := by decide +kernel
theorem dX12_readRunner_114 : decode cX12_readRunner 114 = .ok (.iadd, 1) := by decide +kernel
theorem dX12_readRunner_115 : decode cX12_readRunner 115 = .ok (.iaload, 1) := by decide +kernel
theorem dX12_readRunner_116 : decode cX12_readRunner 116 = .ok (.iconst 1, 1) := by decide +kernel
theorem dX12_readRunner_117 : decode cX12_readRunner 117 = .ok (.iadd, 1) := by decide +kernel
theorem dX12_readRunner_118 : decode cX12_readRunner 118 = .ok (.sipush 9999, 3) := by decide +kernel
theorem dX12_readRunner_121 : decode cX12_readRunner 121 = .ok (.invokevirtual 136, 3) := by decide +kernel
theorem dX12_readRunner_124 : decode cX12_readRunner 124 = .ok (.ifCond .ne 5, 3) := by decide +kernel
theorem dX12_readRunner_127 : decode cX12_readRunner 127 = .ok (.iconst 0, 1) := by decide +kernel
theorem dX12_readRunner_128 : decode cX12_readRunner 128 = .ok (.ireturn, 1) := by decide +kernel
theorem dX12_readRunner_129 : decode cX12_readRunner 129 = .ok (.aload_n 0, 1) := by decide +kernel
theorem dX12_readRunner_130 : decode cX12_readRunner 130 = .ok (.getfield 20, 3) := by decide +kernel
theorem dX12_readRunner_133 : decode cX12_readRunner 133 = .ok (.bipush 67, 2) := by decide +kernel
theorem dX12_readRunner_135 : decode cX12_readRunner 135 = .ok (.iload_n 1, 1) := by decide +kernel
theorem dX12_readRunner_136 : decode cX12_readRunner 136 = .ok (.iadd, 1) := by decide +kernel
theorem dX12_readRunner_137 : decode cX12_readRunner 137 = .ok (.iconst 0, 1) := by decide +kernel
theorem dX12_readRunner_138 : decode cX12_readRunner 138 = .ok (.iastore, 1) := by decide +kernel
theorem dX12_readRunner_139 : decode cX12_readRunner 139 = .ok (.aload_n 0, 1) := by decide +kernel
theorem dX12_readRunner_140 : decode cX12_readRunner 140 = .ok (.getfield 76, 3) := by decide +kernel
theorem dX12_readRunner_143 : decode cX12_readRunner 143 = .ok (.bipush 58, 2) := by decide +kernel
theorem dX12_readRunner_145 : decode cX12_readRunner 145 = .ok (.if_icmp .ne 7, 3) := by decide +kernel
theorem dX12_readRunner_148 : decode cX12_readRunner 148 = .ok (.iconst 1, 1) := by decide +kernel
theorem dX12_readRunner_149 : decode cX12_readRunner 149 = .ok (.goto 4, 3) := by decide +kernel
theorem dX12_readRunner_152 : decode cX12_readRunner 152 = .ok (.iconst 0, 1) := by decide +kernel
theorem dX12_readRunner_153 : decode cX12_readRunner 153 = .ok (.istore_n 2, 1) := by decide +kernel
theorem dX12_readRunner_154 : decode cX12_readRunner 154 = .ok (.iload_n 2, 1) := by decide +kernel
theorem dX12_readRunner_155 : decode cX12_readRunner 155 = .ok (.ifCond .eq 35, 3) := by decide +kernel
theorem dX12_readRunner_158 : decode cX12_readRunner 158 = .ok (.aload_n 0, 1) := by decide +kernel
theorem dX12_readRunner_159 : decode cX12_readRunner 159 = .ok (.invokevirtual 118, 3) := by decide +kernel
theorem dX12_readRunner_162 : decode cX12_readRunner 162 = .ok (.aload_n 0, 1) := by decide +kernel
theorem dX12_readRunner_163 : decode cX12_readRunner 163 = .ok (.iload_n 1, 1) := by decide +kernel
theorem dX12_readRunner_164 : decode cX12_readRunner 164 = .ok (.invokevirtual 139, 3) := by decide +kernel
theorem dX12_readRunner_167 : decode cX12_readRunner 167 = .ok (.ifCond .ne 5, 3) := by decide +kernel
theorem dX12_readRunner_170 : decode cX12_readRunner 170 = .ok (.iconst 0, 1) := by decide +kernel
theorem dX12_readRunner_171 : decode cX12_readRunner 171 = .ok (.ireturn, 1) := by decide +kernel
theorem dX12_readRunner_172 : decode cX12_readRunner 172 = .ok (.aload_n 0, 1) := by decide +kernel
theorem dX12_readRunner_173 : decode cX12_readRunner 173 = .ok (.getfield 76, 3) := by decide +kernel
theorem dX12_readRunner_176 : decode cX12_readRunner 176 = .ok (.bipush 44, 2) := by decide +kernel
theorem dX12_readRunner_178 : decode cX12_readRunner 178 = .ok (.if_icmp .ne 7, 3) := by decide +kernel
theorem dX12_readRunner_181 : decode cX12_readRunner 181 = .ok (.iconst 1, 1) := by decide +kernel
theorem dX12_readRunner_182 : decode cX12_readRunner 182 = .ok (.goto 4, 3) := by decide +kernel
theorem dX12_readRunner_185 : decode cX12_readRunner 185 = .ok (.iconst 0, 1) := by decide +kernel
theorem dX12_readRunner_186 : decode cX12_readRunner 186 = .ok (.istore_n 2, 1) := by decide +kernel
theorem dX12_readRunner_187 : decode cX12_readRunner 187 = .ok (.goto (-33), 3) := by decide +kernel
theorem dX12_readRunner_190 : decode cX12_readRunner 190 = .ok (.aload_n 0, 1) := by decide +kernel
theorem dX12_readRunner_191 : decode cX12_readRunner 191 = .ok (.getfield 20, 3) := by decide +kernel
theorem dX12_readRunner_194 : decode cX12_readRunner 194 = .ok (.iconst 1, 1) := by decide +kernel
theorem dX12_readRunner_195 : decode cX12_readRunner 195 = .ok (.dup2, 1) := by decide +kernel
theorem dX12_readRunner_196 : decode cX12_readRunner 196 = .ok (.iaload, 1) := by decide +kernel
theorem dX12_readRunner_197 : decode cX12_readRunner 197 = .ok (.iconst 1, 1) := by decide +kernel
theorem dX12_readRunner_198 : decode cX12_readRunner 198 = .ok (.iadd, 1) := by decide +kernel
theorem dX12_readRunner_199 : decode cX12_readRunner 199 = .ok (.iastore, 1) := by decide +kernel
theorem dX12_readRunner_200 : decode cX12_readRunner 200 = .ok (.iconst 1, 1) := by decide +kernel
theorem dX12_readRunner_201 : decode cX12_readRunner 201 = .ok (.ireturn, 1) := by decide +kernel
def f_X12_readRunner_154 (v1 : Int32) : Nat → Int32 → gSt → Option (Int32 × gSt)
  | 0, _, _ => none
  | n + 1, v2, σ =>
    if v2 = 0 then
      (gld σ 31 0 397 1).bind fun a196 =>
      (gst σ 31 0 397 1 (a196 + 1)).bind fun z199 =>
      some (1, z199)
    else
      (f_X12_goesOn σ).bind fun z159 =>
      (f_X12_readPunch v1 z159).bind fun p164 =>
      if p164.1 = 0 then
        some (0, p164.2)
      else
        if (p164.2 28 0 14) = 44 then
          f_X12_readRunner_154 v1 n 1 p164.2
        else
          f_X12_readRunner_154 v1 n 0 p164.2
def f_X12_readRunner (σ : gSt) : Option (Int32 × gSt) :=
  (gld σ 31 0 397 1).bind fun a5 =>
  if a5 = 10 then
    (f_X12_errs 4 σ).bind fun p15 =>
    gzr p15.1 p15.2
  else
    (f_X12_takesName (3 + a5) σ).bind fun p23 =>
    if p23.1 = 0 then
      some (0, p23.2)
    else
      (f_X12_isName p23.2).bind fun p32 =>
      if p32.1 = 0 then
        (f_X12_errs 1 p32.2).bind fun p40 =>
        gzr p40.1 p40.2
      else
        (gld p32.2 31 0 397 0).bind fun a59 =>
        (f_X12_namedHere 0 a59 p32.2).bind fun p60 =>
        (gst p60.2 31 0 397 (37 + a5) p60.1).bind fun z63 =>
        (gld z63 31 0 397 (37 + a5)).bind fun a72 =>
        if a72 = (-1) then
          (f_X12_errs 3 z63).bind fun p79 =>
          gzr p79.1 p79.2
        else
          (f_X12_goesOn z63).bind fun z84 =>
          (f_X12_takes (47 + a5) 0 9998 z84).bind fun p96 =>
          if p96.1 = 0 then
            some (0, p96.2)
          else
            (gld p96.2 31 0 397 (47 + a5)).bind fun a115 =>
            (f_X12_takes (57 + a5) (a115 + 1) 9999 p96.2).bind fun p121 =>
            if p121.1 = 0 then
              some (0, p121.2)
            else
              (gst p121.2 31 0 397 (67 + a5) 0).bind fun z138 =>
              if (z138 28 0 14) = 58 then
                f_X12_readRunner_154 a5 gFuel 1 z138
              else
                f_X12_readRunner_154 a5 gFuel 0 z138
theorem f_X12_readRunner_154_ok {v1 : Int32} {r : (Int32 × gSt)} (hW : gEnv w aK aV) : ∀ (n : Nat) {v2 : Int32} {σ : gSt} , f_X12_readRunner_154 v1 n v2 σ = some r → G l w 0 41 RX12 cX12_readRunner 3 (some .boolean) 7 149 (gE (some (.int r.1)) r.2) 154 [some (.ref (w.2.1 28 0)), some (.int v1), some (.int v2)] [] σ := by
  intro n
  induction n with
  | zero => intro v2 σ h; rw [f_X12_readRunner_154] at h; cases h
  | succ n ih =>
    intro v2 σ h
    rw [f_X12_readRunner_154] at h
    refine g_iload_n dX12_readRunner_154 rfl ?_
    refine g_if_eq 190 dX12_readRunner_155 rfl (fun q => ?_) (fun q => ?_)
    · replace h := gif_t q h
      refine g_aload_n dX12_readRunner_190 rfl ?_
      refine gR_X12_20 ok_28 dX12_readRunner_191 ?_
      refine g_iconst dX12_readRunner_194 kc_1 ?_
      refine g_dup2 dX12_readRunner_195 rfl rfl ?_
      obtain ⟨a196, e196, h⟩ := obind h
      refine g_ldB e196 ok_31 rfl rfl (by decide) dX12_readRunner_196 ?_
      refine g_iconst dX12_readRunner_197 kc_1 ?_
      refine g_iadd dX12_readRunner_198 ?_
      obtain ⟨z199, e199, h⟩ := obind h
      refine g_stB e199 ok_31 rfl rfl (by decide) dX12_readRunner_199 ?_
      refine g_iconst dX12_readRunner_200 kc_1 ?_
      cases h
      exact g_zret1 dX12_readRunner_201 rfl
    · replace h := gif_f q h
      refine g_aload_n dX12_readRunner_158 rfl ?_
      obtain ⟨z159, e159, h⟩ := obind h
      refine g_vU0 mv_X12_118 dX12_readRunner_159 ok_28 ⟨by decide, by decide⟩ (Nat.le_of_ble_eq_true rfl) (f_X12_goesOn_ok e159) ?_
      refine g_aload_n dX12_readRunner_162 rfl ?_
      refine g_iload_n dX12_readRunner_163 rfl ?_
      obtain ⟨p164, e164, h⟩ := obind h
      refine g_vP1 mv_X12_139 dX12_readRunner_164 ok_28 ⟨by decide, by decide⟩ (Nat.le_of_ble_eq_true rfl) (f_X12_readPunch_ok e164) ?_
      refine g_if_ne 172 dX12_readRunner_167 rfl (fun q => ?_) (fun q => ?_)
      · replace h := gif_f q h
        refine g_aload_n dX12_readRunner_172 rfl ?_
        refine gI_X12_76 ok_28 dX12_readRunner_173 ?_
        refine g_bipush dX12_readRunner_176 kb_44 ?_
        refine g_icmp_ne 185 dX12_readRunner_178 rfl (fun q => ?_) (fun q => ?_)
        · replace h := gif_f q h
          refine g_iconst dX12_readRunner_185 kc_0 ?_
          refine g_istore2 dX12_readRunner_186 ?_
          refine g_goto 154 dX12_readRunner_187 rfl ?_
          exact ih h
        · replace h := gif_t q h
          refine g_iconst dX12_readRunner_181 kc_1 ?_
          refine g_goto 186 dX12_readRunner_182 rfl ?_
          refine g_istore2 dX12_readRunner_186 ?_
          refine g_goto 154 dX12_readRunner_187 rfl ?_
          exact ih h
      · replace h := gif_t q h
        refine g_iconst dX12_readRunner_170 kc_0 ?_
        cases h
        exact g_zret0 dX12_readRunner_171 rfl
theorem f_X12_readRunner_ok  (hW : gEnv w aK aV) {σ : gSt} {r : (Int32 × gSt)} (h : f_X12_readRunner σ = some r) : Mt l w 0 41 yX12_readRunner cX12_readRunner 3 (some .boolean) 7 149 [.ref (w.2.1 28 0)] σ (gE (some (.int r.1)) r.2) := by
  unfold f_X12_readRunner at h
  refine g_start pn_X12 rfl rfl (Nat.le_of_ble_eq_true rfl) ?_
  show G l w 0 41 RX12 cX12_readRunner 3 (some .boolean) 7 149 (gE (some (.int r.1)) r.2) 0 [some (.ref (w.2.1 28 0)), none, none] [] σ
  refine g_aload_n dX12_readRunner_0 rfl ?_
  refine gR_X12_20 ok_28 dX12_readRunner_1 ?_
  refine g_iconst dX12_readRunner_4 kc_1 ?_
  obtain ⟨a5, e5, h⟩ := obind h
  refine g_ldB e5 ok_31 rfl rfl (by decide) dX12_readRunner_5 ?_
  refine g_istore1 dX12_readRunner_6 ?_
  refine g_iload_n dX12_readRunner_7 rfl ?_
  refine g_bipush dX12_readRunner_8 kb_10 ?_
  refine g_icmp_ne 19 dX12_readRunner_10 rfl (fun q => ?_) (fun q => ?_)
  · replace h := gif_f q h
    refine g_aload_n dX12_readRunner_19 rfl ?_
    refine g_iconst dX12_readRunner_20 kc_3 ?_
    refine g_iload_n dX12_readRunner_21 rfl ?_
    refine g_iadd dX12_readRunner_22 ?_
    obtain ⟨p23, e23, h⟩ := obind h
    refine g_vP1 mv_X12_133 dX12_readRunner_23 ok_28 ⟨by decide, by decide⟩ (Nat.le_of_ble_eq_true rfl) (f_X12_takesName_ok hW e23) ?_
    refine g_if_ne 31 dX12_readRunner_26 rfl (fun q => ?_) (fun q => ?_)
    · replace h := gif_f q h
      refine g_aload_n dX12_readRunner_31 rfl ?_
      obtain ⟨p32, e32, h⟩ := obind h
      refine g_vP0 mv_X12_121 dX12_readRunner_32 ok_28 ⟨by decide, by decide⟩ (Nat.le_of_ble_eq_true rfl) (f_X12_isName_ok hW e32) ?_
      refine g_if_ne 44 dX12_readRunner_35 rfl (fun q => ?_) (fun q => ?_)
      · replace h := gif_f q h
        refine g_aload_n dX12_readRunner_44 rfl ?_
        refine gR_X12_20 ok_28 dX12_readRunner_45 ?_
        refine g_bipush dX12_readRunner_48 kb_37 ?_
        refine g_iload_n dX12_readRunner_50 rfl ?_
        refine g_iadd dX12_readRunner_51 ?_
        refine g_aload_n dX12_readRunner_52 rfl ?_
        refine g_iconst dX12_readRunner_53 kc_0 ?_
        refine g_aload_n dX12_readRunner_54 rfl ?_
        refine gR_X12_20 ok_28 dX12_readRunner_55 ?_
        refine g_iconst dX12_readRunner_58 kc_0 ?_
        obtain ⟨a59, e59, h⟩ := obind h
        refine g_ldB e59 ok_31 rfl rfl (by decide) dX12_readRunner_59 ?_
        obtain ⟨p60, e60, h⟩ := obind h
        refine g_vP2 mv_X12_129 dX12_readRunner_60 ok_28 ⟨by decide, by decide⟩ (Nat.le_of_ble_eq_true rfl) (f_X12_namedHere_ok e60) ?_
        obtain ⟨z63, e63, h⟩ := obind h
        refine g_stB e63 ok_31 rfl rfl (by decide) dX12_readRunner_63 ?_
        refine g_aload_n dX12_readRunner_64 rfl ?_
        refine gR_X12_20 ok_28 dX12_readRunner_65 ?_
        refine g_bipush dX12_readRunner_68 kb_37 ?_
        refine g_iload_n dX12_readRunner_70 rfl ?_
        refine g_iadd dX12_readRunner_71 ?_
        obtain ⟨a72, e72, h⟩ := obind h
        refine g_ldB e72 ok_31 rfl rfl (by decide) dX12_readRunner_72 ?_
        refine g_iconst dX12_readRunner_73 kc_m1 ?_
        refine g_icmp_ne 83 dX12_readRunner_74 rfl (fun q => ?_) (fun q => ?_)
        · replace h := gif_f q h
          refine g_aload_n dX12_readRunner_83 rfl ?_
          obtain ⟨z84, e84, h⟩ := obind h
          refine g_vU0 mv_X12_118 dX12_readRunner_84 ok_28 ⟨by decide, by decide⟩ (Nat.le_of_ble_eq_true rfl) (f_X12_goesOn_ok e84) ?_
          refine g_aload_n dX12_readRunner_87 rfl ?_
          refine g_bipush dX12_readRunner_88 kb_47 ?_
          refine g_iload_n dX12_readRunner_90 rfl ?_
          refine g_iadd dX12_readRunner_91 ?_
          refine g_iconst dX12_readRunner_92 kc_0 ?_
          refine g_sipush dX12_readRunner_93 ks_9998 ?_
          obtain ⟨p96, e96, h⟩ := obind h
          refine g_vP3 mv_X12_136 dX12_readRunner_96 ok_28 ⟨by decide, by decide⟩ (Nat.le_of_ble_eq_true rfl) (f_X12_takes_ok e96) ?_
          refine g_if_eq 127 dX12_readRunner_99 rfl (fun q => ?_) (fun q => ?_)
          · replace h := gif_t q h
            refine g_iconst dX12_readRunner_127 kc_0 ?_
            cases h
            exact g_zret0 dX12_readRunner_128 rfl
          · replace h := gif_f q h
            refine g_aload_n dX12_readRunner_102 rfl ?_
            refine g_bipush dX12_readRunner_103 kb_57 ?_
            refine g_iload_n dX12_readRunner_105 rfl ?_
            refine g_iadd dX12_readRunner_106 ?_
            refine g_aload_n dX12_readRunner_107 rfl ?_
            refine gR_X12_20 ok_28 dX12_readRunner_108 ?_
            refine g_bipush dX12_readRunner_111 kb_47 ?_
            refine g_iload_n dX12_readRunner_113 rfl ?_
            refine g_iadd dX12_readRunner_114 ?_
            obtain ⟨a115, e115, h⟩ := obind h
            refine g_ldB e115 ok_31 rfl rfl (by decide) dX12_readRunner_115 ?_
            refine g_iconst dX12_readRunner_116 kc_1 ?_
            refine g_iadd dX12_readRunner_117 ?_
            refine g_sipush dX12_readRunner_118 ks_9999 ?_
            obtain ⟨p121, e121, h⟩ := obind h
            refine g_vP3 mv_X12_136 dX12_readRunner_121 ok_28 ⟨by decide, by decide⟩ (Nat.le_of_ble_eq_true rfl) (f_X12_takes_ok e121) ?_
            refine g_if_ne 129 dX12_readRunner_124 rfl (fun q => ?_) (fun q => ?_)
            · replace h := gif_f q h
              refine g_aload_n dX12_readRunner_129 rfl ?_
              refine gR_X12_20 ok_28 dX12_readRunner_130 ?_
              refine g_bipush dX12_readRunner_133 kb_67 ?_
              refine g_iload_n dX12_readRunner_135 rfl ?_
              refine g_iadd dX12_readRunner_136 ?_
              refine g_iconst dX12_readRunner_137 kc_0 ?_
              obtain ⟨z138, e138, h⟩ := obind h
              refine g_stB e138 ok_31 rfl rfl (by decide) dX12_readRunner_138 ?_
              refine g_aload_n dX12_readRunner_139 rfl ?_
              refine gI_X12_76 ok_28 dX12_readRunner_140 ?_
              refine g_bipush dX12_readRunner_143 kb_58 ?_
              refine g_icmp_ne 152 dX12_readRunner_145 rfl (fun q => ?_) (fun q => ?_)
              · replace h := gif_f q h
                refine g_iconst dX12_readRunner_152 kc_0 ?_
                refine g_istore2 dX12_readRunner_153 ?_
                exact f_X12_readRunner_154_ok hW gFuel h
              · replace h := gif_t q h
                refine g_iconst dX12_readRunner_148 kc_1 ?_
                refine g_goto 153 dX12_readRunner_149 rfl ?_
                refine g_istore2 dX12_readRunner_153 ?_
                exact f_X12_readRunner_154_ok hW gFuel h
            · replace h := gif_t q h
              refine g_iconst dX12_readRunner_127 kc_0 ?_
              cases h
              exact g_zret0 dX12_readRunner_128 rfl
        · replace h := gif_t q h
          refine g_aload_n dX12_readRunner_77 rfl ?_
          refine g_iconst dX12_readRunner_78 kc_3 ?_
          obtain ⟨p79, e79, h⟩ := obind h
          refine g_vP1 mv_X12_125 dX12_readRunner_79 ok_28 ⟨by decide, by decide⟩ (Nat.le_of_ble_eq_true rfl) (f_X12_errs_ok e79) ?_
          exact g_zretG h dX12_readRunner_82 rfl
      · replace h := gif_t q h
        refine g_aload_n dX12_readRunner_38 rfl ?_
        refine g_iconst dX12_readRunner_39 kc_1 ?_
        obtain ⟨p40, e40, h⟩ := obind h
        refine g_vP1 mv_X12_125 dX12_readRunner_40 ok_28 ⟨by decide, by decide⟩ (Nat.le_of_ble_eq_true rfl) (f_X12_errs_ok e40) ?_
        exact g_zretG h dX12_readRunner_43 rfl
    · replace h := gif_t q h
      refine g_iconst dX12_readRunner_29 kc_0 ?_
      cases h
      exact g_zret0 dX12_readRunner_30 rfl
  · replace h := gif_t q h
    refine g_aload_n dX12_readRunner_13 rfl ?_
    refine g_iconst dX12_readRunner_14 kc_4 ?_
    obtain ⟨p15, e15, h⟩ := obind h
    refine g_vP1 mv_X12_125 dX12_readRunner_15 ok_28 ⟨by decide, by decide⟩ (Nat.le_of_ble_eq_true rfl) (f_X12_errs_ok e15) ?_
    exact g_zretG h dX12_readRunner_18 rfl
theorem dX12_readLine_0 : decode cX12_readLine 0 = .ok (.aload_n 0, 1) := by decide +kernel
theorem dX12_readLine_1 : decode cX12_readLine 1 = .ok (.ldc 102, 2) := by decide +kernel
theorem dX12_readLine_3 : decode cX12_readLine 3 = .ok (.invokevirtual 104, 3) := by decide +kernel
theorem dX12_readLine_6 : decode cX12_readLine 6 = .ok (.ifCond .eq 8, 3) := by decide +kernel
theorem dX12_readLine_9 : decode cX12_readLine 9 = .ok (.aload_n 0, 1) := by decide +kernel
theorem dX12_readLine_10 : decode cX12_readLine 10 = .ok (.invokevirtual 145, 3) := by decide +kernel
theorem dX12_readLine_13 : decode cX12_readLine 13 = .ok (.ireturn, 1) := by decide +kernel
theorem dX12_readLine_14 : decode cX12_readLine 14 = .ok (.aload_n 0, 1) := by decide +kernel
theorem dX12_readLine_15 : decode cX12_readLine 15 = .ok (.ldc 108, 2) := by decide +kernel
theorem dX12_readLine_17 : decode cX12_readLine 17 = .ok (.invokevirtual 104, 3) := by decide +kernel
theorem dX12_readLine_20 : decode cX12_readLine 20 = .ok (.ifCond .eq 8, 3) := by decide +kernel
theorem dX12_readLine_23 : decode cX12_readLine 23 = .ok (.aload_n 0, 1) := by decide +kernel
theorem dX12_readLine_24 : decode cX12_readLine 24 = .ok (.invokevirtual 148, 3) := by decide +kernel
theorem dX12_readLine_27 : decode cX12_readLine 27 = .ok (.ireturn, 1) := by decide +kernel
theorem dX12_readLine_28 : decode cX12_readLine 28 = .ok (.aload_n 0, 1) := by decide +kernel
theorem dX12_readLine_29 : decode cX12_readLine 29 = .ok (.ldc 110, 2) := by decide +kernel
theorem dX12_readLine_31 : decode cX12_readLine 31 = .ok (.invokevirtual 104, 3) := by decide +kernel
theorem dX12_readLine_34 : decode cX12_readLine 34 = .ok (.ifCond .eq 11, 3) := by decide +kernel
theorem dX12_readLine_37 : decode cX12_readLine 37 = .ok (.aload_n 0, 1) := by decide +kernel
theorem dX12_readLine_38 : decode cX12_readLine 38 = .ok (.iconst 2, 1) := by decide +kernel
theorem dX12_readLine_39 : decode cX12_readLine 39 = .ok (.invokevirtual 151, 3) := by decide +kernel
theorem dX12_readLine_42 : decode cX12_readLine 42 = .ok (.goto 25, 3) := by decide +kernel
theorem dX12_readLine_45 : decode cX12_readLine 45 = .ok (.aload_n 0, 1) := by decide +kernel
theorem dX12_readLine_46 : decode cX12_readLine 46 = .ok (.ldc 112, 2) := by decide +kernel
theorem dX12_readLine_48 : decode cX12_readLine 48 = .ok (.invokevirtual 104, 3) := by decide +kernel
theorem dX12_readLine_51 : decode cX12_readLine 51 = .ok (.ifCond .eq 11, 3) := by decide +kernel
theorem dX12_readLine_54 : decode cX12_readLine 54 = .ok (.aload_n 0, 1) := by decide +kernel
theorem dX12_readLine_55 : decode cX12_readLine 55 = .ok (.iconst 3, 1) := by decide +kernel
theorem dX12_readLine_56 : decode cX12_readLine 56 = .ok (.invokevirtual 151, 3) := by decide +kernel
theorem dX12_readLine_59 : decode cX12_readLine 59 = .ok (.goto 8, 3) := by decide +kernel
theorem dX12_readLine_62 : decode cX12_readLine 62 = .ok (.aload_n 0, 1) := by decide +kernel
theorem dX12_readLine_63 : decode cX12_readLine 63 = .ok (.iconst 1, 1) := by decide +kernel
theorem dX12_readLine_64 : decode cX12_readLine 64 = .ok (.invokevirtual 125, 3) := by decide +kernel
theorem dX12_readLine_67 : decode cX12_readLine 67 = .ok (.ireturn, 1) := by decide +kernel
def f_X12_readLine (σ : gSt) : Option (Int32 × gSt) :=
  (f_isW 0 σ).bind fun p3 =>
  if p3.1 = 0 then
    (f_isW 1 p3.2).bind fun p17 =>
    if p17.1 = 0 then
      (f_isW 2 p17.2).bind fun p31 =>
      if p31.1 = 0 then
        (f_isW 3 p31.2).bind fun p48 =>
        if p48.1 = 0 then
          (f_X12_errs 1 p48.2).bind fun p64 =>
          gzr p64.1 p64.2
        else
          (f_X12_readOnce 3 p48.2).bind fun p56 =>
          gzr p56.1 p56.2
      else
        (f_X12_readOnce 2 p31.2).bind fun p39 =>
        gzr p39.1 p39.2
    else
      (f_X12_readRunner p17.2).bind fun p24 =>
      gzr p24.1 p24.2
  else
    (f_X12_readCourse p3.2).bind fun p10 =>
    gzr p10.1 p10.2
theorem f_X12_readLine_ok  (hW : gEnv w aK aV) {σ : gSt} {r : (Int32 × gSt)} (h : f_X12_readLine σ = some r) : Mt l w 0 41 yX12_readLine cX12_readLine 1 (some .boolean) 8 172 [.ref (w.2.1 28 0)] σ (gE (some (.int r.1)) r.2) := by
  unfold f_X12_readLine at h
  refine g_start pn_X12 rfl rfl (Nat.le_of_ble_eq_true rfl) ?_
  show G l w 0 41 RX12 cX12_readLine 1 (some .boolean) 8 172 (gE (some (.int r.1)) r.2) 0 [some (.ref (w.2.1 28 0))] [] σ
  refine g_aload_n dX12_readLine_0 rfl ?_
  obtain ⟨p3, e3, h⟩ := obind h
  refine g_isW (i := 0) hW (by decide) rfl dX12_readLine_1 dX12_readLine_3 ⟨by decide, by decide⟩ (Nat.le_of_ble_eq_true rfl) e3 ?_
  refine g_if_eq 14 dX12_readLine_6 rfl (fun q => ?_) (fun q => ?_)
  · replace h := gif_t q h
    refine g_aload_n dX12_readLine_14 rfl ?_
    obtain ⟨p17, e17, h⟩ := obind h
    refine g_isW (i := 1) hW (by decide) rfl dX12_readLine_15 dX12_readLine_17 ⟨by decide, by decide⟩ (Nat.le_of_ble_eq_true rfl) e17 ?_
    refine g_if_eq 28 dX12_readLine_20 rfl (fun q => ?_) (fun q => ?_)
    · replace h := gif_t q h
      refine g_aload_n dX12_readLine_28 rfl ?_
      obtain ⟨p31, e31, h⟩ := obind h
      refine g_isW (i := 2) hW (by decide) rfl dX12_readLine_29 dX12_readLine_31 ⟨by decide, by decide⟩ (Nat.le_of_ble_eq_true rfl) e31 ?_
      refine g_if_eq 45 dX12_readLine_34 rfl (fun q => ?_) (fun q => ?_)
      · replace h := gif_t q h
        refine g_aload_n dX12_readLine_45 rfl ?_
        obtain ⟨p48, e48, h⟩ := obind h
        refine g_isW (i := 3) hW (by decide) rfl dX12_readLine_46 dX12_readLine_48 ⟨by decide, by decide⟩ (Nat.le_of_ble_eq_true rfl) e48 ?_
        refine g_if_eq 62 dX12_readLine_51 rfl (fun q => ?_) (fun q => ?_)
        · replace h := gif_t q h
          refine g_aload_n dX12_readLine_62 rfl ?_
          refine g_iconst dX12_readLine_63 kc_1 ?_
          obtain ⟨p64, e64, h⟩ := obind h
          refine g_vP1 mv_X12_125 dX12_readLine_64 ok_28 ⟨by decide, by decide⟩ (Nat.le_of_ble_eq_true rfl) (f_X12_errs_ok e64) ?_
          exact g_zretG h dX12_readLine_67 rfl
        · replace h := gif_f q h
          refine g_aload_n dX12_readLine_54 rfl ?_
          refine g_iconst dX12_readLine_55 kc_3 ?_
          obtain ⟨p56, e56, h⟩ := obind h
          refine g_vP1 mv_X12_151 dX12_readLine_56 ok_28 ⟨by decide, by decide⟩ (Nat.le_of_ble_eq_true rfl) (f_X12_readOnce_ok e56) ?_
          refine g_goto 67 dX12_readLine_59 rfl ?_
          exact g_zretG h dX12_readLine_67 rfl
      · replace h := gif_f q h
        refine g_aload_n dX12_readLine_37 rfl ?_
        refine g_iconst dX12_readLine_38 kc_2 ?_
        obtain ⟨p39, e39, h⟩ := obind h
        refine g_vP1 mv_X12_151 dX12_readLine_39 ok_28 ⟨by decide, by decide⟩ (Nat.le_of_ble_eq_true rfl) (f_X12_readOnce_ok e39) ?_
        refine g_goto 67 dX12_readLine_42 rfl ?_
        exact g_zretG h dX12_readLine_67 rfl
    · replace h := gif_f q h
      refine g_aload_n dX12_readLine_23 rfl ?_
      obtain ⟨p24, e24, h⟩ := obind h
      refine g_vP0 mv_X12_148 dX12_readLine_24 ok_28 ⟨by decide, by decide⟩ (Nat.le_of_ble_eq_true rfl) (f_X12_readRunner_ok hW e24) ?_
      exact g_zretG h dX12_readLine_27 rfl
  · replace h := gif_f q h
    refine g_aload_n dX12_readLine_9 rfl ?_
    obtain ⟨p10, e10, h⟩ := obind h
    refine g_vP0 mv_X12_145 dX12_readLine_10 ok_28 ⟨by decide, by decide⟩ (Nat.le_of_ble_eq_true rfl) (f_X12_readCourse_ok hW e10) ?_
    exact g_zretG h dX12_readLine_13 rfl
theorem dX12_readAll_0 : decode cX12_readAll 0 = .ok (.aload_n 0, 1) := by decide +kernel
theorem dX12_readAll_1 : decode cX12_readAll 1 = .ok (.iload_n 1, 1) := by decide +kernel
theorem dX12_readAll_2 : decode cX12_readAll 2 = .ok (.putfield 63, 3) := by decide +kernel
theorem dX12_readAll_5 : decode cX12_readAll 5 = .ok (.aload_n 0, 1) := by decide +kernel
theorem dX12_readAll_6 : decode cX12_readAll 6 = .ok (.iconst 0, 1) := by decide +kernel
theorem dX12_readAll_7 : decode cX12_readAll 7 = .ok (.putfield 66, 3) := by decide +kernel
theorem dX12_readAll_10 : decode cX12_readAll 10 = .ok (.aload_n 0, 1) := by decide +kernel
theorem dX12_readAll_11 : decode cX12_readAll 11 = .ok (.iconst 0, 1) := by decide +kernel
theorem dX12_readAll_12 : decode cX12_readAll 12 = .ok (.putfield 142, 3) := by decide +kernel
theorem dX12_readAll_15 : decode cX12_readAll 15 = .ok (.iconst 0, 1) := by decide +kernel
theorem dX12_readAll_16 : decode cX12_readAll 16 = .ok (.istore_n 2, 1) := by decide +kernel
theorem dX12_readAll_17 : decode cX12_readAll 17 = .ok (.iload_n 2, 1) := by decide +kernel
theorem dX12_readAll_18 : decode cX12_readAll 18 = .ok (.sipush 397, 3) := by decide +kernel
theorem dX12_readAll_21 : decode cX12_readAll 21 = .ok (.if_icmp .ge 36, 3) := by decide +kernel
theorem dX12_readAll_24 : decode cX12_readAll 24 = .ok (.aload_n 0, 1) := by decide +kernel
theorem dX12_readAll_25 : decode cX12_readAll 25 = .ok (.getfield 20, 3) := by decide +kernel
theorem dX12_readAll_28 : decode cX12_readAll 28 = .ok (.iload_n 2, 1) := by decide +kernel
theorem dX12_readAll_29 : decode cX12_readAll 29 = .ok (.iload_n 2, 1) := by decide +kernel
theorem dX12_readAll_30 : decode cX12_readAll 30 = .ok (.iconst 2, 1) := by decide +kernel
theorem dX12_readAll_31 : decode cX12_readAll 31 = .ok (.if_icmp .ne 8, 3) := by decide +kernel
theorem dX12_readAll_34 : decode cX12_readAll 34 = .ok (.bipush 10, 2) := by decide +kernel
theorem dX12_readAll_36 : decode cX12_readAll 36 = .ok (.goto 14, 3) := by decide +kernel
theorem dX12_readAll_39 : decode cX12_readAll 39 = .ok (.iload_n 2, 1) := by decide +kernel
theorem dX12_readAll_40 : decode cX12_readAll 40 = .ok (.iconst 3, 1) := by decide +kernel
theorem dX12_readAll_41 : decode cX12_readAll 41 = .ok (.if_icmp .ne 8, 3) := by decide +kernel
theorem dX12_readAll_44 : decode cX12_readAll 44 = .ok (.bipush 20, 2) := by decide +kernel
theorem dX12_readAll_46 : decode cX12_readAll 46 = .ok (.goto 4, 3) := by decide +kernel
theorem dX12_readAll_49 : decode cX12_readAll 49 = .ok (.iconst 0, 1) := by decide +kernel
theorem dX12_readAll_50 : decode cX12_readAll 50 = .ok (.iastore, 1) := by decide +kernel
theorem dX12_readAll_51 : decode cX12_readAll 51 = .ok (.iinc 2 1, 3) := by decide +kernel
theorem dX12_readAll_54 : decode cX12_readAll 54 = .ok (.goto (-37), 3) := by decide +kernel
theorem dX12_readAll_57 : decode cX12_readAll 57 = .ok (.aload_n 0, 1) := by decide +kernel
theorem dX12_readAll_58 : decode cX12_readAll 58 = .ok (.invokevirtual 118, 3) := by decide +kernel
theorem dX12_readAll_61 : decode cX12_readAll 61 = .ok (.aload_n 0, 1) := by decide +kernel
theorem dX12_readAll_62 : decode cX12_readAll 62 = .ok (.invokevirtual 154, 3) := by decide +kernel
theorem dX12_readAll_65 : decode cX12_readAll 65 = .ok (.ifCond .ne 5, 3) := by decide +kernel
theorem dX12_readAll_68 : decode cX12_readAll 68 = .ok (.iconst 0, 1) := by decide +kernel
theorem dX12_readAll_69 : decode cX12_readAll 69 = .ok (.ireturn, 1) := by decide +kernel
theorem dX12_readAll_70 : decode cX12_readAll 70 = .ok (.aload_n 0, 1) := by decide +kernel
theorem dX12_readAll_71 : decode cX12_readAll 71 = .ok (.getfield 76, 3) := by decide +kernel
theorem dX12_readAll_74 : decode cX12_readAll 74 = .ok (.bipush 59, 2) := by decide +kernel
theorem dX12_readAll_76 : decode cX12_readAll 76 = .ok (.if_icmp .ne 16, 3) := by decide +kernel
theorem dX12_readAll_79 : decode cX12_readAll 79 = .ok (.aload_n 0, 1) := by decide +kernel
theorem dX12_readAll_80 : decode cX12_readAll 80 = .ok (.invokevirtual 118, 3) := by decide +kernel
theorem dX12_readAll_83 : decode cX12_readAll 83 = .ok (.aload_n 0, 1) := by decide +kernel
theorem dX12_readAll_84 : decode cX12_readAll 84 = .ok (.invokevirtual 154, 3) := by decide +kernel
theorem dX12_readAll_87 : decode cX12_readAll 87 = .ok (.ifCond .ne (-17), 3) := by decide +kernel
theorem dX12_readAll_90 : decode cX12_readAll 90 = .ok (.iconst 0, 1) := by decide +kernel
theorem dX12_readAll_91 : decode cX12_readAll 91 = .ok (.ireturn, 1) := by decide +kernel
theorem dX12_readAll_92 : decode cX12_readAll 92 = .ok (.aload_n 0, 1) := by decide +kernel
theorem dX12_readAll_93 : decode cX12_readAll 93 = .ok (.getfield 76, 3) := by decide +kernel
theorem dX12_readAll_96 : decode cX12_readAll 96 = .ok (.ifCond .eq 9, 3) := by decide +kernel
theorem dX12_readAll_99 : decode cX12_readAll 99 = .ok (.aload_n 0, 1) := by decide +kernel
theorem dX12_readAll_100 : decode cX12_readAll 100 = .ok (.iconst 1, 1) := by decide +kernel
theorem dX12_readAll_101 : decode cX12_readAll 101 = .ok (.invokevirtual 125, 3) := by decide +kernel
theorem dX12_readAll_104 : decode cX12_readAll 104 = .ok (.ireturn, 1) := by decide +kernel
theorem dX12_readAll_105 : decode cX12_readAll 105 = .ok (.aload_n 0, 1) := by decide +kernel
theorem dX12_readAll_106 : decode cX12_readAll 106 = .ok (.getfield 20, 3) := by decide +kernel
theorem dX12_readAll_109 : decode cX12_readAll 109 = .ok (.iconst 0, 1) := by decide +kernel
theorem dX12_readAll_110 : decode cX12_readAll 110 = .ok (.iaload, 1) := by decide +kernel
theorem dX12_readAll_111 : decode cX12_readAll 111 = .ok (.ifCond .gt 11, 3) := by decide +kernel
theorem dX12_readAll_114 : decode cX12_readAll 114 = .ok (.aload_n 0, 1) := by decide +kernel
theorem dX12_readAll_115 : decode cX12_readAll 115 = .ok (.iconst 5, 1) := by decide +kernel
theorem dX12_readAll_116 : decode cX12_readAll 116 = .ok (.invokevirtual 125, 3) := by decide +kernel
theorem dX12_readAll_119 : decode cX12_readAll 119 = .ok (.ifCond .eq 7, 3) := by decide +kernel
theorem dX12_readAll_122 : decode cX12_readAll 122 = .ok (.iconst 1, 1) := by decide +kernel
theorem dX12_readAll_123 : decode cX12_readAll 123 = .ok (.goto 4, 3) := by decide +kernel
theorem dX12_readAll_126 : decode cX12_readAll 126 = .ok (.iconst 0, 1) := by decide +kernel
theorem dX12_readAll_127 : decode cX12_readAll 127 = .ok (.ireturn, 1) := by decide +kernel
def f_X12_readAll_70  : Nat → gSt → Option (Int32 × gSt)
  | 0, _ => none
  | n + 1, σ =>
    if (σ 28 0 14) = 59 then
      (f_X12_goesOn σ).bind fun z80 =>
      (f_X12_readLine z80).bind fun p84 =>
      if p84.1 = 0 then
        some (0, p84.2)
      else
        f_X12_readAll_70 n p84.2
    else
      if (σ 28 0 14) = 0 then
        (gld σ 31 0 397 0).bind fun a110 =>
        if 0 < a110 then
          some (1, σ)
        else
          (f_X12_errs 5 σ).bind fun p116 =>
          if p116.1 = 0 then
            some (0, p116.2)
          else
            some (1, p116.2)
      else
        (f_X12_errs 1 σ).bind fun p101 =>
        gzr p101.1 p101.2
def f_X12_readAll_17  : Nat → Int32 → gSt → Option (Int32 × gSt)
  | 0, _, _ => none
  | n + 1, v2, σ =>
    if 397 ≤ v2 then
      (f_X12_goesOn σ).bind fun z58 =>
      (f_X12_readLine z58).bind fun p62 =>
      if p62.1 = 0 then
        some (0, p62.2)
      else
        f_X12_readAll_70 gFuel p62.2
    else
      if v2 = 2 then
        (gst σ 31 0 397 v2 10).bind fun z50 =>
        f_X12_readAll_17 n (v2 + 1) z50
      else
        if v2 = 3 then
          (gst σ 31 0 397 v2 20).bind fun z50 =>
          f_X12_readAll_17 n (v2 + 1) z50
        else
          (gst σ 31 0 397 v2 0).bind fun z50 =>
          f_X12_readAll_17 n (v2 + 1) z50
def f_X12_readAll (v1 : Int32) (σ : gSt) : Option (Int32 × gSt) :=
  f_X12_readAll_17 gFuel 0 (gup (gup (gup σ 28 0 11 v1) 28 0 13 0) 28 0 16 0)
theorem f_X12_readAll_70_ok  {r : (Int32 × gSt)} (hW : gEnv w aK aV) : ∀ (n : Nat)  {σ : gSt} {x1 x2 : Option Value}, f_X12_readAll_70 n σ = some r → G l w 0 41 RX12 cX12_readAll 3 (some .boolean) 9 192 (gE (some (.int r.1)) r.2) 70 [some (.ref (w.2.1 28 0)), x1, x2] [] σ := by
  intro n
  induction n with
  | zero => intro σ x1 x2 h; rw [f_X12_readAll_70] at h; cases h
  | succ n ih =>
    intro σ x1 x2 h
    rw [f_X12_readAll_70] at h
    refine g_aload_n dX12_readAll_70 rfl ?_
    refine gI_X12_76 ok_28 dX12_readAll_71 ?_
    refine g_bipush dX12_readAll_74 kb_59 ?_
    refine g_icmp_ne 92 dX12_readAll_76 rfl (fun q => ?_) (fun q => ?_)
    · replace h := gif_f q h
      refine g_aload_n dX12_readAll_92 rfl ?_
      refine gI_X12_76 ok_28 dX12_readAll_93 ?_
      refine g_if_eq 105 dX12_readAll_96 rfl (fun q => ?_) (fun q => ?_)
      · replace h := gif_t q h
        refine g_aload_n dX12_readAll_105 rfl ?_
        refine gR_X12_20 ok_28 dX12_readAll_106 ?_
        refine g_iconst dX12_readAll_109 kc_0 ?_
        obtain ⟨a110, e110, h⟩ := obind h
        refine g_ldB e110 ok_31 rfl rfl (by decide) dX12_readAll_110 ?_
        refine g_if_gt 122 dX12_readAll_111 rfl (fun q => ?_) (fun q => ?_)
        · replace h := gif_t q h
          refine g_iconst dX12_readAll_122 kc_1 ?_
          refine g_goto 127 dX12_readAll_123 rfl ?_
          cases h
          exact g_zret1 dX12_readAll_127 rfl
        · replace h := gif_f q h
          refine g_aload_n dX12_readAll_114 rfl ?_
          refine g_iconst dX12_readAll_115 kc_5 ?_
          obtain ⟨p116, e116, h⟩ := obind h
          refine g_vP1 mv_X12_125 dX12_readAll_116 ok_28 ⟨by decide, by decide⟩ (Nat.le_of_ble_eq_true rfl) (f_X12_errs_ok e116) ?_
          refine g_if_eq 126 dX12_readAll_119 rfl (fun q => ?_) (fun q => ?_)
          · replace h := gif_t q h
            refine g_iconst dX12_readAll_126 kc_0 ?_
            cases h
            exact g_zret0 dX12_readAll_127 rfl
          · replace h := gif_f q h
            refine g_iconst dX12_readAll_122 kc_1 ?_
            refine g_goto 127 dX12_readAll_123 rfl ?_
            cases h
            exact g_zret1 dX12_readAll_127 rfl
      · replace h := gif_f q h
        refine g_aload_n dX12_readAll_99 rfl ?_
        refine g_iconst dX12_readAll_100 kc_1 ?_
        obtain ⟨p101, e101, h⟩ := obind h
        refine g_vP1 mv_X12_125 dX12_readAll_101 ok_28 ⟨by decide, by decide⟩ (Nat.le_of_ble_eq_true rfl) (f_X12_errs_ok e101) ?_
        exact g_zretG h dX12_readAll_104 rfl
    · replace h := gif_t q h
      refine g_aload_n dX12_readAll_79 rfl ?_
      obtain ⟨z80, e80, h⟩ := obind h
      refine g_vU0 mv_X12_118 dX12_readAll_80 ok_28 ⟨by decide, by decide⟩ (Nat.le_of_ble_eq_true rfl) (f_X12_goesOn_ok e80) ?_
      refine g_aload_n dX12_readAll_83 rfl ?_
      obtain ⟨p84, e84, h⟩ := obind h
      refine g_vP0 mv_X12_154 dX12_readAll_84 ok_28 ⟨by decide, by decide⟩ (Nat.le_of_ble_eq_true rfl) (f_X12_readLine_ok hW e84) ?_
      refine g_if_ne 70 dX12_readAll_87 rfl (fun q => ?_) (fun q => ?_)
      · replace h := gif_f q h
        exact ih h
      · replace h := gif_t q h
        refine g_iconst dX12_readAll_90 kc_0 ?_
        cases h
        exact g_zret0 dX12_readAll_91 rfl
theorem f_X12_readAll_17_ok  {r : (Int32 × gSt)} (hW : gEnv w aK aV) : ∀ (n : Nat) {v2 : Int32} {σ : gSt} {x1 : Option Value}, f_X12_readAll_17 n v2 σ = some r → G l w 0 41 RX12 cX12_readAll 3 (some .boolean) 9 192 (gE (some (.int r.1)) r.2) 17 [some (.ref (w.2.1 28 0)), x1, some (.int v2)] [] σ := by
  intro n
  induction n with
  | zero => intro v2 σ x1 h; rw [f_X12_readAll_17] at h; cases h
  | succ n ih =>
    intro v2 σ x1 h
    rw [f_X12_readAll_17] at h
    refine g_iload_n dX12_readAll_17 rfl ?_
    refine g_sipush dX12_readAll_18 ks_397 ?_
    refine g_icmp_ge 57 dX12_readAll_21 rfl (fun q => ?_) (fun q => ?_)
    · replace h := gif_t q h
      refine g_aload_n dX12_readAll_57 rfl ?_
      obtain ⟨z58, e58, h⟩ := obind h
      refine g_vU0 mv_X12_118 dX12_readAll_58 ok_28 ⟨by decide, by decide⟩ (Nat.le_of_ble_eq_true rfl) (f_X12_goesOn_ok e58) ?_
      refine g_aload_n dX12_readAll_61 rfl ?_
      obtain ⟨p62, e62, h⟩ := obind h
      refine g_vP0 mv_X12_154 dX12_readAll_62 ok_28 ⟨by decide, by decide⟩ (Nat.le_of_ble_eq_true rfl) (f_X12_readLine_ok hW e62) ?_
      refine g_if_ne 70 dX12_readAll_65 rfl (fun q => ?_) (fun q => ?_)
      · replace h := gif_f q h
        exact f_X12_readAll_70_ok hW gFuel h
      · replace h := gif_t q h
        refine g_iconst dX12_readAll_68 kc_0 ?_
        cases h
        exact g_zret0 dX12_readAll_69 rfl
    · replace h := gif_f q h
      refine g_aload_n dX12_readAll_24 rfl ?_
      refine gR_X12_20 ok_28 dX12_readAll_25 ?_
      refine g_iload_n dX12_readAll_28 rfl ?_
      refine g_iload_n dX12_readAll_29 rfl ?_
      refine g_iconst dX12_readAll_30 kc_2 ?_
      refine g_icmp_ne 39 dX12_readAll_31 rfl (fun q => ?_) (fun q => ?_)
      · replace h := gif_f q h
        refine g_iload_n dX12_readAll_39 rfl ?_
        refine g_iconst dX12_readAll_40 kc_3 ?_
        refine g_icmp_ne 49 dX12_readAll_41 rfl (fun q => ?_) (fun q => ?_)
        · replace h := gif_f q h
          refine g_iconst dX12_readAll_49 kc_0 ?_
          obtain ⟨z50, e50, h⟩ := obind h
          refine g_stB e50 ok_31 rfl rfl (by decide) dX12_readAll_50 ?_
          refine g_inc2 kc_1 dX12_readAll_51 ?_
          refine g_goto 17 dX12_readAll_54 rfl ?_
          exact ih h
        · replace h := gif_t q h
          refine g_bipush dX12_readAll_44 kb_20 ?_
          refine g_goto 50 dX12_readAll_46 rfl ?_
          obtain ⟨z50, e50, h⟩ := obind h
          refine g_stB e50 ok_31 rfl rfl (by decide) dX12_readAll_50 ?_
          refine g_inc2 kc_1 dX12_readAll_51 ?_
          refine g_goto 17 dX12_readAll_54 rfl ?_
          exact ih h
      · replace h := gif_t q h
        refine g_bipush dX12_readAll_34 kb_10 ?_
        refine g_goto 50 dX12_readAll_36 rfl ?_
        obtain ⟨z50, e50, h⟩ := obind h
        refine g_stB e50 ok_31 rfl rfl (by decide) dX12_readAll_50 ?_
        refine g_inc2 kc_1 dX12_readAll_51 ?_
        refine g_goto 17 dX12_readAll_54 rfl ?_
        exact ih h
theorem f_X12_readAll_ok {v1 : Int32} (hW : gEnv w aK aV) {σ : gSt} {r : (Int32 × gSt)} (h : f_X12_readAll v1 σ = some r) : Mt l w 0 41 yX12_readAll cX12_readAll 3 (some .boolean) 9 192 [.ref (w.2.1 28 0), .int v1] σ (gE (some (.int r.1)) r.2) := by
  unfold f_X12_readAll at h
  refine g_start pn_X12 rfl rfl (Nat.le_of_ble_eq_true rfl) ?_
  show G l w 0 41 RX12 cX12_readAll 3 (some .boolean) 9 192 (gE (some (.int r.1)) r.2) 0 [some (.ref (w.2.1 28 0)), some (.int v1), none] [] σ
  refine g_aload_n dX12_readAll_0 rfl ?_
  refine g_iload_n dX12_readAll_1 rfl ?_
  refine gP_X12_63 ok_28 dX12_readAll_2 ?_
  refine g_aload_n dX12_readAll_5 rfl ?_
  refine g_iconst dX12_readAll_6 kc_0 ?_
  refine gP_X12_66 ok_28 dX12_readAll_7 ?_
  refine g_aload_n dX12_readAll_10 rfl ?_
  refine g_iconst dX12_readAll_11 kc_0 ?_
  refine gP_X12_142 ok_28 dX12_readAll_12 ?_
  refine g_iconst dX12_readAll_15 kc_0 ?_
  refine g_istore2 dX12_readAll_16 ?_
  exact f_X12_readAll_17_ok hW gFuel h
theorem dX12_text_0 : decode cX12_text 0 = .ok (.aload_n 0, 1) := by decide +kernel
theorem dX12_text_1 : decode cX12_text 1 = .ok (.iconst 1, 1) := by decide +kernel
theorem dX12_text_2 : decode cX12_text 2 = .ok (.iload_n 1, 1) := by decide +kernel
theorem dX12_text_3 : decode cX12_text 3 = .ok (.iconst 0, 1) := by decide +kernel
theorem dX12_text_4 : decode cX12_text 4 = .ok (.aload_n 0, 1) := by decide +kernel
theorem dX12_text_5 : decode cX12_text 5 = .ok (.getfield 56, 3) := by decide +kernel
theorem dX12_text_8 : decode cX12_text 8 = .ok (.invokestatic 79, 3) := by decide +kernel
theorem dX12_text_11 : decode cX12_text 11 = .ok (.invokestatic 157, 3) := by decide +kernel
theorem dX12_text_14 : decode cX12_text 14 = .ok (.invokevirtual 161, 3) := by decide +kernel
theorem dX12_text_17 : decode cX12_text 17 = .ok (.ifCond .eq 5, 3) := by decide +kernel
theorem dX12_text_20 : decode cX12_text 20 = .ok (.iconst (-1), 1) := by decide +kernel
theorem dX12_text_21 : decode cX12_text 21 = .ok (.ireturn, 1) := by decide +kernel
theorem dX12_text_22 : decode cX12_text 22 = .ok (.aload_n 0, 1) := by decide +kernel
theorem dX12_text_23 : decode cX12_text 23 = .ok (.iconst 0, 1) := by decide +kernel
theorem dX12_text_24 : decode cX12_text 24 = .ok (.putfield 56, 3) := by decide +kernel
theorem dX12_text_27 : decode cX12_text 27 = .ok (.aload_n 0, 1) := by decide +kernel
theorem dX12_text_28 : decode cX12_text 28 = .ok (.iconst 0, 1) := by decide +kernel
theorem dX12_text_29 : decode cX12_text 29 = .ok (.putfield 164, 3) := by decide +kernel
theorem dX12_text_32 : decode cX12_text 32 = .ok (.aload_n 0, 1) := by decide +kernel
theorem dX12_text_33 : decode cX12_text 33 = .ok (.iload_n 1, 1) := by decide +kernel
theorem dX12_text_34 : decode cX12_text 34 = .ok (.invokevirtual 167, 3) := by decide +kernel
theorem dX12_text_37 : decode cX12_text 37 = .ok (.ifCond .ne 25, 3) := by decide +kernel
theorem dX12_text_40 : decode cX12_text 40 = .ok (.aload_n 0, 1) := by decide +kernel
theorem dX12_text_41 : decode cX12_text 41 = .ok (.aload_n 0, 1) := by decide +kernel
theorem dX12_text_42 : decode cX12_text 42 = .ok (.getfield 96, 3) := by decide +kernel
theorem dX12_text_45 : decode cX12_text 45 = .ok (.putfield 164, 3) := by decide +kernel
theorem dX12_text_48 : decode cX12_text 48 = .ok (.aload_n 0, 1) := by decide +kernel
theorem dX12_text_49 : decode cX12_text 49 = .ok (.aload_n 0, 1) := by decide +kernel
theorem dX12_text_50 : decode cX12_text 50 = .ok (.getfield 99, 3) := by decide +kernel
theorem dX12_text_53 : decode cX12_text 53 = .ok (.putfield 9, 3) := by decide +kernel
theorem dX12_text_56 : decode cX12_text 56 = .ok (.aload_n 0, 1) := by decide +kernel
theorem dX12_text_57 : decode cX12_text 57 = .ok (.iconst 4, 1) := by decide +kernel
theorem dX12_text_58 : decode cX12_text 58 = .ok (.invokevirtual 170, 3) := by decide +kernel
theorem dX12_text_61 : decode cX12_text 61 = .ok (.ireturn, 1) := by decide +kernel
theorem dX12_text_62 : decode cX12_text 62 = .ok (.aload_n 0, 1) := by decide +kernel
theorem dX12_text_63 : decode cX12_text 63 = .ok (.iconst 1, 1) := by decide +kernel
theorem dX12_text_64 : decode cX12_text 64 = .ok (.putfield 173, 3) := by decide +kernel
theorem dX12_text_67 : decode cX12_text 67 = .ok (.aload_n 0, 1) := by decide +kernel
theorem dX12_text_68 : decode cX12_text 68 = .ok (.iconst 0, 1) := by decide +kernel
theorem dX12_text_69 : decode cX12_text 69 = .ok (.putfield 177, 3) := by decide +kernel
theorem dX12_text_72 : decode cX12_text 72 = .ok (.aload_n 0, 1) := by decide +kernel
theorem dX12_text_73 : decode cX12_text 73 = .ok (.getfield 17, 3) := by decide +kernel
theorem dX12_text_76 : decode cX12_text 76 = .ok (.iconst 0, 1) := by decide +kernel
theorem dX12_text_77 : decode cX12_text 77 = .ok (.aload_n 0, 1) := by decide +kernel
theorem dX12_text_78 : decode cX12_text 78 = .ok (.getfield 20, 3) := by decide +kernel
theorem dX12_text_81 : decode cX12_text 81 = .ok (.iconst 0, 1) := by decide +kernel
theorem dX12_text_82 : decode cX12_text 82 = .ok (.sipush 397, 3) := by decide +kernel
theorem dX12_text_85 : decode cX12_text 85 = .ok (.invokestatic 180, 3) := by decide +kernel
theorem dX12_text_88 : decode cX12_text 88 = .ok (.aload_n 0, 1) := by decide +kernel
theorem dX12_text_89 : decode cX12_text 89 = .ok (.getfield 23, 3) := by decide +kernel
theorem dX12_text_92 : decode cX12_text 92 = .ok (.iconst 0, 1) := by decide +kernel
theorem dX12_text_93 : decode cX12_text 93 = .ok (.aload_n 0, 1) := by decide +kernel
theorem dX12_text_94 : decode cX12_text 94 = .ok (.getfield 26, 3) := by decide +kernel
theorem dX12_text_97 : decode cX12_text 97 = .ok (.iconst 0, 1) := by decide +kernel
theorem dX12_text_98 : decode cX12_text 98 = .ok (.bipush 78, 2) := by decide +kernel
theorem dX12_text_100 : decode cX12_text 100 = .ok (.invokestatic 180, 3) := by decide +kernel
theorem dX12_text_103 : decode cX12_text 103 = .ok (.aload_n 0, 1) := by decide +kernel
theorem dX12_text_104 : decode cX12_text 104 = .ok (.getfield 17, 3) := by decide +kernel
theorem dX12_text_107 : decode cX12_text 107 = .ok (.iconst 1, 1) := by decide +kernel
theorem dX12_text_108 : decode cX12_text 108 = .ok (.iaload, 1) := by decide +kernel
theorem dX12_text_109 : decode cX12_text 109 = .ok (.ireturn, 1) := by decide +kernel
def f_X12_text (v1 : Int32) (σ : gSt) : Option (Int32 × gSt) :=
  (f_X12_in v1 0 (σ 28 0 5) σ).bind fun p8 =>
  (f_X12_unless_ 1 p8.1 p8.2).bind fun p11 =>
  (f_X12_isRefused p11.1 p11.2).bind fun p14 =>
  if p14.1 = 0 then
    (f_X12_readAll v1 (gup (gup p14.2 28 0 5 0) 28 0 2 0)).bind fun p34 =>
    if p34.1 = 0 then
      (f_X12_no 4 (gup (gup p34.2 28 0 2 (p34.2 28 0 17)) 28 0 3 ((gup p34.2 28 0 2 (p34.2 28 0 17)) 28 0 18))).bind fun p58 =>
      some (p58.1, p58.2)
    else
      (f_X12_lays_k30_k31 0 0 397 (gup (gup p34.2 28 0 6 1) 28 0 30 0)).bind fun z85 =>
      (f_X12_lays_k32_k33 0 0 78 z85).bind fun z100 =>
      (gld z100 30 0 397 1).bind fun a108 =>
      some (a108, z100)
  else
    some ((-1), p14.2)
theorem f_X12_text_ok {v1 : Int32} (hW : gEnv w aK aV) {σ : gSt} {r : (Int32 × gSt)} (h : f_X12_text v1 σ = some r) : Mt l w 0 41 yX12_text cX12_text 2 (some .int) 10 214 [.ref (w.2.1 28 0), .int v1] σ (gE (some (.int r.1)) r.2) := by
  unfold f_X12_text at h
  refine g_start pn_X12 rfl rfl (Nat.le_of_ble_eq_true rfl) ?_
  show G l w 0 41 RX12 cX12_text 2 (some .int) 10 214 (gE (some (.int r.1)) r.2) 0 [some (.ref (w.2.1 28 0)), some (.int v1)] [] σ
  refine g_aload_n dX12_text_0 rfl ?_
  refine g_iconst dX12_text_1 kc_1 ?_
  refine g_iload_n dX12_text_2 rfl ?_
  refine g_iconst dX12_text_3 kc_0 ?_
  refine g_aload_n dX12_text_4 rfl ?_
  refine gI_X12_56 ok_28 dX12_text_5 ?_
  obtain ⟨p8, e8, h⟩ := obind h
  refine g_sP3 ms_X12_79 dX12_text_8 ⟨by decide, by decide⟩ (Nat.le_of_ble_eq_true rfl) (f_X12_in_ok e8) ?_
  obtain ⟨p11, e11, h⟩ := obind h
  refine g_sP2 ms_X12_157 dX12_text_11 ⟨by decide, by decide⟩ (Nat.le_of_ble_eq_true rfl) (f_X12_unless__ok e11) ?_
  obtain ⟨p14, e14, h⟩ := obind h
  refine g_vP1 mv_X12_161 dX12_text_14 ok_28 ⟨by decide, by decide⟩ (Nat.le_of_ble_eq_true rfl) (f_X12_isRefused_ok e14) ?_
  refine g_if_eq 22 dX12_text_17 rfl (fun q => ?_) (fun q => ?_)
  · replace h := gif_t q h
    refine g_aload_n dX12_text_22 rfl ?_
    refine g_iconst dX12_text_23 kc_0 ?_
    refine gP_X12_56 ok_28 dX12_text_24 ?_
    refine g_aload_n dX12_text_27 rfl ?_
    refine g_iconst dX12_text_28 kc_0 ?_
    refine gP_X12_164 ok_28 dX12_text_29 ?_
    refine g_aload_n dX12_text_32 rfl ?_
    refine g_iload_n dX12_text_33 rfl ?_
    obtain ⟨p34, e34, h⟩ := obind h
    refine g_vP1 mv_X12_167 dX12_text_34 ok_28 ⟨by decide, by decide⟩ (Nat.le_of_ble_eq_true rfl) (f_X12_readAll_ok hW e34) ?_
    refine g_if_ne 62 dX12_text_37 rfl (fun q => ?_) (fun q => ?_)
    · replace h := gif_f q h
      refine g_aload_n dX12_text_62 rfl ?_
      refine g_iconst dX12_text_63 kc_1 ?_
      refine gP_X12_173 ok_28 dX12_text_64 ?_
      refine g_aload_n dX12_text_67 rfl ?_
      refine g_iconst dX12_text_68 kc_0 ?_
      refine gP_X12_177 ok_28 dX12_text_69 ?_
      refine g_aload_n dX12_text_72 rfl ?_
      refine gR_X12_17 ok_28 dX12_text_73 ?_
      refine g_iconst dX12_text_76 kc_0 ?_
      refine g_aload_n dX12_text_77 rfl ?_
      refine gR_X12_20 ok_28 dX12_text_78 ?_
      refine g_iconst dX12_text_81 kc_0 ?_
      refine g_sipush dX12_text_82 ks_397 ?_
      obtain ⟨z85, e85, h⟩ := obind h
      refine g_sU5 ms_X12_180 dX12_text_85 ⟨by decide, by decide⟩ (Nat.le_of_ble_eq_true rfl) (f_X12_lays_k30_k31_ok e85) ?_
      refine g_aload_n dX12_text_88 rfl ?_
      refine gR_X12_23 ok_28 dX12_text_89 ?_
      refine g_iconst dX12_text_92 kc_0 ?_
      refine g_aload_n dX12_text_93 rfl ?_
      refine gR_X12_26 ok_28 dX12_text_94 ?_
      refine g_iconst dX12_text_97 kc_0 ?_
      refine g_bipush dX12_text_98 kb_78 ?_
      obtain ⟨z100, e100, h⟩ := obind h
      refine g_sU5 ms_X12_180 dX12_text_100 ⟨by decide, by decide⟩ (Nat.le_of_ble_eq_true rfl) (f_X12_lays_k32_k33_ok e100) ?_
      refine g_aload_n dX12_text_103 rfl ?_
      refine gR_X12_17 ok_28 dX12_text_104 ?_
      refine g_iconst dX12_text_107 kc_1 ?_
      obtain ⟨a108, e108, h⟩ := obind h
      refine g_ldB e108 ok_30 rfl rfl (by decide) dX12_text_108 ?_
      cases h
      exact g_iret dX12_text_109 rfl ⟨rfl, rfl⟩
    · replace h := gif_t q h
      refine g_aload_n dX12_text_40 rfl ?_
      refine g_aload_n dX12_text_41 rfl ?_
      refine gI_X12_96 ok_28 dX12_text_42 ?_
      refine gP_X12_164 ok_28 dX12_text_45 ?_
      refine g_aload_n dX12_text_48 rfl ?_
      refine g_aload_n dX12_text_49 rfl ?_
      refine gI_X12_99 ok_28 dX12_text_50 ?_
      refine gP_X12_9 ok_28 dX12_text_53 ?_
      refine g_aload_n dX12_text_56 rfl ?_
      refine g_iconst dX12_text_57 kc_4 ?_
      obtain ⟨p58, e58, h⟩ := obind h
      refine g_vP1 mv_X12_170 dX12_text_58 ok_28 ⟨by decide, by decide⟩ (Nat.le_of_ble_eq_true rfl) (f_X12_no_ok e58) ?_
      cases h
      exact g_iret dX12_text_61 rfl ⟨rfl, rfl⟩
  · replace h := gif_f q h
    refine g_iconst dX12_text_20 kc_m1 ?_
    cases h
    exact g_iret dX12_text_21 rfl ⟨rfl, rfl⟩
end MI
