section MI
variable {l : Launch} {w : gWd}
theorem dX12_divisor_0 : decode cX12_divisor 0 = .ok (.iload_n 0, 1) := by decide +kernel
theorem dX12_divisor_1 : decode cX12_divisor 1 = .ok (.istore_n 2, 1) := by decide +kernel
theorem dX12_divisor_2 : decode cX12_divisor 2 = .ok (.iload_n 1, 1) := by decide +kernel
theorem dX12_divisor_3 : decode cX12_divisor 3 = .ok (.istore_n 3, 1) := by decide +kernel
theorem dX12_divisor_4 : decode cX12_divisor 4 = .ok (.iload_n 3, 1) := by decide +kernel
theorem dX12_divisor_5 : decode cX12_divisor 5 = .ok (.ifCond .eq 16, 3) := by decide +kernel
theorem dX12_divisor_8 : decode cX12_divisor 8 = .ok (.iload_n 2, 1) := by decide +kernel
theorem dX12_divisor_9 : decode cX12_divisor 9 = .ok (.iload_n 3, 1) := by decide +kernel
theorem dX12_divisor_10 : decode cX12_divisor 10 = .ok (.irem, 1) := by decide +kernel
theorem dX12_divisor_11 : decode cX12_divisor 11 = .ok (.istore 4, 2) := by decide +kernel
theorem dX12_divisor_13 : decode cX12_divisor 13 = .ok (.iload_n 3, 1) := by decide +kernel
theorem dX12_divisor_14 : decode cX12_divisor 14 = .ok (.istore_n 2, 1) := by decide +kernel
theorem dX12_divisor_15 : decode cX12_divisor 15 = .ok (.iload 4, 2) := by decide +kernel
theorem dX12_divisor_17 : decode cX12_divisor 17 = .ok (.istore_n 3, 1) := by decide +kernel
theorem dX12_divisor_18 : decode cX12_divisor 18 = .ok (.goto (-14), 3) := by decide +kernel
theorem dX12_divisor_21 : decode cX12_divisor 21 = .ok (.iload_n 2, 1) := by decide +kernel
theorem dX12_divisor_22 : decode cX12_divisor 22 = .ok (.ireturn, 1) := by decide +kernel
def f_X12_divisor_4  : Nat → Int32 → Int32 → gSt → Option (Int32 × gSt)
  | 0, _, _, _ => none
  | n + 1, v2, v3, σ =>
    if v3 = 0 then
      some (v2, σ)
    else
      (grm v2 v3).bind fun a10 =>
      f_X12_divisor_4 n v3 a10 σ
def f_X12_divisor (v0 : Int32) (v1 : Int32) (σ : gSt) : Option (Int32 × gSt) :=
  f_X12_divisor_4 gFuel v0 v1 σ
theorem f_X12_divisor_4_ok  {r : (Int32 × gSt)}  : ∀ (n : Nat) {v2 : Int32} {v3 : Int32} {σ : gSt} {x0 x1 x4 : Option Value}, f_X12_divisor_4 n v2 v3 σ = some r → G l w 0 41 RX12 cX12_divisor 5 (some .int) 0 0 (gE (some (.int r.1)) r.2) 4 [x0, x1, some (.int v2), some (.int v3), x4] [] σ := by
  intro n
  induction n with
  | zero => intro v2 v3 σ x0 x1 x4 h; rw [f_X12_divisor_4] at h; cases h
  | succ n ih =>
    intro v2 v3 σ x0 x1 x4 h
    rw [f_X12_divisor_4] at h
    refine g_iload_n dX12_divisor_4 rfl ?_
    refine g_if_eq 21 dX12_divisor_5 rfl (fun q => ?_) (fun q => ?_)
    · replace h := gif_t q h
      refine g_iload_n dX12_divisor_21 rfl ?_
      cases h
      exact g_iret dX12_divisor_22 rfl ⟨rfl, rfl⟩
    · replace h := gif_f q h
      refine g_iload_n dX12_divisor_8 rfl ?_
      refine g_iload_n dX12_divisor_9 rfl ?_
      obtain ⟨a10, e10, h⟩ := obind h
      refine g_rmB e10 dX12_divisor_10 ?_
      refine g_istore4 dX12_divisor_11 ?_
      refine g_iload_n dX12_divisor_13 rfl ?_
      refine g_istore2 dX12_divisor_14 ?_
      refine g_iload dX12_divisor_15 rfl ?_
      refine g_istore3 dX12_divisor_17 ?_
      refine g_goto 4 dX12_divisor_18 rfl ?_
      exact ih h
theorem f_X12_divisor_ok {v0 : Int32} {v1 : Int32}  {σ : gSt} {r : (Int32 × gSt)} (h : f_X12_divisor v0 v1 σ = some r) : Mt l w 0 41 yX12_divisor cX12_divisor 5 (some .int) 0 0 [.int v0, .int v1] σ (gE (some (.int r.1)) r.2) := by
  unfold f_X12_divisor at h
  refine g_start pn_X12 rfl rfl (Nat.le_of_ble_eq_true rfl) ?_
  show G l w 0 41 RX12 cX12_divisor 5 (some .int) 0 0 (gE (some (.int r.1)) r.2) 0 [some (.int v0), some (.int v1), none, none, none] [] σ
  refine g_iload_n dX12_divisor_0 rfl ?_
  refine g_istore2 dX12_divisor_1 ?_
  refine g_iload_n dX12_divisor_2 rfl ?_
  refine g_istore3 dX12_divisor_3 ?_
  exact f_X12_divisor_4_ok gFuel h
theorem dX12_pace_0 : decode cX12_pace 0 = .ok (.aload_n 0, 1) := by decide +kernel
theorem dX12_pace_1 : decode cX12_pace 1 = .ok (.iload_n 1, 1) := by decide +kernel
theorem dX12_pace_2 : decode cX12_pace 2 = .ok (.invokevirtual 187, 3) := by decide +kernel
theorem dX12_pace_5 : decode cX12_pace 5 = .ok (.ifCond .eq 16, 3) := by decide +kernel
theorem dX12_pace_8 : decode cX12_pace 8 = .ok (.iload_n 2, 1) := by decide +kernel
theorem dX12_pace_9 : decode cX12_pace 9 = .ok (.iconst 0, 1) := by decide +kernel
theorem dX12_pace_10 : decode cX12_pace 10 = .ok (.iconst 1, 1) := by decide +kernel
theorem dX12_pace_11 : decode cX12_pace 11 = .ok (.invokestatic 79, 3) := by decide +kernel
theorem dX12_pace_14 : decode cX12_pace 14 = .ok (.ifCond .eq 7, 3) := by decide +kernel
theorem dX12_pace_17 : decode cX12_pace 17 = .ok (.iconst 1, 1) := by decide +kernel
theorem dX12_pace_18 : decode cX12_pace 18 = .ok (.goto 4, 3) := by decide +kernel
theorem dX12_pace_21 : decode cX12_pace 21 = .ok (.iconst 0, 1) := by decide +kernel
theorem dX12_pace_22 : decode cX12_pace 22 = .ok (.invokestatic 234, 3) := by decide +kernel
theorem dX12_pace_25 : decode cX12_pace 25 = .ok (.istore_n 3, 1) := by decide +kernel
theorem dX12_pace_26 : decode cX12_pace 26 = .ok (.aload_n 0, 1) := by decide +kernel
theorem dX12_pace_27 : decode cX12_pace 27 = .ok (.iload_n 3, 1) := by decide +kernel
theorem dX12_pace_28 : decode cX12_pace 28 = .ok (.ifCond .eq 7, 3) := by decide +kernel
theorem dX12_pace_31 : decode cX12_pace 31 = .ok (.iload_n 3, 1) := by decide +kernel
theorem dX12_pace_32 : decode cX12_pace 32 = .ok (.goto 17, 3) := by decide +kernel
theorem dX12_pace_35 : decode cX12_pace 35 = .ok (.aload_n 0, 1) := by decide +kernel
theorem dX12_pace_36 : decode cX12_pace 36 = .ok (.iload_n 1, 1) := by decide +kernel
theorem dX12_pace_37 : decode cX12_pace 37 = .ok (.invokevirtual 273, 3) := by decide +kernel
theorem dX12_pace_40 : decode cX12_pace 40 = .ok (.ifCond .eq 7, 3) := by decide +kernel
theorem dX12_pace_43 : decode cX12_pace 43 = .ok (.iconst 0, 1) := by decide +kernel
theorem dX12_pace_44 : decode cX12_pace 44 = .ok (.goto 5, 3) := by decide +kernel
theorem dX12_pace_47 : decode cX12_pace 47 = .ok (.bipush 6, 2) := by decide +kernel
theorem dX12_pace_49 : decode cX12_pace 49 = .ok (.invokevirtual 161, 3) := by decide +kernel
theorem dX12_pace_52 : decode cX12_pace 52 = .ok (.ifCond .eq 5, 3) := by decide +kernel
theorem dX12_pace_55 : decode cX12_pace 55 = .ok (.iconst (-1), 1) := by decide +kernel
theorem dX12_pace_56 : decode cX12_pace 56 = .ok (.ireturn, 1) := by decide +kernel
theorem dX12_pace_57 : decode cX12_pace 57 = .ok (.iload_n 2, 1) := by decide +kernel
theorem dX12_pace_58 : decode cX12_pace 58 = .ok (.ifCond .ne 10, 3) := by decide +kernel
theorem dX12_pace_61 : decode cX12_pace 61 = .ok (.aload_n 0, 1) := by decide +kernel
theorem dX12_pace_62 : decode cX12_pace 62 = .ok (.getfield 267, 3) := by decide +kernel
theorem dX12_pace_65 : decode cX12_pace 65 = .ok (.goto 7, 3) := by decide +kernel
theorem dX12_pace_68 : decode cX12_pace 68 = .ok (.aload_n 0, 1) := by decide +kernel
theorem dX12_pace_69 : decode cX12_pace 69 = .ok (.getfield 270, 3) := by decide +kernel
theorem dX12_pace_72 : decode cX12_pace 72 = .ok (.aload_n 0, 1) := by decide +kernel
theorem dX12_pace_73 : decode cX12_pace 73 = .ok (.getfield 270, 3) := by decide +kernel
theorem dX12_pace_76 : decode cX12_pace 76 = .ok (.aload_n 0, 1) := by decide +kernel
theorem dX12_pace_77 : decode cX12_pace 77 = .ok (.getfield 267, 3) := by decide +kernel
theorem dX12_pace_80 : decode cX12_pace 80 = .ok (.invokestatic 288, 3) := by decide +kernel
theorem dX12_pace_83 : decode cX12_pace 83 = .ok (.idiv, 1) := by decide +kernel
theorem dX12_pace_84 : decode cX12_pace 84 = .ok (.ireturn, 1) := by decide +kernel
def f_X12_pace_49 (v2 : Int32) (vs1 : Int32) (σ : gSt) : Option (Int32 × gSt) :=
  (f_X12_isRefused vs1 σ).bind fun p49 =>
  if p49.1 = 0 then
    if v2 = 0 then
      (f_X12_divisor (p49.2 28 0 24) (p49.2 28 0 23) p49.2).bind fun p80 =>
      (gdv (p49.2 28 0 23) p80.1).bind fun a83 =>
      some (a83, p80.2)
    else
      (f_X12_divisor (p49.2 28 0 24) (p49.2 28 0 23) p49.2).bind fun p80 =>
      (gdv (p49.2 28 0 24) p80.1).bind fun a83 =>
      some (a83, p80.2)
  else
    some ((-1), p49.2)
def f_X12_pace_22 (v1 : Int32) (v2 : Int32) (vs0 : Int32) (σ : gSt) : Option (Int32 × gSt) :=
  (f_X12_unless vs0 σ).bind fun p22 =>
  if p22.1 = 0 then
    (f_X12_paces v1 p22.2).bind fun p37 =>
    if p37.1 = 0 then
      f_X12_pace_49 v2 6 p37.2
    else
      f_X12_pace_49 v2 0 p37.2
  else
    f_X12_pace_49 v2 p22.1 p22.2
def f_X12_pace_21 (v1 : Int32) (v2 : Int32) (σ : gSt) : Option (Int32 × gSt) :=
  f_X12_pace_22 v1 v2 0 σ
def f_X12_pace (v1 : Int32) (v2 : Int32) (σ : gSt) : Option (Int32 × gSt) :=
  (f_X12_isRunner v1 σ).bind fun p2 =>
  if p2.1 = 0 then
    f_X12_pace_21 v1 v2 p2.2
  else
    (f_X12_in v2 0 1 p2.2).bind fun p11 =>
    if p11.1 = 0 then
      f_X12_pace_21 v1 v2 p11.2
    else
      f_X12_pace_22 v1 v2 1 p11.2
theorem f_X12_pace_49_ok {v2 : Int32} {vs1 : Int32} {r : (Int32 × gSt)}  {σ : gSt} {x1 x3 : Option Value} (h : f_X12_pace_49 v2 vs1 σ = some r) : G l w 0 41 RX12 cX12_pace 4 (some .int) 8 197 (gE (some (.int r.1)) r.2) 49 [some (.ref (w.2.1 28 0)), x1, some (.int v2), x3] [.int vs1, .ref (w.2.1 28 0)] σ := by
  unfold f_X12_pace_49 at h
  obtain ⟨p49, e49, h⟩ := obind h
  refine g_vP1 mv_X12_161 dX12_pace_49 ok_28 ⟨by decide, by decide⟩ (Nat.le_of_ble_eq_true rfl) (f_X12_isRefused_ok e49) ?_
  refine g_if_eq 57 dX12_pace_52 rfl (fun q => ?_) (fun q => ?_)
  · replace h := gif_t q h
    refine g_iload_n dX12_pace_57 rfl ?_
    refine g_if_ne 68 dX12_pace_58 rfl (fun q => ?_) (fun q => ?_)
    · replace h := gif_f q h
      refine g_aload_n dX12_pace_68 rfl ?_
      refine gI_X12_270 ok_28 dX12_pace_69 ?_
      refine g_aload_n dX12_pace_72 rfl ?_
      refine gI_X12_270 ok_28 dX12_pace_73 ?_
      refine g_aload_n dX12_pace_76 rfl ?_
      refine gI_X12_267 ok_28 dX12_pace_77 ?_
      obtain ⟨p80, e80, h⟩ := obind h
      refine g_sP2 ms_X12_288 dX12_pace_80 ⟨by decide, by decide⟩ (Nat.le_of_ble_eq_true rfl) (f_X12_divisor_ok e80) ?_
      obtain ⟨a83, e83, h⟩ := obind h
      refine g_dvB e83 dX12_pace_83 ?_
      cases h
      exact g_iret dX12_pace_84 rfl ⟨rfl, rfl⟩
    · replace h := gif_t q h
      refine g_aload_n dX12_pace_61 rfl ?_
      refine gI_X12_267 ok_28 dX12_pace_62 ?_
      refine g_goto 72 dX12_pace_65 rfl ?_
      refine g_aload_n dX12_pace_72 rfl ?_
      refine gI_X12_270 ok_28 dX12_pace_73 ?_
      refine g_aload_n dX12_pace_76 rfl ?_
      refine gI_X12_267 ok_28 dX12_pace_77 ?_
      obtain ⟨p80, e80, h⟩ := obind h
      refine g_sP2 ms_X12_288 dX12_pace_80 ⟨by decide, by decide⟩ (Nat.le_of_ble_eq_true rfl) (f_X12_divisor_ok e80) ?_
      obtain ⟨a83, e83, h⟩ := obind h
      refine g_dvB e83 dX12_pace_83 ?_
      cases h
      exact g_iret dX12_pace_84 rfl ⟨rfl, rfl⟩
  · replace h := gif_f q h
    refine g_iconst dX12_pace_55 kc_m1 ?_
    cases h
    exact g_iret dX12_pace_56 rfl ⟨rfl, rfl⟩
theorem f_X12_pace_22_ok {v1 : Int32} {v2 : Int32} {vs0 : Int32} {r : (Int32 × gSt)}  {σ : gSt} {x3 : Option Value} (h : f_X12_pace_22 v1 v2 vs0 σ = some r) : G l w 0 41 RX12 cX12_pace 4 (some .int) 8 197 (gE (some (.int r.1)) r.2) 22 [some (.ref (w.2.1 28 0)), some (.int v1), some (.int v2), x3] [.int vs0] σ := by
  unfold f_X12_pace_22 at h
  obtain ⟨p22, e22, h⟩ := obind h
  refine g_sP1 ms_X12_234 dX12_pace_22 ⟨by decide, by decide⟩ (Nat.le_of_ble_eq_true rfl) (f_X12_unless_ok e22) ?_
  refine g_istore3 dX12_pace_25 ?_
  refine g_aload_n dX12_pace_26 rfl ?_
  refine g_iload_n dX12_pace_27 rfl ?_
  refine g_if_eq 35 dX12_pace_28 rfl (fun q => ?_) (fun q => ?_)
  · replace h := gif_t q h
    refine g_aload_n dX12_pace_35 rfl ?_
    refine g_iload_n dX12_pace_36 rfl ?_
    obtain ⟨p37, e37, h⟩ := obind h
    refine g_vP1 mv_X12_273 dX12_pace_37 ok_28 ⟨by decide, by decide⟩ (Nat.le_of_ble_eq_true rfl) (f_X12_paces_ok e37) ?_
    refine g_if_eq 47 dX12_pace_40 rfl (fun q => ?_) (fun q => ?_)
    · replace h := gif_t q h
      refine g_bipush dX12_pace_47 kb_6 ?_
      exact f_X12_pace_49_ok h
    · replace h := gif_f q h
      refine g_iconst dX12_pace_43 kc_0 ?_
      refine g_goto 49 dX12_pace_44 rfl ?_
      exact f_X12_pace_49_ok h
  · replace h := gif_f q h
    refine g_iload_n dX12_pace_31 rfl ?_
    refine g_goto 49 dX12_pace_32 rfl ?_
    exact f_X12_pace_49_ok h
theorem f_X12_pace_21_ok {v1 : Int32} {v2 : Int32} {r : (Int32 × gSt)}  {σ : gSt} {x3 : Option Value} (h : f_X12_pace_21 v1 v2 σ = some r) : G l w 0 41 RX12 cX12_pace 4 (some .int) 8 197 (gE (some (.int r.1)) r.2) 21 [some (.ref (w.2.1 28 0)), some (.int v1), some (.int v2), x3] [] σ := by
  unfold f_X12_pace_21 at h
  refine g_iconst dX12_pace_21 kc_0 ?_
  exact f_X12_pace_22_ok h
theorem f_X12_pace_ok {v1 : Int32} {v2 : Int32}  {σ : gSt} {r : (Int32 × gSt)} (h : f_X12_pace v1 v2 σ = some r) : Mt l w 0 41 yX12_pace cX12_pace 4 (some .int) 8 197 [.ref (w.2.1 28 0), .int v1, .int v2] σ (gE (some (.int r.1)) r.2) := by
  unfold f_X12_pace at h
  refine g_start pn_X12 rfl rfl (Nat.le_of_ble_eq_true rfl) ?_
  show G l w 0 41 RX12 cX12_pace 4 (some .int) 8 197 (gE (some (.int r.1)) r.2) 0 [some (.ref (w.2.1 28 0)), some (.int v1), some (.int v2), none] [] σ
  refine g_aload_n dX12_pace_0 rfl ?_
  refine g_iload_n dX12_pace_1 rfl ?_
  obtain ⟨p2, e2, h⟩ := obind h
  refine g_vP1 mv_X12_187 dX12_pace_2 ok_28 ⟨by decide, by decide⟩ (Nat.le_of_ble_eq_true rfl) (f_X12_isRunner_ok e2) ?_
  refine g_if_eq 21 dX12_pace_5 rfl (fun q => ?_) (fun q => ?_)
  · replace h := gif_t q h
    exact f_X12_pace_21_ok h
  · replace h := gif_f q h
    refine g_iload_n dX12_pace_8 rfl ?_
    refine g_iconst dX12_pace_9 kc_0 ?_
    refine g_iconst dX12_pace_10 kc_1 ?_
    obtain ⟨p11, e11, h⟩ := obind h
    refine g_sP3 ms_X12_79 dX12_pace_11 ⟨by decide, by decide⟩ (Nat.le_of_ble_eq_true rfl) (f_X12_in_ok e11) ?_
    refine g_if_eq 21 dX12_pace_14 rfl (fun q => ?_) (fun q => ?_)
    · replace h := gif_t q h
      exact f_X12_pace_21_ok h
    · replace h := gif_f q h
      refine g_iconst dX12_pace_17 kc_1 ?_
      refine g_goto 22 dX12_pace_18 rfl ?_
      exact f_X12_pace_22_ok h
theorem dX12_mistakes_0 : decode cX12_mistakes 0 = .ok (.aload_n 0, 1) := by decide +kernel
theorem dX12_mistakes_1 : decode cX12_mistakes 1 = .ok (.aload_n 0, 1) := by decide +kernel
theorem dX12_mistakes_2 : decode cX12_mistakes 2 = .ok (.iload_n 1, 1) := by decide +kernel
theorem dX12_mistakes_3 : decode cX12_mistakes 3 = .ok (.invokevirtual 187, 3) := by decide +kernel
theorem dX12_mistakes_6 : decode cX12_mistakes 6 = .ok (.invokestatic 234, 3) := by decide +kernel
theorem dX12_mistakes_9 : decode cX12_mistakes 9 = .ok (.invokevirtual 161, 3) := by decide +kernel
theorem dX12_mistakes_12 : decode cX12_mistakes 12 = .ok (.ifCond .eq 5, 3) := by decide +kernel
theorem dX12_mistakes_15 : decode cX12_mistakes 15 = .ok (.iconst (-1), 1) := by decide +kernel
theorem dX12_mistakes_16 : decode cX12_mistakes 16 = .ok (.ireturn, 1) := by decide +kernel
theorem dX12_mistakes_17 : decode cX12_mistakes 17 = .ok (.iconst 0, 1) := by decide +kernel
theorem dX12_mistakes_18 : decode cX12_mistakes 18 = .ok (.istore_n 2, 1) := by decide +kernel
theorem dX12_mistakes_19 : decode cX12_mistakes 19 = .ok (.iconst 0, 1) := by decide +kernel
theorem dX12_mistakes_20 : decode cX12_mistakes 20 = .ok (.istore_n 3, 1) := by decide +kernel
theorem dX12_mistakes_21 : decode cX12_mistakes 21 = .ok (.iload_n 3, 1) := by decide +kernel
theorem dX12_mistakes_22 : decode cX12_mistakes 22 = .ok (.aload_n 0, 1) := by decide +kernel
theorem dX12_mistakes_23 : decode cX12_mistakes 23 = .ok (.getfield 17, 3) := by decide +kernel
theorem dX12_mistakes_26 : decode cX12_mistakes 26 = .ok (.iconst 4, 1) := by decide +kernel
theorem dX12_mistakes_27 : decode cX12_mistakes 27 = .ok (.aload_n 0, 1) := by decide +kernel
theorem dX12_mistakes_28 : decode cX12_mistakes 28 = .ok (.getfield 17, 3) := by decide +kernel
theorem dX12_mistakes_31 : decode cX12_mistakes 31 = .ok (.bipush 37, 2) := by decide +kernel
theorem dX12_mistakes_33 : decode cX12_mistakes 33 = .ok (.iload_n 1, 1) := by decide +kernel
theorem dX12_mistakes_34 : decode cX12_mistakes 34 = .ok (.iadd, 1) := by decide +kernel
theorem dX12_mistakes_35 : decode cX12_mistakes 35 = .ok (.iaload, 1) := by decide +kernel
theorem dX12_mistakes_36 : decode cX12_mistakes 36 = .ok (.iadd, 1) := by decide +kernel
theorem dX12_mistakes_37 : decode cX12_mistakes 37 = .ok (.iaload, 1) := by decide +kernel
theorem dX12_mistakes_38 : decode cX12_mistakes 38 = .ok (.if_icmp .gt 28, 3) := by decide +kernel
theorem dX12_mistakes_41 : decode cX12_mistakes 41 = .ok (.iload_n 2, 1) := by decide +kernel
theorem dX12_mistakes_42 : decode cX12_mistakes 42 = .ok (.aload_n 0, 1) := by decide +kernel
theorem dX12_mistakes_43 : decode cX12_mistakes 43 = .ok (.iload_n 1, 1) := by decide +kernel
theorem dX12_mistakes_44 : decode cX12_mistakes 44 = .ok (.iload_n 3, 1) := by decide +kernel
theorem dX12_mistakes_45 : decode cX12_mistakes 45 = .ok (.invokevirtual 279, 3) := by decide +kernel
theorem dX12_mistakes_48 : decode cX12_mistakes 48 = .ok (.ifCond .le 9, 3) := by decide +kernel
theorem dX12_mistakes_51 : decode cX12_mistakes 51 = .ok (.iconst 1, 1) := by decide +kernel
theorem dX12_mistakes_52 : decode cX12_mistakes 52 = .ok (.iload_n 3, 1) := by decide +kernel
theorem dX12_mistakes_53 : decode cX12_mistakes 53 = .ok (.ishl, 1) := by decide +kernel
theorem dX12_mistakes_54 : decode cX12_mistakes 54 = .ok (.goto 4, 3) := by decide +kernel
theorem dX12_mistakes_57 : decode cX12_mistakes 57 = .ok (.iconst 0, 1) := by decide +kernel
theorem dX12_mistakes_58 : decode cX12_mistakes 58 = .ok (.ior, 1) := by decide +kernel
theorem dX12_mistakes_59 : decode cX12_mistakes 59 = .ok (.istore_n 2, 1) := by decide +kernel
theorem dX12_mistakes_60 : decode cX12_mistakes 60 = .ok (.iinc 3 1, 3) := by decide +kernel
theorem dX12_mistakes_63 : decode cX12_mistakes 63 = .ok (.goto (-42), 3) := by decide +kernel
theorem dX12_mistakes_66 : decode cX12_mistakes 66 = .ok (.iload_n 2, 1) := by decide +kernel
theorem dX12_mistakes_67 : decode cX12_mistakes 67 = .ok (.ireturn, 1) := by decide +kernel
def f_X12_mistakes_21 (v1 : Int32) : Nat → Int32 → Int32 → gSt → Option (Int32 × gSt)
  | 0, _, _, _ => none
  | n + 1, v2, v3, σ =>
    (gld σ 30 0 397 (37 + v1)).bind fun a35 =>
    (gld σ 30 0 397 (4 + a35)).bind fun a37 =>
    if a37 < v3 then
      some (v2, σ)
    else
      (f_X12_mistakeOf v1 v3 σ).bind fun p45 =>
      if p45.1 ≤ 0 then
        f_X12_mistakes_21 v1 n (v2 ||| 0) (v3 + 1) p45.2
      else
        f_X12_mistakes_21 v1 n (v2 ||| (1 <<< (v3 &&& 31))) (v3 + 1) p45.2
def f_X12_mistakes (v1 : Int32) (σ : gSt) : Option (Int32 × gSt) :=
  (f_X12_isRunner v1 σ).bind fun p3 =>
  (f_X12_unless p3.1 p3.2).bind fun p6 =>
  (f_X12_isRefused p6.1 p6.2).bind fun p9 =>
  if p9.1 = 0 then
    f_X12_mistakes_21 v1 gFuel 0 0 p9.2
  else
    some ((-1), p9.2)
theorem f_X12_mistakes_21_ok {v1 : Int32} {r : (Int32 × gSt)}  : ∀ (n : Nat) {v2 : Int32} {v3 : Int32} {σ : gSt} , f_X12_mistakes_21 v1 n v2 v3 σ = some r → G l w 0 41 RX12 cX12_mistakes 4 (some .int) 9 222 (gE (some (.int r.1)) r.2) 21 [some (.ref (w.2.1 28 0)), some (.int v1), some (.int v2), some (.int v3)] [] σ := by
  intro n
  induction n with
  | zero => intro v2 v3 σ h; rw [f_X12_mistakes_21] at h; cases h
  | succ n ih =>
    intro v2 v3 σ h
    rw [f_X12_mistakes_21] at h
    refine g_iload_n dX12_mistakes_21 rfl ?_
    refine g_aload_n dX12_mistakes_22 rfl ?_
    refine gR_X12_17 ok_28 dX12_mistakes_23 ?_
    refine g_iconst dX12_mistakes_26 kc_4 ?_
    refine g_aload_n dX12_mistakes_27 rfl ?_
    refine gR_X12_17 ok_28 dX12_mistakes_28 ?_
    refine g_bipush dX12_mistakes_31 kb_37 ?_
    refine g_iload_n dX12_mistakes_33 rfl ?_
    refine g_iadd dX12_mistakes_34 ?_
    obtain ⟨a35, e35, h⟩ := obind h
    refine g_ldB e35 ok_30 rfl rfl (by decide) dX12_mistakes_35 ?_
    refine g_iadd dX12_mistakes_36 ?_
    obtain ⟨a37, e37, h⟩ := obind h
    refine g_ldB e37 ok_30 rfl rfl (by decide) dX12_mistakes_37 ?_
    refine g_icmp_gt 66 dX12_mistakes_38 rfl (fun q => ?_) (fun q => ?_)
    · replace h := gif_t q h
      refine g_iload_n dX12_mistakes_66 rfl ?_
      cases h
      exact g_iret dX12_mistakes_67 rfl ⟨rfl, rfl⟩
    · replace h := gif_f q h
      refine g_iload_n dX12_mistakes_41 rfl ?_
      refine g_aload_n dX12_mistakes_42 rfl ?_
      refine g_iload_n dX12_mistakes_43 rfl ?_
      refine g_iload_n dX12_mistakes_44 rfl ?_
      obtain ⟨p45, e45, h⟩ := obind h
      refine g_vP2 mv_X12_279 dX12_mistakes_45 ok_28 ⟨by decide, by decide⟩ (Nat.le_of_ble_eq_true rfl) (f_X12_mistakeOf_ok e45) ?_
      refine g_if_le 57 dX12_mistakes_48 rfl (fun q => ?_) (fun q => ?_)
      · replace h := gif_t q h
        refine g_iconst dX12_mistakes_57 kc_0 ?_
        refine g_ior dX12_mistakes_58 ?_
        refine g_istore2 dX12_mistakes_59 ?_
        refine g_inc3 kc_1 dX12_mistakes_60 ?_
        refine g_goto 21 dX12_mistakes_63 rfl ?_
        exact ih h
      · replace h := gif_f q h
        refine g_iconst dX12_mistakes_51 kc_1 ?_
        refine g_iload_n dX12_mistakes_52 rfl ?_
        refine g_ishl dX12_mistakes_53 ?_
        refine g_goto 58 dX12_mistakes_54 rfl ?_
        refine g_ior dX12_mistakes_58 ?_
        refine g_istore2 dX12_mistakes_59 ?_
        refine g_inc3 kc_1 dX12_mistakes_60 ?_
        refine g_goto 21 dX12_mistakes_63 rfl ?_
        exact ih h
theorem f_X12_mistakes_ok {v1 : Int32}  {σ : gSt} {r : (Int32 × gSt)} (h : f_X12_mistakes v1 σ = some r) : Mt l w 0 41 yX12_mistakes cX12_mistakes 4 (some .int) 9 222 [.ref (w.2.1 28 0), .int v1] σ (gE (some (.int r.1)) r.2) := by
  unfold f_X12_mistakes at h
  refine g_start pn_X12 rfl rfl (Nat.le_of_ble_eq_true rfl) ?_
  show G l w 0 41 RX12 cX12_mistakes 4 (some .int) 9 222 (gE (some (.int r.1)) r.2) 0 [some (.ref (w.2.1 28 0)), some (.int v1), none, none] [] σ
  refine g_aload_n dX12_mistakes_0 rfl ?_
  refine g_aload_n dX12_mistakes_1 rfl ?_
  refine g_iload_n dX12_mistakes_2 rfl ?_
  obtain ⟨p3, e3, h⟩ := obind h
  refine g_vP1 mv_X12_187 dX12_mistakes_3 ok_28 ⟨by decide, by decide⟩ (Nat.le_of_ble_eq_true rfl) (f_X12_isRunner_ok e3) ?_
  obtain ⟨p6, e6, h⟩ := obind h
  refine g_sP1 ms_X12_234 dX12_mistakes_6 ⟨by decide, by decide⟩ (Nat.le_of_ble_eq_true rfl) (f_X12_unless_ok e6) ?_
  obtain ⟨p9, e9, h⟩ := obind h
  refine g_vP1 mv_X12_161 dX12_mistakes_9 ok_28 ⟨by decide, by decide⟩ (Nat.le_of_ble_eq_true rfl) (f_X12_isRefused_ok e9) ?_
  refine g_if_eq 17 dX12_mistakes_12 rfl (fun q => ?_) (fun q => ?_)
  · replace h := gif_t q h
    refine g_iconst dX12_mistakes_17 kc_0 ?_
    refine g_istore2 dX12_mistakes_18 ?_
    refine g_iconst dX12_mistakes_19 kc_0 ?_
    refine g_istore3 dX12_mistakes_20 ?_
    exact f_X12_mistakes_21_ok gFuel h
  · replace h := gif_f q h
    refine g_iconst dX12_mistakes_15 kc_m1 ?_
    cases h
    exact g_iret dX12_mistakes_16 rfl ⟨rfl, rfl⟩
theorem dX12_cleanOf_0 : decode cX12_cleanOf 0 = .ok (.aload_n 0, 1) := by decide +kernel
theorem dX12_cleanOf_1 : decode cX12_cleanOf 1 = .ok (.iload_n 1, 1) := by decide +kernel
theorem dX12_cleanOf_2 : decode cX12_cleanOf 2 = .ok (.invokevirtual 218, 3) := by decide +kernel
theorem dX12_cleanOf_5 : decode cX12_cleanOf 5 = .ok (.istore_n 2, 1) := by decide +kernel
theorem dX12_cleanOf_6 : decode cX12_cleanOf 6 = .ok (.iconst 0, 1) := by decide +kernel
theorem dX12_cleanOf_7 : decode cX12_cleanOf 7 = .ok (.istore_n 3, 1) := by decide +kernel
theorem dX12_cleanOf_8 : decode cX12_cleanOf 8 = .ok (.iload_n 3, 1) := by decide +kernel
theorem dX12_cleanOf_9 : decode cX12_cleanOf 9 = .ok (.aload_n 0, 1) := by decide +kernel
theorem dX12_cleanOf_10 : decode cX12_cleanOf 10 = .ok (.getfield 17, 3) := by decide +kernel
theorem dX12_cleanOf_13 : decode cX12_cleanOf 13 = .ok (.iconst 4, 1) := by decide +kernel
theorem dX12_cleanOf_14 : decode cX12_cleanOf 14 = .ok (.aload_n 0, 1) := by decide +kernel
theorem dX12_cleanOf_15 : decode cX12_cleanOf 15 = .ok (.getfield 17, 3) := by decide +kernel
theorem dX12_cleanOf_18 : decode cX12_cleanOf 18 = .ok (.bipush 37, 2) := by decide +kernel
theorem dX12_cleanOf_20 : decode cX12_cleanOf 20 = .ok (.iload_n 1, 1) := by decide +kernel
theorem dX12_cleanOf_21 : decode cX12_cleanOf 21 = .ok (.iadd, 1) := by decide +kernel
theorem dX12_cleanOf_22 : decode cX12_cleanOf 22 = .ok (.iaload, 1) := by decide +kernel
theorem dX12_cleanOf_23 : decode cX12_cleanOf 23 = .ok (.iadd, 1) := by decide +kernel
theorem dX12_cleanOf_24 : decode cX12_cleanOf 24 = .ok (.iaload, 1) := by decide +kernel
theorem dX12_cleanOf_25 : decode cX12_cleanOf 25 = .ok (.if_icmp .gt 31, 3) := by decide +kernel
theorem dX12_cleanOf_28 : decode cX12_cleanOf 28 = .ok (.aload_n 0, 1) := by decide +kernel
theorem dX12_cleanOf_29 : decode cX12_cleanOf 29 = .ok (.iload_n 1, 1) := by decide +kernel
theorem dX12_cleanOf_30 : decode cX12_cleanOf 30 = .ok (.iload_n 3, 1) := by decide +kernel
theorem dX12_cleanOf_31 : decode cX12_cleanOf 31 = .ok (.invokevirtual 279, 3) := by decide +kernel
theorem dX12_cleanOf_34 : decode cX12_cleanOf 34 = .ok (.istore 4, 2) := by decide +kernel
theorem dX12_cleanOf_36 : decode cX12_cleanOf 36 = .ok (.iload_n 2, 1) := by decide +kernel
theorem dX12_cleanOf_37 : decode cX12_cleanOf 37 = .ok (.iload 4, 2) := by decide +kernel
theorem dX12_cleanOf_39 : decode cX12_cleanOf 39 = .ok (.ifCond .le 8, 3) := by decide +kernel
theorem dX12_cleanOf_42 : decode cX12_cleanOf 42 = .ok (.iload 4, 2) := by decide +kernel
theorem dX12_cleanOf_44 : decode cX12_cleanOf 44 = .ok (.goto 4, 3) := by decide +kernel
theorem dX12_cleanOf_47 : decode cX12_cleanOf 47 = .ok (.iconst 0, 1) := by decide +kernel
theorem dX12_cleanOf_48 : decode cX12_cleanOf 48 = .ok (.isub, 1) := by decide +kernel
theorem dX12_cleanOf_49 : decode cX12_cleanOf 49 = .ok (.istore_n 2, 1) := by decide +kernel
theorem dX12_cleanOf_50 : decode cX12_cleanOf 50 = .ok (.iinc 3 1, 3) := by decide +kernel
theorem dX12_cleanOf_53 : decode cX12_cleanOf 53 = .ok (.goto (-45), 3) := by decide +kernel
theorem dX12_cleanOf_56 : decode cX12_cleanOf 56 = .ok (.iload_n 2, 1) := by decide +kernel
theorem dX12_cleanOf_57 : decode cX12_cleanOf 57 = .ok (.ireturn, 1) := by decide +kernel
def f_X12_cleanOf_8 (v1 : Int32) : Nat → Int32 → Int32 → gSt → Option (Int32 × gSt)
  | 0, _, _, _ => none
  | n + 1, v2, v3, σ =>
    (gld σ 30 0 397 (37 + v1)).bind fun a22 =>
    (gld σ 30 0 397 (4 + a22)).bind fun a24 =>
    if a24 < v3 then
      some (v2, σ)
    else
      (f_X12_mistakeOf v1 v3 σ).bind fun p31 =>
      if p31.1 ≤ 0 then
        f_X12_cleanOf_8 v1 n (v2 - 0) (v3 + 1) p31.2
      else
        f_X12_cleanOf_8 v1 n (v2 - p31.1) (v3 + 1) p31.2
def f_X12_cleanOf (v1 : Int32) (σ : gSt) : Option (Int32 × gSt) :=
  (f_X12_totalOf v1 σ).bind fun p2 =>
  f_X12_cleanOf_8 v1 gFuel p2.1 0 p2.2
theorem f_X12_cleanOf_8_ok {v1 : Int32} {r : (Int32 × gSt)}  : ∀ (n : Nat) {v2 : Int32} {v3 : Int32} {σ : gSt} {x4 : Option Value}, f_X12_cleanOf_8 v1 n v2 v3 σ = some r → G l w 0 41 RX12 cX12_cleanOf 5 (some .int) 9 222 (gE (some (.int r.1)) r.2) 8 [some (.ref (w.2.1 28 0)), some (.int v1), some (.int v2), some (.int v3), x4] [] σ := by
  intro n
  induction n with
  | zero => intro v2 v3 σ x4 h; rw [f_X12_cleanOf_8] at h; cases h
  | succ n ih =>
    intro v2 v3 σ x4 h
    rw [f_X12_cleanOf_8] at h
    refine g_iload_n dX12_cleanOf_8 rfl ?_
    refine g_aload_n dX12_cleanOf_9 rfl ?_
    refine gR_X12_17 ok_28 dX12_cleanOf_10 ?_
    refine g_iconst dX12_cleanOf_13 kc_4 ?_
    refine g_aload_n dX12_cleanOf_14 rfl ?_
    refine gR_X12_17 ok_28 dX12_cleanOf_15 ?_
    refine g_bipush dX12_cleanOf_18 kb_37 ?_
    refine g_iload_n dX12_cleanOf_20 rfl ?_
    refine g_iadd dX12_cleanOf_21 ?_
    obtain ⟨a22, e22, h⟩ := obind h
    refine g_ldB e22 ok_30 rfl rfl (by decide) dX12_cleanOf_22 ?_
    refine g_iadd dX12_cleanOf_23 ?_
    obtain ⟨a24, e24, h⟩ := obind h
    refine g_ldB e24 ok_30 rfl rfl (by decide) dX12_cleanOf_24 ?_
    refine g_icmp_gt 56 dX12_cleanOf_25 rfl (fun q => ?_) (fun q => ?_)
    · replace h := gif_t q h
      refine g_iload_n dX12_cleanOf_56 rfl ?_
      cases h
      exact g_iret dX12_cleanOf_57 rfl ⟨rfl, rfl⟩
    · replace h := gif_f q h
      refine g_aload_n dX12_cleanOf_28 rfl ?_
      refine g_iload_n dX12_cleanOf_29 rfl ?_
      refine g_iload_n dX12_cleanOf_30 rfl ?_
      obtain ⟨p31, e31, h⟩ := obind h
      refine g_vP2 mv_X12_279 dX12_cleanOf_31 ok_28 ⟨by decide, by decide⟩ (Nat.le_of_ble_eq_true rfl) (f_X12_mistakeOf_ok e31) ?_
      refine g_istore4 dX12_cleanOf_34 ?_
      refine g_iload_n dX12_cleanOf_36 rfl ?_
      refine g_iload dX12_cleanOf_37 rfl ?_
      refine g_if_le 47 dX12_cleanOf_39 rfl (fun q => ?_) (fun q => ?_)
      · replace h := gif_t q h
        refine g_iconst dX12_cleanOf_47 kc_0 ?_
        refine g_isub dX12_cleanOf_48 ?_
        refine g_istore2 dX12_cleanOf_49 ?_
        refine g_inc3 kc_1 dX12_cleanOf_50 ?_
        refine g_goto 8 dX12_cleanOf_53 rfl ?_
        exact ih h
      · replace h := gif_f q h
        refine g_iload dX12_cleanOf_42 rfl ?_
        refine g_goto 48 dX12_cleanOf_44 rfl ?_
        refine g_isub dX12_cleanOf_48 ?_
        refine g_istore2 dX12_cleanOf_49 ?_
        refine g_inc3 kc_1 dX12_cleanOf_50 ?_
        refine g_goto 8 dX12_cleanOf_53 rfl ?_
        exact ih h
theorem f_X12_cleanOf_ok {v1 : Int32}  {σ : gSt} {r : (Int32 × gSt)} (h : f_X12_cleanOf v1 σ = some r) : Mt l w 0 41 yX12_cleanOf cX12_cleanOf 5 (some .int) 9 222 [.ref (w.2.1 28 0), .int v1] σ (gE (some (.int r.1)) r.2) := by
  unfold f_X12_cleanOf at h
  refine g_start pn_X12 rfl rfl (Nat.le_of_ble_eq_true rfl) ?_
  show G l w 0 41 RX12 cX12_cleanOf 5 (some .int) 9 222 (gE (some (.int r.1)) r.2) 0 [some (.ref (w.2.1 28 0)), some (.int v1), none, none, none] [] σ
  refine g_aload_n dX12_cleanOf_0 rfl ?_
  refine g_iload_n dX12_cleanOf_1 rfl ?_
  obtain ⟨p2, e2, h⟩ := obind h
  refine g_vP1 mv_X12_218 dX12_cleanOf_2 ok_28 ⟨by decide, by decide⟩ (Nat.le_of_ble_eq_true rfl) (f_X12_totalOf_ok e2) ?_
  refine g_istore2 dX12_cleanOf_5 ?_
  refine g_iconst dX12_cleanOf_6 kc_0 ?_
  refine g_istore3 dX12_cleanOf_7 ?_
  exact f_X12_cleanOf_8_ok gFuel h
theorem dX12_clean_0 : decode cX12_clean 0 = .ok (.aload_n 0, 1) := by decide +kernel
theorem dX12_clean_1 : decode cX12_clean 1 = .ok (.aload_n 0, 1) := by decide +kernel
theorem dX12_clean_2 : decode cX12_clean 2 = .ok (.iload_n 1, 1) := by decide +kernel
theorem dX12_clean_3 : decode cX12_clean 3 = .ok (.invokevirtual 187, 3) := by decide +kernel
theorem dX12_clean_6 : decode cX12_clean 6 = .ok (.invokestatic 234, 3) := by decide +kernel
theorem dX12_clean_9 : decode cX12_clean 9 = .ok (.invokevirtual 161, 3) := by decide +kernel
theorem dX12_clean_12 : decode cX12_clean 12 = .ok (.ifCond .eq 7, 3) := by decide +kernel
theorem dX12_clean_15 : decode cX12_clean 15 = .ok (.iconst (-1), 1) := by decide +kernel
theorem dX12_clean_16 : decode cX12_clean 16 = .ok (.goto 8, 3) := by decide +kernel
theorem dX12_clean_19 : decode cX12_clean 19 = .ok (.aload_n 0, 1) := by decide +kernel
theorem dX12_clean_20 : decode cX12_clean 20 = .ok (.iload_n 1, 1) := by decide +kernel
theorem dX12_clean_21 : decode cX12_clean 21 = .ok (.invokevirtual 291, 3) := by decide +kernel
theorem dX12_clean_24 : decode cX12_clean 24 = .ok (.ireturn, 1) := by decide +kernel
def f_X12_clean (v1 : Int32) (σ : gSt) : Option (Int32 × gSt) :=
  (f_X12_isRunner v1 σ).bind fun p3 =>
  (f_X12_unless p3.1 p3.2).bind fun p6 =>
  (f_X12_isRefused p6.1 p6.2).bind fun p9 =>
  if p9.1 = 0 then
    (f_X12_cleanOf v1 p9.2).bind fun p21 =>
    some (p21.1, p21.2)
  else
    some ((-1), p9.2)
theorem f_X12_clean_ok {v1 : Int32}  {σ : gSt} {r : (Int32 × gSt)} (h : f_X12_clean v1 σ = some r) : Mt l w 0 41 yX12_clean cX12_clean 2 (some .int) 10 246 [.ref (w.2.1 28 0), .int v1] σ (gE (some (.int r.1)) r.2) := by
  unfold f_X12_clean at h
  refine g_start pn_X12 rfl rfl (Nat.le_of_ble_eq_true rfl) ?_
  show G l w 0 41 RX12 cX12_clean 2 (some .int) 10 246 (gE (some (.int r.1)) r.2) 0 [some (.ref (w.2.1 28 0)), some (.int v1)] [] σ
  refine g_aload_n dX12_clean_0 rfl ?_
  refine g_aload_n dX12_clean_1 rfl ?_
  refine g_iload_n dX12_clean_2 rfl ?_
  obtain ⟨p3, e3, h⟩ := obind h
  refine g_vP1 mv_X12_187 dX12_clean_3 ok_28 ⟨by decide, by decide⟩ (Nat.le_of_ble_eq_true rfl) (f_X12_isRunner_ok e3) ?_
  obtain ⟨p6, e6, h⟩ := obind h
  refine g_sP1 ms_X12_234 dX12_clean_6 ⟨by decide, by decide⟩ (Nat.le_of_ble_eq_true rfl) (f_X12_unless_ok e6) ?_
  obtain ⟨p9, e9, h⟩ := obind h
  refine g_vP1 mv_X12_161 dX12_clean_9 ok_28 ⟨by decide, by decide⟩ (Nat.le_of_ble_eq_true rfl) (f_X12_isRefused_ok e9) ?_
  refine g_if_eq 19 dX12_clean_12 rfl (fun q => ?_) (fun q => ?_)
  · replace h := gif_t q h
    refine g_aload_n dX12_clean_19 rfl ?_
    refine g_iload_n dX12_clean_20 rfl ?_
    obtain ⟨p21, e21, h⟩ := obind h
    refine g_vP1 mv_X12_291 dX12_clean_21 ok_28 ⟨by decide, by decide⟩ (Nat.le_of_ble_eq_true rfl) (f_X12_cleanOf_ok e21) ?_
    cases h
    exact g_iret dX12_clean_24 rfl ⟨rfl, rfl⟩
  · replace h := gif_f q h
    refine g_iconst dX12_clean_15 kc_m1 ?_
    refine g_goto 24 dX12_clean_16 rfl ?_
    cases h
    exact g_iret dX12_clean_24 rfl ⟨rfl, rfl⟩
theorem dX12_cleanPlace_0 : decode cX12_cleanPlace 0 = .ok (.aload_n 0, 1) := by decide +kernel
theorem dX12_cleanPlace_1 : decode cX12_cleanPlace 1 = .ok (.aload_n 0, 1) := by decide +kernel
theorem dX12_cleanPlace_2 : decode cX12_cleanPlace 2 = .ok (.iload_n 1, 1) := by decide +kernel
theorem dX12_cleanPlace_3 : decode cX12_cleanPlace 3 = .ok (.invokevirtual 187, 3) := by decide +kernel
theorem dX12_cleanPlace_6 : decode cX12_cleanPlace 6 = .ok (.ifCond .eq 16, 3) := by decide +kernel
theorem dX12_cleanPlace_9 : decode cX12_cleanPlace 9 = .ok (.iload_n 2, 1) := by decide +kernel
theorem dX12_cleanPlace_10 : decode cX12_cleanPlace 10 = .ok (.iconst 0, 1) := by decide +kernel
theorem dX12_cleanPlace_11 : decode cX12_cleanPlace 11 = .ok (.iconst 1, 1) := by decide +kernel
theorem dX12_cleanPlace_12 : decode cX12_cleanPlace 12 = .ok (.invokestatic 79, 3) := by decide +kernel
theorem dX12_cleanPlace_15 : decode cX12_cleanPlace 15 = .ok (.ifCond .eq 7, 3) := by decide +kernel
theorem dX12_cleanPlace_18 : decode cX12_cleanPlace 18 = .ok (.iconst 1, 1) := by decide +kernel
theorem dX12_cleanPlace_19 : decode cX12_cleanPlace 19 = .ok (.goto 4, 3) := by decide +kernel
theorem dX12_cleanPlace_22 : decode cX12_cleanPlace 22 = .ok (.iconst 0, 1) := by decide +kernel
theorem dX12_cleanPlace_23 : decode cX12_cleanPlace 23 = .ok (.invokestatic 234, 3) := by decide +kernel
theorem dX12_cleanPlace_26 : decode cX12_cleanPlace 26 = .ok (.invokevirtual 161, 3) := by decide +kernel
theorem dX12_cleanPlace_29 : decode cX12_cleanPlace 29 = .ok (.ifCond .eq 5, 3) := by decide +kernel
theorem dX12_cleanPlace_32 : decode cX12_cleanPlace 32 = .ok (.iconst (-1), 1) := by decide +kernel
theorem dX12_cleanPlace_33 : decode cX12_cleanPlace 33 = .ok (.ireturn, 1) := by decide +kernel
theorem dX12_cleanPlace_34 : decode cX12_cleanPlace 34 = .ok (.aload_n 0, 1) := by decide +kernel
theorem dX12_cleanPlace_35 : decode cX12_cleanPlace 35 = .ok (.iload_n 1, 1) := by decide +kernel
theorem dX12_cleanPlace_36 : decode cX12_cleanPlace 36 = .ok (.invokevirtual 215, 3) := by decide +kernel
theorem dX12_cleanPlace_39 : decode cX12_cleanPlace 39 = .ok (.ifCond .ne 6, 3) := by decide +kernel
theorem dX12_cleanPlace_42 : decode cX12_cleanPlace 42 = .ok (.bipush (-2), 2) := by decide +kernel
theorem dX12_cleanPlace_44 : decode cX12_cleanPlace 44 = .ok (.ireturn, 1) := by decide +kernel
theorem dX12_cleanPlace_45 : decode cX12_cleanPlace 45 = .ok (.aload_n 0, 1) := by decide +kernel
theorem dX12_cleanPlace_46 : decode cX12_cleanPlace 46 = .ok (.iload_n 1, 1) := by decide +kernel
theorem dX12_cleanPlace_47 : decode cX12_cleanPlace 47 = .ok (.invokevirtual 291, 3) := by decide +kernel
theorem dX12_cleanPlace_50 : decode cX12_cleanPlace 50 = .ok (.istore_n 3, 1) := by decide +kernel
theorem dX12_cleanPlace_51 : decode cX12_cleanPlace 51 = .ok (.iconst 1, 1) := by decide +kernel
theorem dX12_cleanPlace_52 : decode cX12_cleanPlace 52 = .ok (.istore 4, 2) := by decide +kernel
theorem dX12_cleanPlace_54 : decode cX12_cleanPlace 54 = .ok (.iconst 0, 1) := by decide +kernel
theorem dX12_cleanPlace_55 : decode cX12_cleanPlace 55 = .ok (.istore 5, 2) := by decide +kernel
theorem dX12_cleanPlace_57 : decode cX12_cleanPlace 57 = .ok (.iload 5, 2) := by decide +kernel
theorem dX12_cleanPlace_59 : decode cX12_cleanPlace 59 = .ok (.aload_n 0, 1) := by decide +kernel
theorem dX12_cleanPlace_60 : decode cX12_cleanPlace 60 = .ok (.getfield 17, 3) := by decide +kernel
theorem dX12_cleanPlace_63 : decode cX12_cleanPlace 63 = .ok (.iconst 1, 1) := by decide +kernel
theorem dX12_cleanPlace_64 : decode cX12_cleanPlace 64 = .ok (.iaload, 1) := by decide +kernel
theorem dX12_cleanPlace_65 : decode cX12_cleanPlace 65 = .ok (.if_icmp .ge 91, 3) := by decide +kernel
theorem dX12_cleanPlace_68 : decode cX12_cleanPlace 68 = .ok (.iload 5, 2) := by decide +kernel
theorem dX12_cleanPlace_70 : decode cX12_cleanPlace 70 = .ok (.iload_n 1, 1) := by decide +kernel
theorem dX12_cleanPlace_71 : decode cX12_cleanPlace 71 = .ok (.if_icmp .eq 38, 3) := by decide +kernel
theorem dX12_cleanPlace_74 : decode cX12_cleanPlace 74 = .ok (.aload_n 0, 1) := by decide +kernel
theorem dX12_cleanPlace_75 : decode cX12_cleanPlace 75 = .ok (.getfield 17, 3) := by decide +kernel
theorem dX12_cleanPlace_78 : decode cX12_cleanPlace 78 = .ok (.bipush 37, 2) := by decide +kernel
theorem dX12_cleanPlace_80 : decode cX12_cleanPlace 80 = .ok (.iload 5, 2) := by decide +kernel
theorem dX12_cleanPlace_82 : decode cX12_cleanPlace 82 = .ok (.iadd, 1) := by decide +kernel
theorem dX12_cleanPlace_83 : decode cX12_cleanPlace 83 = .ok (.iaload, 1) := by decide +kernel
theorem dX12_cleanPlace_84 : decode cX12_cleanPlace 84 = .ok (.aload_n 0, 1) := by decide +kernel
theorem dX12_cleanPlace_85 : decode cX12_cleanPlace 85 = .ok (.getfield 17, 3) := by decide +kernel
theorem dX12_cleanPlace_88 : decode cX12_cleanPlace 88 = .ok (.bipush 37, 2) := by decide +kernel
theorem dX12_cleanPlace_90 : decode cX12_cleanPlace 90 = .ok (.iload_n 1, 1) := by decide +kernel
theorem dX12_cleanPlace_91 : decode cX12_cleanPlace 91 = .ok (.iadd, 1) := by decide +kernel
theorem dX12_cleanPlace_92 : decode cX12_cleanPlace 92 = .ok (.iaload, 1) := by decide +kernel
theorem dX12_cleanPlace_93 : decode cX12_cleanPlace 93 = .ok (.if_icmp .ne 16, 3) := by decide +kernel
theorem dX12_cleanPlace_96 : decode cX12_cleanPlace 96 = .ok (.aload_n 0, 1) := by decide +kernel
theorem dX12_cleanPlace_97 : decode cX12_cleanPlace 97 = .ok (.iload 5, 2) := by decide +kernel
theorem dX12_cleanPlace_99 : decode cX12_cleanPlace 99 = .ok (.invokevirtual 215, 3) := by decide +kernel
theorem dX12_cleanPlace_102 : decode cX12_cleanPlace 102 = .ok (.ifCond .eq 7, 3) := by decide +kernel
theorem dX12_cleanPlace_105 : decode cX12_cleanPlace 105 = .ok (.iconst 1, 1) := by decide +kernel
theorem dX12_cleanPlace_106 : decode cX12_cleanPlace 106 = .ok (.goto 4, 3) := by decide +kernel
theorem dX12_cleanPlace_109 : decode cX12_cleanPlace 109 = .ok (.iconst 0, 1) := by decide +kernel
theorem dX12_cleanPlace_110 : decode cX12_cleanPlace 110 = .ok (.istore 6, 2) := by decide +kernel
theorem dX12_cleanPlace_112 : decode cX12_cleanPlace 112 = .ok (.iload 4, 2) := by decide +kernel
theorem dX12_cleanPlace_114 : decode cX12_cleanPlace 114 = .ok (.iload 6, 2) := by decide +kernel
theorem dX12_cleanPlace_116 : decode cX12_cleanPlace 116 = .ok (.ifCond .eq 30, 3) := by decide +kernel
theorem dX12_cleanPlace_119 : decode cX12_cleanPlace 119 = .ok (.iload_n 2, 1) := by decide +kernel
theorem dX12_cleanPlace_120 : decode cX12_cleanPlace 120 = .ok (.ifCond .ne 12, 3) := by decide +kernel
theorem dX12_cleanPlace_123 : decode cX12_cleanPlace 123 = .ok (.aload_n 0, 1) := by decide +kernel
theorem dX12_cleanPlace_124 : decode cX12_cleanPlace 124 = .ok (.iload 5, 2) := by decide +kernel
theorem dX12_cleanPlace_126 : decode cX12_cleanPlace 126 = .ok (.invokevirtual 218, 3) := by decide +kernel
theorem dX12_cleanPlace_129 : decode cX12_cleanPlace 129 = .ok (.goto 9, 3) := by decide +kernel
theorem dX12_cleanPlace_132 : decode cX12_cleanPlace 132 = .ok (.aload_n 0, 1) := by decide +kernel
theorem dX12_cleanPlace_133 : decode cX12_cleanPlace 133 = .ok (.iload 5, 2) := by decide +kernel
theorem dX12_cleanPlace_135 : decode cX12_cleanPlace 135 = .ok (.invokevirtual 291, 3) := by decide +kernel
theorem dX12_cleanPlace_138 : decode cX12_cleanPlace 138 = .ok (.iload_n 3, 1) := by decide +kernel
theorem dX12_cleanPlace_139 : decode cX12_cleanPlace 139 = .ok (.if_icmp .ge 7, 3) := by decide +kernel
theorem dX12_cleanPlace_142 : decode cX12_cleanPlace 142 = .ok (.iconst 1, 1) := by decide +kernel
theorem dX12_cleanPlace_143 : decode cX12_cleanPlace 143 = .ok (.goto 4, 3) := by decide +kernel
theorem dX12_cleanPlace_146 : decode cX12_cleanPlace 146 = .ok (.iconst 0, 1) := by decide +kernel
theorem dX12_cleanPlace_147 : decode cX12_cleanPlace 147 = .ok (.iadd, 1) := by decide +kernel
theorem dX12_cleanPlace_148 : decode cX12_cleanPlace 148 = .ok (.istore 4, 2) := by decide +kernel
theorem dX12_cleanPlace_150 : decode cX12_cleanPlace 150 = .ok (.iinc 5 1, 3) := by decide +kernel
theorem dX12_cleanPlace_153 : decode cX12_cleanPlace 153 = .ok (.goto (-96), 3) := by decide +kernel
theorem dX12_cleanPlace_156 : decode cX12_cleanPlace 156 = .ok (.iload 4, 2) := by decide +kernel
theorem dX12_cleanPlace_158 : decode cX12_cleanPlace 158 = .ok (.ireturn, 1) := by decide +kernel
def f_X12_cleanPlace_138 (v1 : Int32) (v2 : Int32) (v3 : Int32) (v5 : Int32) (k57 : Int32 → Int32 → gSt → Option (Int32 × gSt)) (vs0 : Int32) (vs1 : Int32) (σ : gSt) : Option (Int32 × gSt) :=
  if v3 ≤ vs1 then
    k57 (vs0 + 0) (v5 + 1) σ
  else
    k57 (vs0 + 1) (v5 + 1) σ
def f_X12_cleanPlace_110 (v1 : Int32) (v2 : Int32) (v3 : Int32) (v4 : Int32) (v5 : Int32) (k57 : Int32 → Int32 → gSt → Option (Int32 × gSt)) (vs0 : Int32) (σ : gSt) : Option (Int32 × gSt) :=
  if vs0 = 0 then
    k57 (v4 + 0) (v5 + 1) σ
  else
    if v2 = 0 then
      (f_X12_totalOf v5 σ).bind fun p126 =>
      f_X12_cleanPlace_138 v1 v2 v3 v5 k57 v4 p126.1 p126.2
    else
      (f_X12_cleanOf v5 σ).bind fun p135 =>
      f_X12_cleanPlace_138 v1 v2 v3 v5 k57 v4 p135.1 p135.2
def f_X12_cleanPlace_109 (v1 : Int32) (v2 : Int32) (v3 : Int32) (v4 : Int32) (v5 : Int32) (k57 : Int32 → Int32 → gSt → Option (Int32 × gSt)) (σ : gSt) : Option (Int32 × gSt) :=
  f_X12_cleanPlace_110 v1 v2 v3 v4 v5 k57 0 σ
def f_X12_cleanPlace_57 (v1 : Int32) (v2 : Int32) (v3 : Int32) : Nat → Int32 → Int32 → gSt → Option (Int32 × gSt)
  | 0, _, _, _ => none
  | n + 1, v4, v5, σ =>
    (gld σ 30 0 397 1).bind fun a64 =>
    if a64 ≤ v5 then
      some (v4, σ)
    else
      if v5 = v1 then
        f_X12_cleanPlace_109 v1 v2 v3 v4 v5 (fun v4 v5 σ => f_X12_cleanPlace_57 v1 v2 v3 n v4 v5 σ) σ
      else
        (gld σ 30 0 397 (37 + v5)).bind fun a83 =>
        (gld σ 30 0 397 (37 + v1)).bind fun a92 =>
        if a83 = a92 then
          (f_X12_isValid v5 σ).bind fun p99 =>
          if p99.1 = 0 then
            f_X12_cleanPlace_109 v1 v2 v3 v4 v5 (fun v4 v5 σ => f_X12_cleanPlace_57 v1 v2 v3 n v4 v5 σ) p99.2
          else
            f_X12_cleanPlace_110 v1 v2 v3 v4 v5 (fun v4 v5 σ => f_X12_cleanPlace_57 v1 v2 v3 n v4 v5 σ) 1 p99.2
        else
          f_X12_cleanPlace_109 v1 v2 v3 v4 v5 (fun v4 v5 σ => f_X12_cleanPlace_57 v1 v2 v3 n v4 v5 σ) σ
def f_X12_cleanPlace_23 (v1 : Int32) (v2 : Int32) (vs1 : Int32) (σ : gSt) : Option (Int32 × gSt) :=
  (f_X12_unless vs1 σ).bind fun p23 =>
  (f_X12_isRefused p23.1 p23.2).bind fun p26 =>
  if p26.1 = 0 then
    (f_X12_isValid v1 p26.2).bind fun p36 =>
    if p36.1 = 0 then
      some ((-2), p36.2)
    else
      (f_X12_cleanOf v1 p36.2).bind fun p47 =>
      f_X12_cleanPlace_57 v1 v2 p47.1 gFuel 1 0 p47.2
  else
    some ((-1), p26.2)
def f_X12_cleanPlace_22 (v1 : Int32) (v2 : Int32) (σ : gSt) : Option (Int32 × gSt) :=
  f_X12_cleanPlace_23 v1 v2 0 σ
def f_X12_cleanPlace (v1 : Int32) (v2 : Int32) (σ : gSt) : Option (Int32 × gSt) :=
  (f_X12_isRunner v1 σ).bind fun p3 =>
  if p3.1 = 0 then
    f_X12_cleanPlace_22 v1 v2 p3.2
  else
    (f_X12_in v2 0 1 p3.2).bind fun p12 =>
    if p12.1 = 0 then
      f_X12_cleanPlace_22 v1 v2 p12.2
    else
      f_X12_cleanPlace_23 v1 v2 1 p12.2
theorem f_X12_cleanPlace_138_ok {v1 : Int32} {v2 : Int32} {v3 : Int32} {v5 : Int32} {k57 : Int32 → Int32 → gSt → Option (Int32 × gSt)} {vs0 : Int32} {vs1 : Int32} {r : (Int32 × gSt)} (hk57 : ∀ {v4 : Int32} {v5 : Int32} {σ : gSt} {x6 : Option Value}, k57 v4 v5 σ = some r → G l w 0 41 RX12 cX12_cleanPlace 7 (some .int) 10 246 (gE (some (.int r.1)) r.2) 57 [some (.ref (w.2.1 28 0)), some (.int v1), some (.int v2), some (.int v3), some (.int v4), some (.int v5), x6] [] σ) {σ : gSt} {x4 x6 : Option Value} (h : f_X12_cleanPlace_138 v1 v2 v3 v5 k57 vs0 vs1 σ = some r) : G l w 0 41 RX12 cX12_cleanPlace 7 (some .int) 10 246 (gE (some (.int r.1)) r.2) 138 [some (.ref (w.2.1 28 0)), some (.int v1), some (.int v2), some (.int v3), x4, some (.int v5), x6] [.int vs1, .int vs0] σ := by
  unfold f_X12_cleanPlace_138 at h
  refine g_iload_n dX12_cleanPlace_138 rfl ?_
  refine g_icmp_ge 146 dX12_cleanPlace_139 rfl (fun q => ?_) (fun q => ?_)
  · replace h := gif_t q h
    refine g_iconst dX12_cleanPlace_146 kc_0 ?_
    refine g_iadd dX12_cleanPlace_147 ?_
    refine g_istore4 dX12_cleanPlace_148 ?_
    refine g_inc5 kc_1 dX12_cleanPlace_150 ?_
    refine g_goto 57 dX12_cleanPlace_153 rfl ?_
    exact hk57 h
  · replace h := gif_f q h
    refine g_iconst dX12_cleanPlace_142 kc_1 ?_
    refine g_goto 147 dX12_cleanPlace_143 rfl ?_
    refine g_iadd dX12_cleanPlace_147 ?_
    refine g_istore4 dX12_cleanPlace_148 ?_
    refine g_inc5 kc_1 dX12_cleanPlace_150 ?_
    refine g_goto 57 dX12_cleanPlace_153 rfl ?_
    exact hk57 h
theorem f_X12_cleanPlace_110_ok {v1 : Int32} {v2 : Int32} {v3 : Int32} {v4 : Int32} {v5 : Int32} {k57 : Int32 → Int32 → gSt → Option (Int32 × gSt)} {vs0 : Int32} {r : (Int32 × gSt)} (hk57 : ∀ {v4 : Int32} {v5 : Int32} {σ : gSt} {x6 : Option Value}, k57 v4 v5 σ = some r → G l w 0 41 RX12 cX12_cleanPlace 7 (some .int) 10 246 (gE (some (.int r.1)) r.2) 57 [some (.ref (w.2.1 28 0)), some (.int v1), some (.int v2), some (.int v3), some (.int v4), some (.int v5), x6] [] σ) {σ : gSt} {x6 : Option Value} (h : f_X12_cleanPlace_110 v1 v2 v3 v4 v5 k57 vs0 σ = some r) : G l w 0 41 RX12 cX12_cleanPlace 7 (some .int) 10 246 (gE (some (.int r.1)) r.2) 110 [some (.ref (w.2.1 28 0)), some (.int v1), some (.int v2), some (.int v3), some (.int v4), some (.int v5), x6] [.int vs0] σ := by
  unfold f_X12_cleanPlace_110 at h
  refine g_istore6 dX12_cleanPlace_110 ?_
  refine g_iload dX12_cleanPlace_112 rfl ?_
  refine g_iload dX12_cleanPlace_114 rfl ?_
  refine g_if_eq 146 dX12_cleanPlace_116 rfl (fun q => ?_) (fun q => ?_)
  · replace h := gif_t q h
    refine g_iconst dX12_cleanPlace_146 kc_0 ?_
    refine g_iadd dX12_cleanPlace_147 ?_
    refine g_istore4 dX12_cleanPlace_148 ?_
    refine g_inc5 kc_1 dX12_cleanPlace_150 ?_
    refine g_goto 57 dX12_cleanPlace_153 rfl ?_
    exact hk57 h
  · replace h := gif_f q h
    refine g_iload_n dX12_cleanPlace_119 rfl ?_
    refine g_if_ne 132 dX12_cleanPlace_120 rfl (fun q => ?_) (fun q => ?_)
    · replace h := gif_f q h
      refine g_aload_n dX12_cleanPlace_132 rfl ?_
      refine g_iload dX12_cleanPlace_133 rfl ?_
      obtain ⟨p135, e135, h⟩ := obind h
      refine g_vP1 mv_X12_291 dX12_cleanPlace_135 ok_28 ⟨by decide, by decide⟩ (Nat.le_of_ble_eq_true rfl) (f_X12_cleanOf_ok e135) ?_
      exact f_X12_cleanPlace_138_ok hk57 h
    · replace h := gif_t q h
      refine g_aload_n dX12_cleanPlace_123 rfl ?_
      refine g_iload dX12_cleanPlace_124 rfl ?_
      obtain ⟨p126, e126, h⟩ := obind h
      refine g_vP1 mv_X12_218 dX12_cleanPlace_126 ok_28 ⟨by decide, by decide⟩ (Nat.le_of_ble_eq_true rfl) (f_X12_totalOf_ok e126) ?_
      refine g_goto 138 dX12_cleanPlace_129 rfl ?_
      exact f_X12_cleanPlace_138_ok hk57 h
theorem f_X12_cleanPlace_109_ok {v1 : Int32} {v2 : Int32} {v3 : Int32} {v4 : Int32} {v5 : Int32} {k57 : Int32 → Int32 → gSt → Option (Int32 × gSt)} {r : (Int32 × gSt)} (hk57 : ∀ {v4 : Int32} {v5 : Int32} {σ : gSt} {x6 : Option Value}, k57 v4 v5 σ = some r → G l w 0 41 RX12 cX12_cleanPlace 7 (some .int) 10 246 (gE (some (.int r.1)) r.2) 57 [some (.ref (w.2.1 28 0)), some (.int v1), some (.int v2), some (.int v3), some (.int v4), some (.int v5), x6] [] σ) {σ : gSt} {x6 : Option Value} (h : f_X12_cleanPlace_109 v1 v2 v3 v4 v5 k57 σ = some r) : G l w 0 41 RX12 cX12_cleanPlace 7 (some .int) 10 246 (gE (some (.int r.1)) r.2) 109 [some (.ref (w.2.1 28 0)), some (.int v1), some (.int v2), some (.int v3), some (.int v4), some (.int v5), x6] [] σ := by
  unfold f_X12_cleanPlace_109 at h
  refine g_iconst dX12_cleanPlace_109 kc_0 ?_
  exact f_X12_cleanPlace_110_ok hk57 h
theorem f_X12_cleanPlace_57_ok {v1 : Int32} {v2 : Int32} {v3 : Int32} {r : (Int32 × gSt)}  : ∀ (n : Nat) {v4 : Int32} {v5 : Int32} {σ : gSt} {x6 : Option Value}, f_X12_cleanPlace_57 v1 v2 v3 n v4 v5 σ = some r → G l w 0 41 RX12 cX12_cleanPlace 7 (some .int) 10 246 (gE (some (.int r.1)) r.2) 57 [some (.ref (w.2.1 28 0)), some (.int v1), some (.int v2), some (.int v3), some (.int v4), some (.int v5), x6] [] σ := by
  intro n
  induction n with
  | zero => intro v4 v5 σ x6 h; rw [f_X12_cleanPlace_57] at h; cases h
  | succ n ih =>
    intro v4 v5 σ x6 h
    rw [f_X12_cleanPlace_57] at h
    refine g_iload dX12_cleanPlace_57 rfl ?_
    refine g_aload_n dX12_cleanPlace_59 rfl ?_
    refine gR_X12_17 ok_28 dX12_cleanPlace_60 ?_
    refine g_iconst dX12_cleanPlace_63 kc_1 ?_
    obtain ⟨a64, e64, h⟩ := obind h
    refine g_ldB e64 ok_30 rfl rfl (by decide) dX12_cleanPlace_64 ?_
    refine g_icmp_ge 156 dX12_cleanPlace_65 rfl (fun q => ?_) (fun q => ?_)
    · replace h := gif_t q h
      refine g_iload dX12_cleanPlace_156 rfl ?_
      cases h
      exact g_iret dX12_cleanPlace_158 rfl ⟨rfl, rfl⟩
    · replace h := gif_f q h
      refine g_iload dX12_cleanPlace_68 rfl ?_
      refine g_iload_n dX12_cleanPlace_70 rfl ?_
      refine g_icmp_eq 109 dX12_cleanPlace_71 rfl (fun q => ?_) (fun q => ?_)
      · replace h := gif_t q h
        exact f_X12_cleanPlace_109_ok (fun h => ih h) h
      · replace h := gif_f q h
        refine g_aload_n dX12_cleanPlace_74 rfl ?_
        refine gR_X12_17 ok_28 dX12_cleanPlace_75 ?_
        refine g_bipush dX12_cleanPlace_78 kb_37 ?_
        refine g_iload dX12_cleanPlace_80 rfl ?_
        refine g_iadd dX12_cleanPlace_82 ?_
        obtain ⟨a83, e83, h⟩ := obind h
        refine g_ldB e83 ok_30 rfl rfl (by decide) dX12_cleanPlace_83 ?_
        refine g_aload_n dX12_cleanPlace_84 rfl ?_
        refine gR_X12_17 ok_28 dX12_cleanPlace_85 ?_
        refine g_bipush dX12_cleanPlace_88 kb_37 ?_
        refine g_iload_n dX12_cleanPlace_90 rfl ?_
        refine g_iadd dX12_cleanPlace_91 ?_
        obtain ⟨a92, e92, h⟩ := obind h
        refine g_ldB e92 ok_30 rfl rfl (by decide) dX12_cleanPlace_92 ?_
        refine g_icmp_ne 109 dX12_cleanPlace_93 rfl (fun q => ?_) (fun q => ?_)
        · replace h := gif_f q h
          exact f_X12_cleanPlace_109_ok (fun h => ih h) h
        · replace h := gif_t q h
          refine g_aload_n dX12_cleanPlace_96 rfl ?_
          refine g_iload dX12_cleanPlace_97 rfl ?_
          obtain ⟨p99, e99, h⟩ := obind h
          refine g_vP1 mv_X12_215 dX12_cleanPlace_99 ok_28 ⟨by decide, by decide⟩ (Nat.le_of_ble_eq_true rfl) (f_X12_isValid_ok e99) ?_
          refine g_if_eq 109 dX12_cleanPlace_102 rfl (fun q => ?_) (fun q => ?_)
          · replace h := gif_t q h
            exact f_X12_cleanPlace_109_ok (fun h => ih h) h
          · replace h := gif_f q h
            refine g_iconst dX12_cleanPlace_105 kc_1 ?_
            refine g_goto 110 dX12_cleanPlace_106 rfl ?_
            exact f_X12_cleanPlace_110_ok (fun h => ih h) h
theorem f_X12_cleanPlace_23_ok {v1 : Int32} {v2 : Int32} {vs1 : Int32} {r : (Int32 × gSt)}  {σ : gSt} {x3 x4 x5 x6 : Option Value} (h : f_X12_cleanPlace_23 v1 v2 vs1 σ = some r) : G l w 0 41 RX12 cX12_cleanPlace 7 (some .int) 10 246 (gE (some (.int r.1)) r.2) 23 [some (.ref (w.2.1 28 0)), some (.int v1), some (.int v2), x3, x4, x5, x6] [.int vs1, .ref (w.2.1 28 0)] σ := by
  unfold f_X12_cleanPlace_23 at h
  obtain ⟨p23, e23, h⟩ := obind h
  refine g_sP1 ms_X12_234 dX12_cleanPlace_23 ⟨by decide, by decide⟩ (Nat.le_of_ble_eq_true rfl) (f_X12_unless_ok e23) ?_
  obtain ⟨p26, e26, h⟩ := obind h
  refine g_vP1 mv_X12_161 dX12_cleanPlace_26 ok_28 ⟨by decide, by decide⟩ (Nat.le_of_ble_eq_true rfl) (f_X12_isRefused_ok e26) ?_
  refine g_if_eq 34 dX12_cleanPlace_29 rfl (fun q => ?_) (fun q => ?_)
  · replace h := gif_t q h
    refine g_aload_n dX12_cleanPlace_34 rfl ?_
    refine g_iload_n dX12_cleanPlace_35 rfl ?_
    obtain ⟨p36, e36, h⟩ := obind h
    refine g_vP1 mv_X12_215 dX12_cleanPlace_36 ok_28 ⟨by decide, by decide⟩ (Nat.le_of_ble_eq_true rfl) (f_X12_isValid_ok e36) ?_
    refine g_if_ne 45 dX12_cleanPlace_39 rfl (fun q => ?_) (fun q => ?_)
    · replace h := gif_f q h
      refine g_aload_n dX12_cleanPlace_45 rfl ?_
      refine g_iload_n dX12_cleanPlace_46 rfl ?_
      obtain ⟨p47, e47, h⟩ := obind h
      refine g_vP1 mv_X12_291 dX12_cleanPlace_47 ok_28 ⟨by decide, by decide⟩ (Nat.le_of_ble_eq_true rfl) (f_X12_cleanOf_ok e47) ?_
      refine g_istore3 dX12_cleanPlace_50 ?_
      refine g_iconst dX12_cleanPlace_51 kc_1 ?_
      refine g_istore4 dX12_cleanPlace_52 ?_
      refine g_iconst dX12_cleanPlace_54 kc_0 ?_
      refine g_istore5 dX12_cleanPlace_55 ?_
      exact f_X12_cleanPlace_57_ok gFuel h
    · replace h := gif_t q h
      refine g_bipush dX12_cleanPlace_42 kb_m2 ?_
      cases h
      exact g_iret dX12_cleanPlace_44 rfl ⟨rfl, rfl⟩
  · replace h := gif_f q h
    refine g_iconst dX12_cleanPlace_32 kc_m1 ?_
    cases h
    exact g_iret dX12_cleanPlace_33 rfl ⟨rfl, rfl⟩
theorem f_X12_cleanPlace_22_ok {v1 : Int32} {v2 : Int32} {r : (Int32 × gSt)}  {σ : gSt} {x3 x4 x5 x6 : Option Value} (h : f_X12_cleanPlace_22 v1 v2 σ = some r) : G l w 0 41 RX12 cX12_cleanPlace 7 (some .int) 10 246 (gE (some (.int r.1)) r.2) 22 [some (.ref (w.2.1 28 0)), some (.int v1), some (.int v2), x3, x4, x5, x6] [.ref (w.2.1 28 0)] σ := by
  unfold f_X12_cleanPlace_22 at h
  refine g_iconst dX12_cleanPlace_22 kc_0 ?_
  exact f_X12_cleanPlace_23_ok h
theorem f_X12_cleanPlace_ok {v1 : Int32} {v2 : Int32}  {σ : gSt} {r : (Int32 × gSt)} (h : f_X12_cleanPlace v1 v2 σ = some r) : Mt l w 0 41 yX12_cleanPlace cX12_cleanPlace 7 (some .int) 10 246 [.ref (w.2.1 28 0), .int v1, .int v2] σ (gE (some (.int r.1)) r.2) := by
  unfold f_X12_cleanPlace at h
  refine g_start pn_X12 rfl rfl (Nat.le_of_ble_eq_true rfl) ?_
  show G l w 0 41 RX12 cX12_cleanPlace 7 (some .int) 10 246 (gE (some (.int r.1)) r.2) 0 [some (.ref (w.2.1 28 0)), some (.int v1), some (.int v2), none, none, none, none] [] σ
  refine g_aload_n dX12_cleanPlace_0 rfl ?_
  refine g_aload_n dX12_cleanPlace_1 rfl ?_
  refine g_iload_n dX12_cleanPlace_2 rfl ?_
  obtain ⟨p3, e3, h⟩ := obind h
  refine g_vP1 mv_X12_187 dX12_cleanPlace_3 ok_28 ⟨by decide, by decide⟩ (Nat.le_of_ble_eq_true rfl) (f_X12_isRunner_ok e3) ?_
  refine g_if_eq 22 dX12_cleanPlace_6 rfl (fun q => ?_) (fun q => ?_)
  · replace h := gif_t q h
    exact f_X12_cleanPlace_22_ok h
  · replace h := gif_f q h
    refine g_iload_n dX12_cleanPlace_9 rfl ?_
    refine g_iconst dX12_cleanPlace_10 kc_0 ?_
    refine g_iconst dX12_cleanPlace_11 kc_1 ?_
    obtain ⟨p12, e12, h⟩ := obind h
    refine g_sP3 ms_X12_79 dX12_cleanPlace_12 ⟨by decide, by decide⟩ (Nat.le_of_ble_eq_true rfl) (f_X12_in_ok e12) ?_
    refine g_if_eq 22 dX12_cleanPlace_15 rfl (fun q => ?_) (fun q => ?_)
    · replace h := gif_t q h
      exact f_X12_cleanPlace_22_ok h
    · replace h := gif_f q h
      refine g_iconst dX12_cleanPlace_18 kc_1 ?_
      refine g_goto 23 dX12_cleanPlace_19 rfl ?_
      exact f_X12_cleanPlace_23_ok h
theorem dX12_laysMet_0 : decode cX12_laysMet 0 = .ok (.aload_n 0, 1) := by decide +kernel
theorem dX12_laysMet_1 : decode cX12_laysMet 1 = .ok (.iconst 0, 1) := by decide +kernel
theorem dX12_laysMet_2 : decode cX12_laysMet 2 = .ok (.putfield 294, 3) := by decide +kernel
theorem dX12_laysMet_5 : decode cX12_laysMet 5 = .ok (.iconst 0, 1) := by decide +kernel
theorem dX12_laysMet_6 : decode cX12_laysMet 6 = .ok (.istore_n 2, 1) := by decide +kernel
theorem dX12_laysMet_7 : decode cX12_laysMet 7 = .ok (.iload_n 2, 1) := by decide +kernel
theorem dX12_laysMet_8 : decode cX12_laysMet 8 = .ok (.aload_n 0, 1) := by decide +kernel
theorem dX12_laysMet_9 : decode cX12_laysMet 9 = .ok (.getfield 17, 3) := by decide +kernel
theorem dX12_laysMet_12 : decode cX12_laysMet 12 = .ok (.iconst 1, 1) := by decide +kernel
theorem dX12_laysMet_13 : decode cX12_laysMet 13 = .ok (.iaload, 1) := by decide +kernel
theorem dX12_laysMet_14 : decode cX12_laysMet 14 = .ok (.if_icmp .ge 171, 3) := by decide +kernel
theorem dX12_laysMet_17 : decode cX12_laysMet 17 = .ok (.aload_n 0, 1) := by decide +kernel
theorem dX12_laysMet_18 : decode cX12_laysMet 18 = .ok (.iload_n 2, 1) := by decide +kernel
theorem dX12_laysMet_19 : decode cX12_laysMet 19 = .ok (.invokevirtual 206, 3) := by decide +kernel
theorem dX12_laysMet_22 : decode cX12_laysMet 22 = .ok (.pop, 1) := by decide +kernel
theorem dX12_laysMet_23 : decode cX12_laysMet 23 = .ok (.iconst 0, 1) := by decide +kernel
theorem dX12_laysMet_24 : decode cX12_laysMet 24 = .ok (.istore_n 3, 1) := by decide +kernel
theorem dX12_laysMet_25 : decode cX12_laysMet 25 = .ok (.iload_n 3, 1) := by decide +kernel
theorem dX12_laysMet_26 : decode cX12_laysMet 26 = .ok (.aload_n 0, 1) := by decide +kernel
theorem dX12_laysMet_27 : decode cX12_laysMet 27 = .ok (.getfield 17, 3) := by decide +kernel
theorem dX12_laysMet_30 : decode cX12_laysMet 30 = .ok (.iconst 4, 1) := by decide +kernel
theorem dX12_laysMet_31 : decode cX12_laysMet 31 = .ok (.aload_n 0, 1) := by decide +kernel
theorem dX12_laysMet_32 : decode cX12_laysMet 32 = .ok (.getfield 17, 3) := by decide +kernel
theorem dX12_laysMet_35 : decode cX12_laysMet 35 = .ok (.bipush 37, 2) := by decide +kernel
theorem dX12_laysMet_37 : decode cX12_laysMet 37 = .ok (.iload_n 2, 1) := by decide +kernel
theorem dX12_laysMet_38 : decode cX12_laysMet 38 = .ok (.iadd, 1) := by decide +kernel
theorem dX12_laysMet_39 : decode cX12_laysMet 39 = .ok (.iaload, 1) := by decide +kernel
theorem dX12_laysMet_40 : decode cX12_laysMet 40 = .ok (.iadd, 1) := by decide +kernel
theorem dX12_laysMet_41 : decode cX12_laysMet 41 = .ok (.iaload, 1) := by decide +kernel
theorem dX12_laysMet_42 : decode cX12_laysMet 42 = .ok (.if_icmp .ge 137, 3) := by decide +kernel
theorem dX12_laysMet_45 : decode cX12_laysMet 45 = .ok (.aload_n 0, 1) := by decide +kernel
theorem dX12_laysMet_46 : decode cX12_laysMet 46 = .ok (.getfield 32, 3) := by decide +kernel
theorem dX12_laysMet_49 : decode cX12_laysMet 49 = .ok (.iload_n 3, 1) := by decide +kernel
theorem dX12_laysMet_50 : decode cX12_laysMet 50 = .ok (.iaload, 1) := by decide +kernel
theorem dX12_laysMet_51 : decode cX12_laysMet 51 = .ok (.iconst (-1), 1) := by decide +kernel
theorem dX12_laysMet_52 : decode cX12_laysMet 52 = .ok (.if_icmp .eq 121, 3) := by decide +kernel
theorem dX12_laysMet_55 : decode cX12_laysMet 55 = .ok (.aload_n 0, 1) := by decide +kernel
theorem dX12_laysMet_56 : decode cX12_laysMet 56 = .ok (.iload_n 2, 1) := by decide +kernel
theorem dX12_laysMet_57 : decode cX12_laysMet 57 = .ok (.aload_n 0, 1) := by decide +kernel
theorem dX12_laysMet_58 : decode cX12_laysMet 58 = .ok (.getfield 32, 3) := by decide +kernel
theorem dX12_laysMet_61 : decode cX12_laysMet 61 = .ok (.iload_n 3, 1) := by decide +kernel
theorem dX12_laysMet_62 : decode cX12_laysMet 62 = .ok (.iaload, 1) := by decide +kernel
theorem dX12_laysMet_63 : decode cX12_laysMet 63 = .ok (.invokevirtual 200, 3) := by decide +kernel
theorem dX12_laysMet_66 : decode cX12_laysMet 66 = .ok (.iload_n 1, 1) := by decide +kernel
theorem dX12_laysMet_67 : decode cX12_laysMet 67 = .ok (.if_icmp .ne 106, 3) := by decide +kernel
theorem dX12_laysMet_70 : decode cX12_laysMet 70 = .ok (.aload_n 0, 1) := by decide +kernel
theorem dX12_laysMet_71 : decode cX12_laysMet 71 = .ok (.iload_n 2, 1) := by decide +kernel
theorem dX12_laysMet_72 : decode cX12_laysMet 72 = .ok (.aload_n 0, 1) := by decide +kernel
theorem dX12_laysMet_73 : decode cX12_laysMet 73 = .ok (.getfield 32, 3) := by decide +kernel
theorem dX12_laysMet_76 : decode cX12_laysMet 76 = .ok (.iload_n 3, 1) := by decide +kernel
theorem dX12_laysMet_77 : decode cX12_laysMet 77 = .ok (.iaload, 1) := by decide +kernel
theorem dX12_laysMet_78 : decode cX12_laysMet 78 = .ok (.invokevirtual 209, 3) := by decide +kernel
theorem dX12_laysMet_81 : decode cX12_laysMet 81 = .ok (.istore 4, 2) := by decide +kernel
theorem dX12_laysMet_83 : decode cX12_laysMet 83 = .ok (.aload_n 0, 1) := by decide +kernel
theorem dX12_laysMet_84 : decode cX12_laysMet 84 = .ok (.getfield 294, 3) := by decide +kernel
theorem dX12_laysMet_87 : decode cX12_laysMet 87 = .ok (.istore 5, 2) := by decide +kernel
theorem dX12_laysMet_89 : decode cX12_laysMet 89 = .ok (.iload 5, 2) := by decide +kernel
theorem dX12_laysMet_91 : decode cX12_laysMet 91 = .ok (.ifCond .le 55, 3) := by decide +kernel
theorem dX12_laysMet_94 : decode cX12_laysMet 94 = .ok (.aload_n 0, 1) := by decide +kernel
theorem dX12_laysMet_95 : decode cX12_laysMet 95 = .ok (.getfield 41, 3) := by decide +kernel
theorem dX12_laysMet_98 : decode cX12_laysMet 98 = .ok (.iload 5, 2) := by decide +kernel
theorem dX12_laysMet_100 : decode cX12_laysMet 100 = .ok (.iconst 1, 1) := by decide +kernel
theorem dX12_laysMet_101 : decode cX12_laysMet 101 = .ok (.isub, 1) := by decide +kernel
theorem dX12_laysMet_102 : decode cX12_laysMet 102 = .ok (.iaload, 1) := by decide +kernel
theorem dX12_laysMet_103 : decode cX12_laysMet 103 = .ok (.iload 4, 2) := by decide +kernel
theorem dX12_laysMet_105 : decode cX12_laysMet 105 = .ok (.if_icmp .le 41, 3) := by decide +kernel
theorem dX12_laysMet_108 : decode cX12_laysMet 108 = .ok (.aload_n 0, 1) := by decide +kernel
theorem dX12_laysMet_109 : decode cX12_laysMet 109 = .ok (.getfield 41, 3) := by decide +kernel
theorem dX12_laysMet_112 : decode cX12_laysMet 112 = .ok (.iload 5, 2) := by decide +kernel
theorem dX12_laysMet_114 : decode cX12_laysMet 114 = .ok (.aload_n 0, 1) := by decide +kernel
theorem dX12_laysMet_115 : decode cX12_laysMet 115 = .ok (.getfield 41, 3) := by decide +kernel
theorem dX12_laysMet_118 : decode cX12_laysMet 118 = .ok (.iload 5, 2) := by decide +kernel
theorem dX12_laysMet_120 : decode cX12_laysMet 120 = .ok (.iconst 1, 1) := by decide +kernel
theorem dX12_laysMet_121 : decode cX12_laysMet 121 = .ok (.isub, 1) := by decide +kernel
theorem dX12_laysMet_122 : decode cX12_laysMet 122 = .ok (.iaload, 1) := by decide +kernel
theorem dX12_laysMet_123 : decode cX12_laysMet 123 = .ok (.iastore, 1) := by decide +kernel
theorem dX12_laysMet_124 : decode cX12_laysMet 124 = .ok (.aload_n 0, 1) := by decide +kernel
theorem dX12_laysMet_125 : decode cX12_laysMet 125 = .ok (.getfield 44, 3) := by decide +kernel
theorem dX12_laysMet_128 : decode cX12_laysMet 128 = .ok (.iload 5, 2) := by decide +kernel
theorem dX12_laysMet_130 : decode cX12_laysMet 130 = .ok (.aload_n 0, 1) := by decide +kernel
theorem dX12_laysMet_131 : decode cX12_laysMet 131 = .ok (.getfield 44, 3) := by decide +kernel
theorem dX12_laysMet_134 : decode cX12_laysMet 134 = .ok (.iload 5, 2) := by decide +kernel
theorem dX12_laysMet_136 : decode cX12_laysMet 136 = .ok (.iconst 1, 1) := by decide +kernel
theorem dX12_laysMet_137 : decode cX12_laysMet 137 = .ok (.isub, 1) := by decide +kernel
theorem dX12_laysMet_138 : decode cX12_laysMet 138 = .ok (.iaload, 1) := by decide +kernel
theorem dX12_laysMet_139 : decode cX12_laysMet 139 = .ok (.iastore, 1) := by decide +kernel
theorem dX12_laysMet_140 : decode cX12_laysMet 140 = .ok (.iinc 5 (-1), 3) := by decide +kernel
theorem dX12_laysMet_143 : decode cX12_laysMet 143 = .ok (.goto (-54), 3) := by decide +kernel
theorem dX12_laysMet_146 : decode cX12_laysMet 146 = .ok (.aload_n 0, 1) := by decide +kernel
theorem dX12_laysMet_147 : decode cX12_laysMet 147 = .ok (.getfield 41, 3) := by decide +kernel
theorem dX12_laysMet_150 : decode cX12_laysMet 150 = .ok (.iload 5, 2) := by decide +kernel
theorem dX12_laysMet_152 : decode cX12_laysMet 152 = .ok (.iload 4, 2) := by decide +kernel
theorem dX12_laysMet_154 : decode cX12_laysMet 154 = .ok (.iastore, 1) := by decide +kernel
theorem dX12_laysMet_155 : decode cX12_laysMet 155 = .ok (.aload_n 0, 1) := by decide +kernel
theorem dX12_laysMet_156 : decode cX12_laysMet 156 = .ok (.getfield 44, 3) := by decide +kernel
theorem dX12_laysMet_159 : decode cX12_laysMet 159 = .ok (.iload 5, 2) := by decide +kernel
theorem dX12_laysMet_161 : decode cX12_laysMet 161 = .ok (.iload_n 2, 1) := by decide +kernel
theorem dX12_laysMet_162 : decode cX12_laysMet 162 = .ok (.iastore, 1) := by decide +kernel
theorem dX12_laysMet_163 : decode cX12_laysMet 163 = .ok (.aload_n 0, 1) := by decide +kernel
theorem dX12_laysMet_164 : decode cX12_laysMet 164 = .ok (.dup, 1) := by decide +kernel
theorem dX12_laysMet_165 : decode cX12_laysMet 165 = .ok (.getfield 294, 3) := by decide +kernel
theorem dX12_laysMet_168 : decode cX12_laysMet 168 = .ok (.iconst 1, 1) := by decide +kernel
theorem dX12_laysMet_169 : decode cX12_laysMet 169 = .ok (.iadd, 1) := by decide +kernel
theorem dX12_laysMet_170 : decode cX12_laysMet 170 = .ok (.putfield 294, 3) := by decide +kernel
theorem dX12_laysMet_173 : decode cX12_laysMet 173 = .ok (.iinc 3 1, 3) := by decide +kernel
theorem dX12_laysMet_176 : decode cX12_laysMet 176 = .ok (.goto (-151), 3) := by decide +kernel
theorem dX12_laysMet_179 : decode cX12_laysMet 179 = .ok (.iinc 2 1, 3) := by decide +kernel
theorem dX12_laysMet_182 : decode cX12_laysMet 182 = .ok (.goto (-175), 3) := by decide +kernel
theorem dX12_laysMet_185 : decode cX12_laysMet 185 = .ok (.return_, 1) := by decide +kernel
def f_X12_laysMet_146 (v1 : Int32) (v2 : Int32) (v3 : Int32) (v4 : Int32) (v5 : Int32) (k7 : Int32 → gSt → Option gSt) (k25 : Int32 → gSt → Option gSt) (σ : gSt) : Option gSt :=
  (gst σ 38 0 100 v5 v4).bind fun z154 =>
  (gst z154 39 0 100 v5 v2).bind fun z162 =>
  k25 (v3 + 1) (gup z162 28 0 27 ((z162 28 0 27) + 1))
def f_X12_laysMet_89 (v1 : Int32) (v2 : Int32) (v3 : Int32) (v4 : Int32) (k7 : Int32 → gSt → Option gSt) (k25 : Int32 → gSt → Option gSt) : Nat → Int32 → gSt → Option gSt
  | 0, _, _ => none
  | n + 1, v5, σ =>
    if v5 ≤ 0 then
      f_X12_laysMet_146 v1 v2 v3 v4 v5 k7 k25 σ
    else
      (gld σ 38 0 100 (v5 - 1)).bind fun a102 =>
      if a102 ≤ v4 then
        f_X12_laysMet_146 v1 v2 v3 v4 v5 k7 k25 σ
      else
        (gld σ 38 0 100 (v5 - 1)).bind fun a122 =>
        (gst σ 38 0 100 v5 a122).bind fun z123 =>
        (gld z123 39 0 100 (v5 - 1)).bind fun a138 =>
        (gst z123 39 0 100 v5 a138).bind fun z139 =>
        f_X12_laysMet_89 v1 v2 v3 v4 k7 k25 n (v5 + (-1)) z139
def f_X12_laysMet_25 (v1 : Int32) (v2 : Int32) (k7 : Int32 → gSt → Option gSt) : Nat → Int32 → gSt → Option gSt
  | 0, _, _ => none
  | n + 1, v3, σ =>
    (gld σ 30 0 397 (37 + v2)).bind fun a39 =>
    (gld σ 30 0 397 (4 + a39)).bind fun a41 =>
    if a41 ≤ v3 then
      k7 (v2 + 1) σ
    else
      (gld σ 35 0 10 v3).bind fun a50 =>
      if a50 = (-1) then
        f_X12_laysMet_25 v1 v2 k7 n (v3 + 1) σ
      else
        (gld σ 35 0 10 v3).bind fun a62 =>
        (f_X12_punchCode v2 a62 σ).bind fun p63 =>
        if p63.1 = v1 then
          (gld p63.2 35 0 10 v3).bind fun a77 =>
          (f_X12_punchTime v2 a77 p63.2).bind fun p78 =>
          f_X12_laysMet_89 v1 v2 v3 p78.1 k7 (fun v3 σ => f_X12_laysMet_25 v1 v2 k7 n v3 σ) gFuel (p78.2 28 0 27) p78.2
        else
          f_X12_laysMet_25 v1 v2 k7 n (v3 + 1) p63.2
def f_X12_laysMet_7 (v1 : Int32) : Nat → Int32 → gSt → Option gSt
  | 0, _, _ => none
  | n + 1, v2, σ =>
    (gld σ 30 0 397 1).bind fun a13 =>
    if a13 ≤ v2 then
      some σ
    else
      (f_X12_missedBy v2 σ).bind fun p19 =>
      f_X12_laysMet_25 v1 v2 (fun v2 σ => f_X12_laysMet_7 v1 n v2 σ) gFuel 0 p19.2
def f_X12_laysMet (v1 : Int32) (σ : gSt) : Option gSt :=
  f_X12_laysMet_7 v1 gFuel 0 (gup σ 28 0 27 0)
theorem f_X12_laysMet_146_ok {v1 : Int32} {v2 : Int32} {v3 : Int32} {v4 : Int32} {v5 : Int32} {k7 : Int32 → gSt → Option gSt} {k25 : Int32 → gSt → Option gSt} {r : gSt} (hk7 : ∀ {v2 : Int32} {σ : gSt} {x3 x4 x5 : Option Value}, k7 v2 σ = some r → G l w 0 41 RX12 cX12_laysMet 6 none 3 73 (gE none r) 7 [some (.ref (w.2.1 28 0)), some (.int v1), some (.int v2), x3, x4, x5] [] σ) (hk25 : ∀ {v3 : Int32} {σ : gSt} {x4 x5 : Option Value}, k25 v3 σ = some r → G l w 0 41 RX12 cX12_laysMet 6 none 3 73 (gE none r) 25 [some (.ref (w.2.1 28 0)), some (.int v1), some (.int v2), some (.int v3), x4, x5] [] σ) {σ : gSt}  (h : f_X12_laysMet_146 v1 v2 v3 v4 v5 k7 k25 σ = some r) : G l w 0 41 RX12 cX12_laysMet 6 none 3 73 (gE none r) 146 [some (.ref (w.2.1 28 0)), some (.int v1), some (.int v2), some (.int v3), some (.int v4), some (.int v5)] [] σ := by
  unfold f_X12_laysMet_146 at h
  refine g_aload_n dX12_laysMet_146 rfl ?_
  refine gR_X12_41 ok_28 dX12_laysMet_147 ?_
  refine g_iload dX12_laysMet_150 rfl ?_
  refine g_iload dX12_laysMet_152 rfl ?_
  obtain ⟨z154, e154, h⟩ := obind h
  refine g_stB e154 ok_38 rfl rfl (by decide) dX12_laysMet_154 ?_
  refine g_aload_n dX12_laysMet_155 rfl ?_
  refine gR_X12_44 ok_28 dX12_laysMet_156 ?_
  refine g_iload dX12_laysMet_159 rfl ?_
  refine g_iload_n dX12_laysMet_161 rfl ?_
  obtain ⟨z162, e162, h⟩ := obind h
  refine g_stB e162 ok_39 rfl rfl (by decide) dX12_laysMet_162 ?_
  refine g_aload_n dX12_laysMet_163 rfl ?_
  refine g_dup dX12_laysMet_164 rfl ?_
  refine gI_X12_294 ok_28 dX12_laysMet_165 ?_
  refine g_iconst dX12_laysMet_168 kc_1 ?_
  refine g_iadd dX12_laysMet_169 ?_
  refine gP_X12_294 ok_28 dX12_laysMet_170 ?_
  refine g_inc3 kc_1 dX12_laysMet_173 ?_
  refine g_goto 25 dX12_laysMet_176 rfl ?_
  exact hk25 h
theorem f_X12_laysMet_89_ok {v1 : Int32} {v2 : Int32} {v3 : Int32} {v4 : Int32} {k7 : Int32 → gSt → Option gSt} {k25 : Int32 → gSt → Option gSt} {r : gSt} (hk7 : ∀ {v2 : Int32} {σ : gSt} {x3 x4 x5 : Option Value}, k7 v2 σ = some r → G l w 0 41 RX12 cX12_laysMet 6 none 3 73 (gE none r) 7 [some (.ref (w.2.1 28 0)), some (.int v1), some (.int v2), x3, x4, x5] [] σ) (hk25 : ∀ {v3 : Int32} {σ : gSt} {x4 x5 : Option Value}, k25 v3 σ = some r → G l w 0 41 RX12 cX12_laysMet 6 none 3 73 (gE none r) 25 [some (.ref (w.2.1 28 0)), some (.int v1), some (.int v2), some (.int v3), x4, x5] [] σ) : ∀ (n : Nat) {v5 : Int32} {σ : gSt} , f_X12_laysMet_89 v1 v2 v3 v4 k7 k25 n v5 σ = some r → G l w 0 41 RX12 cX12_laysMet 6 none 3 73 (gE none r) 89 [some (.ref (w.2.1 28 0)), some (.int v1), some (.int v2), some (.int v3), some (.int v4), some (.int v5)] [] σ := by
  intro n
  induction n with
  | zero => intro v5 σ h; rw [f_X12_laysMet_89] at h; cases h
  | succ n ih =>
    intro v5 σ h
    rw [f_X12_laysMet_89] at h
    refine g_iload dX12_laysMet_89 rfl ?_
    refine g_if_le 146 dX12_laysMet_91 rfl (fun q => ?_) (fun q => ?_)
    · replace h := gif_t q h
      exact f_X12_laysMet_146_ok hk7 hk25 h
    · replace h := gif_f q h
      refine g_aload_n dX12_laysMet_94 rfl ?_
      refine gR_X12_41 ok_28 dX12_laysMet_95 ?_
      refine g_iload dX12_laysMet_98 rfl ?_
      refine g_iconst dX12_laysMet_100 kc_1 ?_
      refine g_isub dX12_laysMet_101 ?_
      obtain ⟨a102, e102, h⟩ := obind h
      refine g_ldB e102 ok_38 rfl rfl (by decide) dX12_laysMet_102 ?_
      refine g_iload dX12_laysMet_103 rfl ?_
      refine g_icmp_le 146 dX12_laysMet_105 rfl (fun q => ?_) (fun q => ?_)
      · replace h := gif_t q h
        exact f_X12_laysMet_146_ok hk7 hk25 h
      · replace h := gif_f q h
        refine g_aload_n dX12_laysMet_108 rfl ?_
        refine gR_X12_41 ok_28 dX12_laysMet_109 ?_
        refine g_iload dX12_laysMet_112 rfl ?_
        refine g_aload_n dX12_laysMet_114 rfl ?_
        refine gR_X12_41 ok_28 dX12_laysMet_115 ?_
        refine g_iload dX12_laysMet_118 rfl ?_
        refine g_iconst dX12_laysMet_120 kc_1 ?_
        refine g_isub dX12_laysMet_121 ?_
        obtain ⟨a122, e122, h⟩ := obind h
        refine g_ldB e122 ok_38 rfl rfl (by decide) dX12_laysMet_122 ?_
        obtain ⟨z123, e123, h⟩ := obind h
        refine g_stB e123 ok_38 rfl rfl (by decide) dX12_laysMet_123 ?_
        refine g_aload_n dX12_laysMet_124 rfl ?_
        refine gR_X12_44 ok_28 dX12_laysMet_125 ?_
        refine g_iload dX12_laysMet_128 rfl ?_
        refine g_aload_n dX12_laysMet_130 rfl ?_
        refine gR_X12_44 ok_28 dX12_laysMet_131 ?_
        refine g_iload dX12_laysMet_134 rfl ?_
        refine g_iconst dX12_laysMet_136 kc_1 ?_
        refine g_isub dX12_laysMet_137 ?_
        obtain ⟨a138, e138, h⟩ := obind h
        refine g_ldB e138 ok_39 rfl rfl (by decide) dX12_laysMet_138 ?_
        obtain ⟨z139, e139, h⟩ := obind h
        refine g_stB e139 ok_39 rfl rfl (by decide) dX12_laysMet_139 ?_
        refine g_inc5 kc_m1 dX12_laysMet_140 ?_
        refine g_goto 89 dX12_laysMet_143 rfl ?_
        exact ih h
theorem f_X12_laysMet_25_ok {v1 : Int32} {v2 : Int32} {k7 : Int32 → gSt → Option gSt} {r : gSt} (hk7 : ∀ {v2 : Int32} {σ : gSt} {x3 x4 x5 : Option Value}, k7 v2 σ = some r → G l w 0 41 RX12 cX12_laysMet 6 none 3 73 (gE none r) 7 [some (.ref (w.2.1 28 0)), some (.int v1), some (.int v2), x3, x4, x5] [] σ) : ∀ (n : Nat) {v3 : Int32} {σ : gSt} {x4 x5 : Option Value}, f_X12_laysMet_25 v1 v2 k7 n v3 σ = some r → G l w 0 41 RX12 cX12_laysMet 6 none 3 73 (gE none r) 25 [some (.ref (w.2.1 28 0)), some (.int v1), some (.int v2), some (.int v3), x4, x5] [] σ := by
  intro n
  induction n with
  | zero => intro v3 σ x4 x5 h; rw [f_X12_laysMet_25] at h; cases h
  | succ n ih =>
    intro v3 σ x4 x5 h
    rw [f_X12_laysMet_25] at h
    refine g_iload_n dX12_laysMet_25 rfl ?_
    refine g_aload_n dX12_laysMet_26 rfl ?_
    refine gR_X12_17 ok_28 dX12_laysMet_27 ?_
    refine g_iconst dX12_laysMet_30 kc_4 ?_
    refine g_aload_n dX12_laysMet_31 rfl ?_
    refine gR_X12_17 ok_28 dX12_laysMet_32 ?_
    refine g_bipush dX12_laysMet_35 kb_37 ?_
    refine g_iload_n dX12_laysMet_37 rfl ?_
    refine g_iadd dX12_laysMet_38 ?_
    obtain ⟨a39, e39, h⟩ := obind h
    refine g_ldB e39 ok_30 rfl rfl (by decide) dX12_laysMet_39 ?_
    refine g_iadd dX12_laysMet_40 ?_
    obtain ⟨a41, e41, h⟩ := obind h
    refine g_ldB e41 ok_30 rfl rfl (by decide) dX12_laysMet_41 ?_
    refine g_icmp_ge 179 dX12_laysMet_42 rfl (fun q => ?_) (fun q => ?_)
    · replace h := gif_t q h
      refine g_inc2 kc_1 dX12_laysMet_179 ?_
      refine g_goto 7 dX12_laysMet_182 rfl ?_
      exact hk7 h
    · replace h := gif_f q h
      refine g_aload_n dX12_laysMet_45 rfl ?_
      refine gR_X12_32 ok_28 dX12_laysMet_46 ?_
      refine g_iload_n dX12_laysMet_49 rfl ?_
      obtain ⟨a50, e50, h⟩ := obind h
      refine g_ldB e50 ok_35 rfl rfl (by decide) dX12_laysMet_50 ?_
      refine g_iconst dX12_laysMet_51 kc_m1 ?_
      refine g_icmp_eq 173 dX12_laysMet_52 rfl (fun q => ?_) (fun q => ?_)
      · replace h := gif_t q h
        refine g_inc3 kc_1 dX12_laysMet_173 ?_
        refine g_goto 25 dX12_laysMet_176 rfl ?_
        exact ih h
      · replace h := gif_f q h
        refine g_aload_n dX12_laysMet_55 rfl ?_
        refine g_iload_n dX12_laysMet_56 rfl ?_
        refine g_aload_n dX12_laysMet_57 rfl ?_
        refine gR_X12_32 ok_28 dX12_laysMet_58 ?_
        refine g_iload_n dX12_laysMet_61 rfl ?_
        obtain ⟨a62, e62, h⟩ := obind h
        refine g_ldB e62 ok_35 rfl rfl (by decide) dX12_laysMet_62 ?_
        obtain ⟨p63, e63, h⟩ := obind h
        refine g_vP2 mv_X12_200 dX12_laysMet_63 ok_28 ⟨by decide, by decide⟩ (Nat.le_of_ble_eq_true rfl) (f_X12_punchCode_ok e63) ?_
        refine g_iload_n dX12_laysMet_66 rfl ?_
        refine g_icmp_ne 173 dX12_laysMet_67 rfl (fun q => ?_) (fun q => ?_)
        · replace h := gif_f q h
          refine g_inc3 kc_1 dX12_laysMet_173 ?_
          refine g_goto 25 dX12_laysMet_176 rfl ?_
          exact ih h
        · replace h := gif_t q h
          refine g_aload_n dX12_laysMet_70 rfl ?_
          refine g_iload_n dX12_laysMet_71 rfl ?_
          refine g_aload_n dX12_laysMet_72 rfl ?_
          refine gR_X12_32 ok_28 dX12_laysMet_73 ?_
          refine g_iload_n dX12_laysMet_76 rfl ?_
          obtain ⟨a77, e77, h⟩ := obind h
          refine g_ldB e77 ok_35 rfl rfl (by decide) dX12_laysMet_77 ?_
          obtain ⟨p78, e78, h⟩ := obind h
          refine g_vP2 mv_X12_209 dX12_laysMet_78 ok_28 ⟨by decide, by decide⟩ (Nat.le_of_ble_eq_true rfl) (f_X12_punchTime_ok e78) ?_
          refine g_istore4 dX12_laysMet_81 ?_
          refine g_aload_n dX12_laysMet_83 rfl ?_
          refine gI_X12_294 ok_28 dX12_laysMet_84 ?_
          refine g_istore5 dX12_laysMet_87 ?_
          exact f_X12_laysMet_89_ok hk7 (fun h => ih h) gFuel h
theorem f_X12_laysMet_7_ok {v1 : Int32} {r : gSt}  : ∀ (n : Nat) {v2 : Int32} {σ : gSt} {x3 x4 x5 : Option Value}, f_X12_laysMet_7 v1 n v2 σ = some r → G l w 0 41 RX12 cX12_laysMet 6 none 3 73 (gE none r) 7 [some (.ref (w.2.1 28 0)), some (.int v1), some (.int v2), x3, x4, x5] [] σ := by
  intro n
  induction n with
  | zero => intro v2 σ x3 x4 x5 h; rw [f_X12_laysMet_7] at h; cases h
  | succ n ih =>
    intro v2 σ x3 x4 x5 h
    rw [f_X12_laysMet_7] at h
    refine g_iload_n dX12_laysMet_7 rfl ?_
    refine g_aload_n dX12_laysMet_8 rfl ?_
    refine gR_X12_17 ok_28 dX12_laysMet_9 ?_
    refine g_iconst dX12_laysMet_12 kc_1 ?_
    obtain ⟨a13, e13, h⟩ := obind h
    refine g_ldB e13 ok_30 rfl rfl (by decide) dX12_laysMet_13 ?_
    refine g_icmp_ge 185 dX12_laysMet_14 rfl (fun q => ?_) (fun q => ?_)
    · replace h := gif_t q h
      cases h
      exact g_vret dX12_laysMet_185 rfl ⟨rfl, rfl⟩
    · replace h := gif_f q h
      refine g_aload_n dX12_laysMet_17 rfl ?_
      refine g_iload_n dX12_laysMet_18 rfl ?_
      obtain ⟨p19, e19, h⟩ := obind h
      refine g_vP1 mv_X12_206 dX12_laysMet_19 ok_28 ⟨by decide, by decide⟩ (Nat.le_of_ble_eq_true rfl) (f_X12_missedBy_ok e19) ?_
      refine g_pop dX12_laysMet_22 rfl ?_
      refine g_iconst dX12_laysMet_23 kc_0 ?_
      refine g_istore3 dX12_laysMet_24 ?_
      exact f_X12_laysMet_25_ok (fun h => ih h) gFuel h
theorem f_X12_laysMet_ok {v1 : Int32}  {σ : gSt} {r : gSt} (h : f_X12_laysMet v1 σ = some r) : Mt l w 0 41 yX12_laysMet cX12_laysMet 6 none 3 73 [.ref (w.2.1 28 0), .int v1] σ (gE none r) := by
  unfold f_X12_laysMet at h
  refine g_start pn_X12 rfl rfl (Nat.le_of_ble_eq_true rfl) ?_
  show G l w 0 41 RX12 cX12_laysMet 6 none 3 73 (gE none r) 0 [some (.ref (w.2.1 28 0)), some (.int v1), none, none, none, none] [] σ
  refine g_aload_n dX12_laysMet_0 rfl ?_
  refine g_iconst dX12_laysMet_1 kc_0 ?_
  refine gP_X12_294 ok_28 dX12_laysMet_2 ?_
  refine g_iconst dX12_laysMet_5 kc_0 ?_
  refine g_istore2 dX12_laysMet_6 ?_
  exact f_X12_laysMet_7_ok gFuel h
theorem dX12_findsPack_0 : decode cX12_findsPack 0 = .ok (.iload_n 1, 1) := by decide +kernel
theorem dX12_findsPack_1 : decode cX12_findsPack 1 = .ok (.istore_n 2, 1) := by decide +kernel
theorem dX12_findsPack_2 : decode cX12_findsPack 2 = .ok (.iconst 0, 1) := by decide +kernel
theorem dX12_findsPack_3 : decode cX12_findsPack 3 = .ok (.istore_n 3, 1) := by decide +kernel
theorem dX12_findsPack_4 : decode cX12_findsPack 4 = .ok (.iload_n 3, 1) := by decide +kernel
theorem dX12_findsPack_5 : decode cX12_findsPack 5 = .ok (.aload_n 0, 1) := by decide +kernel
theorem dX12_findsPack_6 : decode cX12_findsPack 6 = .ok (.getfield 294, 3) := by decide +kernel
theorem dX12_findsPack_9 : decode cX12_findsPack 9 = .ok (.if_icmp .ge 83, 3) := by decide +kernel
theorem dX12_findsPack_12 : decode cX12_findsPack 12 = .ok (.iload_n 3, 1) := by decide +kernel
theorem dX12_findsPack_13 : decode cX12_findsPack 13 = .ok (.iconst 1, 1) := by decide +kernel
theorem dX12_findsPack_14 : decode cX12_findsPack 14 = .ok (.iadd, 1) := by decide +kernel
theorem dX12_findsPack_15 : decode cX12_findsPack 15 = .ok (.istore 4, 2) := by decide +kernel
theorem dX12_findsPack_17 : decode cX12_findsPack 17 = .ok (.iload 4, 2) := by decide +kernel
theorem dX12_findsPack_19 : decode cX12_findsPack 19 = .ok (.aload_n 0, 1) := by decide +kernel
theorem dX12_findsPack_20 : decode cX12_findsPack 20 = .ok (.getfield 294, 3) := by decide +kernel
theorem dX12_findsPack_23 : decode cX12_findsPack 23 = .ok (.if_icmp .ge 35, 3) := by decide +kernel
theorem dX12_findsPack_26 : decode cX12_findsPack 26 = .ok (.aload_n 0, 1) := by decide +kernel
theorem dX12_findsPack_27 : decode cX12_findsPack 27 = .ok (.getfield 41, 3) := by decide +kernel
theorem dX12_findsPack_30 : decode cX12_findsPack 30 = .ok (.iload 4, 2) := by decide +kernel
theorem dX12_findsPack_32 : decode cX12_findsPack 32 = .ok (.iaload, 1) := by decide +kernel
theorem dX12_findsPack_33 : decode cX12_findsPack 33 = .ok (.aload_n 0, 1) := by decide +kernel
theorem dX12_findsPack_34 : decode cX12_findsPack 34 = .ok (.getfield 41, 3) := by decide +kernel
theorem dX12_findsPack_37 : decode cX12_findsPack 37 = .ok (.iload 4, 2) := by decide +kernel
theorem dX12_findsPack_39 : decode cX12_findsPack 39 = .ok (.iconst 1, 1) := by decide +kernel
theorem dX12_findsPack_40 : decode cX12_findsPack 40 = .ok (.isub, 1) := by decide +kernel
theorem dX12_findsPack_41 : decode cX12_findsPack 41 = .ok (.iaload, 1) := by decide +kernel
theorem dX12_findsPack_42 : decode cX12_findsPack 42 = .ok (.isub, 1) := by decide +kernel
theorem dX12_findsPack_43 : decode cX12_findsPack 43 = .ok (.aload_n 0, 1) := by decide +kernel
theorem dX12_findsPack_44 : decode cX12_findsPack 44 = .ok (.getfield 17, 3) := by decide +kernel
theorem dX12_findsPack_47 : decode cX12_findsPack 47 = .ok (.iconst 2, 1) := by decide +kernel
theorem dX12_findsPack_48 : decode cX12_findsPack 48 = .ok (.iaload, 1) := by decide +kernel
theorem dX12_findsPack_49 : decode cX12_findsPack 49 = .ok (.if_icmp .gt 9, 3) := by decide +kernel
theorem dX12_findsPack_52 : decode cX12_findsPack 52 = .ok (.iinc 4 1, 3) := by decide +kernel
theorem dX12_findsPack_55 : decode cX12_findsPack 55 = .ok (.goto (-38), 3) := by decide +kernel
theorem dX12_findsPack_58 : decode cX12_findsPack 58 = .ok (.iload 4, 2) := by decide +kernel
theorem dX12_findsPack_60 : decode cX12_findsPack 60 = .ok (.iload_n 3, 1) := by decide +kernel
theorem dX12_findsPack_61 : decode cX12_findsPack 61 = .ok (.isub, 1) := by decide +kernel
theorem dX12_findsPack_62 : decode cX12_findsPack 62 = .ok (.iconst 1, 1) := by decide +kernel
theorem dX12_findsPack_63 : decode cX12_findsPack 63 = .ok (.if_icmp .le 23, 3) := by decide +kernel
theorem dX12_findsPack_66 : decode cX12_findsPack 66 = .ok (.iload_n 2, 1) := by decide +kernel
theorem dX12_findsPack_67 : decode cX12_findsPack 67 = .ok (.ifCond .ne 16, 3) := by decide +kernel
theorem dX12_findsPack_70 : decode cX12_findsPack 70 = .ok (.aload_n 0, 1) := by decide +kernel
theorem dX12_findsPack_71 : decode cX12_findsPack 71 = .ok (.iload_n 3, 1) := by decide +kernel
theorem dX12_findsPack_72 : decode cX12_findsPack 72 = .ok (.putfield 297, 3) := by decide +kernel
theorem dX12_findsPack_75 : decode cX12_findsPack 75 = .ok (.aload_n 0, 1) := by decide +kernel
theorem dX12_findsPack_76 : decode cX12_findsPack 76 = .ok (.iload 4, 2) := by decide +kernel
theorem dX12_findsPack_78 : decode cX12_findsPack 78 = .ok (.putfield 300, 3) := by decide +kernel
theorem dX12_findsPack_81 : decode cX12_findsPack 81 = .ok (.iconst 1, 1) := by decide +kernel
theorem dX12_findsPack_82 : decode cX12_findsPack 82 = .ok (.ireturn, 1) := by decide +kernel
theorem dX12_findsPack_83 : decode cX12_findsPack 83 = .ok (.iinc 2 (-1), 3) := by decide +kernel
theorem dX12_findsPack_86 : decode cX12_findsPack 86 = .ok (.iload 4, 2) := by decide +kernel
theorem dX12_findsPack_88 : decode cX12_findsPack 88 = .ok (.istore_n 3, 1) := by decide +kernel
theorem dX12_findsPack_89 : decode cX12_findsPack 89 = .ok (.goto (-85), 3) := by decide +kernel
theorem dX12_findsPack_92 : decode cX12_findsPack 92 = .ok (.iconst 0, 1) := by decide +kernel
theorem dX12_findsPack_93 : decode cX12_findsPack 93 = .ok (.ireturn, 1) := by decide +kernel
def f_X12_findsPack_58 (v2 : Int32) (v3 : Int32) (v4 : Int32) (k4 : Int32 → Int32 → gSt → Option (Int32 × gSt)) (σ : gSt) : Option (Int32 × gSt) :=
  if (v4 - v3) ≤ 1 then
    k4 v2 v4 σ
  else
    if v2 = 0 then
      some (1, (gup (gup σ 28 0 28 v3) 28 0 29 v4))
    else
      k4 (v2 + (-1)) v4 σ
def f_X12_findsPack_17 (v2 : Int32) (v3 : Int32) (k4 : Int32 → Int32 → gSt → Option (Int32 × gSt)) : Nat → Int32 → gSt → Option (Int32 × gSt)
  | 0, _, _ => none
  | n + 1, v4, σ =>
    if (σ 28 0 27) ≤ v4 then
      f_X12_findsPack_58 v2 v3 v4 k4 σ
    else
      (gld σ 38 0 100 v4).bind fun a32 =>
      (gld σ 38 0 100 (v4 - 1)).bind fun a41 =>
      (gld σ 30 0 397 2).bind fun a48 =>
      if a48 < (a32 - a41) then
        f_X12_findsPack_58 v2 v3 v4 k4 σ
      else
        f_X12_findsPack_17 v2 v3 k4 n (v4 + 1) σ
def f_X12_findsPack_4  : Nat → Int32 → Int32 → gSt → Option (Int32 × gSt)
  | 0, _, _, _ => none
  | n + 1, v2, v3, σ =>
    if (σ 28 0 27) ≤ v3 then
      some (0, σ)
    else
      f_X12_findsPack_17 v2 v3 (fun v2 v3 σ => f_X12_findsPack_4 n v2 v3 σ) gFuel (v3 + 1) σ
def f_X12_findsPack (v1 : Int32) (σ : gSt) : Option (Int32 × gSt) :=
  f_X12_findsPack_4 gFuel v1 0 σ
theorem f_X12_findsPack_58_ok {v2 : Int32} {v3 : Int32} {v4 : Int32} {k4 : Int32 → Int32 → gSt → Option (Int32 × gSt)} {r : (Int32 × gSt)} (hk4 : ∀ {v2 : Int32} {v3 : Int32} {σ : gSt} {x1 x4 : Option Value}, k4 v2 v3 σ = some r → G l w 0 41 RX12 cX12_findsPack 5 (some .boolean) 0 0 (gE (some (.int r.1)) r.2) 4 [some (.ref (w.2.1 28 0)), x1, some (.int v2), some (.int v3), x4] [] σ) {σ : gSt} {x1 : Option Value} (h : f_X12_findsPack_58 v2 v3 v4 k4 σ = some r) : G l w 0 41 RX12 cX12_findsPack 5 (some .boolean) 0 0 (gE (some (.int r.1)) r.2) 58 [some (.ref (w.2.1 28 0)), x1, some (.int v2), some (.int v3), some (.int v4)] [] σ := by
  unfold f_X12_findsPack_58 at h
  refine g_iload dX12_findsPack_58 rfl ?_
  refine g_iload_n dX12_findsPack_60 rfl ?_
  refine g_isub dX12_findsPack_61 ?_
  refine g_iconst dX12_findsPack_62 kc_1 ?_
  refine g_icmp_le 86 dX12_findsPack_63 rfl (fun q => ?_) (fun q => ?_)
  · replace h := gif_t q h
    refine g_iload dX12_findsPack_86 rfl ?_
    refine g_istore3 dX12_findsPack_88 ?_
    refine g_goto 4 dX12_findsPack_89 rfl ?_
    exact hk4 h
  · replace h := gif_f q h
    refine g_iload_n dX12_findsPack_66 rfl ?_
    refine g_if_ne 83 dX12_findsPack_67 rfl (fun q => ?_) (fun q => ?_)
    · replace h := gif_f q h
      refine g_inc2 kc_m1 dX12_findsPack_83 ?_
      refine g_iload dX12_findsPack_86 rfl ?_
      refine g_istore3 dX12_findsPack_88 ?_
      refine g_goto 4 dX12_findsPack_89 rfl ?_
      exact hk4 h
    · replace h := gif_t q h
      refine g_aload_n dX12_findsPack_70 rfl ?_
      refine g_iload_n dX12_findsPack_71 rfl ?_
      refine gP_X12_297 ok_28 dX12_findsPack_72 ?_
      refine g_aload_n dX12_findsPack_75 rfl ?_
      refine g_iload dX12_findsPack_76 rfl ?_
      refine gP_X12_300 ok_28 dX12_findsPack_78 ?_
      refine g_iconst dX12_findsPack_81 kc_1 ?_
      cases h
      exact g_zret1 dX12_findsPack_82 rfl
theorem f_X12_findsPack_17_ok {v2 : Int32} {v3 : Int32} {k4 : Int32 → Int32 → gSt → Option (Int32 × gSt)} {r : (Int32 × gSt)} (hk4 : ∀ {v2 : Int32} {v3 : Int32} {σ : gSt} {x1 x4 : Option Value}, k4 v2 v3 σ = some r → G l w 0 41 RX12 cX12_findsPack 5 (some .boolean) 0 0 (gE (some (.int r.1)) r.2) 4 [some (.ref (w.2.1 28 0)), x1, some (.int v2), some (.int v3), x4] [] σ) : ∀ (n : Nat) {v4 : Int32} {σ : gSt} {x1 : Option Value}, f_X12_findsPack_17 v2 v3 k4 n v4 σ = some r → G l w 0 41 RX12 cX12_findsPack 5 (some .boolean) 0 0 (gE (some (.int r.1)) r.2) 17 [some (.ref (w.2.1 28 0)), x1, some (.int v2), some (.int v3), some (.int v4)] [] σ := by
  intro n
  induction n with
  | zero => intro v4 σ x1 h; rw [f_X12_findsPack_17] at h; cases h
  | succ n ih =>
    intro v4 σ x1 h
    rw [f_X12_findsPack_17] at h
    refine g_iload dX12_findsPack_17 rfl ?_
    refine g_aload_n dX12_findsPack_19 rfl ?_
    refine gI_X12_294 ok_28 dX12_findsPack_20 ?_
    refine g_icmp_ge 58 dX12_findsPack_23 rfl (fun q => ?_) (fun q => ?_)
    · replace h := gif_t q h
      exact f_X12_findsPack_58_ok hk4 h
    · replace h := gif_f q h
      refine g_aload_n dX12_findsPack_26 rfl ?_
      refine gR_X12_41 ok_28 dX12_findsPack_27 ?_
      refine g_iload dX12_findsPack_30 rfl ?_
      obtain ⟨a32, e32, h⟩ := obind h
      refine g_ldB e32 ok_38 rfl rfl (by decide) dX12_findsPack_32 ?_
      refine g_aload_n dX12_findsPack_33 rfl ?_
      refine gR_X12_41 ok_28 dX12_findsPack_34 ?_
      refine g_iload dX12_findsPack_37 rfl ?_
      refine g_iconst dX12_findsPack_39 kc_1 ?_
      refine g_isub dX12_findsPack_40 ?_
      obtain ⟨a41, e41, h⟩ := obind h
      refine g_ldB e41 ok_38 rfl rfl (by decide) dX12_findsPack_41 ?_
      refine g_isub dX12_findsPack_42 ?_
      refine g_aload_n dX12_findsPack_43 rfl ?_
      refine gR_X12_17 ok_28 dX12_findsPack_44 ?_
      refine g_iconst dX12_findsPack_47 kc_2 ?_
      obtain ⟨a48, e48, h⟩ := obind h
      refine g_ldB e48 ok_30 rfl rfl (by decide) dX12_findsPack_48 ?_
      refine g_icmp_gt 58 dX12_findsPack_49 rfl (fun q => ?_) (fun q => ?_)
      · replace h := gif_t q h
        exact f_X12_findsPack_58_ok hk4 h
      · replace h := gif_f q h
        refine g_inc4 kc_1 dX12_findsPack_52 ?_
        refine g_goto 17 dX12_findsPack_55 rfl ?_
        exact ih h
theorem f_X12_findsPack_4_ok  {r : (Int32 × gSt)}  : ∀ (n : Nat) {v2 : Int32} {v3 : Int32} {σ : gSt} {x1 x4 : Option Value}, f_X12_findsPack_4 n v2 v3 σ = some r → G l w 0 41 RX12 cX12_findsPack 5 (some .boolean) 0 0 (gE (some (.int r.1)) r.2) 4 [some (.ref (w.2.1 28 0)), x1, some (.int v2), some (.int v3), x4] [] σ := by
  intro n
  induction n with
  | zero => intro v2 v3 σ x1 x4 h; rw [f_X12_findsPack_4] at h; cases h
  | succ n ih =>
    intro v2 v3 σ x1 x4 h
    rw [f_X12_findsPack_4] at h
    refine g_iload_n dX12_findsPack_4 rfl ?_
    refine g_aload_n dX12_findsPack_5 rfl ?_
    refine gI_X12_294 ok_28 dX12_findsPack_6 ?_
    refine g_icmp_ge 92 dX12_findsPack_9 rfl (fun q => ?_) (fun q => ?_)
    · replace h := gif_t q h
      refine g_iconst dX12_findsPack_92 kc_0 ?_
      cases h
      exact g_zret0 dX12_findsPack_93 rfl
    · replace h := gif_f q h
      refine g_iload_n dX12_findsPack_12 rfl ?_
      refine g_iconst dX12_findsPack_13 kc_1 ?_
      refine g_iadd dX12_findsPack_14 ?_
      refine g_istore4 dX12_findsPack_15 ?_
      exact f_X12_findsPack_17_ok (fun h => ih h) gFuel h
theorem f_X12_findsPack_ok {v1 : Int32}  {σ : gSt} {r : (Int32 × gSt)} (h : f_X12_findsPack v1 σ = some r) : Mt l w 0 41 yX12_findsPack cX12_findsPack 5 (some .boolean) 0 0 [.ref (w.2.1 28 0), .int v1] σ (gE (some (.int r.1)) r.2) := by
  unfold f_X12_findsPack at h
  refine g_start pn_X12 rfl rfl (Nat.le_of_ble_eq_true rfl) ?_
  show G l w 0 41 RX12 cX12_findsPack 5 (some .boolean) 0 0 (gE (some (.int r.1)) r.2) 0 [some (.ref (w.2.1 28 0)), some (.int v1), none, none, none] [] σ
  refine g_iload_n dX12_findsPack_0 rfl ?_
  refine g_istore2 dX12_findsPack_1 ?_
  refine g_iconst dX12_findsPack_2 kc_0 ?_
  refine g_istore3 dX12_findsPack_3 ?_
  exact f_X12_findsPack_4_ok gFuel h
theorem dX12_packs_0 : decode cX12_packs 0 = .ok (.aload_n 0, 1) := by decide +kernel
theorem dX12_packs_1 : decode cX12_packs 1 = .ok (.aload_n 0, 1) := by decide +kernel
theorem dX12_packs_2 : decode cX12_packs 2 = .ok (.getfield 173, 3) := by decide +kernel
theorem dX12_packs_5 : decode cX12_packs 5 = .ok (.iload_n 1, 1) := by decide +kernel
theorem dX12_packs_6 : decode cX12_packs 6 = .ok (.iconst 1, 1) := by decide +kernel
theorem dX12_packs_7 : decode cX12_packs 7 = .ok (.bipush 99, 2) := by decide +kernel
theorem dX12_packs_9 : decode cX12_packs 9 = .ok (.invokestatic 79, 3) := by decide +kernel
theorem dX12_packs_12 : decode cX12_packs 12 = .ok (.invokestatic 157, 3) := by decide +kernel
theorem dX12_packs_15 : decode cX12_packs 15 = .ok (.invokevirtual 161, 3) := by decide +kernel
theorem dX12_packs_18 : decode cX12_packs 18 = .ok (.ifCond .eq 5, 3) := by decide +kernel
theorem dX12_packs_21 : decode cX12_packs 21 = .ok (.iconst (-1), 1) := by decide +kernel
theorem dX12_packs_22 : decode cX12_packs 22 = .ok (.ireturn, 1) := by decide +kernel
theorem dX12_packs_23 : decode cX12_packs 23 = .ok (.aload_n 0, 1) := by decide +kernel
theorem dX12_packs_24 : decode cX12_packs 24 = .ok (.iload_n 1, 1) := by decide +kernel
theorem dX12_packs_25 : decode cX12_packs 25 = .ok (.invokevirtual 303, 3) := by decide +kernel
theorem dX12_packs_28 : decode cX12_packs 28 = .ok (.iconst 0, 1) := by decide +kernel
theorem dX12_packs_29 : decode cX12_packs 29 = .ok (.istore_n 2, 1) := by decide +kernel
theorem dX12_packs_30 : decode cX12_packs 30 = .ok (.aload_n 0, 1) := by decide +kernel
theorem dX12_packs_31 : decode cX12_packs 31 = .ok (.iload_n 2, 1) := by decide +kernel
theorem dX12_packs_32 : decode cX12_packs 32 = .ok (.invokevirtual 306, 3) := by decide +kernel
theorem dX12_packs_35 : decode cX12_packs 35 = .ok (.ifCond .eq 9, 3) := by decide +kernel
theorem dX12_packs_38 : decode cX12_packs 38 = .ok (.iinc 2 1, 3) := by decide +kernel
theorem dX12_packs_41 : decode cX12_packs 41 = .ok (.goto (-11), 3) := by decide +kernel
theorem dX12_packs_44 : decode cX12_packs 44 = .ok (.iload_n 2, 1) := by decide +kernel
theorem dX12_packs_45 : decode cX12_packs 45 = .ok (.ireturn, 1) := by decide +kernel
def f_X12_packs_30  : Nat → Int32 → gSt → Option (Int32 × gSt)
  | 0, _, _ => none
  | n + 1, v2, σ =>
    (f_X12_findsPack v2 σ).bind fun p32 =>
    if p32.1 = 0 then
      some (v2, p32.2)
    else
      f_X12_packs_30 n (v2 + 1) p32.2
def f_X12_packs (v1 : Int32) (σ : gSt) : Option (Int32 × gSt) :=
  (f_X12_in v1 1 99 σ).bind fun p9 =>
  (f_X12_unless_ (σ 28 0 6) p9.1 p9.2).bind fun p12 =>
  (f_X12_isRefused p12.1 p12.2).bind fun p15 =>
  if p15.1 = 0 then
    (f_X12_laysMet v1 p15.2).bind fun z25 =>
    f_X12_packs_30 gFuel 0 z25
  else
    some ((-1), p15.2)
theorem f_X12_packs_30_ok  {r : (Int32 × gSt)}  : ∀ (n : Nat) {v2 : Int32} {σ : gSt} {x1 : Option Value}, f_X12_packs_30 n v2 σ = some r → G l w 0 41 RX12 cX12_packs 3 (some .int) 4 98 (gE (some (.int r.1)) r.2) 30 [some (.ref (w.2.1 28 0)), x1, some (.int v2)] [] σ := by
  intro n
  induction n with
  | zero => intro v2 σ x1 h; rw [f_X12_packs_30] at h; cases h
  | succ n ih =>
    intro v2 σ x1 h
    rw [f_X12_packs_30] at h
    refine g_aload_n dX12_packs_30 rfl ?_
    refine g_iload_n dX12_packs_31 rfl ?_
    obtain ⟨p32, e32, h⟩ := obind h
    refine g_vP1 mv_X12_306 dX12_packs_32 ok_28 ⟨by decide, by decide⟩ (Nat.le_of_ble_eq_true rfl) (f_X12_findsPack_ok e32) ?_
    refine g_if_eq 44 dX12_packs_35 rfl (fun q => ?_) (fun q => ?_)
    · replace h := gif_t q h
      refine g_iload_n dX12_packs_44 rfl ?_
      cases h
      exact g_iret dX12_packs_45 rfl ⟨rfl, rfl⟩
    · replace h := gif_f q h
      refine g_inc2 kc_1 dX12_packs_38 ?_
      refine g_goto 30 dX12_packs_41 rfl ?_
      exact ih h
theorem f_X12_packs_ok {v1 : Int32}  {σ : gSt} {r : (Int32 × gSt)} (h : f_X12_packs v1 σ = some r) : Mt l w 0 41 yX12_packs cX12_packs 3 (some .int) 4 98 [.ref (w.2.1 28 0), .int v1] σ (gE (some (.int r.1)) r.2) := by
  unfold f_X12_packs at h
  refine g_start pn_X12 rfl rfl (Nat.le_of_ble_eq_true rfl) ?_
  show G l w 0 41 RX12 cX12_packs 3 (some .int) 4 98 (gE (some (.int r.1)) r.2) 0 [some (.ref (w.2.1 28 0)), some (.int v1), none] [] σ
  refine g_aload_n dX12_packs_0 rfl ?_
  refine g_aload_n dX12_packs_1 rfl ?_
  refine gI_X12_173 ok_28 dX12_packs_2 ?_
  refine g_iload_n dX12_packs_5 rfl ?_
  refine g_iconst dX12_packs_6 kc_1 ?_
  refine g_bipush dX12_packs_7 kb_99 ?_
  obtain ⟨p9, e9, h⟩ := obind h
  refine g_sP3 ms_X12_79 dX12_packs_9 ⟨by decide, by decide⟩ (Nat.le_of_ble_eq_true rfl) (f_X12_in_ok e9) ?_
  obtain ⟨p12, e12, h⟩ := obind h
  refine g_sP2 ms_X12_157 dX12_packs_12 ⟨by decide, by decide⟩ (Nat.le_of_ble_eq_true rfl) (f_X12_unless__ok e12) ?_
  obtain ⟨p15, e15, h⟩ := obind h
  refine g_vP1 mv_X12_161 dX12_packs_15 ok_28 ⟨by decide, by decide⟩ (Nat.le_of_ble_eq_true rfl) (f_X12_isRefused_ok e15) ?_
  refine g_if_eq 23 dX12_packs_18 rfl (fun q => ?_) (fun q => ?_)
  · replace h := gif_t q h
    refine g_aload_n dX12_packs_23 rfl ?_
    refine g_iload_n dX12_packs_24 rfl ?_
    obtain ⟨z25, e25, h⟩ := obind h
    refine g_vU1 mv_X12_303 dX12_packs_25 ok_28 ⟨by decide, by decide⟩ (Nat.le_of_ble_eq_true rfl) (f_X12_laysMet_ok e25) ?_
    refine g_iconst dX12_packs_28 kc_0 ?_
    refine g_istore2 dX12_packs_29 ?_
    exact f_X12_packs_30_ok gFuel h
  · replace h := gif_f q h
    refine g_iconst dX12_packs_21 kc_m1 ?_
    cases h
    exact g_iret dX12_packs_22 rfl ⟨rfl, rfl⟩
theorem dX12_pack_0 : decode cX12_pack 0 = .ok (.aload_n 0, 1) := by decide +kernel
theorem dX12_pack_1 : decode cX12_pack 1 = .ok (.aload_n 0, 1) := by decide +kernel
theorem dX12_pack_2 : decode cX12_pack 2 = .ok (.getfield 173, 3) := by decide +kernel
theorem dX12_pack_5 : decode cX12_pack 5 = .ok (.ifCond .eq 20, 3) := by decide +kernel
theorem dX12_pack_8 : decode cX12_pack 8 = .ok (.iload_n 2, 1) := by decide +kernel
theorem dX12_pack_9 : decode cX12_pack 9 = .ok (.ifCond .lt 16, 3) := by decide +kernel
theorem dX12_pack_12 : decode cX12_pack 12 = .ok (.iload_n 3, 1) := by decide +kernel
theorem dX12_pack_13 : decode cX12_pack 13 = .ok (.iconst 0, 1) := by decide +kernel
theorem dX12_pack_14 : decode cX12_pack 14 = .ok (.iconst 3, 1) := by decide +kernel
theorem dX12_pack_15 : decode cX12_pack 15 = .ok (.invokestatic 79, 3) := by decide +kernel
theorem dX12_pack_18 : decode cX12_pack 18 = .ok (.ifCond .eq 7, 3) := by decide +kernel
theorem dX12_pack_21 : decode cX12_pack 21 = .ok (.iconst 1, 1) := by decide +kernel
theorem dX12_pack_22 : decode cX12_pack 22 = .ok (.goto 4, 3) := by decide +kernel
theorem dX12_pack_25 : decode cX12_pack 25 = .ok (.iconst 0, 1) := by decide +kernel
theorem dX12_pack_26 : decode cX12_pack 26 = .ok (.iload_n 1, 1) := by decide +kernel
theorem dX12_pack_27 : decode cX12_pack 27 = .ok (.iconst 1, 1) := by decide +kernel
theorem dX12_pack_28 : decode cX12_pack 28 = .ok (.bipush 99, 2) := by decide +kernel
theorem dX12_pack_30 : decode cX12_pack 30 = .ok (.invokestatic 79, 3) := by decide +kernel
theorem dX12_pack_33 : decode cX12_pack 33 = .ok (.invokestatic 157, 3) := by decide +kernel
theorem dX12_pack_36 : decode cX12_pack 36 = .ok (.invokevirtual 161, 3) := by decide +kernel
theorem dX12_pack_39 : decode cX12_pack 39 = .ok (.ifCond .eq 5, 3) := by decide +kernel
theorem dX12_pack_42 : decode cX12_pack 42 = .ok (.iconst (-1), 1) := by decide +kernel
theorem dX12_pack_43 : decode cX12_pack 43 = .ok (.ireturn, 1) := by decide +kernel
theorem dX12_pack_44 : decode cX12_pack 44 = .ok (.aload_n 0, 1) := by decide +kernel
theorem dX12_pack_45 : decode cX12_pack 45 = .ok (.iload_n 1, 1) := by decide +kernel
theorem dX12_pack_46 : decode cX12_pack 46 = .ok (.invokevirtual 303, 3) := by decide +kernel
theorem dX12_pack_49 : decode cX12_pack 49 = .ok (.aload_n 0, 1) := by decide +kernel
theorem dX12_pack_50 : decode cX12_pack 50 = .ok (.iload_n 2, 1) := by decide +kernel
theorem dX12_pack_51 : decode cX12_pack 51 = .ok (.invokevirtual 306, 3) := by decide +kernel
theorem dX12_pack_54 : decode cX12_pack 54 = .ok (.ifCond .ne 6, 3) := by decide +kernel
theorem dX12_pack_57 : decode cX12_pack 57 = .ok (.bipush (-2), 2) := by decide +kernel
theorem dX12_pack_59 : decode cX12_pack 59 = .ok (.ireturn, 1) := by decide +kernel
theorem dX12_pack_60 : decode cX12_pack 60 = .ok (.iload_n 3, 1) := by decide +kernel
theorem dX12_pack_61 : decode cX12_pack 61 = .ok (.iconst 1, 1) := by decide +kernel
theorem dX12_pack_62 : decode cX12_pack 62 = .ok (.if_icmp .eq 48, 3) := by decide +kernel
theorem dX12_pack_65 : decode cX12_pack 65 = .ok (.iload_n 3, 1) := by decide +kernel
theorem dX12_pack_66 : decode cX12_pack 66 = .ok (.ifCond .ne 15, 3) := by decide +kernel
theorem dX12_pack_69 : decode cX12_pack 69 = .ok (.aload_n 0, 1) := by decide +kernel
theorem dX12_pack_70 : decode cX12_pack 70 = .ok (.getfield 300, 3) := by decide +kernel
theorem dX12_pack_73 : decode cX12_pack 73 = .ok (.aload_n 0, 1) := by decide +kernel
theorem dX12_pack_74 : decode cX12_pack 74 = .ok (.getfield 297, 3) := by decide +kernel
theorem dX12_pack_77 : decode cX12_pack 77 = .ok (.isub, 1) := by decide +kernel
theorem dX12_pack_78 : decode cX12_pack 78 = .ok (.goto 31, 3) := by decide +kernel
theorem dX12_pack_81 : decode cX12_pack 81 = .ok (.iload_n 3, 1) := by decide +kernel
theorem dX12_pack_82 : decode cX12_pack 82 = .ok (.iconst 2, 1) := by decide +kernel
theorem dX12_pack_83 : decode cX12_pack 83 = .ok (.if_icmp .ne 15, 3) := by decide +kernel
theorem dX12_pack_86 : decode cX12_pack 86 = .ok (.aload_n 0, 1) := by decide +kernel
theorem dX12_pack_87 : decode cX12_pack 87 = .ok (.getfield 41, 3) := by decide +kernel
theorem dX12_pack_90 : decode cX12_pack 90 = .ok (.aload_n 0, 1) := by decide +kernel
theorem dX12_pack_91 : decode cX12_pack 91 = .ok (.getfield 297, 3) := by decide +kernel
theorem dX12_pack_94 : decode cX12_pack 94 = .ok (.iaload, 1) := by decide +kernel
theorem dX12_pack_95 : decode cX12_pack 95 = .ok (.goto 14, 3) := by decide +kernel
theorem dX12_pack_98 : decode cX12_pack 98 = .ok (.aload_n 0, 1) := by decide +kernel
theorem dX12_pack_99 : decode cX12_pack 99 = .ok (.getfield 41, 3) := by decide +kernel
theorem dX12_pack_102 : decode cX12_pack 102 = .ok (.aload_n 0, 1) := by decide +kernel
theorem dX12_pack_103 : decode cX12_pack 103 = .ok (.getfield 300, 3) := by decide +kernel
theorem dX12_pack_106 : decode cX12_pack 106 = .ok (.iconst 1, 1) := by decide +kernel
theorem dX12_pack_107 : decode cX12_pack 107 = .ok (.isub, 1) := by decide +kernel
theorem dX12_pack_108 : decode cX12_pack 108 = .ok (.iaload, 1) := by decide +kernel
theorem dX12_pack_109 : decode cX12_pack 109 = .ok (.ireturn, 1) := by decide +kernel
theorem dX12_pack_110 : decode cX12_pack 110 = .ok (.iconst 0, 1) := by decide +kernel
theorem dX12_pack_111 : decode cX12_pack 111 = .ok (.istore 4, 2) := by decide +kernel
theorem dX12_pack_113 : decode cX12_pack 113 = .ok (.aload_n 0, 1) := by decide +kernel
theorem dX12_pack_114 : decode cX12_pack 114 = .ok (.getfield 297, 3) := by decide +kernel
theorem dX12_pack_117 : decode cX12_pack 117 = .ok (.istore 5, 2) := by decide +kernel
theorem dX12_pack_119 : decode cX12_pack 119 = .ok (.iload 5, 2) := by decide +kernel
theorem dX12_pack_121 : decode cX12_pack 121 = .ok (.aload_n 0, 1) := by decide +kernel
theorem dX12_pack_122 : decode cX12_pack 122 = .ok (.getfield 300, 3) := by decide +kernel
theorem dX12_pack_125 : decode cX12_pack 125 = .ok (.if_icmp .ge 23, 3) := by decide +kernel
theorem dX12_pack_128 : decode cX12_pack 128 = .ok (.iload 4, 2) := by decide +kernel
theorem dX12_pack_130 : decode cX12_pack 130 = .ok (.iconst 1, 1) := by decide +kernel
theorem dX12_pack_131 : decode cX12_pack 131 = .ok (.aload_n 0, 1) := by decide +kernel
theorem dX12_pack_132 : decode cX12_pack 132 = .ok (.getfield 44, 3) := by decide +kernel
theorem dX12_pack_135 : decode cX12_pack 135 = .ok (.iload 5, 2) := by decide +kernel
theorem dX12_pack_137 : decode cX12_pack 137 = .ok (.iaload, 1) := by decide +kernel
theorem dX12_pack_138 : decode cX12_pack 138 = .ok (.ishl, 1) := by decide +kernel
theorem dX12_pack_139 : decode cX12_pack 139 = .ok (.ior, 1) := by decide +kernel
theorem dX12_pack_140 : decode cX12_pack 140 = .ok (.istore 4, 2) := by decide +kernel
theorem dX12_pack_142 : decode cX12_pack 142 = .ok (.iinc 5 1, 3) := by decide +kernel
theorem dX12_pack_145 : decode cX12_pack 145 = .ok (.goto (-26), 3) := by decide +kernel
theorem dX12_pack_148 : decode cX12_pack 148 = .ok (.iload 4, 2) := by decide +kernel
theorem dX12_pack_150 : decode cX12_pack 150 = .ok (.ireturn, 1) := by decide +kernel
def f_X12_pack_119  : Nat → Int32 → Int32 → gSt → Option (Int32 × gSt)
  | 0, _, _, _ => none
  | n + 1, v4, v5, σ =>
    if (σ 28 0 29) ≤ v5 then
      some (v4, σ)
    else
      (gld σ 39 0 100 v5).bind fun a137 =>
      f_X12_pack_119 n (v4 ||| (1 <<< (a137 &&& 31))) (v5 + 1) σ
def f_X12_pack_26 (v1 : Int32) (v2 : Int32) (v3 : Int32) (vs1 : Int32) (σ : gSt) : Option (Int32 × gSt) :=
  (f_X12_in v1 1 99 σ).bind fun p30 =>
  (f_X12_unless_ vs1 p30.1 p30.2).bind fun p33 =>
  (f_X12_isRefused p33.1 p33.2).bind fun p36 =>
  if p36.1 = 0 then
    (f_X12_laysMet v1 p36.2).bind fun z46 =>
    (f_X12_findsPack v2 z46).bind fun p51 =>
    if p51.1 = 0 then
      some ((-2), p51.2)
    else
      if v3 = 1 then
        f_X12_pack_119 gFuel 0 (p51.2 28 0 28) p51.2
      else
        if v3 = 0 then
          some (((p51.2 28 0 29) - (p51.2 28 0 28)), p51.2)
        else
          if v3 = 2 then
            (gld p51.2 38 0 100 (p51.2 28 0 28)).bind fun a94 =>
            some (a94, p51.2)
          else
            (gld p51.2 38 0 100 ((p51.2 28 0 29) - 1)).bind fun a108 =>
            some (a108, p51.2)
  else
    some ((-1), p36.2)
def f_X12_pack_25 (v1 : Int32) (v2 : Int32) (v3 : Int32) (σ : gSt) : Option (Int32 × gSt) :=
  f_X12_pack_26 v1 v2 v3 0 σ
def f_X12_pack (v1 : Int32) (v2 : Int32) (v3 : Int32) (σ : gSt) : Option (Int32 × gSt) :=
  if (σ 28 0 6) = 0 then
    f_X12_pack_25 v1 v2 v3 σ
  else
    if v2 < 0 then
      f_X12_pack_25 v1 v2 v3 σ
    else
      (f_X12_in v3 0 3 σ).bind fun p15 =>
      if p15.1 = 0 then
        f_X12_pack_25 v1 v2 v3 p15.2
      else
        f_X12_pack_26 v1 v2 v3 1 p15.2
theorem f_X12_pack_119_ok  {r : (Int32 × gSt)}  : ∀ (n : Nat) {v4 : Int32} {v5 : Int32} {σ : gSt} {x1 x2 x3 : Option Value}, f_X12_pack_119 n v4 v5 σ = some r → G l w 0 41 RX12 cX12_pack 6 (some .int) 4 98 (gE (some (.int r.1)) r.2) 119 [some (.ref (w.2.1 28 0)), x1, x2, x3, some (.int v4), some (.int v5)] [] σ := by
  intro n
  induction n with
  | zero => intro v4 v5 σ x1 x2 x3 h; rw [f_X12_pack_119] at h; cases h
  | succ n ih =>
    intro v4 v5 σ x1 x2 x3 h
    rw [f_X12_pack_119] at h
    refine g_iload dX12_pack_119 rfl ?_
    refine g_aload_n dX12_pack_121 rfl ?_
    refine gI_X12_300 ok_28 dX12_pack_122 ?_
    refine g_icmp_ge 148 dX12_pack_125 rfl (fun q => ?_) (fun q => ?_)
    · replace h := gif_t q h
      refine g_iload dX12_pack_148 rfl ?_
      cases h
      exact g_iret dX12_pack_150 rfl ⟨rfl, rfl⟩
    · replace h := gif_f q h
      refine g_iload dX12_pack_128 rfl ?_
      refine g_iconst dX12_pack_130 kc_1 ?_
      refine g_aload_n dX12_pack_131 rfl ?_
      refine gR_X12_44 ok_28 dX12_pack_132 ?_
      refine g_iload dX12_pack_135 rfl ?_
      obtain ⟨a137, e137, h⟩ := obind h
      refine g_ldB e137 ok_39 rfl rfl (by decide) dX12_pack_137 ?_
      refine g_ishl dX12_pack_138 ?_
      refine g_ior dX12_pack_139 ?_
      refine g_istore4 dX12_pack_140 ?_
      refine g_inc5 kc_1 dX12_pack_142 ?_
      refine g_goto 119 dX12_pack_145 rfl ?_
      exact ih h
theorem f_X12_pack_26_ok {v1 : Int32} {v2 : Int32} {v3 : Int32} {vs1 : Int32} {r : (Int32 × gSt)}  {σ : gSt} {x4 x5 : Option Value} (h : f_X12_pack_26 v1 v2 v3 vs1 σ = some r) : G l w 0 41 RX12 cX12_pack 6 (some .int) 4 98 (gE (some (.int r.1)) r.2) 26 [some (.ref (w.2.1 28 0)), some (.int v1), some (.int v2), some (.int v3), x4, x5] [.int vs1, .ref (w.2.1 28 0)] σ := by
  unfold f_X12_pack_26 at h
  refine g_iload_n dX12_pack_26 rfl ?_
  refine g_iconst dX12_pack_27 kc_1 ?_
  refine g_bipush dX12_pack_28 kb_99 ?_
  obtain ⟨p30, e30, h⟩ := obind h
  refine g_sP3 ms_X12_79 dX12_pack_30 ⟨by decide, by decide⟩ (Nat.le_of_ble_eq_true rfl) (f_X12_in_ok e30) ?_
  obtain ⟨p33, e33, h⟩ := obind h
  refine g_sP2 ms_X12_157 dX12_pack_33 ⟨by decide, by decide⟩ (Nat.le_of_ble_eq_true rfl) (f_X12_unless__ok e33) ?_
  obtain ⟨p36, e36, h⟩ := obind h
  refine g_vP1 mv_X12_161 dX12_pack_36 ok_28 ⟨by decide, by decide⟩ (Nat.le_of_ble_eq_true rfl) (f_X12_isRefused_ok e36) ?_
  refine g_if_eq 44 dX12_pack_39 rfl (fun q => ?_) (fun q => ?_)
  · replace h := gif_t q h
    refine g_aload_n dX12_pack_44 rfl ?_
    refine g_iload_n dX12_pack_45 rfl ?_
    obtain ⟨z46, e46, h⟩ := obind h
    refine g_vU1 mv_X12_303 dX12_pack_46 ok_28 ⟨by decide, by decide⟩ (Nat.le_of_ble_eq_true rfl) (f_X12_laysMet_ok e46) ?_
    refine g_aload_n dX12_pack_49 rfl ?_
    refine g_iload_n dX12_pack_50 rfl ?_
    obtain ⟨p51, e51, h⟩ := obind h
    refine g_vP1 mv_X12_306 dX12_pack_51 ok_28 ⟨by decide, by decide⟩ (Nat.le_of_ble_eq_true rfl) (f_X12_findsPack_ok e51) ?_
    refine g_if_ne 60 dX12_pack_54 rfl (fun q => ?_) (fun q => ?_)
    · replace h := gif_f q h
      refine g_iload_n dX12_pack_60 rfl ?_
      refine g_iconst dX12_pack_61 kc_1 ?_
      refine g_icmp_eq 110 dX12_pack_62 rfl (fun q => ?_) (fun q => ?_)
      · replace h := gif_t q h
        refine g_iconst dX12_pack_110 kc_0 ?_
        refine g_istore4 dX12_pack_111 ?_
        refine g_aload_n dX12_pack_113 rfl ?_
        refine gI_X12_297 ok_28 dX12_pack_114 ?_
        refine g_istore5 dX12_pack_117 ?_
        exact f_X12_pack_119_ok gFuel h
      · replace h := gif_f q h
        refine g_iload_n dX12_pack_65 rfl ?_
        refine g_if_ne 81 dX12_pack_66 rfl (fun q => ?_) (fun q => ?_)
        · replace h := gif_f q h
          refine g_iload_n dX12_pack_81 rfl ?_
          refine g_iconst dX12_pack_82 kc_2 ?_
          refine g_icmp_ne 98 dX12_pack_83 rfl (fun q => ?_) (fun q => ?_)
          · replace h := gif_f q h
            refine g_aload_n dX12_pack_98 rfl ?_
            refine gR_X12_41 ok_28 dX12_pack_99 ?_
            refine g_aload_n dX12_pack_102 rfl ?_
            refine gI_X12_300 ok_28 dX12_pack_103 ?_
            refine g_iconst dX12_pack_106 kc_1 ?_
            refine g_isub dX12_pack_107 ?_
            obtain ⟨a108, e108, h⟩ := obind h
            refine g_ldB e108 ok_38 rfl rfl (by decide) dX12_pack_108 ?_
            cases h
            exact g_iret dX12_pack_109 rfl ⟨rfl, rfl⟩
          · replace h := gif_t q h
            refine g_aload_n dX12_pack_86 rfl ?_
            refine gR_X12_41 ok_28 dX12_pack_87 ?_
            refine g_aload_n dX12_pack_90 rfl ?_
            refine gI_X12_297 ok_28 dX12_pack_91 ?_
            obtain ⟨a94, e94, h⟩ := obind h
            refine g_ldB e94 ok_38 rfl rfl (by decide) dX12_pack_94 ?_
            refine g_goto 109 dX12_pack_95 rfl ?_
            cases h
            exact g_iret dX12_pack_109 rfl ⟨rfl, rfl⟩
        · replace h := gif_t q h
          refine g_aload_n dX12_pack_69 rfl ?_
          refine gI_X12_300 ok_28 dX12_pack_70 ?_
          refine g_aload_n dX12_pack_73 rfl ?_
          refine gI_X12_297 ok_28 dX12_pack_74 ?_
          refine g_isub dX12_pack_77 ?_
          refine g_goto 109 dX12_pack_78 rfl ?_
          cases h
          exact g_iret dX12_pack_109 rfl ⟨rfl, rfl⟩
    · replace h := gif_t q h
      refine g_bipush dX12_pack_57 kb_m2 ?_
      cases h
      exact g_iret dX12_pack_59 rfl ⟨rfl, rfl⟩
  · replace h := gif_f q h
    refine g_iconst dX12_pack_42 kc_m1 ?_
    cases h
    exact g_iret dX12_pack_43 rfl ⟨rfl, rfl⟩
theorem f_X12_pack_25_ok {v1 : Int32} {v2 : Int32} {v3 : Int32} {r : (Int32 × gSt)}  {σ : gSt} {x4 x5 : Option Value} (h : f_X12_pack_25 v1 v2 v3 σ = some r) : G l w 0 41 RX12 cX12_pack 6 (some .int) 4 98 (gE (some (.int r.1)) r.2) 25 [some (.ref (w.2.1 28 0)), some (.int v1), some (.int v2), some (.int v3), x4, x5] [.ref (w.2.1 28 0)] σ := by
  unfold f_X12_pack_25 at h
  refine g_iconst dX12_pack_25 kc_0 ?_
  exact f_X12_pack_26_ok h
theorem f_X12_pack_ok {v1 : Int32} {v2 : Int32} {v3 : Int32}  {σ : gSt} {r : (Int32 × gSt)} (h : f_X12_pack v1 v2 v3 σ = some r) : Mt l w 0 41 yX12_pack cX12_pack 6 (some .int) 4 98 [.ref (w.2.1 28 0), .int v1, .int v2, .int v3] σ (gE (some (.int r.1)) r.2) := by
  unfold f_X12_pack at h
  refine g_start pn_X12 rfl rfl (Nat.le_of_ble_eq_true rfl) ?_
  show G l w 0 41 RX12 cX12_pack 6 (some .int) 4 98 (gE (some (.int r.1)) r.2) 0 [some (.ref (w.2.1 28 0)), some (.int v1), some (.int v2), some (.int v3), none, none] [] σ
  refine g_aload_n dX12_pack_0 rfl ?_
  refine g_aload_n dX12_pack_1 rfl ?_
  refine gI_X12_173 ok_28 dX12_pack_2 ?_
  refine g_if_eq 25 dX12_pack_5 rfl (fun q => ?_) (fun q => ?_)
  · replace h := gif_t q h
    exact f_X12_pack_25_ok h
  · replace h := gif_f q h
    refine g_iload_n dX12_pack_8 rfl ?_
    refine g_if_lt 25 dX12_pack_9 rfl (fun q => ?_) (fun q => ?_)
    · replace h := gif_t q h
      exact f_X12_pack_25_ok h
    · replace h := gif_f q h
      refine g_iload_n dX12_pack_12 rfl ?_
      refine g_iconst dX12_pack_13 kc_0 ?_
      refine g_iconst dX12_pack_14 kc_3 ?_
      obtain ⟨p15, e15, h⟩ := obind h
      refine g_sP3 ms_X12_79 dX12_pack_15 ⟨by decide, by decide⟩ (Nat.le_of_ble_eq_true rfl) (f_X12_in_ok e15) ?_
      refine g_if_eq 25 dX12_pack_18 rfl (fun q => ?_) (fun q => ?_)
      · replace h := gif_t q h
        exact f_X12_pack_25_ok h
      · replace h := gif_f q h
        refine g_iconst dX12_pack_21 kc_1 ?_
        refine g_goto 26 dX12_pack_22 rfl ?_
        exact f_X12_pack_26_ok h
theorem dX12_togetherOf_0 : decode cX12_togetherOf 0 = .ok (.iconst 0, 1) := by decide +kernel
theorem dX12_togetherOf_1 : decode cX12_togetherOf 1 = .ok (.istore_n 3, 1) := by decide +kernel
theorem dX12_togetherOf_2 : decode cX12_togetherOf 2 = .ok (.iconst 0, 1) := by decide +kernel
theorem dX12_togetherOf_3 : decode cX12_togetherOf 3 = .ok (.istore 4, 2) := by decide +kernel
theorem dX12_togetherOf_5 : decode cX12_togetherOf 5 = .ok (.iload 4, 2) := by decide +kernel
theorem dX12_togetherOf_7 : decode cX12_togetherOf 7 = .ok (.aload_n 0, 1) := by decide +kernel
theorem dX12_togetherOf_8 : decode cX12_togetherOf 8 = .ok (.getfield 17, 3) := by decide +kernel
theorem dX12_togetherOf_11 : decode cX12_togetherOf 11 = .ok (.iconst 4, 1) := by decide +kernel
theorem dX12_togetherOf_12 : decode cX12_togetherOf 12 = .ok (.aload_n 0, 1) := by decide +kernel
theorem dX12_togetherOf_13 : decode cX12_togetherOf 13 = .ok (.getfield 17, 3) := by decide +kernel
theorem dX12_togetherOf_16 : decode cX12_togetherOf 16 = .ok (.bipush 37, 2) := by decide +kernel
theorem dX12_togetherOf_18 : decode cX12_togetherOf 18 = .ok (.iload_n 1, 1) := by decide +kernel
theorem dX12_togetherOf_19 : decode cX12_togetherOf 19 = .ok (.iadd, 1) := by decide +kernel
theorem dX12_togetherOf_20 : decode cX12_togetherOf 20 = .ok (.iaload, 1) := by decide +kernel
theorem dX12_togetherOf_21 : decode cX12_togetherOf 21 = .ok (.iadd, 1) := by decide +kernel
theorem dX12_togetherOf_22 : decode cX12_togetherOf 22 = .ok (.iaload, 1) := by decide +kernel
theorem dX12_togetherOf_23 : decode cX12_togetherOf 23 = .ok (.if_icmp .gt 74, 3) := by decide +kernel
theorem dX12_togetherOf_26 : decode cX12_togetherOf 26 = .ok (.aload_n 0, 1) := by decide +kernel
theorem dX12_togetherOf_27 : decode cX12_togetherOf 27 = .ok (.iload_n 1, 1) := by decide +kernel
theorem dX12_togetherOf_28 : decode cX12_togetherOf 28 = .ok (.iload 4, 2) := by decide +kernel
theorem dX12_togetherOf_30 : decode cX12_togetherOf 30 = .ok (.invokevirtual 212, 3) := by decide +kernel
theorem dX12_togetherOf_33 : decode cX12_togetherOf 33 = .ok (.istore 5, 2) := by decide +kernel
theorem dX12_togetherOf_35 : decode cX12_togetherOf 35 = .ok (.aload_n 0, 1) := by decide +kernel
theorem dX12_togetherOf_36 : decode cX12_togetherOf 36 = .ok (.iload_n 2, 1) := by decide +kernel
theorem dX12_togetherOf_37 : decode cX12_togetherOf 37 = .ok (.iload 4, 2) := by decide +kernel
theorem dX12_togetherOf_39 : decode cX12_togetherOf 39 = .ok (.invokevirtual 212, 3) := by decide +kernel
theorem dX12_togetherOf_42 : decode cX12_togetherOf 42 = .ok (.istore 6, 2) := by decide +kernel
theorem dX12_togetherOf_44 : decode cX12_togetherOf 44 = .ok (.iload_n 3, 1) := by decide +kernel
theorem dX12_togetherOf_45 : decode cX12_togetherOf 45 = .ok (.iload 5, 2) := by decide +kernel
theorem dX12_togetherOf_47 : decode cX12_togetherOf 47 = .ok (.iconst (-1), 1) := by decide +kernel
theorem dX12_togetherOf_48 : decode cX12_togetherOf 48 = .ok (.if_icmp .eq 40, 3) := by decide +kernel
theorem dX12_togetherOf_51 : decode cX12_togetherOf 51 = .ok (.iload 6, 2) := by decide +kernel
theorem dX12_togetherOf_53 : decode cX12_togetherOf 53 = .ok (.iconst (-1), 1) := by decide +kernel
theorem dX12_togetherOf_54 : decode cX12_togetherOf 54 = .ok (.if_icmp .eq 34, 3) := by decide +kernel
theorem dX12_togetherOf_57 : decode cX12_togetherOf 57 = .ok (.iload 5, 2) := by decide +kernel
theorem dX12_togetherOf_59 : decode cX12_togetherOf 59 = .ok (.iload 6, 2) := by decide +kernel
theorem dX12_togetherOf_61 : decode cX12_togetherOf 61 = .ok (.isub, 1) := by decide +kernel
theorem dX12_togetherOf_62 : decode cX12_togetherOf 62 = .ok (.aload_n 0, 1) := by decide +kernel
theorem dX12_togetherOf_63 : decode cX12_togetherOf 63 = .ok (.getfield 17, 3) := by decide +kernel
theorem dX12_togetherOf_66 : decode cX12_togetherOf 66 = .ok (.iconst 2, 1) := by decide +kernel
theorem dX12_togetherOf_67 : decode cX12_togetherOf 67 = .ok (.iaload, 1) := by decide +kernel
theorem dX12_togetherOf_68 : decode cX12_togetherOf 68 = .ok (.ineg, 1) := by decide +kernel
theorem dX12_togetherOf_69 : decode cX12_togetherOf 69 = .ok (.aload_n 0, 1) := by decide +kernel
theorem dX12_togetherOf_70 : decode cX12_togetherOf 70 = .ok (.getfield 17, 3) := by decide +kernel
theorem dX12_togetherOf_73 : decode cX12_togetherOf 73 = .ok (.iconst 2, 1) := by decide +kernel
theorem dX12_togetherOf_74 : decode cX12_togetherOf 74 = .ok (.iaload, 1) := by decide +kernel
theorem dX12_togetherOf_75 : decode cX12_togetherOf 75 = .ok (.invokestatic 79, 3) := by decide +kernel
theorem dX12_togetherOf_78 : decode cX12_togetherOf 78 = .ok (.ifCond .eq 10, 3) := by decide +kernel
theorem dX12_togetherOf_81 : decode cX12_togetherOf 81 = .ok (.iconst 1, 1) := by decide +kernel
theorem dX12_togetherOf_82 : decode cX12_togetherOf 82 = .ok (.iload 4, 2) := by decide +kernel
theorem dX12_togetherOf_84 : decode cX12_togetherOf 84 = .ok (.ishl, 1) := by decide +kernel
theorem dX12_togetherOf_85 : decode cX12_togetherOf 85 = .ok (.goto 4, 3) := by decide +kernel
theorem dX12_togetherOf_88 : decode cX12_togetherOf 88 = .ok (.iconst 0, 1) := by decide +kernel
theorem dX12_togetherOf_89 : decode cX12_togetherOf 89 = .ok (.ior, 1) := by decide +kernel
theorem dX12_togetherOf_90 : decode cX12_togetherOf 90 = .ok (.istore_n 3, 1) := by decide +kernel
theorem dX12_togetherOf_91 : decode cX12_togetherOf 91 = .ok (.iinc 4 1, 3) := by decide +kernel
theorem dX12_togetherOf_94 : decode cX12_togetherOf 94 = .ok (.goto (-89), 3) := by decide +kernel
theorem dX12_togetherOf_97 : decode cX12_togetherOf 97 = .ok (.iload_n 3, 1) := by decide +kernel
theorem dX12_togetherOf_98 : decode cX12_togetherOf 98 = .ok (.ireturn, 1) := by decide +kernel
def f_X12_togetherOf_5 (v1 : Int32) (v2 : Int32) : Nat → Int32 → Int32 → gSt → Option (Int32 × gSt)
  | 0, _, _, _ => none
  | n + 1, v3, v4, σ =>
    (gld σ 30 0 397 (37 + v1)).bind fun a20 =>
    (gld σ 30 0 397 (4 + a20)).bind fun a22 =>
    if a22 < v4 then
      some (v3, σ)
    else
      (f_X12_timeAt v1 v4 σ).bind fun p30 =>
      (f_X12_timeAt v2 v4 p30.2).bind fun p39 =>
      if p30.1 = (-1) then
        f_X12_togetherOf_5 v1 v2 n (v3 ||| 0) (v4 + 1) p39.2
      else
        if p39.1 = (-1) then
          f_X12_togetherOf_5 v1 v2 n (v3 ||| 0) (v4 + 1) p39.2
        else
          (gld p39.2 30 0 397 2).bind fun a67 =>
          (gld p39.2 30 0 397 2).bind fun a74 =>
          (f_X12_in (p30.1 - p39.1) (-a67) a74 p39.2).bind fun p75 =>
          if p75.1 = 0 then
            f_X12_togetherOf_5 v1 v2 n (v3 ||| 0) (v4 + 1) p75.2
          else
            f_X12_togetherOf_5 v1 v2 n (v3 ||| (1 <<< (v4 &&& 31))) (v4 + 1) p75.2
def f_X12_togetherOf (v1 : Int32) (v2 : Int32) (σ : gSt) : Option (Int32 × gSt) :=
  f_X12_togetherOf_5 v1 v2 gFuel 0 0 σ
theorem f_X12_togetherOf_5_ok {v1 : Int32} {v2 : Int32} {r : (Int32 × gSt)}  : ∀ (n : Nat) {v3 : Int32} {v4 : Int32} {σ : gSt} {x5 x6 : Option Value}, f_X12_togetherOf_5 v1 v2 n v3 v4 σ = some r → G l w 0 41 RX12 cX12_togetherOf 7 (some .int) 4 96 (gE (some (.int r.1)) r.2) 5 [some (.ref (w.2.1 28 0)), some (.int v1), some (.int v2), some (.int v3), some (.int v4), x5, x6] [] σ := by
  intro n
  induction n with
  | zero => intro v3 v4 σ x5 x6 h; rw [f_X12_togetherOf_5] at h; cases h
  | succ n ih =>
    intro v3 v4 σ x5 x6 h
    rw [f_X12_togetherOf_5] at h
    refine g_iload dX12_togetherOf_5 rfl ?_
    refine g_aload_n dX12_togetherOf_7 rfl ?_
    refine gR_X12_17 ok_28 dX12_togetherOf_8 ?_
    refine g_iconst dX12_togetherOf_11 kc_4 ?_
    refine g_aload_n dX12_togetherOf_12 rfl ?_
    refine gR_X12_17 ok_28 dX12_togetherOf_13 ?_
    refine g_bipush dX12_togetherOf_16 kb_37 ?_
    refine g_iload_n dX12_togetherOf_18 rfl ?_
    refine g_iadd dX12_togetherOf_19 ?_
    obtain ⟨a20, e20, h⟩ := obind h
    refine g_ldB e20 ok_30 rfl rfl (by decide) dX12_togetherOf_20 ?_
    refine g_iadd dX12_togetherOf_21 ?_
    obtain ⟨a22, e22, h⟩ := obind h
    refine g_ldB e22 ok_30 rfl rfl (by decide) dX12_togetherOf_22 ?_
    refine g_icmp_gt 97 dX12_togetherOf_23 rfl (fun q => ?_) (fun q => ?_)
    · replace h := gif_t q h
      refine g_iload_n dX12_togetherOf_97 rfl ?_
      cases h
      exact g_iret dX12_togetherOf_98 rfl ⟨rfl, rfl⟩
    · replace h := gif_f q h
      refine g_aload_n dX12_togetherOf_26 rfl ?_
      refine g_iload_n dX12_togetherOf_27 rfl ?_
      refine g_iload dX12_togetherOf_28 rfl ?_
      obtain ⟨p30, e30, h⟩ := obind h
      refine g_vP2 mv_X12_212 dX12_togetherOf_30 ok_28 ⟨by decide, by decide⟩ (Nat.le_of_ble_eq_true rfl) (f_X12_timeAt_ok e30) ?_
      refine g_istore5 dX12_togetherOf_33 ?_
      refine g_aload_n dX12_togetherOf_35 rfl ?_
      refine g_iload_n dX12_togetherOf_36 rfl ?_
      refine g_iload dX12_togetherOf_37 rfl ?_
      obtain ⟨p39, e39, h⟩ := obind h
      refine g_vP2 mv_X12_212 dX12_togetherOf_39 ok_28 ⟨by decide, by decide⟩ (Nat.le_of_ble_eq_true rfl) (f_X12_timeAt_ok e39) ?_
      refine g_istore6 dX12_togetherOf_42 ?_
      refine g_iload_n dX12_togetherOf_44 rfl ?_
      refine g_iload dX12_togetherOf_45 rfl ?_
      refine g_iconst dX12_togetherOf_47 kc_m1 ?_
      refine g_icmp_eq 88 dX12_togetherOf_48 rfl (fun q => ?_) (fun q => ?_)
      · replace h := gif_t q h
        refine g_iconst dX12_togetherOf_88 kc_0 ?_
        refine g_ior dX12_togetherOf_89 ?_
        refine g_istore3 dX12_togetherOf_90 ?_
        refine g_inc4 kc_1 dX12_togetherOf_91 ?_
        refine g_goto 5 dX12_togetherOf_94 rfl ?_
        exact ih h
      · replace h := gif_f q h
        refine g_iload dX12_togetherOf_51 rfl ?_
        refine g_iconst dX12_togetherOf_53 kc_m1 ?_
        refine g_icmp_eq 88 dX12_togetherOf_54 rfl (fun q => ?_) (fun q => ?_)
        · replace h := gif_t q h
          refine g_iconst dX12_togetherOf_88 kc_0 ?_
          refine g_ior dX12_togetherOf_89 ?_
          refine g_istore3 dX12_togetherOf_90 ?_
          refine g_inc4 kc_1 dX12_togetherOf_91 ?_
          refine g_goto 5 dX12_togetherOf_94 rfl ?_
          exact ih h
        · replace h := gif_f q h
          refine g_iload dX12_togetherOf_57 rfl ?_
          refine g_iload dX12_togetherOf_59 rfl ?_
          refine g_isub dX12_togetherOf_61 ?_
          refine g_aload_n dX12_togetherOf_62 rfl ?_
          refine gR_X12_17 ok_28 dX12_togetherOf_63 ?_
          refine g_iconst dX12_togetherOf_66 kc_2 ?_
          obtain ⟨a67, e67, h⟩ := obind h
          refine g_ldB e67 ok_30 rfl rfl (by decide) dX12_togetherOf_67 ?_
          refine g_ineg dX12_togetherOf_68 ?_
          refine g_aload_n dX12_togetherOf_69 rfl ?_
          refine gR_X12_17 ok_28 dX12_togetherOf_70 ?_
          refine g_iconst dX12_togetherOf_73 kc_2 ?_
          obtain ⟨a74, e74, h⟩ := obind h
          refine g_ldB e74 ok_30 rfl rfl (by decide) dX12_togetherOf_74 ?_
          obtain ⟨p75, e75, h⟩ := obind h
          refine g_sP3 ms_X12_79 dX12_togetherOf_75 ⟨by decide, by decide⟩ (Nat.le_of_ble_eq_true rfl) (f_X12_in_ok e75) ?_
          refine g_if_eq 88 dX12_togetherOf_78 rfl (fun q => ?_) (fun q => ?_)
          · replace h := gif_t q h
            refine g_iconst dX12_togetherOf_88 kc_0 ?_
            refine g_ior dX12_togetherOf_89 ?_
            refine g_istore3 dX12_togetherOf_90 ?_
            refine g_inc4 kc_1 dX12_togetherOf_91 ?_
            refine g_goto 5 dX12_togetherOf_94 rfl ?_
            exact ih h
          · replace h := gif_f q h
            refine g_iconst dX12_togetherOf_81 kc_1 ?_
            refine g_iload dX12_togetherOf_82 rfl ?_
            refine g_ishl dX12_togetherOf_84 ?_
            refine g_goto 89 dX12_togetherOf_85 rfl ?_
            refine g_ior dX12_togetherOf_89 ?_
            refine g_istore3 dX12_togetherOf_90 ?_
            refine g_inc4 kc_1 dX12_togetherOf_91 ?_
            refine g_goto 5 dX12_togetherOf_94 rfl ?_
            exact ih h
theorem f_X12_togetherOf_ok {v1 : Int32} {v2 : Int32}  {σ : gSt} {r : (Int32 × gSt)} (h : f_X12_togetherOf v1 v2 σ = some r) : Mt l w 0 41 yX12_togetherOf cX12_togetherOf 7 (some .int) 4 96 [.ref (w.2.1 28 0), .int v1, .int v2] σ (gE (some (.int r.1)) r.2) := by
  unfold f_X12_togetherOf at h
  refine g_start pn_X12 rfl rfl (Nat.le_of_ble_eq_true rfl) ?_
  show G l w 0 41 RX12 cX12_togetherOf 7 (some .int) 4 96 (gE (some (.int r.1)) r.2) 0 [some (.ref (w.2.1 28 0)), some (.int v1), some (.int v2), none, none, none, none] [] σ
  refine g_iconst dX12_togetherOf_0 kc_0 ?_
  refine g_istore3 dX12_togetherOf_1 ?_
  refine g_iconst dX12_togetherOf_2 kc_0 ?_
  refine g_istore4 dX12_togetherOf_3 ?_
  exact f_X12_togetherOf_5_ok gFuel h
theorem dX12_alone_0 : decode cX12_alone 0 = .ok (.aload_n 0, 1) := by decide +kernel
theorem dX12_alone_1 : decode cX12_alone 1 = .ok (.aload_n 0, 1) := by decide +kernel
theorem dX12_alone_2 : decode cX12_alone 2 = .ok (.iload_n 1, 1) := by decide +kernel
theorem dX12_alone_3 : decode cX12_alone 3 = .ok (.invokevirtual 187, 3) := by decide +kernel
theorem dX12_alone_6 : decode cX12_alone 6 = .ok (.invokestatic 234, 3) := by decide +kernel
theorem dX12_alone_9 : decode cX12_alone 9 = .ok (.invokevirtual 161, 3) := by decide +kernel
theorem dX12_alone_12 : decode cX12_alone 12 = .ok (.ifCond .eq 5, 3) := by decide +kernel
theorem dX12_alone_15 : decode cX12_alone 15 = .ok (.iconst (-1), 1) := by decide +kernel
theorem dX12_alone_16 : decode cX12_alone 16 = .ok (.ireturn, 1) := by decide +kernel
theorem dX12_alone_17 : decode cX12_alone 17 = .ok (.iconst 0, 1) := by decide +kernel
theorem dX12_alone_18 : decode cX12_alone 18 = .ok (.istore_n 2, 1) := by decide +kernel
theorem dX12_alone_19 : decode cX12_alone 19 = .ok (.iconst 0, 1) := by decide +kernel
theorem dX12_alone_20 : decode cX12_alone 20 = .ok (.istore_n 3, 1) := by decide +kernel
theorem dX12_alone_21 : decode cX12_alone 21 = .ok (.iload_n 3, 1) := by decide +kernel
theorem dX12_alone_22 : decode cX12_alone 22 = .ok (.aload_n 0, 1) := by decide +kernel
theorem dX12_alone_23 : decode cX12_alone 23 = .ok (.getfield 17, 3) := by decide +kernel
theorem dX12_alone_26 : decode cX12_alone 26 = .ok (.iconst 4, 1) := by decide +kernel
theorem dX12_alone_27 : decode cX12_alone 27 = .ok (.aload_n 0, 1) := by decide +kernel
theorem dX12_alone_28 : decode cX12_alone 28 = .ok (.getfield 17, 3) := by decide +kernel
theorem dX12_alone_31 : decode cX12_alone 31 = .ok (.bipush 37, 2) := by decide +kernel
theorem dX12_alone_33 : decode cX12_alone 33 = .ok (.iload_n 1, 1) := by decide +kernel
theorem dX12_alone_34 : decode cX12_alone 34 = .ok (.iadd, 1) := by decide +kernel
theorem dX12_alone_35 : decode cX12_alone 35 = .ok (.iaload, 1) := by decide +kernel
theorem dX12_alone_36 : decode cX12_alone 36 = .ok (.iadd, 1) := by decide +kernel
theorem dX12_alone_37 : decode cX12_alone 37 = .ok (.iaload, 1) := by decide +kernel
theorem dX12_alone_38 : decode cX12_alone 38 = .ok (.if_icmp .gt 29, 3) := by decide +kernel
theorem dX12_alone_41 : decode cX12_alone 41 = .ok (.iload_n 2, 1) := by decide +kernel
theorem dX12_alone_42 : decode cX12_alone 42 = .ok (.aload_n 0, 1) := by decide +kernel
theorem dX12_alone_43 : decode cX12_alone 43 = .ok (.iload_n 1, 1) := by decide +kernel
theorem dX12_alone_44 : decode cX12_alone 44 = .ok (.iload_n 3, 1) := by decide +kernel
theorem dX12_alone_45 : decode cX12_alone 45 = .ok (.invokevirtual 212, 3) := by decide +kernel
theorem dX12_alone_48 : decode cX12_alone 48 = .ok (.iconst (-1), 1) := by decide +kernel
theorem dX12_alone_49 : decode cX12_alone 49 = .ok (.if_icmp .eq 9, 3) := by decide +kernel
theorem dX12_alone_52 : decode cX12_alone 52 = .ok (.iconst 1, 1) := by decide +kernel
theorem dX12_alone_53 : decode cX12_alone 53 = .ok (.iload_n 3, 1) := by decide +kernel
theorem dX12_alone_54 : decode cX12_alone 54 = .ok (.ishl, 1) := by decide +kernel
theorem dX12_alone_55 : decode cX12_alone 55 = .ok (.goto 4, 3) := by decide +kernel
theorem dX12_alone_58 : decode cX12_alone 58 = .ok (.iconst 0, 1) := by decide +kernel
theorem dX12_alone_59 : decode cX12_alone 59 = .ok (.ior, 1) := by decide +kernel
theorem dX12_alone_60 : decode cX12_alone 60 = .ok (.istore_n 2, 1) := by decide +kernel
theorem dX12_alone_61 : decode cX12_alone 61 = .ok (.iinc 3 1, 3) := by decide +kernel
theorem dX12_alone_64 : decode cX12_alone 64 = .ok (.goto (-43), 3) := by decide +kernel
theorem dX12_alone_67 : decode cX12_alone 67 = .ok (.iconst 0, 1) := by decide +kernel
theorem dX12_alone_68 : decode cX12_alone 68 = .ok (.istore_n 3, 1) := by decide +kernel
theorem dX12_alone_69 : decode cX12_alone 69 = .ok (.iload_n 3, 1) := by decide +kernel
theorem dX12_alone_70 : decode cX12_alone 70 = .ok (.aload_n 0, 1) := by decide +kernel
theorem dX12_alone_71 : decode cX12_alone 71 = .ok (.getfield 17, 3) := by decide +kernel
theorem dX12_alone_74 : decode cX12_alone 74 = .ok (.iconst 1, 1) := by decide +kernel
theorem dX12_alone_75 : decode cX12_alone 75 = .ok (.iaload, 1) := by decide +kernel
theorem dX12_alone_76 : decode cX12_alone 76 = .ok (.if_icmp .ge 50, 3) := by decide +kernel
theorem dX12_alone_79 : decode cX12_alone 79 = .ok (.iload_n 2, 1) := by decide +kernel
theorem dX12_alone_80 : decode cX12_alone 80 = .ok (.iload_n 3, 1) := by decide +kernel
theorem dX12_alone_81 : decode cX12_alone 81 = .ok (.iload_n 1, 1) := by decide +kernel
theorem dX12_alone_82 : decode cX12_alone 82 = .ok (.if_icmp .eq 24, 3) := by decide +kernel
theorem dX12_alone_85 : decode cX12_alone 85 = .ok (.aload_n 0, 1) := by decide +kernel
theorem dX12_alone_86 : decode cX12_alone 86 = .ok (.getfield 17, 3) := by decide +kernel
theorem dX12_alone_89 : decode cX12_alone 89 = .ok (.bipush 37, 2) := by decide +kernel
theorem dX12_alone_91 : decode cX12_alone 91 = .ok (.iload_n 3, 1) := by decide +kernel
theorem dX12_alone_92 : decode cX12_alone 92 = .ok (.iadd, 1) := by decide +kernel
theorem dX12_alone_93 : decode cX12_alone 93 = .ok (.iaload, 1) := by decide +kernel
theorem dX12_alone_94 : decode cX12_alone 94 = .ok (.aload_n 0, 1) := by decide +kernel
theorem dX12_alone_95 : decode cX12_alone 95 = .ok (.getfield 17, 3) := by decide +kernel
theorem dX12_alone_98 : decode cX12_alone 98 = .ok (.bipush 37, 2) := by decide +kernel
theorem dX12_alone_100 : decode cX12_alone 100 = .ok (.iload_n 1, 1) := by decide +kernel
theorem dX12_alone_101 : decode cX12_alone 101 = .ok (.iadd, 1) := by decide +kernel
theorem dX12_alone_102 : decode cX12_alone 102 = .ok (.iaload, 1) := by decide +kernel
theorem dX12_alone_103 : decode cX12_alone 103 = .ok (.if_icmp .eq 7, 3) := by decide +kernel
theorem dX12_alone_106 : decode cX12_alone 106 = .ok (.iload_n 2, 1) := by decide +kernel
theorem dX12_alone_107 : decode cX12_alone 107 = .ok (.goto 11, 3) := by decide +kernel
theorem dX12_alone_110 : decode cX12_alone 110 = .ok (.aload_n 0, 1) := by decide +kernel
theorem dX12_alone_111 : decode cX12_alone 111 = .ok (.iload_n 1, 1) := by decide +kernel
theorem dX12_alone_112 : decode cX12_alone 112 = .ok (.iload_n 3, 1) := by decide +kernel
theorem dX12_alone_113 : decode cX12_alone 113 = .ok (.invokevirtual 309, 3) := by decide +kernel
theorem dX12_alone_116 : decode cX12_alone 116 = .ok (.iconst (-1), 1) := by decide +kernel
theorem dX12_alone_117 : decode cX12_alone 117 = .ok (.ixor, 1) := by decide +kernel
theorem dX12_alone_118 : decode cX12_alone 118 = .ok (.iand, 1) := by decide +kernel
theorem dX12_alone_119 : decode cX12_alone 119 = .ok (.istore_n 2, 1) := by decide +kernel
theorem dX12_alone_120 : decode cX12_alone 120 = .ok (.iinc 3 1, 3) := by decide +kernel
theorem dX12_alone_123 : decode cX12_alone 123 = .ok (.goto (-54), 3) := by decide +kernel
theorem dX12_alone_126 : decode cX12_alone 126 = .ok (.iload_n 2, 1) := by decide +kernel
theorem dX12_alone_127 : decode cX12_alone 127 = .ok (.ireturn, 1) := by decide +kernel
def f_X12_alone_69 (v1 : Int32) : Nat → Int32 → Int32 → gSt → Option (Int32 × gSt)
  | 0, _, _, _ => none
  | n + 1, v2, v3, σ =>
    (gld σ 30 0 397 1).bind fun a75 =>
    if a75 ≤ v3 then
      some (v2, σ)
    else
      if v3 = v1 then
        f_X12_alone_69 v1 n (v2 &&& v2) (v3 + 1) σ
      else
        (gld σ 30 0 397 (37 + v3)).bind fun a93 =>
        (gld σ 30 0 397 (37 + v1)).bind fun a102 =>
        if a93 = a102 then
          (f_X12_togetherOf v1 v3 σ).bind fun p113 =>
          f_X12_alone_69 v1 n (v2 &&& (p113.1 ^^^ (-1))) (v3 + 1) p113.2
        else
          f_X12_alone_69 v1 n (v2 &&& v2) (v3 + 1) σ
def f_X12_alone_21 (v1 : Int32) : Nat → Int32 → Int32 → gSt → Option (Int32 × gSt)
  | 0, _, _, _ => none
  | n + 1, v2, v3, σ =>
    (gld σ 30 0 397 (37 + v1)).bind fun a35 =>
    (gld σ 30 0 397 (4 + a35)).bind fun a37 =>
    if a37 < v3 then
      f_X12_alone_69 v1 gFuel v2 0 σ
    else
      (f_X12_timeAt v1 v3 σ).bind fun p45 =>
      if p45.1 = (-1) then
        f_X12_alone_21 v1 n (v2 ||| 0) (v3 + 1) p45.2
      else
        f_X12_alone_21 v1 n (v2 ||| (1 <<< (v3 &&& 31))) (v3 + 1) p45.2
def f_X12_alone (v1 : Int32) (σ : gSt) : Option (Int32 × gSt) :=
  (f_X12_isRunner v1 σ).bind fun p3 =>
  (f_X12_unless p3.1 p3.2).bind fun p6 =>
  (f_X12_isRefused p6.1 p6.2).bind fun p9 =>
  if p9.1 = 0 then
    f_X12_alone_21 v1 gFuel 0 0 p9.2
  else
    some ((-1), p9.2)
theorem f_X12_alone_69_ok {v1 : Int32} {r : (Int32 × gSt)}  : ∀ (n : Nat) {v2 : Int32} {v3 : Int32} {σ : gSt} , f_X12_alone_69 v1 n v2 v3 σ = some r → G l w 0 41 RX12 cX12_alone 4 (some .int) 5 122 (gE (some (.int r.1)) r.2) 69 [some (.ref (w.2.1 28 0)), some (.int v1), some (.int v2), some (.int v3)] [] σ := by
  intro n
  induction n with
  | zero => intro v2 v3 σ h; rw [f_X12_alone_69] at h; cases h
  | succ n ih =>
    intro v2 v3 σ h
    rw [f_X12_alone_69] at h
    refine g_iload_n dX12_alone_69 rfl ?_
    refine g_aload_n dX12_alone_70 rfl ?_
    refine gR_X12_17 ok_28 dX12_alone_71 ?_
    refine g_iconst dX12_alone_74 kc_1 ?_
    obtain ⟨a75, e75, h⟩ := obind h
    refine g_ldB e75 ok_30 rfl rfl (by decide) dX12_alone_75 ?_
    refine g_icmp_ge 126 dX12_alone_76 rfl (fun q => ?_) (fun q => ?_)
    · replace h := gif_t q h
      refine g_iload_n dX12_alone_126 rfl ?_
      cases h
      exact g_iret dX12_alone_127 rfl ⟨rfl, rfl⟩
    · replace h := gif_f q h
      refine g_iload_n dX12_alone_79 rfl ?_
      refine g_iload_n dX12_alone_80 rfl ?_
      refine g_iload_n dX12_alone_81 rfl ?_
      refine g_icmp_eq 106 dX12_alone_82 rfl (fun q => ?_) (fun q => ?_)
      · replace h := gif_t q h
        refine g_iload_n dX12_alone_106 rfl ?_
        refine g_goto 118 dX12_alone_107 rfl ?_
        refine g_iand dX12_alone_118 ?_
        refine g_istore2 dX12_alone_119 ?_
        refine g_inc3 kc_1 dX12_alone_120 ?_
        refine g_goto 69 dX12_alone_123 rfl ?_
        exact ih h
      · replace h := gif_f q h
        refine g_aload_n dX12_alone_85 rfl ?_
        refine gR_X12_17 ok_28 dX12_alone_86 ?_
        refine g_bipush dX12_alone_89 kb_37 ?_
        refine g_iload_n dX12_alone_91 rfl ?_
        refine g_iadd dX12_alone_92 ?_
        obtain ⟨a93, e93, h⟩ := obind h
        refine g_ldB e93 ok_30 rfl rfl (by decide) dX12_alone_93 ?_
        refine g_aload_n dX12_alone_94 rfl ?_
        refine gR_X12_17 ok_28 dX12_alone_95 ?_
        refine g_bipush dX12_alone_98 kb_37 ?_
        refine g_iload_n dX12_alone_100 rfl ?_
        refine g_iadd dX12_alone_101 ?_
        obtain ⟨a102, e102, h⟩ := obind h
        refine g_ldB e102 ok_30 rfl rfl (by decide) dX12_alone_102 ?_
        refine g_icmp_eq 110 dX12_alone_103 rfl (fun q => ?_) (fun q => ?_)
        · replace h := gif_t q h
          refine g_aload_n dX12_alone_110 rfl ?_
          refine g_iload_n dX12_alone_111 rfl ?_
          refine g_iload_n dX12_alone_112 rfl ?_
          obtain ⟨p113, e113, h⟩ := obind h
          refine g_vP2 mv_X12_309 dX12_alone_113 ok_28 ⟨by decide, by decide⟩ (Nat.le_of_ble_eq_true rfl) (f_X12_togetherOf_ok e113) ?_
          refine g_iconst dX12_alone_116 kc_m1 ?_
          refine g_ixor dX12_alone_117 ?_
          refine g_iand dX12_alone_118 ?_
          refine g_istore2 dX12_alone_119 ?_
          refine g_inc3 kc_1 dX12_alone_120 ?_
          refine g_goto 69 dX12_alone_123 rfl ?_
          exact ih h
        · replace h := gif_f q h
          refine g_iload_n dX12_alone_106 rfl ?_
          refine g_goto 118 dX12_alone_107 rfl ?_
          refine g_iand dX12_alone_118 ?_
          refine g_istore2 dX12_alone_119 ?_
          refine g_inc3 kc_1 dX12_alone_120 ?_
          refine g_goto 69 dX12_alone_123 rfl ?_
          exact ih h
theorem f_X12_alone_21_ok {v1 : Int32} {r : (Int32 × gSt)}  : ∀ (n : Nat) {v2 : Int32} {v3 : Int32} {σ : gSt} , f_X12_alone_21 v1 n v2 v3 σ = some r → G l w 0 41 RX12 cX12_alone 4 (some .int) 5 122 (gE (some (.int r.1)) r.2) 21 [some (.ref (w.2.1 28 0)), some (.int v1), some (.int v2), some (.int v3)] [] σ := by
  intro n
  induction n with
  | zero => intro v2 v3 σ h; rw [f_X12_alone_21] at h; cases h
  | succ n ih =>
    intro v2 v3 σ h
    rw [f_X12_alone_21] at h
    refine g_iload_n dX12_alone_21 rfl ?_
    refine g_aload_n dX12_alone_22 rfl ?_
    refine gR_X12_17 ok_28 dX12_alone_23 ?_
    refine g_iconst dX12_alone_26 kc_4 ?_
    refine g_aload_n dX12_alone_27 rfl ?_
    refine gR_X12_17 ok_28 dX12_alone_28 ?_
    refine g_bipush dX12_alone_31 kb_37 ?_
    refine g_iload_n dX12_alone_33 rfl ?_
    refine g_iadd dX12_alone_34 ?_
    obtain ⟨a35, e35, h⟩ := obind h
    refine g_ldB e35 ok_30 rfl rfl (by decide) dX12_alone_35 ?_
    refine g_iadd dX12_alone_36 ?_
    obtain ⟨a37, e37, h⟩ := obind h
    refine g_ldB e37 ok_30 rfl rfl (by decide) dX12_alone_37 ?_
    refine g_icmp_gt 67 dX12_alone_38 rfl (fun q => ?_) (fun q => ?_)
    · replace h := gif_t q h
      refine g_iconst dX12_alone_67 kc_0 ?_
      refine g_istore3 dX12_alone_68 ?_
      exact f_X12_alone_69_ok gFuel h
    · replace h := gif_f q h
      refine g_iload_n dX12_alone_41 rfl ?_
      refine g_aload_n dX12_alone_42 rfl ?_
      refine g_iload_n dX12_alone_43 rfl ?_
      refine g_iload_n dX12_alone_44 rfl ?_
      obtain ⟨p45, e45, h⟩ := obind h
      refine g_vP2 mv_X12_212 dX12_alone_45 ok_28 ⟨by decide, by decide⟩ (Nat.le_of_ble_eq_true rfl) (f_X12_timeAt_ok e45) ?_
      refine g_iconst dX12_alone_48 kc_m1 ?_
      refine g_icmp_eq 58 dX12_alone_49 rfl (fun q => ?_) (fun q => ?_)
      · replace h := gif_t q h
        refine g_iconst dX12_alone_58 kc_0 ?_
        refine g_ior dX12_alone_59 ?_
        refine g_istore2 dX12_alone_60 ?_
        refine g_inc3 kc_1 dX12_alone_61 ?_
        refine g_goto 21 dX12_alone_64 rfl ?_
        exact ih h
      · replace h := gif_f q h
        refine g_iconst dX12_alone_52 kc_1 ?_
        refine g_iload_n dX12_alone_53 rfl ?_
        refine g_ishl dX12_alone_54 ?_
        refine g_goto 59 dX12_alone_55 rfl ?_
        refine g_ior dX12_alone_59 ?_
        refine g_istore2 dX12_alone_60 ?_
        refine g_inc3 kc_1 dX12_alone_61 ?_
        refine g_goto 21 dX12_alone_64 rfl ?_
        exact ih h
theorem f_X12_alone_ok {v1 : Int32}  {σ : gSt} {r : (Int32 × gSt)} (h : f_X12_alone v1 σ = some r) : Mt l w 0 41 yX12_alone cX12_alone 4 (some .int) 5 122 [.ref (w.2.1 28 0), .int v1] σ (gE (some (.int r.1)) r.2) := by
  unfold f_X12_alone at h
  refine g_start pn_X12 rfl rfl (Nat.le_of_ble_eq_true rfl) ?_
  show G l w 0 41 RX12 cX12_alone 4 (some .int) 5 122 (gE (some (.int r.1)) r.2) 0 [some (.ref (w.2.1 28 0)), some (.int v1), none, none] [] σ
  refine g_aload_n dX12_alone_0 rfl ?_
  refine g_aload_n dX12_alone_1 rfl ?_
  refine g_iload_n dX12_alone_2 rfl ?_
  obtain ⟨p3, e3, h⟩ := obind h
  refine g_vP1 mv_X12_187 dX12_alone_3 ok_28 ⟨by decide, by decide⟩ (Nat.le_of_ble_eq_true rfl) (f_X12_isRunner_ok e3) ?_
  obtain ⟨p6, e6, h⟩ := obind h
  refine g_sP1 ms_X12_234 dX12_alone_6 ⟨by decide, by decide⟩ (Nat.le_of_ble_eq_true rfl) (f_X12_unless_ok e6) ?_
  obtain ⟨p9, e9, h⟩ := obind h
  refine g_vP1 mv_X12_161 dX12_alone_9 ok_28 ⟨by decide, by decide⟩ (Nat.le_of_ble_eq_true rfl) (f_X12_isRefused_ok e9) ?_
  refine g_if_eq 17 dX12_alone_12 rfl (fun q => ?_) (fun q => ?_)
  · replace h := gif_t q h
    refine g_iconst dX12_alone_17 kc_0 ?_
    refine g_istore2 dX12_alone_18 ?_
    refine g_iconst dX12_alone_19 kc_0 ?_
    refine g_istore3 dX12_alone_20 ?_
    exact f_X12_alone_21_ok gFuel h
  · replace h := gif_f q h
    refine g_iconst dX12_alone_15 kc_m1 ?_
    cases h
    exact g_iret dX12_alone_16 rfl ⟨rfl, rfl⟩
theorem dX12_whyNotTwo_0 : decode cX12_whyNotTwo 0 = .ok (.iload_n 3, 1) := by decide +kernel
theorem dX12_whyNotTwo_1 : decode cX12_whyNotTwo 1 = .ok (.ifCond .eq 19, 3) := by decide +kernel
theorem dX12_whyNotTwo_4 : decode cX12_whyNotTwo 4 = .ok (.aload_n 0, 1) := by decide +kernel
theorem dX12_whyNotTwo_5 : decode cX12_whyNotTwo 5 = .ok (.iload_n 1, 1) := by decide +kernel
theorem dX12_whyNotTwo_6 : decode cX12_whyNotTwo 6 = .ok (.invokevirtual 187, 3) := by decide +kernel
theorem dX12_whyNotTwo_9 : decode cX12_whyNotTwo 9 = .ok (.ifCond .eq 11, 3) := by decide +kernel
theorem dX12_whyNotTwo_12 : decode cX12_whyNotTwo 12 = .ok (.aload_n 0, 1) := by decide +kernel
theorem dX12_whyNotTwo_13 : decode cX12_whyNotTwo 13 = .ok (.iload_n 2, 1) := by decide +kernel
theorem dX12_whyNotTwo_14 : decode cX12_whyNotTwo 14 = .ok (.invokevirtual 187, 3) := by decide +kernel
theorem dX12_whyNotTwo_17 : decode cX12_whyNotTwo 17 = .ok (.ifCond .ne 7, 3) := by decide +kernel
theorem dX12_whyNotTwo_20 : decode cX12_whyNotTwo 20 = .ok (.iconst 1, 1) := by decide +kernel
theorem dX12_whyNotTwo_21 : decode cX12_whyNotTwo 21 = .ok (.goto 34, 3) := by decide +kernel
theorem dX12_whyNotTwo_24 : decode cX12_whyNotTwo 24 = .ok (.iload_n 1, 1) := by decide +kernel
theorem dX12_whyNotTwo_25 : decode cX12_whyNotTwo 25 = .ok (.iload_n 2, 1) := by decide +kernel
theorem dX12_whyNotTwo_26 : decode cX12_whyNotTwo 26 = .ok (.if_icmp .eq 24, 3) := by decide +kernel
theorem dX12_whyNotTwo_29 : decode cX12_whyNotTwo 29 = .ok (.aload_n 0, 1) := by decide +kernel
theorem dX12_whyNotTwo_30 : decode cX12_whyNotTwo 30 = .ok (.getfield 17, 3) := by decide +kernel
theorem dX12_whyNotTwo_33 : decode cX12_whyNotTwo 33 = .ok (.bipush 37, 2) := by decide +kernel
theorem dX12_whyNotTwo_35 : decode cX12_whyNotTwo 35 = .ok (.iload_n 1, 1) := by decide +kernel
theorem dX12_whyNotTwo_36 : decode cX12_whyNotTwo 36 = .ok (.iadd, 1) := by decide +kernel
theorem dX12_whyNotTwo_37 : decode cX12_whyNotTwo 37 = .ok (.iaload, 1) := by decide +kernel
theorem dX12_whyNotTwo_38 : decode cX12_whyNotTwo 38 = .ok (.aload_n 0, 1) := by decide +kernel
theorem dX12_whyNotTwo_39 : decode cX12_whyNotTwo 39 = .ok (.getfield 17, 3) := by decide +kernel
theorem dX12_whyNotTwo_42 : decode cX12_whyNotTwo 42 = .ok (.bipush 37, 2) := by decide +kernel
theorem dX12_whyNotTwo_44 : decode cX12_whyNotTwo 44 = .ok (.iload_n 2, 1) := by decide +kernel
theorem dX12_whyNotTwo_45 : decode cX12_whyNotTwo 45 = .ok (.iadd, 1) := by decide +kernel
theorem dX12_whyNotTwo_46 : decode cX12_whyNotTwo 46 = .ok (.iaload, 1) := by decide +kernel
theorem dX12_whyNotTwo_47 : decode cX12_whyNotTwo 47 = .ok (.if_icmp .eq 7, 3) := by decide +kernel
theorem dX12_whyNotTwo_50 : decode cX12_whyNotTwo 50 = .ok (.iconst 5, 1) := by decide +kernel
theorem dX12_whyNotTwo_51 : decode cX12_whyNotTwo 51 = .ok (.goto 4, 3) := by decide +kernel
theorem dX12_whyNotTwo_54 : decode cX12_whyNotTwo 54 = .ok (.iconst 0, 1) := by decide +kernel
theorem dX12_whyNotTwo_55 : decode cX12_whyNotTwo 55 = .ok (.ireturn, 1) := by decide +kernel
def f_X12_whyNotTwo (v1 : Int32) (v2 : Int32) (v3 : Int32) (σ : gSt) : Option (Int32 × gSt) :=
  if v3 = 0 then
    some (1, σ)
  else
    (f_X12_isRunner v1 σ).bind fun p6 =>
    if p6.1 = 0 then
      some (1, p6.2)
    else
      (f_X12_isRunner v2 p6.2).bind fun p14 =>
      if p14.1 = 0 then
        some (1, p14.2)
      else
        if v1 = v2 then
          some (5, p14.2)
        else
          (gld p14.2 30 0 397 (37 + v1)).bind fun a37 =>
          (gld p14.2 30 0 397 (37 + v2)).bind fun a46 =>
          if a37 = a46 then
            some (0, p14.2)
          else
            some (5, p14.2)
theorem f_X12_whyNotTwo_ok {v1 : Int32} {v2 : Int32} {v3 : Int32}  {σ : gSt} {r : (Int32 × gSt)} (h : f_X12_whyNotTwo v1 v2 v3 σ = some r) : Mt l w 0 41 yX12_whyNotTwo cX12_whyNotTwo 4 (some .int) 2 43 [.ref (w.2.1 28 0), .int v1, .int v2, .int v3] σ (gE (some (.int r.1)) r.2) := by
  unfold f_X12_whyNotTwo at h
  refine g_start pn_X12 rfl rfl (Nat.le_of_ble_eq_true rfl) ?_
  show G l w 0 41 RX12 cX12_whyNotTwo 4 (some .int) 2 43 (gE (some (.int r.1)) r.2) 0 [some (.ref (w.2.1 28 0)), some (.int v1), some (.int v2), some (.int v3)] [] σ
  refine g_iload_n dX12_whyNotTwo_0 rfl ?_
  refine g_if_eq 20 dX12_whyNotTwo_1 rfl (fun q => ?_) (fun q => ?_)
  · replace h := gif_t q h
    refine g_iconst dX12_whyNotTwo_20 kc_1 ?_
    refine g_goto 55 dX12_whyNotTwo_21 rfl ?_
    cases h
    exact g_iret dX12_whyNotTwo_55 rfl ⟨rfl, rfl⟩
  · replace h := gif_f q h
    refine g_aload_n dX12_whyNotTwo_4 rfl ?_
    refine g_iload_n dX12_whyNotTwo_5 rfl ?_
    obtain ⟨p6, e6, h⟩ := obind h
    refine g_vP1 mv_X12_187 dX12_whyNotTwo_6 ok_28 ⟨by decide, by decide⟩ (Nat.le_of_ble_eq_true rfl) (f_X12_isRunner_ok e6) ?_
    refine g_if_eq 20 dX12_whyNotTwo_9 rfl (fun q => ?_) (fun q => ?_)
    · replace h := gif_t q h
      refine g_iconst dX12_whyNotTwo_20 kc_1 ?_
      refine g_goto 55 dX12_whyNotTwo_21 rfl ?_
      cases h
      exact g_iret dX12_whyNotTwo_55 rfl ⟨rfl, rfl⟩
    · replace h := gif_f q h
      refine g_aload_n dX12_whyNotTwo_12 rfl ?_
      refine g_iload_n dX12_whyNotTwo_13 rfl ?_
      obtain ⟨p14, e14, h⟩ := obind h
      refine g_vP1 mv_X12_187 dX12_whyNotTwo_14 ok_28 ⟨by decide, by decide⟩ (Nat.le_of_ble_eq_true rfl) (f_X12_isRunner_ok e14) ?_
      refine g_if_ne 24 dX12_whyNotTwo_17 rfl (fun q => ?_) (fun q => ?_)
      · replace h := gif_f q h
        refine g_iload_n dX12_whyNotTwo_24 rfl ?_
        refine g_iload_n dX12_whyNotTwo_25 rfl ?_
        refine g_icmp_eq 50 dX12_whyNotTwo_26 rfl (fun q => ?_) (fun q => ?_)
        · replace h := gif_t q h
          refine g_iconst dX12_whyNotTwo_50 kc_5 ?_
          refine g_goto 55 dX12_whyNotTwo_51 rfl ?_
          cases h
          exact g_iret dX12_whyNotTwo_55 rfl ⟨rfl, rfl⟩
        · replace h := gif_f q h
          refine g_aload_n dX12_whyNotTwo_29 rfl ?_
          refine gR_X12_17 ok_28 dX12_whyNotTwo_30 ?_
          refine g_bipush dX12_whyNotTwo_33 kb_37 ?_
          refine g_iload_n dX12_whyNotTwo_35 rfl ?_
          refine g_iadd dX12_whyNotTwo_36 ?_
          obtain ⟨a37, e37, h⟩ := obind h
          refine g_ldB e37 ok_30 rfl rfl (by decide) dX12_whyNotTwo_37 ?_
          refine g_aload_n dX12_whyNotTwo_38 rfl ?_
          refine gR_X12_17 ok_28 dX12_whyNotTwo_39 ?_
          refine g_bipush dX12_whyNotTwo_42 kb_37 ?_
          refine g_iload_n dX12_whyNotTwo_44 rfl ?_
          refine g_iadd dX12_whyNotTwo_45 ?_
          obtain ⟨a46, e46, h⟩ := obind h
          refine g_ldB e46 ok_30 rfl rfl (by decide) dX12_whyNotTwo_46 ?_
          refine g_icmp_eq 54 dX12_whyNotTwo_47 rfl (fun q => ?_) (fun q => ?_)
          · replace h := gif_t q h
            refine g_iconst dX12_whyNotTwo_54 kc_0 ?_
            cases h
            exact g_iret dX12_whyNotTwo_55 rfl ⟨rfl, rfl⟩
          · replace h := gif_f q h
            refine g_iconst dX12_whyNotTwo_50 kc_5 ?_
            refine g_goto 55 dX12_whyNotTwo_51 rfl ?_
            cases h
            exact g_iret dX12_whyNotTwo_55 rfl ⟨rfl, rfl⟩
      · replace h := gif_t q h
        refine g_iconst dX12_whyNotTwo_20 kc_1 ?_
        refine g_goto 55 dX12_whyNotTwo_21 rfl ?_
        cases h
        exact g_iret dX12_whyNotTwo_55 rfl ⟨rfl, rfl⟩
theorem dX12_together_0 : decode cX12_together 0 = .ok (.aload_n 0, 1) := by decide +kernel
theorem dX12_together_1 : decode cX12_together 1 = .ok (.aload_n 0, 1) := by decide +kernel
theorem dX12_together_2 : decode cX12_together 2 = .ok (.iload_n 1, 1) := by decide +kernel
theorem dX12_together_3 : decode cX12_together 3 = .ok (.iload_n 2, 1) := by decide +kernel
theorem dX12_together_4 : decode cX12_together 4 = .ok (.iconst 1, 1) := by decide +kernel
theorem dX12_together_5 : decode cX12_together 5 = .ok (.invokevirtual 312, 3) := by decide +kernel
theorem dX12_together_8 : decode cX12_together 8 = .ok (.invokevirtual 161, 3) := by decide +kernel
theorem dX12_together_11 : decode cX12_together 11 = .ok (.ifCond .eq 7, 3) := by decide +kernel
theorem dX12_together_14 : decode cX12_together 14 = .ok (.iconst (-1), 1) := by decide +kernel
theorem dX12_together_15 : decode cX12_together 15 = .ok (.goto 9, 3) := by decide +kernel
theorem dX12_together_18 : decode cX12_together 18 = .ok (.aload_n 0, 1) := by decide +kernel
theorem dX12_together_19 : decode cX12_together 19 = .ok (.iload_n 1, 1) := by decide +kernel
theorem dX12_together_20 : decode cX12_together 20 = .ok (.iload_n 2, 1) := by decide +kernel
theorem dX12_together_21 : decode cX12_together 21 = .ok (.invokevirtual 309, 3) := by decide +kernel
theorem dX12_together_24 : decode cX12_together 24 = .ok (.ireturn, 1) := by decide +kernel
def f_X12_together (v1 : Int32) (v2 : Int32) (σ : gSt) : Option (Int32 × gSt) :=
  (f_X12_whyNotTwo v1 v2 1 σ).bind fun p5 =>
  (f_X12_isRefused p5.1 p5.2).bind fun p8 =>
  if p8.1 = 0 then
    (f_X12_togetherOf v1 v2 p8.2).bind fun p21 =>
    some (p21.1, p21.2)
  else
    some ((-1), p8.2)
theorem f_X12_together_ok {v1 : Int32} {v2 : Int32}  {σ : gSt} {r : (Int32 × gSt)} (h : f_X12_together v1 v2 σ = some r) : Mt l w 0 41 yX12_together cX12_together 3 (some .int) 5 122 [.ref (w.2.1 28 0), .int v1, .int v2] σ (gE (some (.int r.1)) r.2) := by
  unfold f_X12_together at h
  refine g_start pn_X12 rfl rfl (Nat.le_of_ble_eq_true rfl) ?_
  show G l w 0 41 RX12 cX12_together 3 (some .int) 5 122 (gE (some (.int r.1)) r.2) 0 [some (.ref (w.2.1 28 0)), some (.int v1), some (.int v2)] [] σ
  refine g_aload_n dX12_together_0 rfl ?_
  refine g_aload_n dX12_together_1 rfl ?_
  refine g_iload_n dX12_together_2 rfl ?_
  refine g_iload_n dX12_together_3 rfl ?_
  refine g_iconst dX12_together_4 kc_1 ?_
  obtain ⟨p5, e5, h⟩ := obind h
  refine g_vP3 mv_X12_312 dX12_together_5 ok_28 ⟨by decide, by decide⟩ (Nat.le_of_ble_eq_true rfl) (f_X12_whyNotTwo_ok e5) ?_
  obtain ⟨p8, e8, h⟩ := obind h
  refine g_vP1 mv_X12_161 dX12_together_8 ok_28 ⟨by decide, by decide⟩ (Nat.le_of_ble_eq_true rfl) (f_X12_isRefused_ok e8) ?_
  refine g_if_eq 18 dX12_together_11 rfl (fun q => ?_) (fun q => ?_)
  · replace h := gif_t q h
    refine g_aload_n dX12_together_18 rfl ?_
    refine g_iload_n dX12_together_19 rfl ?_
    refine g_iload_n dX12_together_20 rfl ?_
    obtain ⟨p21, e21, h⟩ := obind h
    refine g_vP2 mv_X12_309 dX12_together_21 ok_28 ⟨by decide, by decide⟩ (Nat.le_of_ble_eq_true rfl) (f_X12_togetherOf_ok e21) ?_
    cases h
    exact g_iret dX12_together_24 rfl ⟨rfl, rfl⟩
  · replace h := gif_f q h
    refine g_iconst dX12_together_14 kc_m1 ?_
    refine g_goto 24 dX12_together_15 rfl ?_
    cases h
    exact g_iret dX12_together_24 rfl ⟨rfl, rfl⟩
theorem dX12_chase_0 : decode cX12_chase 0 = .ok (.aload_n 0, 1) := by decide +kernel
theorem dX12_chase_1 : decode cX12_chase 1 = .ok (.aload_n 0, 1) := by decide +kernel
theorem dX12_chase_2 : decode cX12_chase 2 = .ok (.iload_n 1, 1) := by decide +kernel
theorem dX12_chase_3 : decode cX12_chase 3 = .ok (.iload_n 2, 1) := by decide +kernel
theorem dX12_chase_4 : decode cX12_chase 4 = .ok (.iload_n 3, 1) := by decide +kernel
theorem dX12_chase_5 : decode cX12_chase 5 = .ok (.iconst 0, 1) := by decide +kernel
theorem dX12_chase_6 : decode cX12_chase 6 = .ok (.iconst 2, 1) := by decide +kernel
theorem dX12_chase_7 : decode cX12_chase 7 = .ok (.invokestatic 79, 3) := by decide +kernel
theorem dX12_chase_10 : decode cX12_chase 10 = .ok (.invokevirtual 312, 3) := by decide +kernel
theorem dX12_chase_13 : decode cX12_chase 13 = .ok (.invokevirtual 161, 3) := by decide +kernel
theorem dX12_chase_16 : decode cX12_chase 16 = .ok (.ifCond .eq 5, 3) := by decide +kernel
theorem dX12_chase_19 : decode cX12_chase 19 = .ok (.iconst (-1), 1) := by decide +kernel
theorem dX12_chase_20 : decode cX12_chase 20 = .ok (.ireturn, 1) := by decide +kernel
theorem dX12_chase_21 : decode cX12_chase 21 = .ok (.aload_n 0, 1) := by decide +kernel
theorem dX12_chase_22 : decode cX12_chase 22 = .ok (.iload_n 1, 1) := by decide +kernel
theorem dX12_chase_23 : decode cX12_chase 23 = .ok (.iload_n 2, 1) := by decide +kernel
theorem dX12_chase_24 : decode cX12_chase 24 = .ok (.invokevirtual 309, 3) := by decide +kernel
theorem dX12_chase_27 : decode cX12_chase 27 = .ok (.istore 4, 2) := by decide +kernel
theorem dX12_chase_29 : decode cX12_chase 29 = .ok (.iconst 0, 1) := by decide +kernel
theorem dX12_chase_30 : decode cX12_chase 30 = .ok (.istore 5, 2) := by decide +kernel
theorem dX12_chase_32 : decode cX12_chase 32 = .ok (.bipush (-2), 2) := by decide +kernel
theorem dX12_chase_34 : decode cX12_chase 34 = .ok (.istore 6, 2) := by decide +kernel
theorem dX12_chase_36 : decode cX12_chase 36 = .ok (.iconst 0, 1) := by decide +kernel
theorem dX12_chase_37 : decode cX12_chase 37 = .ok (.istore 7, 2) := by decide +kernel
theorem dX12_chase_39 : decode cX12_chase 39 = .ok (.iconst 0, 1) := by decide +kernel
theorem dX12_chase_40 : decode cX12_chase 40 = .ok (.istore 8, 2) := by decide +kernel
theorem dX12_chase_42 : decode cX12_chase 42 = .ok (.iload 8, 2) := by decide +kernel
theorem dX12_chase_44 : decode cX12_chase 44 = .ok (.aload_n 0, 1) := by decide +kernel
theorem dX12_chase_45 : decode cX12_chase 45 = .ok (.getfield 17, 3) := by decide +kernel
theorem dX12_chase_48 : decode cX12_chase 48 = .ok (.iconst 4, 1) := by decide +kernel
theorem dX12_chase_49 : decode cX12_chase 49 = .ok (.aload_n 0, 1) := by decide +kernel
theorem dX12_chase_50 : decode cX12_chase 50 = .ok (.getfield 17, 3) := by decide +kernel
theorem dX12_chase_53 : decode cX12_chase 53 = .ok (.bipush 37, 2) := by decide +kernel
theorem dX12_chase_55 : decode cX12_chase 55 = .ok (.iload_n 1, 1) := by decide +kernel
theorem dX12_chase_56 : decode cX12_chase 56 = .ok (.iadd, 1) := by decide +kernel
theorem dX12_chase_57 : decode cX12_chase 57 = .ok (.iaload, 1) := by decide +kernel
theorem dX12_chase_58 : decode cX12_chase 58 = .ok (.iadd, 1) := by decide +kernel
theorem dX12_chase_59 : decode cX12_chase 59 = .ok (.iaload, 1) := by decide +kernel
theorem dX12_chase_60 : decode cX12_chase 60 = .ok (.if_icmp .gt 50, 3) := by decide +kernel
theorem dX12_chase_63 : decode cX12_chase 63 = .ok (.iload 4, 2) := by decide +kernel
theorem dX12_chase_65 : decode cX12_chase 65 = .ok (.iload 8, 2) := by decide +kernel
theorem dX12_chase_67 : decode cX12_chase 67 = .ok (.ishr, 1) := by decide +kernel
theorem dX12_chase_68 : decode cX12_chase 68 = .ok (.iconst 1, 1) := by decide +kernel
theorem dX12_chase_69 : decode cX12_chase 69 = .ok (.iand, 1) := by decide +kernel
theorem dX12_chase_70 : decode cX12_chase 70 = .ok (.iconst 1, 1) := by decide +kernel
theorem dX12_chase_71 : decode cX12_chase 71 = .ok (.if_icmp .ne 10, 3) := by decide +kernel
theorem dX12_chase_74 : decode cX12_chase 74 = .ok (.iload 7, 2) := by decide +kernel
theorem dX12_chase_76 : decode cX12_chase 76 = .ok (.iconst 1, 1) := by decide +kernel
theorem dX12_chase_77 : decode cX12_chase 77 = .ok (.iadd, 1) := by decide +kernel
theorem dX12_chase_78 : decode cX12_chase 78 = .ok (.goto 4, 3) := by decide +kernel
theorem dX12_chase_81 : decode cX12_chase 81 = .ok (.iconst 0, 1) := by decide +kernel
theorem dX12_chase_82 : decode cX12_chase 82 = .ok (.istore 7, 2) := by decide +kernel
theorem dX12_chase_84 : decode cX12_chase 84 = .ok (.iload 7, 2) := by decide +kernel
theorem dX12_chase_86 : decode cX12_chase 86 = .ok (.iload 5, 2) := by decide +kernel
theorem dX12_chase_88 : decode cX12_chase 88 = .ok (.if_icmp .le 16, 3) := by decide +kernel
theorem dX12_chase_91 : decode cX12_chase 91 = .ok (.iload 7, 2) := by decide +kernel
theorem dX12_chase_93 : decode cX12_chase 93 = .ok (.istore 5, 2) := by decide +kernel
theorem dX12_chase_95 : decode cX12_chase 95 = .ok (.iload 8, 2) := by decide +kernel
theorem dX12_chase_97 : decode cX12_chase 97 = .ok (.iload 7, 2) := by decide +kernel
theorem dX12_chase_99 : decode cX12_chase 99 = .ok (.isub, 1) := by decide +kernel
theorem dX12_chase_100 : decode cX12_chase 100 = .ok (.iconst 1, 1) := by decide +kernel
theorem dX12_chase_101 : decode cX12_chase 101 = .ok (.iadd, 1) := by decide +kernel
theorem dX12_chase_102 : decode cX12_chase 102 = .ok (.istore 6, 2) := by decide +kernel
theorem dX12_chase_104 : decode cX12_chase 104 = .ok (.iinc 8 1, 3) := by decide +kernel
theorem dX12_chase_107 : decode cX12_chase 107 = .ok (.goto (-65), 3) := by decide +kernel
theorem dX12_chase_110 : decode cX12_chase 110 = .ok (.iload 5, 2) := by decide +kernel
theorem dX12_chase_112 : decode cX12_chase 112 = .ok (.ifCond .eq 8, 3) := by decide +kernel
theorem dX12_chase_115 : decode cX12_chase 115 = .ok (.iload_n 3, 1) := by decide +kernel
theorem dX12_chase_116 : decode cX12_chase 116 = .ok (.iconst 2, 1) := by decide +kernel
theorem dX12_chase_117 : decode cX12_chase 117 = .ok (.if_icmp .ge 25, 3) := by decide +kernel
theorem dX12_chase_120 : decode cX12_chase 120 = .ok (.iload 5, 2) := by decide +kernel
theorem dX12_chase_122 : decode cX12_chase 122 = .ok (.ifCond .ne 8, 3) := by decide +kernel
theorem dX12_chase_125 : decode cX12_chase 125 = .ok (.bipush (-2), 2) := by decide +kernel
theorem dX12_chase_127 : decode cX12_chase 127 = .ok (.goto 14, 3) := by decide +kernel
theorem dX12_chase_130 : decode cX12_chase 130 = .ok (.iload_n 3, 1) := by decide +kernel
theorem dX12_chase_131 : decode cX12_chase 131 = .ok (.ifCond .ne 8, 3) := by decide +kernel
theorem dX12_chase_134 : decode cX12_chase 134 = .ok (.iload 5, 2) := by decide +kernel
theorem dX12_chase_136 : decode cX12_chase 136 = .ok (.goto 5, 3) := by decide +kernel
theorem dX12_chase_139 : decode cX12_chase 139 = .ok (.iload 6, 2) := by decide +kernel
theorem dX12_chase_141 : decode cX12_chase 141 = .ok (.ireturn, 1) := by decide +kernel
theorem dX12_chase_142 : decode cX12_chase 142 = .ok (.aload_n 0, 1) := by decide +kernel
theorem dX12_chase_143 : decode cX12_chase 143 = .ok (.iload_n 1, 1) := by decide +kernel
theorem dX12_chase_144 : decode cX12_chase 144 = .ok (.iload 6, 2) := by decide +kernel
theorem dX12_chase_146 : decode cX12_chase 146 = .ok (.iload 5, 2) := by decide +kernel
theorem dX12_chase_148 : decode cX12_chase 148 = .ok (.iadd, 1) := by decide +kernel
theorem dX12_chase_149 : decode cX12_chase 149 = .ok (.iconst 1, 1) := by decide +kernel
theorem dX12_chase_150 : decode cX12_chase 150 = .ok (.isub, 1) := by decide +kernel
theorem dX12_chase_151 : decode cX12_chase 151 = .ok (.invokevirtual 212, 3) := by decide +kernel
theorem dX12_chase_154 : decode cX12_chase 154 = .ok (.istore 8, 2) := by decide +kernel
theorem dX12_chase_156 : decode cX12_chase 156 = .ok (.aload_n 0, 1) := by decide +kernel
theorem dX12_chase_157 : decode cX12_chase 157 = .ok (.iload_n 2, 1) := by decide +kernel
theorem dX12_chase_158 : decode cX12_chase 158 = .ok (.iload 6, 2) := by decide +kernel
theorem dX12_chase_160 : decode cX12_chase 160 = .ok (.iload 5, 2) := by decide +kernel
theorem dX12_chase_162 : decode cX12_chase 162 = .ok (.iadd, 1) := by decide +kernel
theorem dX12_chase_163 : decode cX12_chase 163 = .ok (.iconst 1, 1) := by decide +kernel
theorem dX12_chase_164 : decode cX12_chase 164 = .ok (.isub, 1) := by decide +kernel
theorem dX12_chase_165 : decode cX12_chase 165 = .ok (.invokevirtual 212, 3) := by decide +kernel
theorem dX12_chase_168 : decode cX12_chase 168 = .ok (.istore 9, 2) := by decide +kernel
theorem dX12_chase_170 : decode cX12_chase 170 = .ok (.iload 8, 2) := by decide +kernel
theorem dX12_chase_172 : decode cX12_chase 172 = .ok (.iload 9, 2) := by decide +kernel
theorem dX12_chase_174 : decode cX12_chase 174 = .ok (.if_icmp .lt 15, 3) := by decide +kernel
theorem dX12_chase_177 : decode cX12_chase 177 = .ok (.iload 8, 2) := by decide +kernel
theorem dX12_chase_179 : decode cX12_chase 179 = .ok (.iload 9, 2) := by decide +kernel
theorem dX12_chase_181 : decode cX12_chase 181 = .ok (.if_icmp .ne 12, 3) := by decide +kernel
theorem dX12_chase_184 : decode cX12_chase 184 = .ok (.iload_n 1, 1) := by decide +kernel
theorem dX12_chase_185 : decode cX12_chase 185 = .ok (.iload_n 2, 1) := by decide +kernel
theorem dX12_chase_186 : decode cX12_chase 186 = .ok (.if_icmp .ge 7, 3) := by decide +kernel
theorem dX12_chase_189 : decode cX12_chase 189 = .ok (.iload_n 1, 1) := by decide +kernel
theorem dX12_chase_190 : decode cX12_chase 190 = .ok (.goto 4, 3) := by decide +kernel
theorem dX12_chase_193 : decode cX12_chase 193 = .ok (.iload_n 2, 1) := by decide +kernel
theorem dX12_chase_194 : decode cX12_chase 194 = .ok (.ireturn, 1) := by decide +kernel
def f_X12_chase_120 (v3 : Int32) (v5 : Int32) (v6 : Int32) (σ : gSt) : Option (Int32 × gSt) :=
  if v5 = 0 then
    some ((-2), σ)
  else
    if v3 = 0 then
      some (v5, σ)
    else
      some (v6, σ)
def f_X12_chase_82 (v1 : Int32) (v2 : Int32) (v3 : Int32) (v4 : Int32) (v5 : Int32) (v6 : Int32) (v8 : Int32) (k42 : Int32 → Int32 → Int32 → Int32 → gSt → Option (Int32 × gSt)) (vs0 : Int32) (σ : gSt) : Option (Int32 × gSt) :=
  if vs0 ≤ v5 then
    k42 v5 v6 vs0 (v8 + 1) σ
  else
    k42 vs0 ((v8 - vs0) + 1) vs0 (v8 + 1) σ
def f_X12_chase_42 (v1 : Int32) (v2 : Int32) (v3 : Int32) (v4 : Int32) : Nat → Int32 → Int32 → Int32 → Int32 → gSt → Option (Int32 × gSt)
  | 0, _, _, _, _, _ => none
  | n + 1, v5, v6, v7, v8, σ =>
    (gld σ 30 0 397 (37 + v1)).bind fun a57 =>
    (gld σ 30 0 397 (4 + a57)).bind fun a59 =>
    if a59 < v8 then
      if v5 = 0 then
        f_X12_chase_120 v3 v5 v6 σ
      else
        if 2 ≤ v3 then
          (f_X12_timeAt v1 ((v6 + v5) - 1) σ).bind fun p151 =>
          (f_X12_timeAt v2 ((v6 + v5) - 1) p151.2).bind fun p165 =>
          if p151.1 < p165.1 then
            some (v1, p165.2)
          else
            if p151.1 = p165.1 then
              if v2 ≤ v1 then
                some (v2, p165.2)
              else
                some (v1, p165.2)
            else
              some (v2, p165.2)
        else
          f_X12_chase_120 v3 v5 v6 σ
    else
      if ((v4 >>> (v8 &&& 31)) &&& 1) = 1 then
        f_X12_chase_82 v1 v2 v3 v4 v5 v6 v8 (fun v5 v6 v7 v8 σ => f_X12_chase_42 v1 v2 v3 v4 n v5 v6 v7 v8 σ) (v7 + 1) σ
      else
        f_X12_chase_82 v1 v2 v3 v4 v5 v6 v8 (fun v5 v6 v7 v8 σ => f_X12_chase_42 v1 v2 v3 v4 n v5 v6 v7 v8 σ) 0 σ
def f_X12_chase (v1 : Int32) (v2 : Int32) (v3 : Int32) (σ : gSt) : Option (Int32 × gSt) :=
  (f_X12_in v3 0 2 σ).bind fun p7 =>
  (f_X12_whyNotTwo v1 v2 p7.1 p7.2).bind fun p10 =>
  (f_X12_isRefused p10.1 p10.2).bind fun p13 =>
  if p13.1 = 0 then
    (f_X12_togetherOf v1 v2 p13.2).bind fun p24 =>
    f_X12_chase_42 v1 v2 v3 p24.1 gFuel 0 (-2) 0 0 p24.2
  else
    some ((-1), p13.2)
theorem f_X12_chase_120_ok {v3 : Int32} {v5 : Int32} {v6 : Int32} {r : (Int32 × gSt)}  {σ : gSt} {x0 x1 x2 x4 x7 x8 x9 : Option Value} (h : f_X12_chase_120 v3 v5 v6 σ = some r) : G l w 0 41 RX12 cX12_chase 10 (some .int) 5 122 (gE (some (.int r.1)) r.2) 120 [x0, x1, x2, some (.int v3), x4, some (.int v5), some (.int v6), x7, x8, x9] [] σ := by
  unfold f_X12_chase_120 at h
  refine g_iload dX12_chase_120 rfl ?_
  refine g_if_ne 130 dX12_chase_122 rfl (fun q => ?_) (fun q => ?_)
  · replace h := gif_f q h
    refine g_iload_n dX12_chase_130 rfl ?_
    refine g_if_ne 139 dX12_chase_131 rfl (fun q => ?_) (fun q => ?_)
    · replace h := gif_f q h
      refine g_iload dX12_chase_139 rfl ?_
      cases h
      exact g_iret dX12_chase_141 rfl ⟨rfl, rfl⟩
    · replace h := gif_t q h
      refine g_iload dX12_chase_134 rfl ?_
      refine g_goto 141 dX12_chase_136 rfl ?_
      cases h
      exact g_iret dX12_chase_141 rfl ⟨rfl, rfl⟩
  · replace h := gif_t q h
    refine g_bipush dX12_chase_125 kb_m2 ?_
    refine g_goto 141 dX12_chase_127 rfl ?_
    cases h
    exact g_iret dX12_chase_141 rfl ⟨rfl, rfl⟩
theorem f_X12_chase_82_ok {v1 : Int32} {v2 : Int32} {v3 : Int32} {v4 : Int32} {v5 : Int32} {v6 : Int32} {v8 : Int32} {k42 : Int32 → Int32 → Int32 → Int32 → gSt → Option (Int32 × gSt)} {vs0 : Int32} {r : (Int32 × gSt)} (hk42 : ∀ {v5 : Int32} {v6 : Int32} {v7 : Int32} {v8 : Int32} {σ : gSt} {x9 : Option Value}, k42 v5 v6 v7 v8 σ = some r → G l w 0 41 RX12 cX12_chase 10 (some .int) 5 122 (gE (some (.int r.1)) r.2) 42 [some (.ref (w.2.1 28 0)), some (.int v1), some (.int v2), some (.int v3), some (.int v4), some (.int v5), some (.int v6), some (.int v7), some (.int v8), x9] [] σ) {σ : gSt} {x7 x9 : Option Value} (h : f_X12_chase_82 v1 v2 v3 v4 v5 v6 v8 k42 vs0 σ = some r) : G l w 0 41 RX12 cX12_chase 10 (some .int) 5 122 (gE (some (.int r.1)) r.2) 82 [some (.ref (w.2.1 28 0)), some (.int v1), some (.int v2), some (.int v3), some (.int v4), some (.int v5), some (.int v6), x7, some (.int v8), x9] [.int vs0] σ := by
  unfold f_X12_chase_82 at h
  refine g_istore7 dX12_chase_82 ?_
  refine g_iload dX12_chase_84 rfl ?_
  refine g_iload dX12_chase_86 rfl ?_
  refine g_icmp_le 104 dX12_chase_88 rfl (fun q => ?_) (fun q => ?_)
  · replace h := gif_t q h
    refine g_inc8 kc_1 dX12_chase_104 ?_
    refine g_goto 42 dX12_chase_107 rfl ?_
    exact hk42 h
  · replace h := gif_f q h
    refine g_iload dX12_chase_91 rfl ?_
    refine g_istore5 dX12_chase_93 ?_
    refine g_iload dX12_chase_95 rfl ?_
    refine g_iload dX12_chase_97 rfl ?_
    refine g_isub dX12_chase_99 ?_
    refine g_iconst dX12_chase_100 kc_1 ?_
    refine g_iadd dX12_chase_101 ?_
    refine g_istore6 dX12_chase_102 ?_
    refine g_inc8 kc_1 dX12_chase_104 ?_
    refine g_goto 42 dX12_chase_107 rfl ?_
    exact hk42 h
theorem f_X12_chase_42_ok {v1 : Int32} {v2 : Int32} {v3 : Int32} {v4 : Int32} {r : (Int32 × gSt)}  : ∀ (n : Nat) {v5 : Int32} {v6 : Int32} {v7 : Int32} {v8 : Int32} {σ : gSt} {x9 : Option Value}, f_X12_chase_42 v1 v2 v3 v4 n v5 v6 v7 v8 σ = some r → G l w 0 41 RX12 cX12_chase 10 (some .int) 5 122 (gE (some (.int r.1)) r.2) 42 [some (.ref (w.2.1 28 0)), some (.int v1), some (.int v2), some (.int v3), some (.int v4), some (.int v5), some (.int v6), some (.int v7), some (.int v8), x9] [] σ := by
  intro n
  induction n with
  | zero => intro v5 v6 v7 v8 σ x9 h; rw [f_X12_chase_42] at h; cases h
  | succ n ih =>
    intro v5 v6 v7 v8 σ x9 h
    rw [f_X12_chase_42] at h
    refine g_iload dX12_chase_42 rfl ?_
    refine g_aload_n dX12_chase_44 rfl ?_
    refine gR_X12_17 ok_28 dX12_chase_45 ?_
    refine g_iconst dX12_chase_48 kc_4 ?_
    refine g_aload_n dX12_chase_49 rfl ?_
    refine gR_X12_17 ok_28 dX12_chase_50 ?_
    refine g_bipush dX12_chase_53 kb_37 ?_
    refine g_iload_n dX12_chase_55 rfl ?_
    refine g_iadd dX12_chase_56 ?_
    obtain ⟨a57, e57, h⟩ := obind h
    refine g_ldB e57 ok_30 rfl rfl (by decide) dX12_chase_57 ?_
    refine g_iadd dX12_chase_58 ?_
    obtain ⟨a59, e59, h⟩ := obind h
    refine g_ldB e59 ok_30 rfl rfl (by decide) dX12_chase_59 ?_
    refine g_icmp_gt 110 dX12_chase_60 rfl (fun q => ?_) (fun q => ?_)
    · replace h := gif_t q h
      refine g_iload dX12_chase_110 rfl ?_
      refine g_if_eq 120 dX12_chase_112 rfl (fun q => ?_) (fun q => ?_)
      · replace h := gif_t q h
        exact f_X12_chase_120_ok h
      · replace h := gif_f q h
        refine g_iload_n dX12_chase_115 rfl ?_
        refine g_iconst dX12_chase_116 kc_2 ?_
        refine g_icmp_ge 142 dX12_chase_117 rfl (fun q => ?_) (fun q => ?_)
        · replace h := gif_t q h
          refine g_aload_n dX12_chase_142 rfl ?_
          refine g_iload_n dX12_chase_143 rfl ?_
          refine g_iload dX12_chase_144 rfl ?_
          refine g_iload dX12_chase_146 rfl ?_
          refine g_iadd dX12_chase_148 ?_
          refine g_iconst dX12_chase_149 kc_1 ?_
          refine g_isub dX12_chase_150 ?_
          obtain ⟨p151, e151, h⟩ := obind h
          refine g_vP2 mv_X12_212 dX12_chase_151 ok_28 ⟨by decide, by decide⟩ (Nat.le_of_ble_eq_true rfl) (f_X12_timeAt_ok e151) ?_
          refine g_istore8 dX12_chase_154 ?_
          refine g_aload_n dX12_chase_156 rfl ?_
          refine g_iload_n dX12_chase_157 rfl ?_
          refine g_iload dX12_chase_158 rfl ?_
          refine g_iload dX12_chase_160 rfl ?_
          refine g_iadd dX12_chase_162 ?_
          refine g_iconst dX12_chase_163 kc_1 ?_
          refine g_isub dX12_chase_164 ?_
          obtain ⟨p165, e165, h⟩ := obind h
          refine g_vP2 mv_X12_212 dX12_chase_165 ok_28 ⟨by decide, by decide⟩ (Nat.le_of_ble_eq_true rfl) (f_X12_timeAt_ok e165) ?_
          refine g_istore9 dX12_chase_168 ?_
          refine g_iload dX12_chase_170 rfl ?_
          refine g_iload dX12_chase_172 rfl ?_
          refine g_icmp_lt 189 dX12_chase_174 rfl (fun q => ?_) (fun q => ?_)
          · replace h := gif_t q h
            refine g_iload_n dX12_chase_189 rfl ?_
            refine g_goto 194 dX12_chase_190 rfl ?_
            cases h
            exact g_iret dX12_chase_194 rfl ⟨rfl, rfl⟩
          · replace h := gif_f q h
            refine g_iload dX12_chase_177 rfl ?_
            refine g_iload dX12_chase_179 rfl ?_
            refine g_icmp_ne 193 dX12_chase_181 rfl (fun q => ?_) (fun q => ?_)
            · replace h := gif_f q h
              refine g_iload_n dX12_chase_193 rfl ?_
              cases h
              exact g_iret dX12_chase_194 rfl ⟨rfl, rfl⟩
            · replace h := gif_t q h
              refine g_iload_n dX12_chase_184 rfl ?_
              refine g_iload_n dX12_chase_185 rfl ?_
              refine g_icmp_ge 193 dX12_chase_186 rfl (fun q => ?_) (fun q => ?_)
              · replace h := gif_t q h
                refine g_iload_n dX12_chase_193 rfl ?_
                cases h
                exact g_iret dX12_chase_194 rfl ⟨rfl, rfl⟩
              · replace h := gif_f q h
                refine g_iload_n dX12_chase_189 rfl ?_
                refine g_goto 194 dX12_chase_190 rfl ?_
                cases h
                exact g_iret dX12_chase_194 rfl ⟨rfl, rfl⟩
        · replace h := gif_f q h
          exact f_X12_chase_120_ok h
    · replace h := gif_f q h
      refine g_iload dX12_chase_63 rfl ?_
      refine g_iload dX12_chase_65 rfl ?_
      refine g_ishr dX12_chase_67 ?_
      refine g_iconst dX12_chase_68 kc_1 ?_
      refine g_iand dX12_chase_69 ?_
      refine g_iconst dX12_chase_70 kc_1 ?_
      refine g_icmp_ne 81 dX12_chase_71 rfl (fun q => ?_) (fun q => ?_)
      · replace h := gif_f q h
        refine g_iconst dX12_chase_81 kc_0 ?_
        exact f_X12_chase_82_ok (fun h => ih h) h
      · replace h := gif_t q h
        refine g_iload dX12_chase_74 rfl ?_
        refine g_iconst dX12_chase_76 kc_1 ?_
        refine g_iadd dX12_chase_77 ?_
        refine g_goto 82 dX12_chase_78 rfl ?_
        exact f_X12_chase_82_ok (fun h => ih h) h
theorem f_X12_chase_ok {v1 : Int32} {v2 : Int32} {v3 : Int32}  {σ : gSt} {r : (Int32 × gSt)} (h : f_X12_chase v1 v2 v3 σ = some r) : Mt l w 0 41 yX12_chase cX12_chase 10 (some .int) 5 122 [.ref (w.2.1 28 0), .int v1, .int v2, .int v3] σ (gE (some (.int r.1)) r.2) := by
  unfold f_X12_chase at h
  refine g_start pn_X12 rfl rfl (Nat.le_of_ble_eq_true rfl) ?_
  show G l w 0 41 RX12 cX12_chase 10 (some .int) 5 122 (gE (some (.int r.1)) r.2) 0 [some (.ref (w.2.1 28 0)), some (.int v1), some (.int v2), some (.int v3), none, none, none, none, none, none] [] σ
  refine g_aload_n dX12_chase_0 rfl ?_
  refine g_aload_n dX12_chase_1 rfl ?_
  refine g_iload_n dX12_chase_2 rfl ?_
  refine g_iload_n dX12_chase_3 rfl ?_
  refine g_iload_n dX12_chase_4 rfl ?_
  refine g_iconst dX12_chase_5 kc_0 ?_
  refine g_iconst dX12_chase_6 kc_2 ?_
  obtain ⟨p7, e7, h⟩ := obind h
  refine g_sP3 ms_X12_79 dX12_chase_7 ⟨by decide, by decide⟩ (Nat.le_of_ble_eq_true rfl) (f_X12_in_ok e7) ?_
  obtain ⟨p10, e10, h⟩ := obind h
  refine g_vP3 mv_X12_312 dX12_chase_10 ok_28 ⟨by decide, by decide⟩ (Nat.le_of_ble_eq_true rfl) (f_X12_whyNotTwo_ok e10) ?_
  obtain ⟨p13, e13, h⟩ := obind h
  refine g_vP1 mv_X12_161 dX12_chase_13 ok_28 ⟨by decide, by decide⟩ (Nat.le_of_ble_eq_true rfl) (f_X12_isRefused_ok e13) ?_
  refine g_if_eq 21 dX12_chase_16 rfl (fun q => ?_) (fun q => ?_)
  · replace h := gif_t q h
    refine g_aload_n dX12_chase_21 rfl ?_
    refine g_iload_n dX12_chase_22 rfl ?_
    refine g_iload_n dX12_chase_23 rfl ?_
    obtain ⟨p24, e24, h⟩ := obind h
    refine g_vP2 mv_X12_309 dX12_chase_24 ok_28 ⟨by decide, by decide⟩ (Nat.le_of_ble_eq_true rfl) (f_X12_togetherOf_ok e24) ?_
    refine g_istore4 dX12_chase_27 ?_
    refine g_iconst dX12_chase_29 kc_0 ?_
    refine g_istore5 dX12_chase_30 ?_
    refine g_bipush dX12_chase_32 kb_m2 ?_
    refine g_istore6 dX12_chase_34 ?_
    refine g_iconst dX12_chase_36 kc_0 ?_
    refine g_istore7 dX12_chase_37 ?_
    refine g_iconst dX12_chase_39 kc_0 ?_
    refine g_istore8 dX12_chase_40 ?_
    exact f_X12_chase_42_ok gFuel h
  · replace h := gif_f q h
    refine g_iconst dX12_chase_19 kc_m1 ?_
    cases h
    exact g_iret dX12_chase_20 rfl ⟨rfl, rfl⟩
theorem dX12_teamOf_0 : decode cX12_teamOf 0 = .ok (.iconst 0, 1) := by decide +kernel
theorem dX12_teamOf_1 : decode cX12_teamOf 1 = .ok (.istore_n 3, 1) := by decide +kernel
theorem dX12_teamOf_2 : decode cX12_teamOf 2 = .ok (.iconst 0, 1) := by decide +kernel
theorem dX12_teamOf_3 : decode cX12_teamOf 3 = .ok (.istore 4, 2) := by decide +kernel
theorem dX12_teamOf_5 : decode cX12_teamOf 5 = .ok (.iload 4, 2) := by decide +kernel
theorem dX12_teamOf_7 : decode cX12_teamOf 7 = .ok (.aload_n 0, 1) := by decide +kernel
theorem dX12_teamOf_8 : decode cX12_teamOf 8 = .ok (.getfield 17, 3) := by decide +kernel
theorem dX12_teamOf_11 : decode cX12_teamOf 11 = .ok (.iconst 4, 1) := by decide +kernel
theorem dX12_teamOf_12 : decode cX12_teamOf 12 = .ok (.aload_n 0, 1) := by decide +kernel
theorem dX12_teamOf_13 : decode cX12_teamOf 13 = .ok (.getfield 17, 3) := by decide +kernel
theorem dX12_teamOf_16 : decode cX12_teamOf 16 = .ok (.bipush 37, 2) := by decide +kernel
theorem dX12_teamOf_18 : decode cX12_teamOf 18 = .ok (.iload_n 1, 1) := by decide +kernel
theorem dX12_teamOf_19 : decode cX12_teamOf 19 = .ok (.iadd, 1) := by decide +kernel
theorem dX12_teamOf_20 : decode cX12_teamOf 20 = .ok (.iaload, 1) := by decide +kernel
theorem dX12_teamOf_21 : decode cX12_teamOf 21 = .ok (.iadd, 1) := by decide +kernel
theorem dX12_teamOf_22 : decode cX12_teamOf 22 = .ok (.iaload, 1) := by decide +kernel
theorem dX12_teamOf_23 : decode cX12_teamOf 23 = .ok (.if_icmp .gt 80, 3) := by decide +kernel
theorem dX12_teamOf_26 : decode cX12_teamOf 26 = .ok (.aload_n 0, 1) := by decide +kernel
theorem dX12_teamOf_27 : decode cX12_teamOf 27 = .ok (.iload_n 1, 1) := by decide +kernel
theorem dX12_teamOf_28 : decode cX12_teamOf 28 = .ok (.iload 4, 2) := by decide +kernel
theorem dX12_teamOf_30 : decode cX12_teamOf 30 = .ok (.invokevirtual 221, 3) := by decide +kernel
theorem dX12_teamOf_33 : decode cX12_teamOf 33 = .ok (.istore 5, 2) := by decide +kernel
theorem dX12_teamOf_35 : decode cX12_teamOf 35 = .ok (.aload_n 0, 1) := by decide +kernel
theorem dX12_teamOf_36 : decode cX12_teamOf 36 = .ok (.iload_n 2, 1) := by decide +kernel
theorem dX12_teamOf_37 : decode cX12_teamOf 37 = .ok (.iload 4, 2) := by decide +kernel
theorem dX12_teamOf_39 : decode cX12_teamOf 39 = .ok (.invokevirtual 221, 3) := by decide +kernel
theorem dX12_teamOf_42 : decode cX12_teamOf 42 = .ok (.istore 6, 2) := by decide +kernel
theorem dX12_teamOf_44 : decode cX12_teamOf 44 = .ok (.iload 5, 2) := by decide +kernel
theorem dX12_teamOf_46 : decode cX12_teamOf 46 = .ok (.bipush (-2), 2) := by decide +kernel
theorem dX12_teamOf_48 : decode cX12_teamOf 48 = .ok (.if_icmp .ne 13, 3) := by decide +kernel
theorem dX12_teamOf_51 : decode cX12_teamOf 51 = .ok (.iload 6, 2) := by decide +kernel
theorem dX12_teamOf_53 : decode cX12_teamOf 53 = .ok (.bipush (-2), 2) := by decide +kernel
theorem dX12_teamOf_55 : decode cX12_teamOf 55 = .ok (.if_icmp .ne 6, 3) := by decide +kernel
theorem dX12_teamOf_58 : decode cX12_teamOf 58 = .ok (.bipush (-2), 2) := by decide +kernel
theorem dX12_teamOf_60 : decode cX12_teamOf 60 = .ok (.ireturn, 1) := by decide +kernel
theorem dX12_teamOf_61 : decode cX12_teamOf 61 = .ok (.iload_n 3, 1) := by decide +kernel
theorem dX12_teamOf_62 : decode cX12_teamOf 62 = .ok (.iload 5, 2) := by decide +kernel
theorem dX12_teamOf_64 : decode cX12_teamOf 64 = .ok (.bipush (-2), 2) := by decide +kernel
theorem dX12_teamOf_66 : decode cX12_teamOf 66 = .ok (.if_icmp .ne 8, 3) := by decide +kernel
theorem dX12_teamOf_69 : decode cX12_teamOf 69 = .ok (.iload 6, 2) := by decide +kernel
theorem dX12_teamOf_71 : decode cX12_teamOf 71 = .ok (.goto 24, 3) := by decide +kernel
theorem dX12_teamOf_74 : decode cX12_teamOf 74 = .ok (.iload 6, 2) := by decide +kernel
theorem dX12_teamOf_76 : decode cX12_teamOf 76 = .ok (.bipush (-2), 2) := by decide +kernel
theorem dX12_teamOf_78 : decode cX12_teamOf 78 = .ok (.if_icmp .eq 10, 3) := by decide +kernel
theorem dX12_teamOf_81 : decode cX12_teamOf 81 = .ok (.iload 5, 2) := by decide +kernel
theorem dX12_teamOf_83 : decode cX12_teamOf 83 = .ok (.iload 6, 2) := by decide +kernel
theorem dX12_teamOf_85 : decode cX12_teamOf 85 = .ok (.if_icmp .ge 8, 3) := by decide +kernel
theorem dX12_teamOf_88 : decode cX12_teamOf 88 = .ok (.iload 5, 2) := by decide +kernel
theorem dX12_teamOf_90 : decode cX12_teamOf 90 = .ok (.goto 5, 3) := by decide +kernel
theorem dX12_teamOf_93 : decode cX12_teamOf 93 = .ok (.iload 6, 2) := by decide +kernel
theorem dX12_teamOf_95 : decode cX12_teamOf 95 = .ok (.iadd, 1) := by decide +kernel
theorem dX12_teamOf_96 : decode cX12_teamOf 96 = .ok (.istore_n 3, 1) := by decide +kernel
theorem dX12_teamOf_97 : decode cX12_teamOf 97 = .ok (.iinc 4 1, 3) := by decide +kernel
theorem dX12_teamOf_100 : decode cX12_teamOf 100 = .ok (.goto (-95), 3) := by decide +kernel
theorem dX12_teamOf_103 : decode cX12_teamOf 103 = .ok (.iload_n 3, 1) := by decide +kernel
theorem dX12_teamOf_104 : decode cX12_teamOf 104 = .ok (.ireturn, 1) := by decide +kernel
def f_X12_teamOf_61 (v1 : Int32) (v2 : Int32) (v3 : Int32) (v4 : Int32) (v5 : Int32) (v6 : Int32) (k5 : Int32 → Int32 → gSt → Option (Int32 × gSt)) (σ : gSt) : Option (Int32 × gSt) :=
  if v5 = (-2) then
    k5 (v3 + v6) (v4 + 1) σ
  else
    if v6 = (-2) then
      k5 (v3 + v5) (v4 + 1) σ
    else
      if v6 ≤ v5 then
        k5 (v3 + v6) (v4 + 1) σ
      else
        k5 (v3 + v5) (v4 + 1) σ
def f_X12_teamOf_5 (v1 : Int32) (v2 : Int32) : Nat → Int32 → Int32 → gSt → Option (Int32 × gSt)
  | 0, _, _, _ => none
  | n + 1, v3, v4, σ =>
    (gld σ 30 0 397 (37 + v1)).bind fun a20 =>
    (gld σ 30 0 397 (4 + a20)).bind fun a22 =>
    if a22 < v4 then
      some (v3, σ)
    else
      (f_X12_legOf v1 v4 σ).bind fun p30 =>
      (f_X12_legOf v2 v4 p30.2).bind fun p39 =>
      if p30.1 = (-2) then
        if p39.1 = (-2) then
          some ((-2), p39.2)
        else
          f_X12_teamOf_61 v1 v2 v3 v4 p30.1 p39.1 (fun v3 v4 σ => f_X12_teamOf_5 v1 v2 n v3 v4 σ) p39.2
      else
        f_X12_teamOf_61 v1 v2 v3 v4 p30.1 p39.1 (fun v3 v4 σ => f_X12_teamOf_5 v1 v2 n v3 v4 σ) p39.2
def f_X12_teamOf (v1 : Int32) (v2 : Int32) (σ : gSt) : Option (Int32 × gSt) :=
  f_X12_teamOf_5 v1 v2 gFuel 0 0 σ
theorem f_X12_teamOf_61_ok {v1 : Int32} {v2 : Int32} {v3 : Int32} {v4 : Int32} {v5 : Int32} {v6 : Int32} {k5 : Int32 → Int32 → gSt → Option (Int32 × gSt)} {r : (Int32 × gSt)} (hk5 : ∀ {v3 : Int32} {v4 : Int32} {σ : gSt} {x5 x6 : Option Value}, k5 v3 v4 σ = some r → G l w 0 41 RX12 cX12_teamOf 7 (some .int) 5 120 (gE (some (.int r.1)) r.2) 5 [some (.ref (w.2.1 28 0)), some (.int v1), some (.int v2), some (.int v3), some (.int v4), x5, x6] [] σ) {σ : gSt}  (h : f_X12_teamOf_61 v1 v2 v3 v4 v5 v6 k5 σ = some r) : G l w 0 41 RX12 cX12_teamOf 7 (some .int) 5 120 (gE (some (.int r.1)) r.2) 61 [some (.ref (w.2.1 28 0)), some (.int v1), some (.int v2), some (.int v3), some (.int v4), some (.int v5), some (.int v6)] [] σ := by
  unfold f_X12_teamOf_61 at h
  refine g_iload_n dX12_teamOf_61 rfl ?_
  refine g_iload dX12_teamOf_62 rfl ?_
  refine g_bipush dX12_teamOf_64 kb_m2 ?_
  refine g_icmp_ne 74 dX12_teamOf_66 rfl (fun q => ?_) (fun q => ?_)
  · replace h := gif_f q h
    refine g_iload dX12_teamOf_74 rfl ?_
    refine g_bipush dX12_teamOf_76 kb_m2 ?_
    refine g_icmp_eq 88 dX12_teamOf_78 rfl (fun q => ?_) (fun q => ?_)
    · replace h := gif_t q h
      refine g_iload dX12_teamOf_88 rfl ?_
      refine g_goto 95 dX12_teamOf_90 rfl ?_
      refine g_iadd dX12_teamOf_95 ?_
      refine g_istore3 dX12_teamOf_96 ?_
      refine g_inc4 kc_1 dX12_teamOf_97 ?_
      refine g_goto 5 dX12_teamOf_100 rfl ?_
      exact hk5 h
    · replace h := gif_f q h
      refine g_iload dX12_teamOf_81 rfl ?_
      refine g_iload dX12_teamOf_83 rfl ?_
      refine g_icmp_ge 93 dX12_teamOf_85 rfl (fun q => ?_) (fun q => ?_)
      · replace h := gif_t q h
        refine g_iload dX12_teamOf_93 rfl ?_
        refine g_iadd dX12_teamOf_95 ?_
        refine g_istore3 dX12_teamOf_96 ?_
        refine g_inc4 kc_1 dX12_teamOf_97 ?_
        refine g_goto 5 dX12_teamOf_100 rfl ?_
        exact hk5 h
      · replace h := gif_f q h
        refine g_iload dX12_teamOf_88 rfl ?_
        refine g_goto 95 dX12_teamOf_90 rfl ?_
        refine g_iadd dX12_teamOf_95 ?_
        refine g_istore3 dX12_teamOf_96 ?_
        refine g_inc4 kc_1 dX12_teamOf_97 ?_
        refine g_goto 5 dX12_teamOf_100 rfl ?_
        exact hk5 h
  · replace h := gif_t q h
    refine g_iload dX12_teamOf_69 rfl ?_
    refine g_goto 95 dX12_teamOf_71 rfl ?_
    refine g_iadd dX12_teamOf_95 ?_
    refine g_istore3 dX12_teamOf_96 ?_
    refine g_inc4 kc_1 dX12_teamOf_97 ?_
    refine g_goto 5 dX12_teamOf_100 rfl ?_
    exact hk5 h
theorem f_X12_teamOf_5_ok {v1 : Int32} {v2 : Int32} {r : (Int32 × gSt)}  : ∀ (n : Nat) {v3 : Int32} {v4 : Int32} {σ : gSt} {x5 x6 : Option Value}, f_X12_teamOf_5 v1 v2 n v3 v4 σ = some r → G l w 0 41 RX12 cX12_teamOf 7 (some .int) 5 120 (gE (some (.int r.1)) r.2) 5 [some (.ref (w.2.1 28 0)), some (.int v1), some (.int v2), some (.int v3), some (.int v4), x5, x6] [] σ := by
  intro n
  induction n with
  | zero => intro v3 v4 σ x5 x6 h; rw [f_X12_teamOf_5] at h; cases h
  | succ n ih =>
    intro v3 v4 σ x5 x6 h
    rw [f_X12_teamOf_5] at h
    refine g_iload dX12_teamOf_5 rfl ?_
    refine g_aload_n dX12_teamOf_7 rfl ?_
    refine gR_X12_17 ok_28 dX12_teamOf_8 ?_
    refine g_iconst dX12_teamOf_11 kc_4 ?_
    refine g_aload_n dX12_teamOf_12 rfl ?_
    refine gR_X12_17 ok_28 dX12_teamOf_13 ?_
    refine g_bipush dX12_teamOf_16 kb_37 ?_
    refine g_iload_n dX12_teamOf_18 rfl ?_
    refine g_iadd dX12_teamOf_19 ?_
    obtain ⟨a20, e20, h⟩ := obind h
    refine g_ldB e20 ok_30 rfl rfl (by decide) dX12_teamOf_20 ?_
    refine g_iadd dX12_teamOf_21 ?_
    obtain ⟨a22, e22, h⟩ := obind h
    refine g_ldB e22 ok_30 rfl rfl (by decide) dX12_teamOf_22 ?_
    refine g_icmp_gt 103 dX12_teamOf_23 rfl (fun q => ?_) (fun q => ?_)
    · replace h := gif_t q h
      refine g_iload_n dX12_teamOf_103 rfl ?_
      cases h
      exact g_iret dX12_teamOf_104 rfl ⟨rfl, rfl⟩
    · replace h := gif_f q h
      refine g_aload_n dX12_teamOf_26 rfl ?_
      refine g_iload_n dX12_teamOf_27 rfl ?_
      refine g_iload dX12_teamOf_28 rfl ?_
      obtain ⟨p30, e30, h⟩ := obind h
      refine g_vP2 mv_X12_221 dX12_teamOf_30 ok_28 ⟨by decide, by decide⟩ (Nat.le_of_ble_eq_true rfl) (f_X12_legOf_ok e30) ?_
      refine g_istore5 dX12_teamOf_33 ?_
      refine g_aload_n dX12_teamOf_35 rfl ?_
      refine g_iload_n dX12_teamOf_36 rfl ?_
      refine g_iload dX12_teamOf_37 rfl ?_
      obtain ⟨p39, e39, h⟩ := obind h
      refine g_vP2 mv_X12_221 dX12_teamOf_39 ok_28 ⟨by decide, by decide⟩ (Nat.le_of_ble_eq_true rfl) (f_X12_legOf_ok e39) ?_
      refine g_istore6 dX12_teamOf_42 ?_
      refine g_iload dX12_teamOf_44 rfl ?_
      refine g_bipush dX12_teamOf_46 kb_m2 ?_
      refine g_icmp_ne 61 dX12_teamOf_48 rfl (fun q => ?_) (fun q => ?_)
      · replace h := gif_f q h
        exact f_X12_teamOf_61_ok (fun h => ih h) h
      · replace h := gif_t q h
        refine g_iload dX12_teamOf_51 rfl ?_
        refine g_bipush dX12_teamOf_53 kb_m2 ?_
        refine g_icmp_ne 61 dX12_teamOf_55 rfl (fun q => ?_) (fun q => ?_)
        · replace h := gif_f q h
          exact f_X12_teamOf_61_ok (fun h => ih h) h
        · replace h := gif_t q h
          refine g_bipush dX12_teamOf_58 kb_m2 ?_
          cases h
          exact g_iret dX12_teamOf_60 rfl ⟨rfl, rfl⟩
theorem f_X12_teamOf_ok {v1 : Int32} {v2 : Int32}  {σ : gSt} {r : (Int32 × gSt)} (h : f_X12_teamOf v1 v2 σ = some r) : Mt l w 0 41 yX12_teamOf cX12_teamOf 7 (some .int) 5 120 [.ref (w.2.1 28 0), .int v1, .int v2] σ (gE (some (.int r.1)) r.2) := by
  unfold f_X12_teamOf at h
  refine g_start pn_X12 rfl rfl (Nat.le_of_ble_eq_true rfl) ?_
  show G l w 0 41 RX12 cX12_teamOf 7 (some .int) 5 120 (gE (some (.int r.1)) r.2) 0 [some (.ref (w.2.1 28 0)), some (.int v1), some (.int v2), none, none, none, none] [] σ
  refine g_iconst dX12_teamOf_0 kc_0 ?_
  refine g_istore3 dX12_teamOf_1 ?_
  refine g_iconst dX12_teamOf_2 kc_0 ?_
  refine g_istore4 dX12_teamOf_3 ?_
  exact f_X12_teamOf_5_ok gFuel h
theorem dX12_team_0 : decode cX12_team 0 = .ok (.aload_n 0, 1) := by decide +kernel
theorem dX12_team_1 : decode cX12_team 1 = .ok (.aload_n 0, 1) := by decide +kernel
theorem dX12_team_2 : decode cX12_team 2 = .ok (.iload_n 1, 1) := by decide +kernel
theorem dX12_team_3 : decode cX12_team 3 = .ok (.iload_n 2, 1) := by decide +kernel
theorem dX12_team_4 : decode cX12_team 4 = .ok (.iconst 1, 1) := by decide +kernel
theorem dX12_team_5 : decode cX12_team 5 = .ok (.invokevirtual 312, 3) := by decide +kernel
theorem dX12_team_8 : decode cX12_team 8 = .ok (.invokevirtual 161, 3) := by decide +kernel
theorem dX12_team_11 : decode cX12_team 11 = .ok (.ifCond .eq 7, 3) := by decide +kernel
theorem dX12_team_14 : decode cX12_team 14 = .ok (.iconst (-1), 1) := by decide +kernel
theorem dX12_team_15 : decode cX12_team 15 = .ok (.goto 9, 3) := by decide +kernel
theorem dX12_team_18 : decode cX12_team 18 = .ok (.aload_n 0, 1) := by decide +kernel
theorem dX12_team_19 : decode cX12_team 19 = .ok (.iload_n 1, 1) := by decide +kernel
theorem dX12_team_20 : decode cX12_team 20 = .ok (.iload_n 2, 1) := by decide +kernel
theorem dX12_team_21 : decode cX12_team 21 = .ok (.invokevirtual 315, 3) := by decide +kernel
theorem dX12_team_24 : decode cX12_team 24 = .ok (.ireturn, 1) := by decide +kernel
def f_X12_team (v1 : Int32) (v2 : Int32) (σ : gSt) : Option (Int32 × gSt) :=
  (f_X12_whyNotTwo v1 v2 1 σ).bind fun p5 =>
  (f_X12_isRefused p5.1 p5.2).bind fun p8 =>
  if p8.1 = 0 then
    (f_X12_teamOf v1 v2 p8.2).bind fun p21 =>
    some (p21.1, p21.2)
  else
    some ((-1), p8.2)
theorem f_X12_team_ok {v1 : Int32} {v2 : Int32}  {σ : gSt} {r : (Int32 × gSt)} (h : f_X12_team v1 v2 σ = some r) : Mt l w 0 41 yX12_team cX12_team 3 (some .int) 6 146 [.ref (w.2.1 28 0), .int v1, .int v2] σ (gE (some (.int r.1)) r.2) := by
  unfold f_X12_team at h
  refine g_start pn_X12 rfl rfl (Nat.le_of_ble_eq_true rfl) ?_
  show G l w 0 41 RX12 cX12_team 3 (some .int) 6 146 (gE (some (.int r.1)) r.2) 0 [some (.ref (w.2.1 28 0)), some (.int v1), some (.int v2)] [] σ
  refine g_aload_n dX12_team_0 rfl ?_
  refine g_aload_n dX12_team_1 rfl ?_
  refine g_iload_n dX12_team_2 rfl ?_
  refine g_iload_n dX12_team_3 rfl ?_
  refine g_iconst dX12_team_4 kc_1 ?_
  obtain ⟨p5, e5, h⟩ := obind h
  refine g_vP3 mv_X12_312 dX12_team_5 ok_28 ⟨by decide, by decide⟩ (Nat.le_of_ble_eq_true rfl) (f_X12_whyNotTwo_ok e5) ?_
  obtain ⟨p8, e8, h⟩ := obind h
  refine g_vP1 mv_X12_161 dX12_team_8 ok_28 ⟨by decide, by decide⟩ (Nat.le_of_ble_eq_true rfl) (f_X12_isRefused_ok e8) ?_
  refine g_if_eq 18 dX12_team_11 rfl (fun q => ?_) (fun q => ?_)
  · replace h := gif_t q h
    refine g_aload_n dX12_team_18 rfl ?_
    refine g_iload_n dX12_team_19 rfl ?_
    refine g_iload_n dX12_team_20 rfl ?_
    obtain ⟨p21, e21, h⟩ := obind h
    refine g_vP2 mv_X12_315 dX12_team_21 ok_28 ⟨by decide, by decide⟩ (Nat.le_of_ble_eq_true rfl) (f_X12_teamOf_ok e21) ?_
    cases h
    exact g_iret dX12_team_24 rfl ⟨rfl, rfl⟩
  · replace h := gif_f q h
    refine g_iconst dX12_team_14 kc_m1 ?_
    refine g_goto 24 dX12_team_15 rfl ?_
    cases h
    exact g_iret dX12_team_24 rfl ⟨rfl, rfl⟩
theorem dX12_mate_0 : decode cX12_mate 0 = .ok (.aload_n 0, 1) := by decide +kernel
theorem dX12_mate_1 : decode cX12_mate 1 = .ok (.aload_n 0, 1) := by decide +kernel
theorem dX12_mate_2 : decode cX12_mate 2 = .ok (.iload_n 1, 1) := by decide +kernel
theorem dX12_mate_3 : decode cX12_mate 3 = .ok (.invokevirtual 187, 3) := by decide +kernel
theorem dX12_mate_6 : decode cX12_mate 6 = .ok (.invokestatic 234, 3) := by decide +kernel
theorem dX12_mate_9 : decode cX12_mate 9 = .ok (.invokevirtual 161, 3) := by decide +kernel
theorem dX12_mate_12 : decode cX12_mate 12 = .ok (.ifCond .eq 5, 3) := by decide +kernel
theorem dX12_mate_15 : decode cX12_mate 15 = .ok (.iconst (-1), 1) := by decide +kernel
theorem dX12_mate_16 : decode cX12_mate 16 = .ok (.ireturn, 1) := by decide +kernel
theorem dX12_mate_17 : decode cX12_mate 17 = .ok (.bipush (-2), 2) := by decide +kernel
theorem dX12_mate_19 : decode cX12_mate 19 = .ok (.istore_n 2, 1) := by decide +kernel
theorem dX12_mate_20 : decode cX12_mate 20 = .ok (.iconst 0, 1) := by decide +kernel
theorem dX12_mate_21 : decode cX12_mate 21 = .ok (.istore_n 3, 1) := by decide +kernel
theorem dX12_mate_22 : decode cX12_mate 22 = .ok (.iconst 0, 1) := by decide +kernel
theorem dX12_mate_23 : decode cX12_mate 23 = .ok (.istore 4, 2) := by decide +kernel
theorem dX12_mate_25 : decode cX12_mate 25 = .ok (.iload 4, 2) := by decide +kernel
theorem dX12_mate_27 : decode cX12_mate 27 = .ok (.aload_n 0, 1) := by decide +kernel
theorem dX12_mate_28 : decode cX12_mate 28 = .ok (.getfield 17, 3) := by decide +kernel
theorem dX12_mate_31 : decode cX12_mate 31 = .ok (.iconst 1, 1) := by decide +kernel
theorem dX12_mate_32 : decode cX12_mate 32 = .ok (.iaload, 1) := by decide +kernel
theorem dX12_mate_33 : decode cX12_mate 33 = .ok (.if_icmp .ge 76, 3) := by decide +kernel
theorem dX12_mate_36 : decode cX12_mate 36 = .ok (.iload 4, 2) := by decide +kernel
theorem dX12_mate_38 : decode cX12_mate 38 = .ok (.iload_n 1, 1) := by decide +kernel
theorem dX12_mate_39 : decode cX12_mate 39 = .ok (.if_icmp .eq 25, 3) := by decide +kernel
theorem dX12_mate_42 : decode cX12_mate 42 = .ok (.aload_n 0, 1) := by decide +kernel
theorem dX12_mate_43 : decode cX12_mate 43 = .ok (.getfield 17, 3) := by decide +kernel
theorem dX12_mate_46 : decode cX12_mate 46 = .ok (.bipush 37, 2) := by decide +kernel
theorem dX12_mate_48 : decode cX12_mate 48 = .ok (.iload 4, 2) := by decide +kernel
theorem dX12_mate_50 : decode cX12_mate 50 = .ok (.iadd, 1) := by decide +kernel
theorem dX12_mate_51 : decode cX12_mate 51 = .ok (.iaload, 1) := by decide +kernel
theorem dX12_mate_52 : decode cX12_mate 52 = .ok (.aload_n 0, 1) := by decide +kernel
theorem dX12_mate_53 : decode cX12_mate 53 = .ok (.getfield 17, 3) := by decide +kernel
theorem dX12_mate_56 : decode cX12_mate 56 = .ok (.bipush 37, 2) := by decide +kernel
theorem dX12_mate_58 : decode cX12_mate 58 = .ok (.iload_n 1, 1) := by decide +kernel
theorem dX12_mate_59 : decode cX12_mate 59 = .ok (.iadd, 1) := by decide +kernel
theorem dX12_mate_60 : decode cX12_mate 60 = .ok (.iaload, 1) := by decide +kernel
theorem dX12_mate_61 : decode cX12_mate 61 = .ok (.if_icmp .eq 8, 3) := by decide +kernel
theorem dX12_mate_64 : decode cX12_mate 64 = .ok (.bipush (-2), 2) := by decide +kernel
theorem dX12_mate_66 : decode cX12_mate 66 = .ok (.goto 10, 3) := by decide +kernel
theorem dX12_mate_69 : decode cX12_mate 69 = .ok (.aload_n 0, 1) := by decide +kernel
theorem dX12_mate_70 : decode cX12_mate 70 = .ok (.iload_n 1, 1) := by decide +kernel
theorem dX12_mate_71 : decode cX12_mate 71 = .ok (.iload 4, 2) := by decide +kernel
theorem dX12_mate_73 : decode cX12_mate 73 = .ok (.invokevirtual 315, 3) := by decide +kernel
theorem dX12_mate_76 : decode cX12_mate 76 = .ok (.istore 5, 2) := by decide +kernel
theorem dX12_mate_78 : decode cX12_mate 78 = .ok (.iload 5, 2) := by decide +kernel
theorem dX12_mate_80 : decode cX12_mate 80 = .ok (.bipush (-2), 2) := by decide +kernel
theorem dX12_mate_82 : decode cX12_mate 82 = .ok (.if_icmp .eq 21, 3) := by decide +kernel
theorem dX12_mate_85 : decode cX12_mate 85 = .ok (.iload_n 2, 1) := by decide +kernel
theorem dX12_mate_86 : decode cX12_mate 86 = .ok (.bipush (-2), 2) := by decide +kernel
theorem dX12_mate_88 : decode cX12_mate 88 = .ok (.if_icmp .eq 9, 3) := by decide +kernel
theorem dX12_mate_91 : decode cX12_mate 91 = .ok (.iload 5, 2) := by decide +kernel
theorem dX12_mate_93 : decode cX12_mate 93 = .ok (.iload_n 3, 1) := by decide +kernel
theorem dX12_mate_94 : decode cX12_mate 94 = .ok (.if_icmp .ge 9, 3) := by decide +kernel
theorem dX12_mate_97 : decode cX12_mate 97 = .ok (.iload 4, 2) := by decide +kernel
theorem dX12_mate_99 : decode cX12_mate 99 = .ok (.istore_n 2, 1) := by decide +kernel
theorem dX12_mate_100 : decode cX12_mate 100 = .ok (.iload 5, 2) := by decide +kernel
theorem dX12_mate_102 : decode cX12_mate 102 = .ok (.istore_n 3, 1) := by decide +kernel
theorem dX12_mate_103 : decode cX12_mate 103 = .ok (.iinc 4 1, 3) := by decide +kernel
theorem dX12_mate_106 : decode cX12_mate 106 = .ok (.goto (-81), 3) := by decide +kernel
theorem dX12_mate_109 : decode cX12_mate 109 = .ok (.iload_n 2, 1) := by decide +kernel
theorem dX12_mate_110 : decode cX12_mate 110 = .ok (.ireturn, 1) := by decide +kernel
def f_X12_mate_76 (v1 : Int32) (v2 : Int32) (v3 : Int32) (v4 : Int32) (k25 : Int32 → Int32 → Int32 → gSt → Option (Int32 × gSt)) (vs0 : Int32) (σ : gSt) : Option (Int32 × gSt) :=
  if vs0 = (-2) then
    k25 v2 v3 (v4 + 1) σ
  else
    if v2 = (-2) then
      k25 v4 vs0 (v4 + 1) σ
    else
      if v3 ≤ vs0 then
        k25 v2 v3 (v4 + 1) σ
      else
        k25 v4 vs0 (v4 + 1) σ
def f_X12_mate_64 (v1 : Int32) (v2 : Int32) (v3 : Int32) (v4 : Int32) (k25 : Int32 → Int32 → Int32 → gSt → Option (Int32 × gSt)) (σ : gSt) : Option (Int32 × gSt) :=
  f_X12_mate_76 v1 v2 v3 v4 k25 (-2) σ
def f_X12_mate_25 (v1 : Int32) : Nat → Int32 → Int32 → Int32 → gSt → Option (Int32 × gSt)
  | 0, _, _, _, _ => none
  | n + 1, v2, v3, v4, σ =>
    (gld σ 30 0 397 1).bind fun a32 =>
    if a32 ≤ v4 then
      some (v2, σ)
    else
      if v4 = v1 then
        f_X12_mate_64 v1 v2 v3 v4 (fun v2 v3 v4 σ => f_X12_mate_25 v1 n v2 v3 v4 σ) σ
      else
        (gld σ 30 0 397 (37 + v4)).bind fun a51 =>
        (gld σ 30 0 397 (37 + v1)).bind fun a60 =>
        if a51 = a60 then
          (f_X12_teamOf v1 v4 σ).bind fun p73 =>
          f_X12_mate_76 v1 v2 v3 v4 (fun v2 v3 v4 σ => f_X12_mate_25 v1 n v2 v3 v4 σ) p73.1 p73.2
        else
          f_X12_mate_64 v1 v2 v3 v4 (fun v2 v3 v4 σ => f_X12_mate_25 v1 n v2 v3 v4 σ) σ
def f_X12_mate (v1 : Int32) (σ : gSt) : Option (Int32 × gSt) :=
  (f_X12_isRunner v1 σ).bind fun p3 =>
  (f_X12_unless p3.1 p3.2).bind fun p6 =>
  (f_X12_isRefused p6.1 p6.2).bind fun p9 =>
  if p9.1 = 0 then
    f_X12_mate_25 v1 gFuel (-2) 0 0 p9.2
  else
    some ((-1), p9.2)
theorem f_X12_mate_76_ok {v1 : Int32} {v2 : Int32} {v3 : Int32} {v4 : Int32} {k25 : Int32 → Int32 → Int32 → gSt → Option (Int32 × gSt)} {vs0 : Int32} {r : (Int32 × gSt)} (hk25 : ∀ {v2 : Int32} {v3 : Int32} {v4 : Int32} {σ : gSt} {x5 : Option Value}, k25 v2 v3 v4 σ = some r → G l w 0 41 RX12 cX12_mate 6 (some .int) 6 146 (gE (some (.int r.1)) r.2) 25 [some (.ref (w.2.1 28 0)), some (.int v1), some (.int v2), some (.int v3), some (.int v4), x5] [] σ) {σ : gSt} {x5 : Option Value} (h : f_X12_mate_76 v1 v2 v3 v4 k25 vs0 σ = some r) : G l w 0 41 RX12 cX12_mate 6 (some .int) 6 146 (gE (some (.int r.1)) r.2) 76 [some (.ref (w.2.1 28 0)), some (.int v1), some (.int v2), some (.int v3), some (.int v4), x5] [.int vs0] σ := by
  unfold f_X12_mate_76 at h
  refine g_istore5 dX12_mate_76 ?_
  refine g_iload dX12_mate_78 rfl ?_
  refine g_bipush dX12_mate_80 kb_m2 ?_
  refine g_icmp_eq 103 dX12_mate_82 rfl (fun q => ?_) (fun q => ?_)
  · replace h := gif_t q h
    refine g_inc4 kc_1 dX12_mate_103 ?_
    refine g_goto 25 dX12_mate_106 rfl ?_
    exact hk25 h
  · replace h := gif_f q h
    refine g_iload_n dX12_mate_85 rfl ?_
    refine g_bipush dX12_mate_86 kb_m2 ?_
    refine g_icmp_eq 97 dX12_mate_88 rfl (fun q => ?_) (fun q => ?_)
    · replace h := gif_t q h
      refine g_iload dX12_mate_97 rfl ?_
      refine g_istore2 dX12_mate_99 ?_
      refine g_iload dX12_mate_100 rfl ?_
      refine g_istore3 dX12_mate_102 ?_
      refine g_inc4 kc_1 dX12_mate_103 ?_
      refine g_goto 25 dX12_mate_106 rfl ?_
      exact hk25 h
    · replace h := gif_f q h
      refine g_iload dX12_mate_91 rfl ?_
      refine g_iload_n dX12_mate_93 rfl ?_
      refine g_icmp_ge 103 dX12_mate_94 rfl (fun q => ?_) (fun q => ?_)
      · replace h := gif_t q h
        refine g_inc4 kc_1 dX12_mate_103 ?_
        refine g_goto 25 dX12_mate_106 rfl ?_
        exact hk25 h
      · replace h := gif_f q h
        refine g_iload dX12_mate_97 rfl ?_
        refine g_istore2 dX12_mate_99 ?_
        refine g_iload dX12_mate_100 rfl ?_
        refine g_istore3 dX12_mate_102 ?_
        refine g_inc4 kc_1 dX12_mate_103 ?_
        refine g_goto 25 dX12_mate_106 rfl ?_
        exact hk25 h
theorem f_X12_mate_64_ok {v1 : Int32} {v2 : Int32} {v3 : Int32} {v4 : Int32} {k25 : Int32 → Int32 → Int32 → gSt → Option (Int32 × gSt)} {r : (Int32 × gSt)} (hk25 : ∀ {v2 : Int32} {v3 : Int32} {v4 : Int32} {σ : gSt} {x5 : Option Value}, k25 v2 v3 v4 σ = some r → G l w 0 41 RX12 cX12_mate 6 (some .int) 6 146 (gE (some (.int r.1)) r.2) 25 [some (.ref (w.2.1 28 0)), some (.int v1), some (.int v2), some (.int v3), some (.int v4), x5] [] σ) {σ : gSt} {x5 : Option Value} (h : f_X12_mate_64 v1 v2 v3 v4 k25 σ = some r) : G l w 0 41 RX12 cX12_mate 6 (some .int) 6 146 (gE (some (.int r.1)) r.2) 64 [some (.ref (w.2.1 28 0)), some (.int v1), some (.int v2), some (.int v3), some (.int v4), x5] [] σ := by
  unfold f_X12_mate_64 at h
  refine g_bipush dX12_mate_64 kb_m2 ?_
  refine g_goto 76 dX12_mate_66 rfl ?_
  exact f_X12_mate_76_ok hk25 h
theorem f_X12_mate_25_ok {v1 : Int32} {r : (Int32 × gSt)}  : ∀ (n : Nat) {v2 : Int32} {v3 : Int32} {v4 : Int32} {σ : gSt} {x5 : Option Value}, f_X12_mate_25 v1 n v2 v3 v4 σ = some r → G l w 0 41 RX12 cX12_mate 6 (some .int) 6 146 (gE (some (.int r.1)) r.2) 25 [some (.ref (w.2.1 28 0)), some (.int v1), some (.int v2), some (.int v3), some (.int v4), x5] [] σ := by
  intro n
  induction n with
  | zero => intro v2 v3 v4 σ x5 h; rw [f_X12_mate_25] at h; cases h
  | succ n ih =>
    intro v2 v3 v4 σ x5 h
    rw [f_X12_mate_25] at h
    refine g_iload dX12_mate_25 rfl ?_
    refine g_aload_n dX12_mate_27 rfl ?_
    refine gR_X12_17 ok_28 dX12_mate_28 ?_
    refine g_iconst dX12_mate_31 kc_1 ?_
    obtain ⟨a32, e32, h⟩ := obind h
    refine g_ldB e32 ok_30 rfl rfl (by decide) dX12_mate_32 ?_
    refine g_icmp_ge 109 dX12_mate_33 rfl (fun q => ?_) (fun q => ?_)
    · replace h := gif_t q h
      refine g_iload_n dX12_mate_109 rfl ?_
      cases h
      exact g_iret dX12_mate_110 rfl ⟨rfl, rfl⟩
    · replace h := gif_f q h
      refine g_iload dX12_mate_36 rfl ?_
      refine g_iload_n dX12_mate_38 rfl ?_
      refine g_icmp_eq 64 dX12_mate_39 rfl (fun q => ?_) (fun q => ?_)
      · replace h := gif_t q h
        exact f_X12_mate_64_ok (fun h => ih h) h
      · replace h := gif_f q h
        refine g_aload_n dX12_mate_42 rfl ?_
        refine gR_X12_17 ok_28 dX12_mate_43 ?_
        refine g_bipush dX12_mate_46 kb_37 ?_
        refine g_iload dX12_mate_48 rfl ?_
        refine g_iadd dX12_mate_50 ?_
        obtain ⟨a51, e51, h⟩ := obind h
        refine g_ldB e51 ok_30 rfl rfl (by decide) dX12_mate_51 ?_
        refine g_aload_n dX12_mate_52 rfl ?_
        refine gR_X12_17 ok_28 dX12_mate_53 ?_
        refine g_bipush dX12_mate_56 kb_37 ?_
        refine g_iload_n dX12_mate_58 rfl ?_
        refine g_iadd dX12_mate_59 ?_
        obtain ⟨a60, e60, h⟩ := obind h
        refine g_ldB e60 ok_30 rfl rfl (by decide) dX12_mate_60 ?_
        refine g_icmp_eq 69 dX12_mate_61 rfl (fun q => ?_) (fun q => ?_)
        · replace h := gif_t q h
          refine g_aload_n dX12_mate_69 rfl ?_
          refine g_iload_n dX12_mate_70 rfl ?_
          refine g_iload dX12_mate_71 rfl ?_
          obtain ⟨p73, e73, h⟩ := obind h
          refine g_vP2 mv_X12_315 dX12_mate_73 ok_28 ⟨by decide, by decide⟩ (Nat.le_of_ble_eq_true rfl) (f_X12_teamOf_ok e73) ?_
          exact f_X12_mate_76_ok (fun h => ih h) h
        · replace h := gif_f q h
          exact f_X12_mate_64_ok (fun h => ih h) h
theorem f_X12_mate_ok {v1 : Int32}  {σ : gSt} {r : (Int32 × gSt)} (h : f_X12_mate v1 σ = some r) : Mt l w 0 41 yX12_mate cX12_mate 6 (some .int) 6 146 [.ref (w.2.1 28 0), .int v1] σ (gE (some (.int r.1)) r.2) := by
  unfold f_X12_mate at h
  refine g_start pn_X12 rfl rfl (Nat.le_of_ble_eq_true rfl) ?_
  show G l w 0 41 RX12 cX12_mate 6 (some .int) 6 146 (gE (some (.int r.1)) r.2) 0 [some (.ref (w.2.1 28 0)), some (.int v1), none, none, none, none] [] σ
  refine g_aload_n dX12_mate_0 rfl ?_
  refine g_aload_n dX12_mate_1 rfl ?_
  refine g_iload_n dX12_mate_2 rfl ?_
  obtain ⟨p3, e3, h⟩ := obind h
  refine g_vP1 mv_X12_187 dX12_mate_3 ok_28 ⟨by decide, by decide⟩ (Nat.le_of_ble_eq_true rfl) (f_X12_isRunner_ok e3) ?_
  obtain ⟨p6, e6, h⟩ := obind h
  refine g_sP1 ms_X12_234 dX12_mate_6 ⟨by decide, by decide⟩ (Nat.le_of_ble_eq_true rfl) (f_X12_unless_ok e6) ?_
  obtain ⟨p9, e9, h⟩ := obind h
  refine g_vP1 mv_X12_161 dX12_mate_9 ok_28 ⟨by decide, by decide⟩ (Nat.le_of_ble_eq_true rfl) (f_X12_isRefused_ok e9) ?_
  refine g_if_eq 17 dX12_mate_12 rfl (fun q => ?_) (fun q => ?_)
  · replace h := gif_t q h
    refine g_bipush dX12_mate_17 kb_m2 ?_
    refine g_istore2 dX12_mate_19 ?_
    refine g_iconst dX12_mate_20 kc_0 ?_
    refine g_istore3 dX12_mate_21 ?_
    refine g_iconst dX12_mate_22 kc_0 ?_
    refine g_istore4 dX12_mate_23 ?_
    exact f_X12_mate_25_ok gFuel h
  · replace h := gif_f q h
    refine g_iconst dX12_mate_15 kc_m1 ?_
    cases h
    exact g_iret dX12_mate_16 rfl ⟨rfl, rfl⟩
theorem dX12_passes_0 : decode cX12_passes 0 = .ok (.aload_n 0, 1) := by decide +kernel
theorem dX12_passes_1 : decode cX12_passes 1 = .ok (.aload_n 0, 1) := by decide +kernel
theorem dX12_passes_2 : decode cX12_passes 2 = .ok (.iload_n 1, 1) := by decide +kernel
theorem dX12_passes_3 : decode cX12_passes 3 = .ok (.iload_n 2, 1) := by decide +kernel
theorem dX12_passes_4 : decode cX12_passes 4 = .ok (.iconst 1, 1) := by decide +kernel
theorem dX12_passes_5 : decode cX12_passes 5 = .ok (.invokevirtual 312, 3) := by decide +kernel
theorem dX12_passes_8 : decode cX12_passes 8 = .ok (.invokevirtual 161, 3) := by decide +kernel
theorem dX12_passes_11 : decode cX12_passes 11 = .ok (.ifCond .eq 5, 3) := by decide +kernel
theorem dX12_passes_14 : decode cX12_passes 14 = .ok (.iconst (-1), 1) := by decide +kernel
theorem dX12_passes_15 : decode cX12_passes 15 = .ok (.ireturn, 1) := by decide +kernel
theorem dX12_passes_16 : decode cX12_passes 16 = .ok (.iconst 0, 1) := by decide +kernel
theorem dX12_passes_17 : decode cX12_passes 17 = .ok (.istore_n 3, 1) := by decide +kernel
theorem dX12_passes_18 : decode cX12_passes 18 = .ok (.iconst 1, 1) := by decide +kernel
theorem dX12_passes_19 : decode cX12_passes 19 = .ok (.istore 4, 2) := by decide +kernel
theorem dX12_passes_21 : decode cX12_passes 21 = .ok (.iload 4, 2) := by decide +kernel
theorem dX12_passes_23 : decode cX12_passes 23 = .ok (.aload_n 0, 1) := by decide +kernel
theorem dX12_passes_24 : decode cX12_passes 24 = .ok (.getfield 17, 3) := by decide +kernel
theorem dX12_passes_27 : decode cX12_passes 27 = .ok (.iconst 4, 1) := by decide +kernel
theorem dX12_passes_28 : decode cX12_passes 28 = .ok (.aload_n 0, 1) := by decide +kernel
theorem dX12_passes_29 : decode cX12_passes 29 = .ok (.getfield 17, 3) := by decide +kernel
theorem dX12_passes_32 : decode cX12_passes 32 = .ok (.bipush 37, 2) := by decide +kernel
theorem dX12_passes_34 : decode cX12_passes 34 = .ok (.iload_n 1, 1) := by decide +kernel
theorem dX12_passes_35 : decode cX12_passes 35 = .ok (.iadd, 1) := by decide +kernel
theorem dX12_passes_36 : decode cX12_passes 36 = .ok (.iaload, 1) := by decide +kernel
theorem dX12_passes_37 : decode cX12_passes 37 = .ok (.iadd, 1) := by decide +kernel
theorem dX12_passes_38 : decode cX12_passes 38 = .ok (.iaload, 1) := by decide +kernel
theorem dX12_passes_39 : decode cX12_passes 39 = .ok (.if_icmp .gt 107, 3) := by decide +kernel
theorem dX12_passes_42 : decode cX12_passes 42 = .ok (.aload_n 0, 1) := by decide +kernel
theorem dX12_passes_43 : decode cX12_passes 43 = .ok (.iload_n 1, 1) := by decide +kernel
theorem dX12_passes_44 : decode cX12_passes 44 = .ok (.iload 4, 2) := by decide +kernel
theorem dX12_passes_46 : decode cX12_passes 46 = .ok (.iconst 1, 1) := by decide +kernel
theorem dX12_passes_47 : decode cX12_passes 47 = .ok (.isub, 1) := by decide +kernel
theorem dX12_passes_48 : decode cX12_passes 48 = .ok (.invokevirtual 212, 3) := by decide +kernel
theorem dX12_passes_51 : decode cX12_passes 51 = .ok (.istore 5, 2) := by decide +kernel
theorem dX12_passes_53 : decode cX12_passes 53 = .ok (.aload_n 0, 1) := by decide +kernel
theorem dX12_passes_54 : decode cX12_passes 54 = .ok (.iload_n 2, 1) := by decide +kernel
theorem dX12_passes_55 : decode cX12_passes 55 = .ok (.iload 4, 2) := by decide +kernel
theorem dX12_passes_57 : decode cX12_passes 57 = .ok (.iconst 1, 1) := by decide +kernel
theorem dX12_passes_58 : decode cX12_passes 58 = .ok (.isub, 1) := by decide +kernel
theorem dX12_passes_59 : decode cX12_passes 59 = .ok (.invokevirtual 212, 3) := by decide +kernel
theorem dX12_passes_62 : decode cX12_passes 62 = .ok (.istore 6, 2) := by decide +kernel
theorem dX12_passes_64 : decode cX12_passes 64 = .ok (.aload_n 0, 1) := by decide +kernel
theorem dX12_passes_65 : decode cX12_passes 65 = .ok (.iload_n 1, 1) := by decide +kernel
theorem dX12_passes_66 : decode cX12_passes 66 = .ok (.iload 4, 2) := by decide +kernel
theorem dX12_passes_68 : decode cX12_passes 68 = .ok (.invokevirtual 212, 3) := by decide +kernel
theorem dX12_passes_71 : decode cX12_passes 71 = .ok (.istore 7, 2) := by decide +kernel
theorem dX12_passes_73 : decode cX12_passes 73 = .ok (.aload_n 0, 1) := by decide +kernel
theorem dX12_passes_74 : decode cX12_passes 74 = .ok (.iload_n 2, 1) := by decide +kernel
theorem dX12_passes_75 : decode cX12_passes 75 = .ok (.iload 4, 2) := by decide +kernel
theorem dX12_passes_77 : decode cX12_passes 77 = .ok (.invokevirtual 212, 3) := by decide +kernel
theorem dX12_passes_80 : decode cX12_passes 80 = .ok (.istore 8, 2) := by decide +kernel
theorem dX12_passes_82 : decode cX12_passes 82 = .ok (.iload 5, 2) := by decide +kernel
theorem dX12_passes_84 : decode cX12_passes 84 = .ok (.iconst (-1), 1) := by decide +kernel
theorem dX12_passes_85 : decode cX12_passes 85 = .ok (.if_icmp .eq 25, 3) := by decide +kernel
theorem dX12_passes_88 : decode cX12_passes 88 = .ok (.iload 6, 2) := by decide +kernel
theorem dX12_passes_90 : decode cX12_passes 90 = .ok (.iconst (-1), 1) := by decide +kernel
theorem dX12_passes_91 : decode cX12_passes 91 = .ok (.if_icmp .eq 19, 3) := by decide +kernel
theorem dX12_passes_94 : decode cX12_passes 94 = .ok (.iload 7, 2) := by decide +kernel
theorem dX12_passes_96 : decode cX12_passes 96 = .ok (.iconst (-1), 1) := by decide +kernel
theorem dX12_passes_97 : decode cX12_passes 97 = .ok (.if_icmp .eq 13, 3) := by decide +kernel
theorem dX12_passes_100 : decode cX12_passes 100 = .ok (.iload 8, 2) := by decide +kernel
theorem dX12_passes_102 : decode cX12_passes 102 = .ok (.iconst (-1), 1) := by decide +kernel
theorem dX12_passes_103 : decode cX12_passes 103 = .ok (.if_icmp .eq 7, 3) := by decide +kernel
theorem dX12_passes_106 : decode cX12_passes 106 = .ok (.iconst 1, 1) := by decide +kernel
theorem dX12_passes_107 : decode cX12_passes 107 = .ok (.goto 4, 3) := by decide +kernel
theorem dX12_passes_110 : decode cX12_passes 110 = .ok (.iconst 0, 1) := by decide +kernel
theorem dX12_passes_111 : decode cX12_passes 111 = .ok (.istore 9, 2) := by decide +kernel
theorem dX12_passes_113 : decode cX12_passes 113 = .ok (.iload_n 3, 1) := by decide +kernel
theorem dX12_passes_114 : decode cX12_passes 114 = .ok (.iload 9, 2) := by decide +kernel
theorem dX12_passes_116 : decode cX12_passes 116 = .ok (.ifCond .eq 21, 3) := by decide +kernel
theorem dX12_passes_119 : decode cX12_passes 119 = .ok (.iload 5, 2) := by decide +kernel
theorem dX12_passes_121 : decode cX12_passes 121 = .ok (.iload 6, 2) := by decide +kernel
theorem dX12_passes_123 : decode cX12_passes 123 = .ok (.if_icmp .le 14, 3) := by decide +kernel
theorem dX12_passes_126 : decode cX12_passes 126 = .ok (.iload 7, 2) := by decide +kernel
theorem dX12_passes_128 : decode cX12_passes 128 = .ok (.iload 8, 2) := by decide +kernel
theorem dX12_passes_130 : decode cX12_passes 130 = .ok (.if_icmp .ge 7, 3) := by decide +kernel
theorem dX12_passes_133 : decode cX12_passes 133 = .ok (.iconst 1, 1) := by decide +kernel
theorem dX12_passes_134 : decode cX12_passes 134 = .ok (.goto 4, 3) := by decide +kernel
theorem dX12_passes_137 : decode cX12_passes 137 = .ok (.iconst 0, 1) := by decide +kernel
theorem dX12_passes_138 : decode cX12_passes 138 = .ok (.iadd, 1) := by decide +kernel
theorem dX12_passes_139 : decode cX12_passes 139 = .ok (.istore_n 3, 1) := by decide +kernel
theorem dX12_passes_140 : decode cX12_passes 140 = .ok (.iinc 4 1, 3) := by decide +kernel
theorem dX12_passes_143 : decode cX12_passes 143 = .ok (.goto (-122), 3) := by decide +kernel
theorem dX12_passes_146 : decode cX12_passes 146 = .ok (.iload_n 3, 1) := by decide +kernel
theorem dX12_passes_147 : decode cX12_passes 147 = .ok (.ireturn, 1) := by decide +kernel
def f_X12_passes_111 (v1 : Int32) (v2 : Int32) (v3 : Int32) (v4 : Int32) (v5 : Int32) (v6 : Int32) (v7 : Int32) (v8 : Int32) (k21 : Int32 → Int32 → gSt → Option (Int32 × gSt)) (vs0 : Int32) (σ : gSt) : Option (Int32 × gSt) :=
  if vs0 = 0 then
    k21 (v3 + 0) (v4 + 1) σ
  else
    if v5 ≤ v6 then
      k21 (v3 + 0) (v4 + 1) σ
    else
      if v8 ≤ v7 then
        k21 (v3 + 0) (v4 + 1) σ
      else
        k21 (v3 + 1) (v4 + 1) σ
def f_X12_passes_110 (v1 : Int32) (v2 : Int32) (v3 : Int32) (v4 : Int32) (v5 : Int32) (v6 : Int32) (v7 : Int32) (v8 : Int32) (k21 : Int32 → Int32 → gSt → Option (Int32 × gSt)) (σ : gSt) : Option (Int32 × gSt) :=
  f_X12_passes_111 v1 v2 v3 v4 v5 v6 v7 v8 k21 0 σ
def f_X12_passes_21 (v1 : Int32) (v2 : Int32) : Nat → Int32 → Int32 → gSt → Option (Int32 × gSt)
  | 0, _, _, _ => none
  | n + 1, v3, v4, σ =>
    (gld σ 30 0 397 (37 + v1)).bind fun a36 =>
    (gld σ 30 0 397 (4 + a36)).bind fun a38 =>
    if a38 < v4 then
      some (v3, σ)
    else
      (f_X12_timeAt v1 (v4 - 1) σ).bind fun p48 =>
      (f_X12_timeAt v2 (v4 - 1) p48.2).bind fun p59 =>
      (f_X12_timeAt v1 v4 p59.2).bind fun p68 =>
      (f_X12_timeAt v2 v4 p68.2).bind fun p77 =>
      if p48.1 = (-1) then
        f_X12_passes_110 v1 v2 v3 v4 p48.1 p59.1 p68.1 p77.1 (fun v3 v4 σ => f_X12_passes_21 v1 v2 n v3 v4 σ) p77.2
      else
        if p59.1 = (-1) then
          f_X12_passes_110 v1 v2 v3 v4 p48.1 p59.1 p68.1 p77.1 (fun v3 v4 σ => f_X12_passes_21 v1 v2 n v3 v4 σ) p77.2
        else
          if p68.1 = (-1) then
            f_X12_passes_110 v1 v2 v3 v4 p48.1 p59.1 p68.1 p77.1 (fun v3 v4 σ => f_X12_passes_21 v1 v2 n v3 v4 σ) p77.2
          else
            if p77.1 = (-1) then
              f_X12_passes_110 v1 v2 v3 v4 p48.1 p59.1 p68.1 p77.1 (fun v3 v4 σ => f_X12_passes_21 v1 v2 n v3 v4 σ) p77.2
            else
              f_X12_passes_111 v1 v2 v3 v4 p48.1 p59.1 p68.1 p77.1 (fun v3 v4 σ => f_X12_passes_21 v1 v2 n v3 v4 σ) 1 p77.2
def f_X12_passes (v1 : Int32) (v2 : Int32) (σ : gSt) : Option (Int32 × gSt) :=
  (f_X12_whyNotTwo v1 v2 1 σ).bind fun p5 =>
  (f_X12_isRefused p5.1 p5.2).bind fun p8 =>
  if p8.1 = 0 then
    f_X12_passes_21 v1 v2 gFuel 0 1 p8.2
  else
    some ((-1), p8.2)
theorem f_X12_passes_111_ok {v1 : Int32} {v2 : Int32} {v3 : Int32} {v4 : Int32} {v5 : Int32} {v6 : Int32} {v7 : Int32} {v8 : Int32} {k21 : Int32 → Int32 → gSt → Option (Int32 × gSt)} {vs0 : Int32} {r : (Int32 × gSt)} (hk21 : ∀ {v3 : Int32} {v4 : Int32} {σ : gSt} {x5 x6 x7 x8 x9 : Option Value}, k21 v3 v4 σ = some r → G l w 0 41 RX12 cX12_passes 10 (some .int) 4 96 (gE (some (.int r.1)) r.2) 21 [some (.ref (w.2.1 28 0)), some (.int v1), some (.int v2), some (.int v3), some (.int v4), x5, x6, x7, x8, x9] [] σ) {σ : gSt} {x9 : Option Value} (h : f_X12_passes_111 v1 v2 v3 v4 v5 v6 v7 v8 k21 vs0 σ = some r) : G l w 0 41 RX12 cX12_passes 10 (some .int) 4 96 (gE (some (.int r.1)) r.2) 111 [some (.ref (w.2.1 28 0)), some (.int v1), some (.int v2), some (.int v3), some (.int v4), some (.int v5), some (.int v6), some (.int v7), some (.int v8), x9] [.int vs0] σ := by
  unfold f_X12_passes_111 at h
  refine g_istore9 dX12_passes_111 ?_
  refine g_iload_n dX12_passes_113 rfl ?_
  refine g_iload dX12_passes_114 rfl ?_
  refine g_if_eq 137 dX12_passes_116 rfl (fun q => ?_) (fun q => ?_)
  · replace h := gif_t q h
    refine g_iconst dX12_passes_137 kc_0 ?_
    refine g_iadd dX12_passes_138 ?_
    refine g_istore3 dX12_passes_139 ?_
    refine g_inc4 kc_1 dX12_passes_140 ?_
    refine g_goto 21 dX12_passes_143 rfl ?_
    exact hk21 h
  · replace h := gif_f q h
    refine g_iload dX12_passes_119 rfl ?_
    refine g_iload dX12_passes_121 rfl ?_
    refine g_icmp_le 137 dX12_passes_123 rfl (fun q => ?_) (fun q => ?_)
    · replace h := gif_t q h
      refine g_iconst dX12_passes_137 kc_0 ?_
      refine g_iadd dX12_passes_138 ?_
      refine g_istore3 dX12_passes_139 ?_
      refine g_inc4 kc_1 dX12_passes_140 ?_
      refine g_goto 21 dX12_passes_143 rfl ?_
      exact hk21 h
    · replace h := gif_f q h
      refine g_iload dX12_passes_126 rfl ?_
      refine g_iload dX12_passes_128 rfl ?_
      refine g_icmp_ge 137 dX12_passes_130 rfl (fun q => ?_) (fun q => ?_)
      · replace h := gif_t q h
        refine g_iconst dX12_passes_137 kc_0 ?_
        refine g_iadd dX12_passes_138 ?_
        refine g_istore3 dX12_passes_139 ?_
        refine g_inc4 kc_1 dX12_passes_140 ?_
        refine g_goto 21 dX12_passes_143 rfl ?_
        exact hk21 h
      · replace h := gif_f q h
        refine g_iconst dX12_passes_133 kc_1 ?_
        refine g_goto 138 dX12_passes_134 rfl ?_
        refine g_iadd dX12_passes_138 ?_
        refine g_istore3 dX12_passes_139 ?_
        refine g_inc4 kc_1 dX12_passes_140 ?_
        refine g_goto 21 dX12_passes_143 rfl ?_
        exact hk21 h
theorem f_X12_passes_110_ok {v1 : Int32} {v2 : Int32} {v3 : Int32} {v4 : Int32} {v5 : Int32} {v6 : Int32} {v7 : Int32} {v8 : Int32} {k21 : Int32 → Int32 → gSt → Option (Int32 × gSt)} {r : (Int32 × gSt)} (hk21 : ∀ {v3 : Int32} {v4 : Int32} {σ : gSt} {x5 x6 x7 x8 x9 : Option Value}, k21 v3 v4 σ = some r → G l w 0 41 RX12 cX12_passes 10 (some .int) 4 96 (gE (some (.int r.1)) r.2) 21 [some (.ref (w.2.1 28 0)), some (.int v1), some (.int v2), some (.int v3), some (.int v4), x5, x6, x7, x8, x9] [] σ) {σ : gSt} {x9 : Option Value} (h : f_X12_passes_110 v1 v2 v3 v4 v5 v6 v7 v8 k21 σ = some r) : G l w 0 41 RX12 cX12_passes 10 (some .int) 4 96 (gE (some (.int r.1)) r.2) 110 [some (.ref (w.2.1 28 0)), some (.int v1), some (.int v2), some (.int v3), some (.int v4), some (.int v5), some (.int v6), some (.int v7), some (.int v8), x9] [] σ := by
  unfold f_X12_passes_110 at h
  refine g_iconst dX12_passes_110 kc_0 ?_
  exact f_X12_passes_111_ok hk21 h
theorem f_X12_passes_21_ok {v1 : Int32} {v2 : Int32} {r : (Int32 × gSt)}  : ∀ (n : Nat) {v3 : Int32} {v4 : Int32} {σ : gSt} {x5 x6 x7 x8 x9 : Option Value}, f_X12_passes_21 v1 v2 n v3 v4 σ = some r → G l w 0 41 RX12 cX12_passes 10 (some .int) 4 96 (gE (some (.int r.1)) r.2) 21 [some (.ref (w.2.1 28 0)), some (.int v1), some (.int v2), some (.int v3), some (.int v4), x5, x6, x7, x8, x9] [] σ := by
  intro n
  induction n with
  | zero => intro v3 v4 σ x5 x6 x7 x8 x9 h; rw [f_X12_passes_21] at h; cases h
  | succ n ih =>
    intro v3 v4 σ x5 x6 x7 x8 x9 h
    rw [f_X12_passes_21] at h
    refine g_iload dX12_passes_21 rfl ?_
    refine g_aload_n dX12_passes_23 rfl ?_
    refine gR_X12_17 ok_28 dX12_passes_24 ?_
    refine g_iconst dX12_passes_27 kc_4 ?_
    refine g_aload_n dX12_passes_28 rfl ?_
    refine gR_X12_17 ok_28 dX12_passes_29 ?_
    refine g_bipush dX12_passes_32 kb_37 ?_
    refine g_iload_n dX12_passes_34 rfl ?_
    refine g_iadd dX12_passes_35 ?_
    obtain ⟨a36, e36, h⟩ := obind h
    refine g_ldB e36 ok_30 rfl rfl (by decide) dX12_passes_36 ?_
    refine g_iadd dX12_passes_37 ?_
    obtain ⟨a38, e38, h⟩ := obind h
    refine g_ldB e38 ok_30 rfl rfl (by decide) dX12_passes_38 ?_
    refine g_icmp_gt 146 dX12_passes_39 rfl (fun q => ?_) (fun q => ?_)
    · replace h := gif_t q h
      refine g_iload_n dX12_passes_146 rfl ?_
      cases h
      exact g_iret dX12_passes_147 rfl ⟨rfl, rfl⟩
    · replace h := gif_f q h
      refine g_aload_n dX12_passes_42 rfl ?_
      refine g_iload_n dX12_passes_43 rfl ?_
      refine g_iload dX12_passes_44 rfl ?_
      refine g_iconst dX12_passes_46 kc_1 ?_
      refine g_isub dX12_passes_47 ?_
      obtain ⟨p48, e48, h⟩ := obind h
      refine g_vP2 mv_X12_212 dX12_passes_48 ok_28 ⟨by decide, by decide⟩ (Nat.le_of_ble_eq_true rfl) (f_X12_timeAt_ok e48) ?_
      refine g_istore5 dX12_passes_51 ?_
      refine g_aload_n dX12_passes_53 rfl ?_
      refine g_iload_n dX12_passes_54 rfl ?_
      refine g_iload dX12_passes_55 rfl ?_
      refine g_iconst dX12_passes_57 kc_1 ?_
      refine g_isub dX12_passes_58 ?_
      obtain ⟨p59, e59, h⟩ := obind h
      refine g_vP2 mv_X12_212 dX12_passes_59 ok_28 ⟨by decide, by decide⟩ (Nat.le_of_ble_eq_true rfl) (f_X12_timeAt_ok e59) ?_
      refine g_istore6 dX12_passes_62 ?_
      refine g_aload_n dX12_passes_64 rfl ?_
      refine g_iload_n dX12_passes_65 rfl ?_
      refine g_iload dX12_passes_66 rfl ?_
      obtain ⟨p68, e68, h⟩ := obind h
      refine g_vP2 mv_X12_212 dX12_passes_68 ok_28 ⟨by decide, by decide⟩ (Nat.le_of_ble_eq_true rfl) (f_X12_timeAt_ok e68) ?_
      refine g_istore7 dX12_passes_71 ?_
      refine g_aload_n dX12_passes_73 rfl ?_
      refine g_iload_n dX12_passes_74 rfl ?_
      refine g_iload dX12_passes_75 rfl ?_
      obtain ⟨p77, e77, h⟩ := obind h
      refine g_vP2 mv_X12_212 dX12_passes_77 ok_28 ⟨by decide, by decide⟩ (Nat.le_of_ble_eq_true rfl) (f_X12_timeAt_ok e77) ?_
      refine g_istore8 dX12_passes_80 ?_
      refine g_iload dX12_passes_82 rfl ?_
      refine g_iconst dX12_passes_84 kc_m1 ?_
      refine g_icmp_eq 110 dX12_passes_85 rfl (fun q => ?_) (fun q => ?_)
      · replace h := gif_t q h
        exact f_X12_passes_110_ok (fun h => ih h) h
      · replace h := gif_f q h
        refine g_iload dX12_passes_88 rfl ?_
        refine g_iconst dX12_passes_90 kc_m1 ?_
        refine g_icmp_eq 110 dX12_passes_91 rfl (fun q => ?_) (fun q => ?_)
        · replace h := gif_t q h
          exact f_X12_passes_110_ok (fun h => ih h) h
        · replace h := gif_f q h
          refine g_iload dX12_passes_94 rfl ?_
          refine g_iconst dX12_passes_96 kc_m1 ?_
          refine g_icmp_eq 110 dX12_passes_97 rfl (fun q => ?_) (fun q => ?_)
          · replace h := gif_t q h
            exact f_X12_passes_110_ok (fun h => ih h) h
          · replace h := gif_f q h
            refine g_iload dX12_passes_100 rfl ?_
            refine g_iconst dX12_passes_102 kc_m1 ?_
            refine g_icmp_eq 110 dX12_passes_103 rfl (fun q => ?_) (fun q => ?_)
            · replace h := gif_t q h
              exact f_X12_passes_110_ok (fun h => ih h) h
            · replace h := gif_f q h
              refine g_iconst dX12_passes_106 kc_1 ?_
              refine g_goto 111 dX12_passes_107 rfl ?_
              exact f_X12_passes_111_ok (fun h => ih h) h
theorem f_X12_passes_ok {v1 : Int32} {v2 : Int32}  {σ : gSt} {r : (Int32 × gSt)} (h : f_X12_passes v1 v2 σ = some r) : Mt l w 0 41 yX12_passes cX12_passes 10 (some .int) 4 96 [.ref (w.2.1 28 0), .int v1, .int v2] σ (gE (some (.int r.1)) r.2) := by
  unfold f_X12_passes at h
  refine g_start pn_X12 rfl rfl (Nat.le_of_ble_eq_true rfl) ?_
  show G l w 0 41 RX12 cX12_passes 10 (some .int) 4 96 (gE (some (.int r.1)) r.2) 0 [some (.ref (w.2.1 28 0)), some (.int v1), some (.int v2), none, none, none, none, none, none, none] [] σ
  refine g_aload_n dX12_passes_0 rfl ?_
  refine g_aload_n dX12_passes_1 rfl ?_
  refine g_iload_n dX12_passes_2 rfl ?_
  refine g_iload_n dX12_passes_3 rfl ?_
  refine g_iconst dX12_passes_4 kc_1 ?_
  obtain ⟨p5, e5, h⟩ := obind h
  refine g_vP3 mv_X12_312 dX12_passes_5 ok_28 ⟨by decide, by decide⟩ (Nat.le_of_ble_eq_true rfl) (f_X12_whyNotTwo_ok e5) ?_
  obtain ⟨p8, e8, h⟩ := obind h
  refine g_vP1 mv_X12_161 dX12_passes_8 ok_28 ⟨by decide, by decide⟩ (Nat.le_of_ble_eq_true rfl) (f_X12_isRefused_ok e8) ?_
  refine g_if_eq 16 dX12_passes_11 rfl (fun q => ?_) (fun q => ?_)
  · replace h := gif_t q h
    refine g_iconst dX12_passes_16 kc_0 ?_
    refine g_istore3 dX12_passes_17 ?_
    refine g_iconst dX12_passes_18 kc_1 ?_
    refine g_istore4 dX12_passes_19 ?_
    exact f_X12_passes_21_ok gFuel h
  · replace h := gif_f q h
    refine g_iconst dX12_passes_14 kc_m1 ?_
    cases h
    exact g_iret dX12_passes_15 rfl ⟨rfl, rfl⟩
theorem dX12_crowdAt_0 : decode cX12_crowdAt 0 = .ok (.iconst 0, 1) := by decide +kernel
theorem dX12_crowdAt_1 : decode cX12_crowdAt 1 = .ok (.istore_n 2, 1) := by decide +kernel
theorem dX12_crowdAt_2 : decode cX12_crowdAt 2 = .ok (.iconst 0, 1) := by decide +kernel
theorem dX12_crowdAt_3 : decode cX12_crowdAt 3 = .ok (.istore_n 3, 1) := by decide +kernel
theorem dX12_crowdAt_4 : decode cX12_crowdAt 4 = .ok (.iload_n 3, 1) := by decide +kernel
theorem dX12_crowdAt_5 : decode cX12_crowdAt 5 = .ok (.aload_n 0, 1) := by decide +kernel
theorem dX12_crowdAt_6 : decode cX12_crowdAt 6 = .ok (.getfield 17, 3) := by decide +kernel
theorem dX12_crowdAt_9 : decode cX12_crowdAt 9 = .ok (.iconst 1, 1) := by decide +kernel
theorem dX12_crowdAt_10 : decode cX12_crowdAt 10 = .ok (.iaload, 1) := by decide +kernel
theorem dX12_crowdAt_11 : decode cX12_crowdAt 11 = .ok (.if_icmp .ge 43, 3) := by decide +kernel
theorem dX12_crowdAt_14 : decode cX12_crowdAt 14 = .ok (.iload_n 2, 1) := by decide +kernel
theorem dX12_crowdAt_15 : decode cX12_crowdAt 15 = .ok (.aload_n 0, 1) := by decide +kernel
theorem dX12_crowdAt_16 : decode cX12_crowdAt 16 = .ok (.getfield 17, 3) := by decide +kernel
theorem dX12_crowdAt_19 : decode cX12_crowdAt 19 = .ok (.bipush 47, 2) := by decide +kernel
theorem dX12_crowdAt_21 : decode cX12_crowdAt 21 = .ok (.iload_n 3, 1) := by decide +kernel
theorem dX12_crowdAt_22 : decode cX12_crowdAt 22 = .ok (.iadd, 1) := by decide +kernel
theorem dX12_crowdAt_23 : decode cX12_crowdAt 23 = .ok (.iaload, 1) := by decide +kernel
theorem dX12_crowdAt_24 : decode cX12_crowdAt 24 = .ok (.iload_n 1, 1) := by decide +kernel
theorem dX12_crowdAt_25 : decode cX12_crowdAt 25 = .ok (.if_icmp .gt 20, 3) := by decide +kernel
theorem dX12_crowdAt_28 : decode cX12_crowdAt 28 = .ok (.iload_n 1, 1) := by decide +kernel
theorem dX12_crowdAt_29 : decode cX12_crowdAt 29 = .ok (.aload_n 0, 1) := by decide +kernel
theorem dX12_crowdAt_30 : decode cX12_crowdAt 30 = .ok (.getfield 17, 3) := by decide +kernel
theorem dX12_crowdAt_33 : decode cX12_crowdAt 33 = .ok (.bipush 57, 2) := by decide +kernel
theorem dX12_crowdAt_35 : decode cX12_crowdAt 35 = .ok (.iload_n 3, 1) := by decide +kernel
theorem dX12_crowdAt_36 : decode cX12_crowdAt 36 = .ok (.iadd, 1) := by decide +kernel
theorem dX12_crowdAt_37 : decode cX12_crowdAt 37 = .ok (.iaload, 1) := by decide +kernel
theorem dX12_crowdAt_38 : decode cX12_crowdAt 38 = .ok (.if_icmp .ge 7, 3) := by decide +kernel
theorem dX12_crowdAt_41 : decode cX12_crowdAt 41 = .ok (.iconst 1, 1) := by decide +kernel
theorem dX12_crowdAt_42 : decode cX12_crowdAt 42 = .ok (.goto 4, 3) := by decide +kernel
theorem dX12_crowdAt_45 : decode cX12_crowdAt 45 = .ok (.iconst 0, 1) := by decide +kernel
theorem dX12_crowdAt_46 : decode cX12_crowdAt 46 = .ok (.iadd, 1) := by decide +kernel
theorem dX12_crowdAt_47 : decode cX12_crowdAt 47 = .ok (.istore_n 2, 1) := by decide +kernel
theorem dX12_crowdAt_48 : decode cX12_crowdAt 48 = .ok (.iinc 3 1, 3) := by decide +kernel
theorem dX12_crowdAt_51 : decode cX12_crowdAt 51 = .ok (.goto (-47), 3) := by decide +kernel
theorem dX12_crowdAt_54 : decode cX12_crowdAt 54 = .ok (.iload_n 2, 1) := by decide +kernel
theorem dX12_crowdAt_55 : decode cX12_crowdAt 55 = .ok (.ireturn, 1) := by decide +kernel
def f_X12_crowdAt_4 (v1 : Int32) : Nat → Int32 → Int32 → gSt → Option (Int32 × gSt)
  | 0, _, _, _ => none
  | n + 1, v2, v3, σ =>
    (gld σ 30 0 397 1).bind fun a10 =>
    if a10 ≤ v3 then
      some (v2, σ)
    else
      (gld σ 30 0 397 (47 + v3)).bind fun a23 =>
      if v1 < a23 then
        f_X12_crowdAt_4 v1 n (v2 + 0) (v3 + 1) σ
      else
        (gld σ 30 0 397 (57 + v3)).bind fun a37 =>
        if a37 ≤ v1 then
          f_X12_crowdAt_4 v1 n (v2 + 0) (v3 + 1) σ
        else
          f_X12_crowdAt_4 v1 n (v2 + 1) (v3 + 1) σ
def f_X12_crowdAt (v1 : Int32) (σ : gSt) : Option (Int32 × gSt) :=
  f_X12_crowdAt_4 v1 gFuel 0 0 σ
theorem f_X12_crowdAt_4_ok {v1 : Int32} {r : (Int32 × gSt)}  : ∀ (n : Nat) {v2 : Int32} {v3 : Int32} {σ : gSt} , f_X12_crowdAt_4 v1 n v2 v3 σ = some r → G l w 0 41 RX12 cX12_crowdAt 4 (some .int) 0 0 (gE (some (.int r.1)) r.2) 4 [some (.ref (w.2.1 28 0)), some (.int v1), some (.int v2), some (.int v3)] [] σ := by
  intro n
  induction n with
  | zero => intro v2 v3 σ h; rw [f_X12_crowdAt_4] at h; cases h
  | succ n ih =>
    intro v2 v3 σ h
    rw [f_X12_crowdAt_4] at h
    refine g_iload_n dX12_crowdAt_4 rfl ?_
    refine g_aload_n dX12_crowdAt_5 rfl ?_
    refine gR_X12_17 ok_28 dX12_crowdAt_6 ?_
    refine g_iconst dX12_crowdAt_9 kc_1 ?_
    obtain ⟨a10, e10, h⟩ := obind h
    refine g_ldB e10 ok_30 rfl rfl (by decide) dX12_crowdAt_10 ?_
    refine g_icmp_ge 54 dX12_crowdAt_11 rfl (fun q => ?_) (fun q => ?_)
    · replace h := gif_t q h
      refine g_iload_n dX12_crowdAt_54 rfl ?_
      cases h
      exact g_iret dX12_crowdAt_55 rfl ⟨rfl, rfl⟩
    · replace h := gif_f q h
      refine g_iload_n dX12_crowdAt_14 rfl ?_
      refine g_aload_n dX12_crowdAt_15 rfl ?_
      refine gR_X12_17 ok_28 dX12_crowdAt_16 ?_
      refine g_bipush dX12_crowdAt_19 kb_47 ?_
      refine g_iload_n dX12_crowdAt_21 rfl ?_
      refine g_iadd dX12_crowdAt_22 ?_
      obtain ⟨a23, e23, h⟩ := obind h
      refine g_ldB e23 ok_30 rfl rfl (by decide) dX12_crowdAt_23 ?_
      refine g_iload_n dX12_crowdAt_24 rfl ?_
      refine g_icmp_gt 45 dX12_crowdAt_25 rfl (fun q => ?_) (fun q => ?_)
      · replace h := gif_t q h
        refine g_iconst dX12_crowdAt_45 kc_0 ?_
        refine g_iadd dX12_crowdAt_46 ?_
        refine g_istore2 dX12_crowdAt_47 ?_
        refine g_inc3 kc_1 dX12_crowdAt_48 ?_
        refine g_goto 4 dX12_crowdAt_51 rfl ?_
        exact ih h
      · replace h := gif_f q h
        refine g_iload_n dX12_crowdAt_28 rfl ?_
        refine g_aload_n dX12_crowdAt_29 rfl ?_
        refine gR_X12_17 ok_28 dX12_crowdAt_30 ?_
        refine g_bipush dX12_crowdAt_33 kb_57 ?_
        refine g_iload_n dX12_crowdAt_35 rfl ?_
        refine g_iadd dX12_crowdAt_36 ?_
        obtain ⟨a37, e37, h⟩ := obind h
        refine g_ldB e37 ok_30 rfl rfl (by decide) dX12_crowdAt_37 ?_
        refine g_icmp_ge 45 dX12_crowdAt_38 rfl (fun q => ?_) (fun q => ?_)
        · replace h := gif_t q h
          refine g_iconst dX12_crowdAt_45 kc_0 ?_
          refine g_iadd dX12_crowdAt_46 ?_
          refine g_istore2 dX12_crowdAt_47 ?_
          refine g_inc3 kc_1 dX12_crowdAt_48 ?_
          refine g_goto 4 dX12_crowdAt_51 rfl ?_
          exact ih h
        · replace h := gif_f q h
          refine g_iconst dX12_crowdAt_41 kc_1 ?_
          refine g_goto 46 dX12_crowdAt_42 rfl ?_
          refine g_iadd dX12_crowdAt_46 ?_
          refine g_istore2 dX12_crowdAt_47 ?_
          refine g_inc3 kc_1 dX12_crowdAt_48 ?_
          refine g_goto 4 dX12_crowdAt_51 rfl ?_
          exact ih h
theorem f_X12_crowdAt_ok {v1 : Int32}  {σ : gSt} {r : (Int32 × gSt)} (h : f_X12_crowdAt v1 σ = some r) : Mt l w 0 41 yX12_crowdAt cX12_crowdAt 4 (some .int) 0 0 [.ref (w.2.1 28 0), .int v1] σ (gE (some (.int r.1)) r.2) := by
  unfold f_X12_crowdAt at h
  refine g_start pn_X12 rfl rfl (Nat.le_of_ble_eq_true rfl) ?_
  show G l w 0 41 RX12 cX12_crowdAt 4 (some .int) 0 0 (gE (some (.int r.1)) r.2) 0 [some (.ref (w.2.1 28 0)), some (.int v1), none, none] [] σ
  refine g_iconst dX12_crowdAt_0 kc_0 ?_
  refine g_istore2 dX12_crowdAt_1 ?_
  refine g_iconst dX12_crowdAt_2 kc_0 ?_
  refine g_istore3 dX12_crowdAt_3 ?_
  exact f_X12_crowdAt_4_ok gFuel h
theorem dX12_crowd_0 : decode cX12_crowd 0 = .ok (.aload_n 0, 1) := by decide +kernel
theorem dX12_crowd_1 : decode cX12_crowd 1 = .ok (.getfield 173, 3) := by decide +kernel
theorem dX12_crowd_4 : decode cX12_crowd 4 = .ok (.ifCond .eq 16, 3) := by decide +kernel
theorem dX12_crowd_7 : decode cX12_crowd 7 = .ok (.iload_n 1, 1) := by decide +kernel
theorem dX12_crowd_8 : decode cX12_crowd 8 = .ok (.iconst 0, 1) := by decide +kernel
theorem dX12_crowd_9 : decode cX12_crowd 9 = .ok (.iconst 1, 1) := by decide +kernel
theorem dX12_crowd_10 : decode cX12_crowd 10 = .ok (.invokestatic 79, 3) := by decide +kernel
theorem dX12_crowd_13 : decode cX12_crowd 13 = .ok (.ifCond .eq 7, 3) := by decide +kernel
theorem dX12_crowd_16 : decode cX12_crowd 16 = .ok (.iconst 1, 1) := by decide +kernel
theorem dX12_crowd_17 : decode cX12_crowd 17 = .ok (.goto 4, 3) := by decide +kernel
theorem dX12_crowd_20 : decode cX12_crowd 20 = .ok (.iconst 0, 1) := by decide +kernel
theorem dX12_crowd_21 : decode cX12_crowd 21 = .ok (.invokestatic 234, 3) := by decide +kernel
theorem dX12_crowd_24 : decode cX12_crowd 24 = .ok (.istore_n 2, 1) := by decide +kernel
theorem dX12_crowd_25 : decode cX12_crowd 25 = .ok (.aload_n 0, 1) := by decide +kernel
theorem dX12_crowd_26 : decode cX12_crowd 26 = .ok (.iload_n 2, 1) := by decide +kernel
theorem dX12_crowd_27 : decode cX12_crowd 27 = .ok (.ifCond .eq 7, 3) := by decide +kernel
theorem dX12_crowd_30 : decode cX12_crowd 30 = .ok (.iload_n 2, 1) := by decide +kernel
theorem dX12_crowd_31 : decode cX12_crowd 31 = .ok (.goto 18, 3) := by decide +kernel
theorem dX12_crowd_34 : decode cX12_crowd 34 = .ok (.aload_n 0, 1) := by decide +kernel
theorem dX12_crowd_35 : decode cX12_crowd 35 = .ok (.getfield 17, 3) := by decide +kernel
theorem dX12_crowd_38 : decode cX12_crowd 38 = .ok (.iconst 1, 1) := by decide +kernel
theorem dX12_crowd_39 : decode cX12_crowd 39 = .ok (.iaload, 1) := by decide +kernel
theorem dX12_crowd_40 : decode cX12_crowd 40 = .ok (.ifCond .ne 8, 3) := by decide +kernel
theorem dX12_crowd_43 : decode cX12_crowd 43 = .ok (.bipush 6, 2) := by decide +kernel
theorem dX12_crowd_45 : decode cX12_crowd 45 = .ok (.goto 4, 3) := by decide +kernel
theorem dX12_crowd_48 : decode cX12_crowd 48 = .ok (.iconst 0, 1) := by decide +kernel
theorem dX12_crowd_49 : decode cX12_crowd 49 = .ok (.invokevirtual 161, 3) := by decide +kernel
theorem dX12_crowd_52 : decode cX12_crowd 52 = .ok (.ifCond .eq 5, 3) := by decide +kernel
theorem dX12_crowd_55 : decode cX12_crowd 55 = .ok (.iconst (-1), 1) := by decide +kernel
theorem dX12_crowd_56 : decode cX12_crowd 56 = .ok (.ireturn, 1) := by decide +kernel
theorem dX12_crowd_57 : decode cX12_crowd 57 = .ok (.iconst (-1), 1) := by decide +kernel
theorem dX12_crowd_58 : decode cX12_crowd 58 = .ok (.istore_n 3, 1) := by decide +kernel
theorem dX12_crowd_59 : decode cX12_crowd 59 = .ok (.iconst 0, 1) := by decide +kernel
theorem dX12_crowd_60 : decode cX12_crowd 60 = .ok (.istore 4, 2) := by decide +kernel
theorem dX12_crowd_62 : decode cX12_crowd 62 = .ok (.iconst 0, 1) := by decide +kernel
theorem dX12_crowd_63 : decode cX12_crowd 63 = .ok (.istore 5, 2) := by decide +kernel
theorem dX12_crowd_65 : decode cX12_crowd 65 = .ok (.iload 5, 2) := by decide +kernel
theorem dX12_crowd_67 : decode cX12_crowd 67 = .ok (.aload_n 0, 1) := by decide +kernel
theorem dX12_crowd_68 : decode cX12_crowd 68 = .ok (.getfield 17, 3) := by decide +kernel
theorem dX12_crowd_71 : decode cX12_crowd 71 = .ok (.iconst 1, 1) := by decide +kernel
theorem dX12_crowd_72 : decode cX12_crowd 72 = .ok (.iaload, 1) := by decide +kernel
theorem dX12_crowd_73 : decode cX12_crowd 73 = .ok (.if_icmp .ge 56, 3) := by decide +kernel
theorem dX12_crowd_76 : decode cX12_crowd 76 = .ok (.aload_n 0, 1) := by decide +kernel
theorem dX12_crowd_77 : decode cX12_crowd 77 = .ok (.getfield 17, 3) := by decide +kernel
theorem dX12_crowd_80 : decode cX12_crowd 80 = .ok (.bipush 47, 2) := by decide +kernel
theorem dX12_crowd_82 : decode cX12_crowd 82 = .ok (.iload 5, 2) := by decide +kernel
theorem dX12_crowd_84 : decode cX12_crowd 84 = .ok (.iadd, 1) := by decide +kernel
theorem dX12_crowd_85 : decode cX12_crowd 85 = .ok (.iaload, 1) := by decide +kernel
theorem dX12_crowd_86 : decode cX12_crowd 86 = .ok (.istore 6, 2) := by decide +kernel
theorem dX12_crowd_88 : decode cX12_crowd 88 = .ok (.aload_n 0, 1) := by decide +kernel
theorem dX12_crowd_89 : decode cX12_crowd 89 = .ok (.iload 6, 2) := by decide +kernel
theorem dX12_crowd_91 : decode cX12_crowd 91 = .ok (.invokevirtual 318, 3) := by decide +kernel
theorem dX12_crowd_94 : decode cX12_crowd 94 = .ok (.istore 7, 2) := by decide +kernel
theorem dX12_crowd_96 : decode cX12_crowd 96 = .ok (.iload 7, 2) := by decide +kernel
theorem dX12_crowd_98 : decode cX12_crowd 98 = .ok (.iload 4, 2) := by decide +kernel
theorem dX12_crowd_100 : decode cX12_crowd 100 = .ok (.if_icmp .gt 16, 3) := by decide +kernel
theorem dX12_crowd_103 : decode cX12_crowd 103 = .ok (.iload 7, 2) := by decide +kernel
theorem dX12_crowd_105 : decode cX12_crowd 105 = .ok (.iload 4, 2) := by decide +kernel
theorem dX12_crowd_107 : decode cX12_crowd 107 = .ok (.if_icmp .ne 16, 3) := by decide +kernel
theorem dX12_crowd_110 : decode cX12_crowd 110 = .ok (.iload 6, 2) := by decide +kernel
theorem dX12_crowd_112 : decode cX12_crowd 112 = .ok (.iload_n 3, 1) := by decide +kernel
theorem dX12_crowd_113 : decode cX12_crowd 113 = .ok (.if_icmp .ge 10, 3) := by decide +kernel
theorem dX12_crowd_116 : decode cX12_crowd 116 = .ok (.iload 6, 2) := by decide +kernel
theorem dX12_crowd_118 : decode cX12_crowd 118 = .ok (.istore_n 3, 1) := by decide +kernel
theorem dX12_crowd_119 : decode cX12_crowd 119 = .ok (.iload 7, 2) := by decide +kernel
theorem dX12_crowd_121 : decode cX12_crowd 121 = .ok (.istore 4, 2) := by decide +kernel
theorem dX12_crowd_123 : decode cX12_crowd 123 = .ok (.iinc 5 1, 3) := by decide +kernel
theorem dX12_crowd_126 : decode cX12_crowd 126 = .ok (.goto (-61), 3) := by decide +kernel
theorem dX12_crowd_129 : decode cX12_crowd 129 = .ok (.iload_n 1, 1) := by decide +kernel
theorem dX12_crowd_130 : decode cX12_crowd 130 = .ok (.ifCond .ne 8, 3) := by decide +kernel
theorem dX12_crowd_133 : decode cX12_crowd 133 = .ok (.iload 4, 2) := by decide +kernel
theorem dX12_crowd_135 : decode cX12_crowd 135 = .ok (.goto 4, 3) := by decide +kernel
theorem dX12_crowd_138 : decode cX12_crowd 138 = .ok (.iload_n 3, 1) := by decide +kernel
theorem dX12_crowd_139 : decode cX12_crowd 139 = .ok (.ireturn, 1) := by decide +kernel
def f_X12_crowd_65 (v1 : Int32) : Nat → Int32 → Int32 → Int32 → gSt → Option (Int32 × gSt)
  | 0, _, _, _, _ => none
  | n + 1, v3, v4, v5, σ =>
    (gld σ 30 0 397 1).bind fun a72 =>
    if a72 ≤ v5 then
      if v1 = 0 then
        some (v4, σ)
      else
        some (v3, σ)
    else
      (gld σ 30 0 397 (47 + v5)).bind fun a85 =>
      (f_X12_crowdAt a85 σ).bind fun p91 =>
      if v4 < p91.1 then
        f_X12_crowd_65 v1 n a85 p91.1 (v5 + 1) p91.2
      else
        if p91.1 = v4 then
          if v3 ≤ a85 then
            f_X12_crowd_65 v1 n v3 v4 (v5 + 1) p91.2
          else
            f_X12_crowd_65 v1 n a85 p91.1 (v5 + 1) p91.2
        else
          f_X12_crowd_65 v1 n v3 v4 (v5 + 1) p91.2
def f_X12_crowd_49 (v1 : Int32) (vs1 : Int32) (σ : gSt) : Option (Int32 × gSt) :=
  (f_X12_isRefused vs1 σ).bind fun p49 =>
  if p49.1 = 0 then
    f_X12_crowd_65 v1 gFuel (-1) 0 0 p49.2
  else
    some ((-1), p49.2)
def f_X12_crowd_21 (v1 : Int32) (vs0 : Int32) (σ : gSt) : Option (Int32 × gSt) :=
  (f_X12_unless vs0 σ).bind fun p21 =>
  if p21.1 = 0 then
    (gld p21.2 30 0 397 1).bind fun a39 =>
    if a39 = 0 then
      f_X12_crowd_49 v1 6 p21.2
    else
      f_X12_crowd_49 v1 0 p21.2
  else
    f_X12_crowd_49 v1 p21.1 p21.2
def f_X12_crowd_20 (v1 : Int32) (σ : gSt) : Option (Int32 × gSt) :=
  f_X12_crowd_21 v1 0 σ
def f_X12_crowd (v1 : Int32) (σ : gSt) : Option (Int32 × gSt) :=
  if (σ 28 0 6) = 0 then
    f_X12_crowd_20 v1 σ
  else
    (f_X12_in v1 0 1 σ).bind fun p10 =>
    if p10.1 = 0 then
      f_X12_crowd_20 v1 p10.2
    else
      f_X12_crowd_21 v1 1 p10.2
theorem f_X12_crowd_65_ok {v1 : Int32} {r : (Int32 × gSt)}  : ∀ (n : Nat) {v3 : Int32} {v4 : Int32} {v5 : Int32} {σ : gSt} {x2 x6 x7 : Option Value}, f_X12_crowd_65 v1 n v3 v4 v5 σ = some r → G l w 0 41 RX12 cX12_crowd 8 (some .int) 1 23 (gE (some (.int r.1)) r.2) 65 [some (.ref (w.2.1 28 0)), some (.int v1), x2, some (.int v3), some (.int v4), some (.int v5), x6, x7] [] σ := by
  intro n
  induction n with
  | zero => intro v3 v4 v5 σ x2 x6 x7 h; rw [f_X12_crowd_65] at h; cases h
  | succ n ih =>
    intro v3 v4 v5 σ x2 x6 x7 h
    rw [f_X12_crowd_65] at h
    refine g_iload dX12_crowd_65 rfl ?_
    refine g_aload_n dX12_crowd_67 rfl ?_
    refine gR_X12_17 ok_28 dX12_crowd_68 ?_
    refine g_iconst dX12_crowd_71 kc_1 ?_
    obtain ⟨a72, e72, h⟩ := obind h
    refine g_ldB e72 ok_30 rfl rfl (by decide) dX12_crowd_72 ?_
    refine g_icmp_ge 129 dX12_crowd_73 rfl (fun q => ?_) (fun q => ?_)
    · replace h := gif_t q h
      refine g_iload_n dX12_crowd_129 rfl ?_
      refine g_if_ne 138 dX12_crowd_130 rfl (fun q => ?_) (fun q => ?_)
      · replace h := gif_f q h
        refine g_iload_n dX12_crowd_138 rfl ?_
        cases h
        exact g_iret dX12_crowd_139 rfl ⟨rfl, rfl⟩
      · replace h := gif_t q h
        refine g_iload dX12_crowd_133 rfl ?_
        refine g_goto 139 dX12_crowd_135 rfl ?_
        cases h
        exact g_iret dX12_crowd_139 rfl ⟨rfl, rfl⟩
    · replace h := gif_f q h
      refine g_aload_n dX12_crowd_76 rfl ?_
      refine gR_X12_17 ok_28 dX12_crowd_77 ?_
      refine g_bipush dX12_crowd_80 kb_47 ?_
      refine g_iload dX12_crowd_82 rfl ?_
      refine g_iadd dX12_crowd_84 ?_
      obtain ⟨a85, e85, h⟩ := obind h
      refine g_ldB e85 ok_30 rfl rfl (by decide) dX12_crowd_85 ?_
      refine g_istore6 dX12_crowd_86 ?_
      refine g_aload_n dX12_crowd_88 rfl ?_
      refine g_iload dX12_crowd_89 rfl ?_
      obtain ⟨p91, e91, h⟩ := obind h
      refine g_vP1 mv_X12_318 dX12_crowd_91 ok_28 ⟨by decide, by decide⟩ (Nat.le_of_ble_eq_true rfl) (f_X12_crowdAt_ok e91) ?_
      refine g_istore7 dX12_crowd_94 ?_
      refine g_iload dX12_crowd_96 rfl ?_
      refine g_iload dX12_crowd_98 rfl ?_
      refine g_icmp_gt 116 dX12_crowd_100 rfl (fun q => ?_) (fun q => ?_)
      · replace h := gif_t q h
        refine g_iload dX12_crowd_116 rfl ?_
        refine g_istore3 dX12_crowd_118 ?_
        refine g_iload dX12_crowd_119 rfl ?_
        refine g_istore4 dX12_crowd_121 ?_
        refine g_inc5 kc_1 dX12_crowd_123 ?_
        refine g_goto 65 dX12_crowd_126 rfl ?_
        exact ih h
      · replace h := gif_f q h
        refine g_iload dX12_crowd_103 rfl ?_
        refine g_iload dX12_crowd_105 rfl ?_
        refine g_icmp_ne 123 dX12_crowd_107 rfl (fun q => ?_) (fun q => ?_)
        · replace h := gif_f q h
          refine g_inc5 kc_1 dX12_crowd_123 ?_
          refine g_goto 65 dX12_crowd_126 rfl ?_
          exact ih h
        · replace h := gif_t q h
          refine g_iload dX12_crowd_110 rfl ?_
          refine g_iload_n dX12_crowd_112 rfl ?_
          refine g_icmp_ge 123 dX12_crowd_113 rfl (fun q => ?_) (fun q => ?_)
          · replace h := gif_t q h
            refine g_inc5 kc_1 dX12_crowd_123 ?_
            refine g_goto 65 dX12_crowd_126 rfl ?_
            exact ih h
          · replace h := gif_f q h
            refine g_iload dX12_crowd_116 rfl ?_
            refine g_istore3 dX12_crowd_118 ?_
            refine g_iload dX12_crowd_119 rfl ?_
            refine g_istore4 dX12_crowd_121 ?_
            refine g_inc5 kc_1 dX12_crowd_123 ?_
            refine g_goto 65 dX12_crowd_126 rfl ?_
            exact ih h
theorem f_X12_crowd_49_ok {v1 : Int32} {vs1 : Int32} {r : (Int32 × gSt)}  {σ : gSt} {x2 x3 x4 x5 x6 x7 : Option Value} (h : f_X12_crowd_49 v1 vs1 σ = some r) : G l w 0 41 RX12 cX12_crowd 8 (some .int) 1 23 (gE (some (.int r.1)) r.2) 49 [some (.ref (w.2.1 28 0)), some (.int v1), x2, x3, x4, x5, x6, x7] [.int vs1, .ref (w.2.1 28 0)] σ := by
  unfold f_X12_crowd_49 at h
  obtain ⟨p49, e49, h⟩ := obind h
  refine g_vP1 mv_X12_161 dX12_crowd_49 ok_28 ⟨by decide, by decide⟩ (Nat.le_of_ble_eq_true rfl) (f_X12_isRefused_ok e49) ?_
  refine g_if_eq 57 dX12_crowd_52 rfl (fun q => ?_) (fun q => ?_)
  · replace h := gif_t q h
    refine g_iconst dX12_crowd_57 kc_m1 ?_
    refine g_istore3 dX12_crowd_58 ?_
    refine g_iconst dX12_crowd_59 kc_0 ?_
    refine g_istore4 dX12_crowd_60 ?_
    refine g_iconst dX12_crowd_62 kc_0 ?_
    refine g_istore5 dX12_crowd_63 ?_
    exact f_X12_crowd_65_ok gFuel h
  · replace h := gif_f q h
    refine g_iconst dX12_crowd_55 kc_m1 ?_
    cases h
    exact g_iret dX12_crowd_56 rfl ⟨rfl, rfl⟩
theorem f_X12_crowd_21_ok {v1 : Int32} {vs0 : Int32} {r : (Int32 × gSt)}  {σ : gSt} {x2 x3 x4 x5 x6 x7 : Option Value} (h : f_X12_crowd_21 v1 vs0 σ = some r) : G l w 0 41 RX12 cX12_crowd 8 (some .int) 1 23 (gE (some (.int r.1)) r.2) 21 [some (.ref (w.2.1 28 0)), some (.int v1), x2, x3, x4, x5, x6, x7] [.int vs0] σ := by
  unfold f_X12_crowd_21 at h
  obtain ⟨p21, e21, h⟩ := obind h
  refine g_sP1 ms_X12_234 dX12_crowd_21 ⟨by decide, by decide⟩ (Nat.le_of_ble_eq_true rfl) (f_X12_unless_ok e21) ?_
  refine g_istore2 dX12_crowd_24 ?_
  refine g_aload_n dX12_crowd_25 rfl ?_
  refine g_iload_n dX12_crowd_26 rfl ?_
  refine g_if_eq 34 dX12_crowd_27 rfl (fun q => ?_) (fun q => ?_)
  · replace h := gif_t q h
    refine g_aload_n dX12_crowd_34 rfl ?_
    refine gR_X12_17 ok_28 dX12_crowd_35 ?_
    refine g_iconst dX12_crowd_38 kc_1 ?_
    obtain ⟨a39, e39, h⟩ := obind h
    refine g_ldB e39 ok_30 rfl rfl (by decide) dX12_crowd_39 ?_
    refine g_if_ne 48 dX12_crowd_40 rfl (fun q => ?_) (fun q => ?_)
    · replace h := gif_f q h
      refine g_iconst dX12_crowd_48 kc_0 ?_
      exact f_X12_crowd_49_ok h
    · replace h := gif_t q h
      refine g_bipush dX12_crowd_43 kb_6 ?_
      refine g_goto 49 dX12_crowd_45 rfl ?_
      exact f_X12_crowd_49_ok h
  · replace h := gif_f q h
    refine g_iload_n dX12_crowd_30 rfl ?_
    refine g_goto 49 dX12_crowd_31 rfl ?_
    exact f_X12_crowd_49_ok h
theorem f_X12_crowd_20_ok {v1 : Int32} {r : (Int32 × gSt)}  {σ : gSt} {x2 x3 x4 x5 x6 x7 : Option Value} (h : f_X12_crowd_20 v1 σ = some r) : G l w 0 41 RX12 cX12_crowd 8 (some .int) 1 23 (gE (some (.int r.1)) r.2) 20 [some (.ref (w.2.1 28 0)), some (.int v1), x2, x3, x4, x5, x6, x7] [] σ := by
  unfold f_X12_crowd_20 at h
  refine g_iconst dX12_crowd_20 kc_0 ?_
  exact f_X12_crowd_21_ok h
theorem f_X12_crowd_ok {v1 : Int32}  {σ : gSt} {r : (Int32 × gSt)} (h : f_X12_crowd v1 σ = some r) : Mt l w 0 41 yX12_crowd cX12_crowd 8 (some .int) 1 23 [.ref (w.2.1 28 0), .int v1] σ (gE (some (.int r.1)) r.2) := by
  unfold f_X12_crowd at h
  refine g_start pn_X12 rfl rfl (Nat.le_of_ble_eq_true rfl) ?_
  show G l w 0 41 RX12 cX12_crowd 8 (some .int) 1 23 (gE (some (.int r.1)) r.2) 0 [some (.ref (w.2.1 28 0)), some (.int v1), none, none, none, none, none, none] [] σ
  refine g_aload_n dX12_crowd_0 rfl ?_
  refine gI_X12_173 ok_28 dX12_crowd_1 ?_
  refine g_if_eq 20 dX12_crowd_4 rfl (fun q => ?_) (fun q => ?_)
  · replace h := gif_t q h
    exact f_X12_crowd_20_ok h
  · replace h := gif_f q h
    refine g_iload_n dX12_crowd_7 rfl ?_
    refine g_iconst dX12_crowd_8 kc_0 ?_
    refine g_iconst dX12_crowd_9 kc_1 ?_
    obtain ⟨p10, e10, h⟩ := obind h
    refine g_sP3 ms_X12_79 dX12_crowd_10 ⟨by decide, by decide⟩ (Nat.le_of_ble_eq_true rfl) (f_X12_in_ok e10) ?_
    refine g_if_eq 20 dX12_crowd_13 rfl (fun q => ?_) (fun q => ?_)
    · replace h := gif_t q h
      exact f_X12_crowd_20_ok h
    · replace h := gif_f q h
      refine g_iconst dX12_crowd_16 kc_1 ?_
      refine g_goto 21 dX12_crowd_17 rfl ?_
      exact f_X12_crowd_21_ok h
theorem dX12_over_0 : decode cX12_over 0 = .ok (.aload_n 0, 1) := by decide +kernel
theorem dX12_over_1 : decode cX12_over 1 = .ok (.aload_n 0, 1) := by decide +kernel
theorem dX12_over_2 : decode cX12_over 2 = .ok (.getfield 173, 3) := by decide +kernel
theorem dX12_over_5 : decode cX12_over 5 = .ok (.ifCond .eq 16, 3) := by decide +kernel
theorem dX12_over_8 : decode cX12_over 8 = .ok (.iload_n 3, 1) := by decide +kernel
theorem dX12_over_9 : decode cX12_over 9 = .ok (.iconst 0, 1) := by decide +kernel
theorem dX12_over_10 : decode cX12_over 10 = .ok (.iconst 1, 1) := by decide +kernel
theorem dX12_over_11 : decode cX12_over 11 = .ok (.invokestatic 79, 3) := by decide +kernel
theorem dX12_over_14 : decode cX12_over 14 = .ok (.ifCond .eq 7, 3) := by decide +kernel
theorem dX12_over_17 : decode cX12_over 17 = .ok (.iconst 1, 1) := by decide +kernel
theorem dX12_over_18 : decode cX12_over 18 = .ok (.goto 4, 3) := by decide +kernel
theorem dX12_over_21 : decode cX12_over 21 = .ok (.iconst 0, 1) := by decide +kernel
theorem dX12_over_22 : decode cX12_over 22 = .ok (.iload_n 1, 1) := by decide +kernel
theorem dX12_over_23 : decode cX12_over 23 = .ok (.iconst 1, 1) := by decide +kernel
theorem dX12_over_24 : decode cX12_over 24 = .ok (.bipush 99, 2) := by decide +kernel
theorem dX12_over_26 : decode cX12_over 26 = .ok (.invokestatic 79, 3) := by decide +kernel
theorem dX12_over_29 : decode cX12_over 29 = .ok (.ifCond .eq 17, 3) := by decide +kernel
theorem dX12_over_32 : decode cX12_over 32 = .ok (.iload_n 2, 1) := by decide +kernel
theorem dX12_over_33 : decode cX12_over 33 = .ok (.iconst 1, 1) := by decide +kernel
theorem dX12_over_34 : decode cX12_over 34 = .ok (.bipush 99, 2) := by decide +kernel
theorem dX12_over_36 : decode cX12_over 36 = .ok (.invokestatic 79, 3) := by decide +kernel
theorem dX12_over_39 : decode cX12_over 39 = .ok (.ifCond .eq 7, 3) := by decide +kernel
theorem dX12_over_42 : decode cX12_over 42 = .ok (.iconst 1, 1) := by decide +kernel
theorem dX12_over_43 : decode cX12_over 43 = .ok (.goto 4, 3) := by decide +kernel
theorem dX12_over_46 : decode cX12_over 46 = .ok (.iconst 0, 1) := by decide +kernel
theorem dX12_over_47 : decode cX12_over 47 = .ok (.invokestatic 157, 3) := by decide +kernel
theorem dX12_over_50 : decode cX12_over 50 = .ok (.invokevirtual 161, 3) := by decide +kernel
theorem dX12_over_53 : decode cX12_over 53 = .ok (.ifCond .eq 5, 3) := by decide +kernel
theorem dX12_over_56 : decode cX12_over 56 = .ok (.iconst (-1), 1) := by decide +kernel
theorem dX12_over_57 : decode cX12_over 57 = .ok (.ireturn, 1) := by decide +kernel
theorem dX12_over_58 : decode cX12_over 58 = .ok (.bipush (-2), 2) := by decide +kernel
theorem dX12_over_60 : decode cX12_over 60 = .ok (.istore 4, 2) := by decide +kernel
theorem dX12_over_62 : decode cX12_over 62 = .ok (.bipush (-2), 2) := by decide +kernel
theorem dX12_over_64 : decode cX12_over 64 = .ok (.istore 5, 2) := by decide +kernel
theorem dX12_over_66 : decode cX12_over 66 = .ok (.iconst 0, 1) := by decide +kernel
theorem dX12_over_67 : decode cX12_over 67 = .ok (.istore 6, 2) := by decide +kernel
theorem dX12_over_69 : decode cX12_over 69 = .ok (.iload 6, 2) := by decide +kernel
theorem dX12_over_71 : decode cX12_over 71 = .ok (.aload_n 0, 1) := by decide +kernel
theorem dX12_over_72 : decode cX12_over 72 = .ok (.getfield 17, 3) := by decide +kernel
theorem dX12_over_75 : decode cX12_over 75 = .ok (.iconst 1, 1) := by decide +kernel
theorem dX12_over_76 : decode cX12_over 76 = .ok (.iaload, 1) := by decide +kernel
theorem dX12_over_77 : decode cX12_over 77 = .ok (.if_icmp .ge 114, 3) := by decide +kernel
theorem dX12_over_80 : decode cX12_over 80 = .ok (.aload_n 0, 1) := by decide +kernel
theorem dX12_over_81 : decode cX12_over 81 = .ok (.getfield 17, 3) := by decide +kernel
theorem dX12_over_84 : decode cX12_over 84 = .ok (.bipush 37, 2) := by decide +kernel
theorem dX12_over_86 : decode cX12_over 86 = .ok (.iload 6, 2) := by decide +kernel
theorem dX12_over_88 : decode cX12_over 88 = .ok (.iadd, 1) := by decide +kernel
theorem dX12_over_89 : decode cX12_over 89 = .ok (.iaload, 1) := by decide +kernel
theorem dX12_over_90 : decode cX12_over 90 = .ok (.istore 7, 2) := by decide +kernel
theorem dX12_over_92 : decode cX12_over 92 = .ok (.iconst 1, 1) := by decide +kernel
theorem dX12_over_93 : decode cX12_over 93 = .ok (.istore 8, 2) := by decide +kernel
theorem dX12_over_95 : decode cX12_over 95 = .ok (.iload 8, 2) := by decide +kernel
theorem dX12_over_97 : decode cX12_over 97 = .ok (.aload_n 0, 1) := by decide +kernel
theorem dX12_over_98 : decode cX12_over 98 = .ok (.getfield 17, 3) := by decide +kernel
theorem dX12_over_101 : decode cX12_over 101 = .ok (.iconst 4, 1) := by decide +kernel
theorem dX12_over_102 : decode cX12_over 102 = .ok (.iload 7, 2) := by decide +kernel
theorem dX12_over_104 : decode cX12_over 104 = .ok (.iadd, 1) := by decide +kernel
theorem dX12_over_105 : decode cX12_over 105 = .ok (.iaload, 1) := by decide +kernel
theorem dX12_over_106 : decode cX12_over 106 = .ok (.if_icmp .ge 79, 3) := by decide +kernel
theorem dX12_over_109 : decode cX12_over 109 = .ok (.aload_n 0, 1) := by decide +kernel
theorem dX12_over_110 : decode cX12_over 110 = .ok (.iload 7, 2) := by decide +kernel
theorem dX12_over_112 : decode cX12_over 112 = .ok (.iload 8, 2) := by decide +kernel
theorem dX12_over_114 : decode cX12_over 114 = .ok (.iconst 1, 1) := by decide +kernel
theorem dX12_over_115 : decode cX12_over 115 = .ok (.isub, 1) := by decide +kernel
theorem dX12_over_116 : decode cX12_over 116 = .ok (.invokevirtual 197, 3) := by decide +kernel
theorem dX12_over_119 : decode cX12_over 119 = .ok (.iload_n 1, 1) := by decide +kernel
theorem dX12_over_120 : decode cX12_over 120 = .ok (.if_icmp .ne 26, 3) := by decide +kernel
theorem dX12_over_123 : decode cX12_over 123 = .ok (.aload_n 0, 1) := by decide +kernel
theorem dX12_over_124 : decode cX12_over 124 = .ok (.iload 7, 2) := by decide +kernel
theorem dX12_over_126 : decode cX12_over 126 = .ok (.iload 8, 2) := by decide +kernel
theorem dX12_over_128 : decode cX12_over 128 = .ok (.invokevirtual 197, 3) := by decide +kernel
theorem dX12_over_131 : decode cX12_over 131 = .ok (.iload_n 2, 1) := by decide +kernel
theorem dX12_over_132 : decode cX12_over 132 = .ok (.if_icmp .ne 14, 3) := by decide +kernel
theorem dX12_over_135 : decode cX12_over 135 = .ok (.aload_n 0, 1) := by decide +kernel
theorem dX12_over_136 : decode cX12_over 136 = .ok (.iload 6, 2) := by decide +kernel
theorem dX12_over_138 : decode cX12_over 138 = .ok (.iload 8, 2) := by decide +kernel
theorem dX12_over_140 : decode cX12_over 140 = .ok (.invokevirtual 221, 3) := by decide +kernel
theorem dX12_over_143 : decode cX12_over 143 = .ok (.goto 5, 3) := by decide +kernel
theorem dX12_over_146 : decode cX12_over 146 = .ok (.bipush (-2), 2) := by decide +kernel
theorem dX12_over_148 : decode cX12_over 148 = .ok (.istore 9, 2) := by decide +kernel
theorem dX12_over_150 : decode cX12_over 150 = .ok (.iload 9, 2) := by decide +kernel
theorem dX12_over_152 : decode cX12_over 152 = .ok (.bipush (-2), 2) := by decide +kernel
theorem dX12_over_154 : decode cX12_over 154 = .ok (.if_icmp .eq 25, 3) := by decide +kernel
theorem dX12_over_157 : decode cX12_over 157 = .ok (.iload 4, 2) := by decide +kernel
theorem dX12_over_159 : decode cX12_over 159 = .ok (.bipush (-2), 2) := by decide +kernel
theorem dX12_over_161 : decode cX12_over 161 = .ok (.if_icmp .eq 10, 3) := by decide +kernel
theorem dX12_over_164 : decode cX12_over 164 = .ok (.iload 9, 2) := by decide +kernel
theorem dX12_over_166 : decode cX12_over 166 = .ok (.iload 4, 2) := by decide +kernel
theorem dX12_over_168 : decode cX12_over 168 = .ok (.if_icmp .ge 11, 3) := by decide +kernel
theorem dX12_over_171 : decode cX12_over 171 = .ok (.iload 9, 2) := by decide +kernel
theorem dX12_over_173 : decode cX12_over 173 = .ok (.istore 4, 2) := by decide +kernel
theorem dX12_over_175 : decode cX12_over 175 = .ok (.iload 6, 2) := by decide +kernel
theorem dX12_over_177 : decode cX12_over 177 = .ok (.istore 5, 2) := by decide +kernel
theorem dX12_over_179 : decode cX12_over 179 = .ok (.iinc 8 1, 3) := by decide +kernel
theorem dX12_over_182 : decode cX12_over 182 = .ok (.goto (-87), 3) := by decide +kernel
theorem dX12_over_185 : decode cX12_over 185 = .ok (.iinc 6 1, 3) := by decide +kernel
theorem dX12_over_188 : decode cX12_over 188 = .ok (.goto (-119), 3) := by decide +kernel
theorem dX12_over_191 : decode cX12_over 191 = .ok (.iload_n 3, 1) := by decide +kernel
theorem dX12_over_192 : decode cX12_over 192 = .ok (.ifCond .ne 8, 3) := by decide +kernel
theorem dX12_over_195 : decode cX12_over 195 = .ok (.iload 4, 2) := by decide +kernel
theorem dX12_over_197 : decode cX12_over 197 = .ok (.goto 5, 3) := by decide +kernel
theorem dX12_over_200 : decode cX12_over 200 = .ok (.iload 5, 2) := by decide +kernel
theorem dX12_over_202 : decode cX12_over 202 = .ok (.ireturn, 1) := by decide +kernel
def f_X12_over_148 (v1 : Int32) (v2 : Int32) (v3 : Int32) (v4 : Int32) (v5 : Int32) (v6 : Int32) (v7 : Int32) (v8 : Int32) (k69 : Int32 → Int32 → Int32 → gSt → Option (Int32 × gSt)) (k95 : Int32 → Int32 → Int32 → gSt → Option (Int32 × gSt)) (vs0 : Int32) (σ : gSt) : Option (Int32 × gSt) :=
  if vs0 = (-2) then
    k95 v4 v5 (v8 + 1) σ
  else
    if v4 = (-2) then
      k95 vs0 v6 (v8 + 1) σ
    else
      if v4 ≤ vs0 then
        k95 v4 v5 (v8 + 1) σ
      else
        k95 vs0 v6 (v8 + 1) σ
def f_X12_over_146 (v1 : Int32) (v2 : Int32) (v3 : Int32) (v4 : Int32) (v5 : Int32) (v6 : Int32) (v7 : Int32) (v8 : Int32) (k69 : Int32 → Int32 → Int32 → gSt → Option (Int32 × gSt)) (k95 : Int32 → Int32 → Int32 → gSt → Option (Int32 × gSt)) (σ : gSt) : Option (Int32 × gSt) :=
  f_X12_over_148 v1 v2 v3 v4 v5 v6 v7 v8 k69 k95 (-2) σ
def f_X12_over_95 (v1 : Int32) (v2 : Int32) (v3 : Int32) (v6 : Int32) (v7 : Int32) (k69 : Int32 → Int32 → Int32 → gSt → Option (Int32 × gSt)) : Nat → Int32 → Int32 → Int32 → gSt → Option (Int32 × gSt)
  | 0, _, _, _, _ => none
  | n + 1, v4, v5, v8, σ =>
    (gld σ 30 0 397 (4 + v7)).bind fun a105 =>
    if a105 ≤ v8 then
      k69 v4 v5 (v6 + 1) σ
    else
      (f_X12_codeOf v7 (v8 - 1) σ).bind fun p116 =>
      if p116.1 = v1 then
        (f_X12_codeOf v7 v8 p116.2).bind fun p128 =>
        if p128.1 = v2 then
          (f_X12_legOf v6 v8 p128.2).bind fun p140 =>
          f_X12_over_148 v1 v2 v3 v4 v5 v6 v7 v8 k69 (fun v4 v5 v8 σ => f_X12_over_95 v1 v2 v3 v6 v7 k69 n v4 v5 v8 σ) p140.1 p140.2
        else
          f_X12_over_146 v1 v2 v3 v4 v5 v6 v7 v8 k69 (fun v4 v5 v8 σ => f_X12_over_95 v1 v2 v3 v6 v7 k69 n v4 v5 v8 σ) p128.2
      else
        f_X12_over_146 v1 v2 v3 v4 v5 v6 v7 v8 k69 (fun v4 v5 v8 σ => f_X12_over_95 v1 v2 v3 v6 v7 k69 n v4 v5 v8 σ) p116.2
def f_X12_over_69 (v1 : Int32) (v2 : Int32) (v3 : Int32) : Nat → Int32 → Int32 → Int32 → gSt → Option (Int32 × gSt)
  | 0, _, _, _, _ => none
  | n + 1, v4, v5, v6, σ =>
    (gld σ 30 0 397 1).bind fun a76 =>
    if a76 ≤ v6 then
      if v3 = 0 then
        some (v4, σ)
      else
        some (v5, σ)
    else
      (gld σ 30 0 397 (37 + v6)).bind fun a89 =>
      f_X12_over_95 v1 v2 v3 v6 a89 (fun v4 v5 v6 σ => f_X12_over_69 v1 v2 v3 n v4 v5 v6 σ) gFuel v4 v5 1 σ
def f_X12_over_47 (v1 : Int32) (v2 : Int32) (v3 : Int32) (vs1 : Int32) (vs2 : Int32) (σ : gSt) : Option (Int32 × gSt) :=
  (f_X12_unless_ vs1 vs2 σ).bind fun p47 =>
  (f_X12_isRefused p47.1 p47.2).bind fun p50 =>
  if p50.1 = 0 then
    f_X12_over_69 v1 v2 v3 gFuel (-2) (-2) 0 p50.2
  else
    some ((-1), p50.2)
def f_X12_over_46 (v1 : Int32) (v2 : Int32) (v3 : Int32) (vs1 : Int32) (σ : gSt) : Option (Int32 × gSt) :=
  f_X12_over_47 v1 v2 v3 vs1 0 σ
def f_X12_over_22 (v1 : Int32) (v2 : Int32) (v3 : Int32) (vs1 : Int32) (σ : gSt) : Option (Int32 × gSt) :=
  (f_X12_in v1 1 99 σ).bind fun p26 =>
  if p26.1 = 0 then
    f_X12_over_46 v1 v2 v3 vs1 p26.2
  else
    (f_X12_in v2 1 99 p26.2).bind fun p36 =>
    if p36.1 = 0 then
      f_X12_over_46 v1 v2 v3 vs1 p36.2
    else
      f_X12_over_47 v1 v2 v3 vs1 1 p36.2
def f_X12_over_21 (v1 : Int32) (v2 : Int32) (v3 : Int32) (σ : gSt) : Option (Int32 × gSt) :=
  f_X12_over_22 v1 v2 v3 0 σ
def f_X12_over (v1 : Int32) (v2 : Int32) (v3 : Int32) (σ : gSt) : Option (Int32 × gSt) :=
  if (σ 28 0 6) = 0 then
    f_X12_over_21 v1 v2 v3 σ
  else
    (f_X12_in v3 0 1 σ).bind fun p11 =>
    if p11.1 = 0 then
      f_X12_over_21 v1 v2 v3 p11.2
    else
      f_X12_over_22 v1 v2 v3 1 p11.2
theorem f_X12_over_148_ok {v1 : Int32} {v2 : Int32} {v3 : Int32} {v4 : Int32} {v5 : Int32} {v6 : Int32} {v7 : Int32} {v8 : Int32} {k69 : Int32 → Int32 → Int32 → gSt → Option (Int32 × gSt)} {k95 : Int32 → Int32 → Int32 → gSt → Option (Int32 × gSt)} {vs0 : Int32} {r : (Int32 × gSt)} (hk69 : ∀ {v4 : Int32} {v5 : Int32} {v6 : Int32} {σ : gSt} {x7 x8 x9 : Option Value}, k69 v4 v5 v6 σ = some r → G l w 0 41 RX12 cX12_over 10 (some .int) 5 120 (gE (some (.int r.1)) r.2) 69 [some (.ref (w.2.1 28 0)), some (.int v1), some (.int v2), some (.int v3), some (.int v4), some (.int v5), some (.int v6), x7, x8, x9] [] σ) (hk95 : ∀ {v4 : Int32} {v5 : Int32} {v8 : Int32} {σ : gSt} {x9 : Option Value}, k95 v4 v5 v8 σ = some r → G l w 0 41 RX12 cX12_over 10 (some .int) 5 120 (gE (some (.int r.1)) r.2) 95 [some (.ref (w.2.1 28 0)), some (.int v1), some (.int v2), some (.int v3), some (.int v4), some (.int v5), some (.int v6), some (.int v7), some (.int v8), x9] [] σ) {σ : gSt} {x9 : Option Value} (h : f_X12_over_148 v1 v2 v3 v4 v5 v6 v7 v8 k69 k95 vs0 σ = some r) : G l w 0 41 RX12 cX12_over 10 (some .int) 5 120 (gE (some (.int r.1)) r.2) 148 [some (.ref (w.2.1 28 0)), some (.int v1), some (.int v2), some (.int v3), some (.int v4), some (.int v5), some (.int v6), some (.int v7), some (.int v8), x9] [.int vs0] σ := by
  unfold f_X12_over_148 at h
  refine g_istore9 dX12_over_148 ?_
  refine g_iload dX12_over_150 rfl ?_
  refine g_bipush dX12_over_152 kb_m2 ?_
  refine g_icmp_eq 179 dX12_over_154 rfl (fun q => ?_) (fun q => ?_)
  · replace h := gif_t q h
    refine g_inc8 kc_1 dX12_over_179 ?_
    refine g_goto 95 dX12_over_182 rfl ?_
    exact hk95 h
  · replace h := gif_f q h
    refine g_iload dX12_over_157 rfl ?_
    refine g_bipush dX12_over_159 kb_m2 ?_
    refine g_icmp_eq 171 dX12_over_161 rfl (fun q => ?_) (fun q => ?_)
    · replace h := gif_t q h
      refine g_iload dX12_over_171 rfl ?_
      refine g_istore4 dX12_over_173 ?_
      refine g_iload dX12_over_175 rfl ?_
      refine g_istore5 dX12_over_177 ?_
      refine g_inc8 kc_1 dX12_over_179 ?_
      refine g_goto 95 dX12_over_182 rfl ?_
      exact hk95 h
    · replace h := gif_f q h
      refine g_iload dX12_over_164 rfl ?_
      refine g_iload dX12_over_166 rfl ?_
      refine g_icmp_ge 179 dX12_over_168 rfl (fun q => ?_) (fun q => ?_)
      · replace h := gif_t q h
        refine g_inc8 kc_1 dX12_over_179 ?_
        refine g_goto 95 dX12_over_182 rfl ?_
        exact hk95 h
      · replace h := gif_f q h
        refine g_iload dX12_over_171 rfl ?_
        refine g_istore4 dX12_over_173 ?_
        refine g_iload dX12_over_175 rfl ?_
        refine g_istore5 dX12_over_177 ?_
        refine g_inc8 kc_1 dX12_over_179 ?_
        refine g_goto 95 dX12_over_182 rfl ?_
        exact hk95 h
theorem f_X12_over_146_ok {v1 : Int32} {v2 : Int32} {v3 : Int32} {v4 : Int32} {v5 : Int32} {v6 : Int32} {v7 : Int32} {v8 : Int32} {k69 : Int32 → Int32 → Int32 → gSt → Option (Int32 × gSt)} {k95 : Int32 → Int32 → Int32 → gSt → Option (Int32 × gSt)} {r : (Int32 × gSt)} (hk69 : ∀ {v4 : Int32} {v5 : Int32} {v6 : Int32} {σ : gSt} {x7 x8 x9 : Option Value}, k69 v4 v5 v6 σ = some r → G l w 0 41 RX12 cX12_over 10 (some .int) 5 120 (gE (some (.int r.1)) r.2) 69 [some (.ref (w.2.1 28 0)), some (.int v1), some (.int v2), some (.int v3), some (.int v4), some (.int v5), some (.int v6), x7, x8, x9] [] σ) (hk95 : ∀ {v4 : Int32} {v5 : Int32} {v8 : Int32} {σ : gSt} {x9 : Option Value}, k95 v4 v5 v8 σ = some r → G l w 0 41 RX12 cX12_over 10 (some .int) 5 120 (gE (some (.int r.1)) r.2) 95 [some (.ref (w.2.1 28 0)), some (.int v1), some (.int v2), some (.int v3), some (.int v4), some (.int v5), some (.int v6), some (.int v7), some (.int v8), x9] [] σ) {σ : gSt} {x9 : Option Value} (h : f_X12_over_146 v1 v2 v3 v4 v5 v6 v7 v8 k69 k95 σ = some r) : G l w 0 41 RX12 cX12_over 10 (some .int) 5 120 (gE (some (.int r.1)) r.2) 146 [some (.ref (w.2.1 28 0)), some (.int v1), some (.int v2), some (.int v3), some (.int v4), some (.int v5), some (.int v6), some (.int v7), some (.int v8), x9] [] σ := by
  unfold f_X12_over_146 at h
  refine g_bipush dX12_over_146 kb_m2 ?_
  exact f_X12_over_148_ok hk69 hk95 h
theorem f_X12_over_95_ok {v1 : Int32} {v2 : Int32} {v3 : Int32} {v6 : Int32} {v7 : Int32} {k69 : Int32 → Int32 → Int32 → gSt → Option (Int32 × gSt)} {r : (Int32 × gSt)} (hk69 : ∀ {v4 : Int32} {v5 : Int32} {v6 : Int32} {σ : gSt} {x7 x8 x9 : Option Value}, k69 v4 v5 v6 σ = some r → G l w 0 41 RX12 cX12_over 10 (some .int) 5 120 (gE (some (.int r.1)) r.2) 69 [some (.ref (w.2.1 28 0)), some (.int v1), some (.int v2), some (.int v3), some (.int v4), some (.int v5), some (.int v6), x7, x8, x9] [] σ) : ∀ (n : Nat) {v4 : Int32} {v5 : Int32} {v8 : Int32} {σ : gSt} {x9 : Option Value}, f_X12_over_95 v1 v2 v3 v6 v7 k69 n v4 v5 v8 σ = some r → G l w 0 41 RX12 cX12_over 10 (some .int) 5 120 (gE (some (.int r.1)) r.2) 95 [some (.ref (w.2.1 28 0)), some (.int v1), some (.int v2), some (.int v3), some (.int v4), some (.int v5), some (.int v6), some (.int v7), some (.int v8), x9] [] σ := by
  intro n
  induction n with
  | zero => intro v4 v5 v8 σ x9 h; rw [f_X12_over_95] at h; cases h
  | succ n ih =>
    intro v4 v5 v8 σ x9 h
    rw [f_X12_over_95] at h
    refine g_iload dX12_over_95 rfl ?_
    refine g_aload_n dX12_over_97 rfl ?_
    refine gR_X12_17 ok_28 dX12_over_98 ?_
    refine g_iconst dX12_over_101 kc_4 ?_
    refine g_iload dX12_over_102 rfl ?_
    refine g_iadd dX12_over_104 ?_
    obtain ⟨a105, e105, h⟩ := obind h
    refine g_ldB e105 ok_30 rfl rfl (by decide) dX12_over_105 ?_
    refine g_icmp_ge 185 dX12_over_106 rfl (fun q => ?_) (fun q => ?_)
    · replace h := gif_t q h
      refine g_inc6 kc_1 dX12_over_185 ?_
      refine g_goto 69 dX12_over_188 rfl ?_
      exact hk69 h
    · replace h := gif_f q h
      refine g_aload_n dX12_over_109 rfl ?_
      refine g_iload dX12_over_110 rfl ?_
      refine g_iload dX12_over_112 rfl ?_
      refine g_iconst dX12_over_114 kc_1 ?_
      refine g_isub dX12_over_115 ?_
      obtain ⟨p116, e116, h⟩ := obind h
      refine g_vP2 mv_X12_197 dX12_over_116 ok_28 ⟨by decide, by decide⟩ (Nat.le_of_ble_eq_true rfl) (f_X12_codeOf_ok e116) ?_
      refine g_iload_n dX12_over_119 rfl ?_
      refine g_icmp_ne 146 dX12_over_120 rfl (fun q => ?_) (fun q => ?_)
      · replace h := gif_f q h
        exact f_X12_over_146_ok hk69 (fun h => ih h) h
      · replace h := gif_t q h
        refine g_aload_n dX12_over_123 rfl ?_
        refine g_iload dX12_over_124 rfl ?_
        refine g_iload dX12_over_126 rfl ?_
        obtain ⟨p128, e128, h⟩ := obind h
        refine g_vP2 mv_X12_197 dX12_over_128 ok_28 ⟨by decide, by decide⟩ (Nat.le_of_ble_eq_true rfl) (f_X12_codeOf_ok e128) ?_
        refine g_iload_n dX12_over_131 rfl ?_
        refine g_icmp_ne 146 dX12_over_132 rfl (fun q => ?_) (fun q => ?_)
        · replace h := gif_f q h
          exact f_X12_over_146_ok hk69 (fun h => ih h) h
        · replace h := gif_t q h
          refine g_aload_n dX12_over_135 rfl ?_
          refine g_iload dX12_over_136 rfl ?_
          refine g_iload dX12_over_138 rfl ?_
          obtain ⟨p140, e140, h⟩ := obind h
          refine g_vP2 mv_X12_221 dX12_over_140 ok_28 ⟨by decide, by decide⟩ (Nat.le_of_ble_eq_true rfl) (f_X12_legOf_ok e140) ?_
          refine g_goto 148 dX12_over_143 rfl ?_
          exact f_X12_over_148_ok hk69 (fun h => ih h) h
theorem f_X12_over_69_ok {v1 : Int32} {v2 : Int32} {v3 : Int32} {r : (Int32 × gSt)}  : ∀ (n : Nat) {v4 : Int32} {v5 : Int32} {v6 : Int32} {σ : gSt} {x7 x8 x9 : Option Value}, f_X12_over_69 v1 v2 v3 n v4 v5 v6 σ = some r → G l w 0 41 RX12 cX12_over 10 (some .int) 5 120 (gE (some (.int r.1)) r.2) 69 [some (.ref (w.2.1 28 0)), some (.int v1), some (.int v2), some (.int v3), some (.int v4), some (.int v5), some (.int v6), x7, x8, x9] [] σ := by
  intro n
  induction n with
  | zero => intro v4 v5 v6 σ x7 x8 x9 h; rw [f_X12_over_69] at h; cases h
  | succ n ih =>
    intro v4 v5 v6 σ x7 x8 x9 h
    rw [f_X12_over_69] at h
    refine g_iload dX12_over_69 rfl ?_
    refine g_aload_n dX12_over_71 rfl ?_
    refine gR_X12_17 ok_28 dX12_over_72 ?_
    refine g_iconst dX12_over_75 kc_1 ?_
    obtain ⟨a76, e76, h⟩ := obind h
    refine g_ldB e76 ok_30 rfl rfl (by decide) dX12_over_76 ?_
    refine g_icmp_ge 191 dX12_over_77 rfl (fun q => ?_) (fun q => ?_)
    · replace h := gif_t q h
      refine g_iload_n dX12_over_191 rfl ?_
      refine g_if_ne 200 dX12_over_192 rfl (fun q => ?_) (fun q => ?_)
      · replace h := gif_f q h
        refine g_iload dX12_over_200 rfl ?_
        cases h
        exact g_iret dX12_over_202 rfl ⟨rfl, rfl⟩
      · replace h := gif_t q h
        refine g_iload dX12_over_195 rfl ?_
        refine g_goto 202 dX12_over_197 rfl ?_
        cases h
        exact g_iret dX12_over_202 rfl ⟨rfl, rfl⟩
    · replace h := gif_f q h
      refine g_aload_n dX12_over_80 rfl ?_
      refine gR_X12_17 ok_28 dX12_over_81 ?_
      refine g_bipush dX12_over_84 kb_37 ?_
      refine g_iload dX12_over_86 rfl ?_
      refine g_iadd dX12_over_88 ?_
      obtain ⟨a89, e89, h⟩ := obind h
      refine g_ldB e89 ok_30 rfl rfl (by decide) dX12_over_89 ?_
      refine g_istore7 dX12_over_90 ?_
      refine g_iconst dX12_over_92 kc_1 ?_
      refine g_istore8 dX12_over_93 ?_
      exact f_X12_over_95_ok (fun h => ih h) gFuel h
theorem f_X12_over_47_ok {v1 : Int32} {v2 : Int32} {v3 : Int32} {vs1 : Int32} {vs2 : Int32} {r : (Int32 × gSt)}  {σ : gSt} {x4 x5 x6 x7 x8 x9 : Option Value} (h : f_X12_over_47 v1 v2 v3 vs1 vs2 σ = some r) : G l w 0 41 RX12 cX12_over 10 (some .int) 5 120 (gE (some (.int r.1)) r.2) 47 [some (.ref (w.2.1 28 0)), some (.int v1), some (.int v2), some (.int v3), x4, x5, x6, x7, x8, x9] [.int vs2, .int vs1, .ref (w.2.1 28 0)] σ := by
  unfold f_X12_over_47 at h
  obtain ⟨p47, e47, h⟩ := obind h
  refine g_sP2 ms_X12_157 dX12_over_47 ⟨by decide, by decide⟩ (Nat.le_of_ble_eq_true rfl) (f_X12_unless__ok e47) ?_
  obtain ⟨p50, e50, h⟩ := obind h
  refine g_vP1 mv_X12_161 dX12_over_50 ok_28 ⟨by decide, by decide⟩ (Nat.le_of_ble_eq_true rfl) (f_X12_isRefused_ok e50) ?_
  refine g_if_eq 58 dX12_over_53 rfl (fun q => ?_) (fun q => ?_)
  · replace h := gif_t q h
    refine g_bipush dX12_over_58 kb_m2 ?_
    refine g_istore4 dX12_over_60 ?_
    refine g_bipush dX12_over_62 kb_m2 ?_
    refine g_istore5 dX12_over_64 ?_
    refine g_iconst dX12_over_66 kc_0 ?_
    refine g_istore6 dX12_over_67 ?_
    exact f_X12_over_69_ok gFuel h
  · replace h := gif_f q h
    refine g_iconst dX12_over_56 kc_m1 ?_
    cases h
    exact g_iret dX12_over_57 rfl ⟨rfl, rfl⟩
theorem f_X12_over_46_ok {v1 : Int32} {v2 : Int32} {v3 : Int32} {vs1 : Int32} {r : (Int32 × gSt)}  {σ : gSt} {x4 x5 x6 x7 x8 x9 : Option Value} (h : f_X12_over_46 v1 v2 v3 vs1 σ = some r) : G l w 0 41 RX12 cX12_over 10 (some .int) 5 120 (gE (some (.int r.1)) r.2) 46 [some (.ref (w.2.1 28 0)), some (.int v1), some (.int v2), some (.int v3), x4, x5, x6, x7, x8, x9] [.int vs1, .ref (w.2.1 28 0)] σ := by
  unfold f_X12_over_46 at h
  refine g_iconst dX12_over_46 kc_0 ?_
  exact f_X12_over_47_ok h
theorem f_X12_over_22_ok {v1 : Int32} {v2 : Int32} {v3 : Int32} {vs1 : Int32} {r : (Int32 × gSt)}  {σ : gSt} {x4 x5 x6 x7 x8 x9 : Option Value} (h : f_X12_over_22 v1 v2 v3 vs1 σ = some r) : G l w 0 41 RX12 cX12_over 10 (some .int) 5 120 (gE (some (.int r.1)) r.2) 22 [some (.ref (w.2.1 28 0)), some (.int v1), some (.int v2), some (.int v3), x4, x5, x6, x7, x8, x9] [.int vs1, .ref (w.2.1 28 0)] σ := by
  unfold f_X12_over_22 at h
  refine g_iload_n dX12_over_22 rfl ?_
  refine g_iconst dX12_over_23 kc_1 ?_
  refine g_bipush dX12_over_24 kb_99 ?_
  obtain ⟨p26, e26, h⟩ := obind h
  refine g_sP3 ms_X12_79 dX12_over_26 ⟨by decide, by decide⟩ (Nat.le_of_ble_eq_true rfl) (f_X12_in_ok e26) ?_
  refine g_if_eq 46 dX12_over_29 rfl (fun q => ?_) (fun q => ?_)
  · replace h := gif_t q h
    exact f_X12_over_46_ok h
  · replace h := gif_f q h
    refine g_iload_n dX12_over_32 rfl ?_
    refine g_iconst dX12_over_33 kc_1 ?_
    refine g_bipush dX12_over_34 kb_99 ?_
    obtain ⟨p36, e36, h⟩ := obind h
    refine g_sP3 ms_X12_79 dX12_over_36 ⟨by decide, by decide⟩ (Nat.le_of_ble_eq_true rfl) (f_X12_in_ok e36) ?_
    refine g_if_eq 46 dX12_over_39 rfl (fun q => ?_) (fun q => ?_)
    · replace h := gif_t q h
      exact f_X12_over_46_ok h
    · replace h := gif_f q h
      refine g_iconst dX12_over_42 kc_1 ?_
      refine g_goto 47 dX12_over_43 rfl ?_
      exact f_X12_over_47_ok h
theorem f_X12_over_21_ok {v1 : Int32} {v2 : Int32} {v3 : Int32} {r : (Int32 × gSt)}  {σ : gSt} {x4 x5 x6 x7 x8 x9 : Option Value} (h : f_X12_over_21 v1 v2 v3 σ = some r) : G l w 0 41 RX12 cX12_over 10 (some .int) 5 120 (gE (some (.int r.1)) r.2) 21 [some (.ref (w.2.1 28 0)), some (.int v1), some (.int v2), some (.int v3), x4, x5, x6, x7, x8, x9] [.ref (w.2.1 28 0)] σ := by
  unfold f_X12_over_21 at h
  refine g_iconst dX12_over_21 kc_0 ?_
  exact f_X12_over_22_ok h
theorem f_X12_over_ok {v1 : Int32} {v2 : Int32} {v3 : Int32}  {σ : gSt} {r : (Int32 × gSt)} (h : f_X12_over v1 v2 v3 σ = some r) : Mt l w 0 41 yX12_over cX12_over 10 (some .int) 5 120 [.ref (w.2.1 28 0), .int v1, .int v2, .int v3] σ (gE (some (.int r.1)) r.2) := by
  unfold f_X12_over at h
  refine g_start pn_X12 rfl rfl (Nat.le_of_ble_eq_true rfl) ?_
  show G l w 0 41 RX12 cX12_over 10 (some .int) 5 120 (gE (some (.int r.1)) r.2) 0 [some (.ref (w.2.1 28 0)), some (.int v1), some (.int v2), some (.int v3), none, none, none, none, none, none] [] σ
  refine g_aload_n dX12_over_0 rfl ?_
  refine g_aload_n dX12_over_1 rfl ?_
  refine gI_X12_173 ok_28 dX12_over_2 ?_
  refine g_if_eq 21 dX12_over_5 rfl (fun q => ?_) (fun q => ?_)
  · replace h := gif_t q h
    exact f_X12_over_21_ok h
  · replace h := gif_f q h
    refine g_iload_n dX12_over_8 rfl ?_
    refine g_iconst dX12_over_9 kc_0 ?_
    refine g_iconst dX12_over_10 kc_1 ?_
    obtain ⟨p11, e11, h⟩ := obind h
    refine g_sP3 ms_X12_79 dX12_over_11 ⟨by decide, by decide⟩ (Nat.le_of_ble_eq_true rfl) (f_X12_in_ok e11) ?_
    refine g_if_eq 21 dX12_over_14 rfl (fun q => ?_) (fun q => ?_)
    · replace h := gif_t q h
      exact f_X12_over_21_ok h
    · replace h := gif_f q h
      refine g_iconst dX12_over_17 kc_1 ?_
      refine g_goto 22 dX12_over_18 rfl ?_
      exact f_X12_over_22_ok h
theorem dX12_hasPair_0 : decode cX12_hasPair 0 = .ok (.iconst 1, 1) := by decide +kernel
theorem dX12_hasPair_1 : decode cX12_hasPair 1 = .ok (.istore 5, 2) := by decide +kernel
theorem dX12_hasPair_3 : decode cX12_hasPair 3 = .ok (.iload 5, 2) := by decide +kernel
theorem dX12_hasPair_5 : decode cX12_hasPair 5 = .ok (.iload 4, 2) := by decide +kernel
theorem dX12_hasPair_7 : decode cX12_hasPair 7 = .ok (.if_icmp .ge 35, 3) := by decide +kernel
theorem dX12_hasPair_10 : decode cX12_hasPair 10 = .ok (.aload_n 0, 1) := by decide +kernel
theorem dX12_hasPair_11 : decode cX12_hasPair 11 = .ok (.iload_n 1, 1) := by decide +kernel
theorem dX12_hasPair_12 : decode cX12_hasPair 12 = .ok (.iload 5, 2) := by decide +kernel
theorem dX12_hasPair_14 : decode cX12_hasPair 14 = .ok (.iconst 1, 1) := by decide +kernel
theorem dX12_hasPair_15 : decode cX12_hasPair 15 = .ok (.isub, 1) := by decide +kernel
theorem dX12_hasPair_16 : decode cX12_hasPair 16 = .ok (.invokevirtual 197, 3) := by decide +kernel
theorem dX12_hasPair_19 : decode cX12_hasPair 19 = .ok (.iload_n 2, 1) := by decide +kernel
theorem dX12_hasPair_20 : decode cX12_hasPair 20 = .ok (.if_icmp .ne 16, 3) := by decide +kernel
theorem dX12_hasPair_23 : decode cX12_hasPair 23 = .ok (.aload_n 0, 1) := by decide +kernel
theorem dX12_hasPair_24 : decode cX12_hasPair 24 = .ok (.iload_n 1, 1) := by decide +kernel
theorem dX12_hasPair_25 : decode cX12_hasPair 25 = .ok (.iload 5, 2) := by decide +kernel
theorem dX12_hasPair_27 : decode cX12_hasPair 27 = .ok (.invokevirtual 197, 3) := by decide +kernel
theorem dX12_hasPair_30 : decode cX12_hasPair 30 = .ok (.iload_n 3, 1) := by decide +kernel
theorem dX12_hasPair_31 : decode cX12_hasPair 31 = .ok (.if_icmp .ne 5, 3) := by decide +kernel
theorem dX12_hasPair_34 : decode cX12_hasPair 34 = .ok (.iconst 1, 1) := by decide +kernel
theorem dX12_hasPair_35 : decode cX12_hasPair 35 = .ok (.ireturn, 1) := by decide +kernel
theorem dX12_hasPair_36 : decode cX12_hasPair 36 = .ok (.iinc 5 1, 3) := by decide +kernel
theorem dX12_hasPair_39 : decode cX12_hasPair 39 = .ok (.goto (-36), 3) := by decide +kernel
theorem dX12_hasPair_42 : decode cX12_hasPair 42 = .ok (.iconst 0, 1) := by decide +kernel
theorem dX12_hasPair_43 : decode cX12_hasPair 43 = .ok (.ireturn, 1) := by decide +kernel
def f_X12_hasPair_3 (v1 : Int32) (v2 : Int32) (v3 : Int32) (v4 : Int32) : Nat → Int32 → gSt → Option (Int32 × gSt)
  | 0, _, _ => none
  | n + 1, v5, σ =>
    if v4 ≤ v5 then
      some (0, σ)
    else
      (f_X12_codeOf v1 (v5 - 1) σ).bind fun p16 =>
      if p16.1 = v2 then
        (f_X12_codeOf v1 v5 p16.2).bind fun p27 =>
        if p27.1 = v3 then
          some (1, p27.2)
        else
          f_X12_hasPair_3 v1 v2 v3 v4 n (v5 + 1) p27.2
      else
        f_X12_hasPair_3 v1 v2 v3 v4 n (v5 + 1) p16.2
def f_X12_hasPair (v1 : Int32) (v2 : Int32) (v3 : Int32) (v4 : Int32) (σ : gSt) : Option (Int32 × gSt) :=
  f_X12_hasPair_3 v1 v2 v3 v4 gFuel 1 σ
theorem f_X12_hasPair_3_ok {v1 : Int32} {v2 : Int32} {v3 : Int32} {v4 : Int32} {r : (Int32 × gSt)}  : ∀ (n : Nat) {v5 : Int32} {σ : gSt} , f_X12_hasPair_3 v1 v2 v3 v4 n v5 σ = some r → G l w 0 41 RX12 cX12_hasPair 6 (some .boolean) 1 22 (gE (some (.int r.1)) r.2) 3 [some (.ref (w.2.1 28 0)), some (.int v1), some (.int v2), some (.int v3), some (.int v4), some (.int v5)] [] σ := by
  intro n
  induction n with
  | zero => intro v5 σ h; rw [f_X12_hasPair_3] at h; cases h
  | succ n ih =>
    intro v5 σ h
    rw [f_X12_hasPair_3] at h
    refine g_iload dX12_hasPair_3 rfl ?_
    refine g_iload dX12_hasPair_5 rfl ?_
    refine g_icmp_ge 42 dX12_hasPair_7 rfl (fun q => ?_) (fun q => ?_)
    · replace h := gif_t q h
      refine g_iconst dX12_hasPair_42 kc_0 ?_
      cases h
      exact g_zret0 dX12_hasPair_43 rfl
    · replace h := gif_f q h
      refine g_aload_n dX12_hasPair_10 rfl ?_
      refine g_iload_n dX12_hasPair_11 rfl ?_
      refine g_iload dX12_hasPair_12 rfl ?_
      refine g_iconst dX12_hasPair_14 kc_1 ?_
      refine g_isub dX12_hasPair_15 ?_
      obtain ⟨p16, e16, h⟩ := obind h
      refine g_vP2 mv_X12_197 dX12_hasPair_16 ok_28 ⟨by decide, by decide⟩ (Nat.le_of_ble_eq_true rfl) (f_X12_codeOf_ok e16) ?_
      refine g_iload_n dX12_hasPair_19 rfl ?_
      refine g_icmp_ne 36 dX12_hasPair_20 rfl (fun q => ?_) (fun q => ?_)
      · replace h := gif_f q h
        refine g_inc5 kc_1 dX12_hasPair_36 ?_
        refine g_goto 3 dX12_hasPair_39 rfl ?_
        exact ih h
      · replace h := gif_t q h
        refine g_aload_n dX12_hasPair_23 rfl ?_
        refine g_iload_n dX12_hasPair_24 rfl ?_
        refine g_iload dX12_hasPair_25 rfl ?_
        obtain ⟨p27, e27, h⟩ := obind h
        refine g_vP2 mv_X12_197 dX12_hasPair_27 ok_28 ⟨by decide, by decide⟩ (Nat.le_of_ble_eq_true rfl) (f_X12_codeOf_ok e27) ?_
        refine g_iload_n dX12_hasPair_30 rfl ?_
        refine g_icmp_ne 36 dX12_hasPair_31 rfl (fun q => ?_) (fun q => ?_)
        · replace h := gif_f q h
          refine g_inc5 kc_1 dX12_hasPair_36 ?_
          refine g_goto 3 dX12_hasPair_39 rfl ?_
          exact ih h
        · replace h := gif_t q h
          refine g_iconst dX12_hasPair_34 kc_1 ?_
          cases h
          exact g_zret1 dX12_hasPair_35 rfl
theorem f_X12_hasPair_ok {v1 : Int32} {v2 : Int32} {v3 : Int32} {v4 : Int32}  {σ : gSt} {r : (Int32 × gSt)} (h : f_X12_hasPair v1 v2 v3 v4 σ = some r) : Mt l w 0 41 yX12_hasPair cX12_hasPair 6 (some .boolean) 1 22 [.ref (w.2.1 28 0), .int v1, .int v2, .int v3, .int v4] σ (gE (some (.int r.1)) r.2) := by
  unfold f_X12_hasPair at h
  refine g_start pn_X12 rfl rfl (Nat.le_of_ble_eq_true rfl) ?_
  show G l w 0 41 RX12 cX12_hasPair 6 (some .boolean) 1 22 (gE (some (.int r.1)) r.2) 0 [some (.ref (w.2.1 28 0)), some (.int v1), some (.int v2), some (.int v3), some (.int v4), none] [] σ
  refine g_iconst dX12_hasPair_0 kc_1 ?_
  refine g_istore5 dX12_hasPair_1 ?_
  exact f_X12_hasPair_3_ok gFuel h
theorem dX12_common_0 : decode cX12_common 0 = .ok (.aload_n 0, 1) := by decide +kernel
theorem dX12_common_1 : decode cX12_common 1 = .ok (.aload_n 0, 1) := by decide +kernel
theorem dX12_common_2 : decode cX12_common 2 = .ok (.iload_n 1, 1) := by decide +kernel
theorem dX12_common_3 : decode cX12_common 3 = .ok (.invokevirtual 184, 3) := by decide +kernel
theorem dX12_common_6 : decode cX12_common 6 = .ok (.ifCond .eq 15, 3) := by decide +kernel
theorem dX12_common_9 : decode cX12_common 9 = .ok (.aload_n 0, 1) := by decide +kernel
theorem dX12_common_10 : decode cX12_common 10 = .ok (.iload_n 2, 1) := by decide +kernel
theorem dX12_common_11 : decode cX12_common 11 = .ok (.invokevirtual 184, 3) := by decide +kernel
theorem dX12_common_14 : decode cX12_common 14 = .ok (.ifCond .eq 7, 3) := by decide +kernel
theorem dX12_common_17 : decode cX12_common 17 = .ok (.iconst 1, 1) := by decide +kernel
theorem dX12_common_18 : decode cX12_common 18 = .ok (.goto 4, 3) := by decide +kernel
theorem dX12_common_21 : decode cX12_common 21 = .ok (.iconst 0, 1) := by decide +kernel
theorem dX12_common_22 : decode cX12_common 22 = .ok (.invokestatic 234, 3) := by decide +kernel
theorem dX12_common_25 : decode cX12_common 25 = .ok (.invokevirtual 161, 3) := by decide +kernel
theorem dX12_common_28 : decode cX12_common 28 = .ok (.ifCond .eq 5, 3) := by decide +kernel
theorem dX12_common_31 : decode cX12_common 31 = .ok (.iconst (-1), 1) := by decide +kernel
theorem dX12_common_32 : decode cX12_common 32 = .ok (.ireturn, 1) := by decide +kernel
theorem dX12_common_33 : decode cX12_common 33 = .ok (.iconst 0, 1) := by decide +kernel
theorem dX12_common_34 : decode cX12_common 34 = .ok (.istore_n 3, 1) := by decide +kernel
theorem dX12_common_35 : decode cX12_common 35 = .ok (.iconst 1, 1) := by decide +kernel
theorem dX12_common_36 : decode cX12_common 36 = .ok (.istore 4, 2) := by decide +kernel
theorem dX12_common_38 : decode cX12_common 38 = .ok (.iload 4, 2) := by decide +kernel
theorem dX12_common_40 : decode cX12_common 40 = .ok (.aload_n 0, 1) := by decide +kernel
theorem dX12_common_41 : decode cX12_common 41 = .ok (.getfield 17, 3) := by decide +kernel
theorem dX12_common_44 : decode cX12_common 44 = .ok (.iconst 4, 1) := by decide +kernel
theorem dX12_common_45 : decode cX12_common 45 = .ok (.iload_n 1, 1) := by decide +kernel
theorem dX12_common_46 : decode cX12_common 46 = .ok (.iadd, 1) := by decide +kernel
theorem dX12_common_47 : decode cX12_common 47 = .ok (.iaload, 1) := by decide +kernel
theorem dX12_common_48 : decode cX12_common 48 = .ok (.if_icmp .ge 71, 3) := by decide +kernel
theorem dX12_common_51 : decode cX12_common 51 = .ok (.aload_n 0, 1) := by decide +kernel
theorem dX12_common_52 : decode cX12_common 52 = .ok (.iload_n 1, 1) := by decide +kernel
theorem dX12_common_53 : decode cX12_common 53 = .ok (.iload 4, 2) := by decide +kernel
theorem dX12_common_55 : decode cX12_common 55 = .ok (.iconst 1, 1) := by decide +kernel
theorem dX12_common_56 : decode cX12_common 56 = .ok (.isub, 1) := by decide +kernel
theorem dX12_common_57 : decode cX12_common 57 = .ok (.invokevirtual 197, 3) := by decide +kernel
theorem dX12_common_60 : decode cX12_common 60 = .ok (.istore 5, 2) := by decide +kernel
theorem dX12_common_62 : decode cX12_common 62 = .ok (.aload_n 0, 1) := by decide +kernel
theorem dX12_common_63 : decode cX12_common 63 = .ok (.iload_n 1, 1) := by decide +kernel
theorem dX12_common_64 : decode cX12_common 64 = .ok (.iload 4, 2) := by decide +kernel
theorem dX12_common_66 : decode cX12_common 66 = .ok (.invokevirtual 197, 3) := by decide +kernel
theorem dX12_common_69 : decode cX12_common 69 = .ok (.istore 6, 2) := by decide +kernel
theorem dX12_common_71 : decode cX12_common 71 = .ok (.iload_n 3, 1) := by decide +kernel
theorem dX12_common_72 : decode cX12_common 72 = .ok (.aload_n 0, 1) := by decide +kernel
theorem dX12_common_73 : decode cX12_common 73 = .ok (.iload_n 1, 1) := by decide +kernel
theorem dX12_common_74 : decode cX12_common 74 = .ok (.iload 5, 2) := by decide +kernel
theorem dX12_common_76 : decode cX12_common 76 = .ok (.iload 6, 2) := by decide +kernel
theorem dX12_common_78 : decode cX12_common 78 = .ok (.iload 4, 2) := by decide +kernel
theorem dX12_common_80 : decode cX12_common 80 = .ok (.invokevirtual 321, 3) := by decide +kernel
theorem dX12_common_83 : decode cX12_common 83 = .ok (.ifCond .ne 27, 3) := by decide +kernel
theorem dX12_common_86 : decode cX12_common 86 = .ok (.aload_n 0, 1) := by decide +kernel
theorem dX12_common_87 : decode cX12_common 87 = .ok (.iload_n 2, 1) := by decide +kernel
theorem dX12_common_88 : decode cX12_common 88 = .ok (.iload 5, 2) := by decide +kernel
theorem dX12_common_90 : decode cX12_common 90 = .ok (.iload 6, 2) := by decide +kernel
theorem dX12_common_92 : decode cX12_common 92 = .ok (.aload_n 0, 1) := by decide +kernel
theorem dX12_common_93 : decode cX12_common 93 = .ok (.getfield 17, 3) := by decide +kernel
theorem dX12_common_96 : decode cX12_common 96 = .ok (.iconst 4, 1) := by decide +kernel
theorem dX12_common_97 : decode cX12_common 97 = .ok (.iload_n 2, 1) := by decide +kernel
theorem dX12_common_98 : decode cX12_common 98 = .ok (.iadd, 1) := by decide +kernel
theorem dX12_common_99 : decode cX12_common 99 = .ok (.iaload, 1) := by decide +kernel
theorem dX12_common_100 : decode cX12_common 100 = .ok (.invokevirtual 321, 3) := by decide +kernel
theorem dX12_common_103 : decode cX12_common 103 = .ok (.ifCond .eq 7, 3) := by decide +kernel
theorem dX12_common_106 : decode cX12_common 106 = .ok (.iconst 1, 1) := by decide +kernel
theorem dX12_common_107 : decode cX12_common 107 = .ok (.goto 4, 3) := by decide +kernel
theorem dX12_common_110 : decode cX12_common 110 = .ok (.iconst 0, 1) := by decide +kernel
theorem dX12_common_111 : decode cX12_common 111 = .ok (.iadd, 1) := by decide +kernel
theorem dX12_common_112 : decode cX12_common 112 = .ok (.istore_n 3, 1) := by decide +kernel
theorem dX12_common_113 : decode cX12_common 113 = .ok (.iinc 4 1, 3) := by decide +kernel
theorem dX12_common_116 : decode cX12_common 116 = .ok (.goto (-78), 3) := by decide +kernel
theorem dX12_common_119 : decode cX12_common 119 = .ok (.iload_n 3, 1) := by decide +kernel
theorem dX12_common_120 : decode cX12_common 120 = .ok (.ireturn, 1) := by decide +kernel
def f_X12_common_38 (v1 : Int32) (v2 : Int32) : Nat → Int32 → Int32 → gSt → Option (Int32 × gSt)
  | 0, _, _, _ => none
  | n + 1, v3, v4, σ =>
    (gld σ 30 0 397 (4 + v1)).bind fun a47 =>
    if a47 ≤ v4 then
      some (v3, σ)
    else
      (f_X12_codeOf v1 (v4 - 1) σ).bind fun p57 =>
      (f_X12_codeOf v1 v4 p57.2).bind fun p66 =>
      (f_X12_hasPair v1 p57.1 p66.1 v4 p66.2).bind fun p80 =>
      if p80.1 = 0 then
        (gld p80.2 30 0 397 (4 + v2)).bind fun a99 =>
        (f_X12_hasPair v2 p57.1 p66.1 a99 p80.2).bind fun p100 =>
        if p100.1 = 0 then
          f_X12_common_38 v1 v2 n (v3 + 0) (v4 + 1) p100.2
        else
          f_X12_common_38 v1 v2 n (v3 + 1) (v4 + 1) p100.2
      else
        f_X12_common_38 v1 v2 n (v3 + 0) (v4 + 1) p80.2
def f_X12_common_22 (v1 : Int32) (v2 : Int32) (vs1 : Int32) (σ : gSt) : Option (Int32 × gSt) :=
  (f_X12_unless vs1 σ).bind fun p22 =>
  (f_X12_isRefused p22.1 p22.2).bind fun p25 =>
  if p25.1 = 0 then
    f_X12_common_38 v1 v2 gFuel 0 1 p25.2
  else
    some ((-1), p25.2)
def f_X12_common_21 (v1 : Int32) (v2 : Int32) (σ : gSt) : Option (Int32 × gSt) :=
  f_X12_common_22 v1 v2 0 σ
def f_X12_common (v1 : Int32) (v2 : Int32) (σ : gSt) : Option (Int32 × gSt) :=
  (f_X12_isCourse v1 σ).bind fun p3 =>
  if p3.1 = 0 then
    f_X12_common_21 v1 v2 p3.2
  else
    (f_X12_isCourse v2 p3.2).bind fun p11 =>
    if p11.1 = 0 then
      f_X12_common_21 v1 v2 p11.2
    else
      f_X12_common_22 v1 v2 1 p11.2
theorem f_X12_common_38_ok {v1 : Int32} {v2 : Int32} {r : (Int32 × gSt)}  : ∀ (n : Nat) {v3 : Int32} {v4 : Int32} {σ : gSt} {x5 x6 : Option Value}, f_X12_common_38 v1 v2 n v3 v4 σ = some r → G l w 0 41 RX12 cX12_common 7 (some .int) 2 47 (gE (some (.int r.1)) r.2) 38 [some (.ref (w.2.1 28 0)), some (.int v1), some (.int v2), some (.int v3), some (.int v4), x5, x6] [] σ := by
  intro n
  induction n with
  | zero => intro v3 v4 σ x5 x6 h; rw [f_X12_common_38] at h; cases h
  | succ n ih =>
    intro v3 v4 σ x5 x6 h
    rw [f_X12_common_38] at h
    refine g_iload dX12_common_38 rfl ?_
    refine g_aload_n dX12_common_40 rfl ?_
    refine gR_X12_17 ok_28 dX12_common_41 ?_
    refine g_iconst dX12_common_44 kc_4 ?_
    refine g_iload_n dX12_common_45 rfl ?_
    refine g_iadd dX12_common_46 ?_
    obtain ⟨a47, e47, h⟩ := obind h
    refine g_ldB e47 ok_30 rfl rfl (by decide) dX12_common_47 ?_
    refine g_icmp_ge 119 dX12_common_48 rfl (fun q => ?_) (fun q => ?_)
    · replace h := gif_t q h
      refine g_iload_n dX12_common_119 rfl ?_
      cases h
      exact g_iret dX12_common_120 rfl ⟨rfl, rfl⟩
    · replace h := gif_f q h
      refine g_aload_n dX12_common_51 rfl ?_
      refine g_iload_n dX12_common_52 rfl ?_
      refine g_iload dX12_common_53 rfl ?_
      refine g_iconst dX12_common_55 kc_1 ?_
      refine g_isub dX12_common_56 ?_
      obtain ⟨p57, e57, h⟩ := obind h
      refine g_vP2 mv_X12_197 dX12_common_57 ok_28 ⟨by decide, by decide⟩ (Nat.le_of_ble_eq_true rfl) (f_X12_codeOf_ok e57) ?_
      refine g_istore5 dX12_common_60 ?_
      refine g_aload_n dX12_common_62 rfl ?_
      refine g_iload_n dX12_common_63 rfl ?_
      refine g_iload dX12_common_64 rfl ?_
      obtain ⟨p66, e66, h⟩ := obind h
      refine g_vP2 mv_X12_197 dX12_common_66 ok_28 ⟨by decide, by decide⟩ (Nat.le_of_ble_eq_true rfl) (f_X12_codeOf_ok e66) ?_
      refine g_istore6 dX12_common_69 ?_
      refine g_iload_n dX12_common_71 rfl ?_
      refine g_aload_n dX12_common_72 rfl ?_
      refine g_iload_n dX12_common_73 rfl ?_
      refine g_iload dX12_common_74 rfl ?_
      refine g_iload dX12_common_76 rfl ?_
      refine g_iload dX12_common_78 rfl ?_
      obtain ⟨p80, e80, h⟩ := obind h
      refine g_vP4 mv_X12_321 dX12_common_80 ok_28 ⟨by decide, by decide⟩ (Nat.le_of_ble_eq_true rfl) (f_X12_hasPair_ok e80) ?_
      refine g_if_ne 110 dX12_common_83 rfl (fun q => ?_) (fun q => ?_)
      · replace h := gif_f q h
        refine g_iconst dX12_common_110 kc_0 ?_
        refine g_iadd dX12_common_111 ?_
        refine g_istore3 dX12_common_112 ?_
        refine g_inc4 kc_1 dX12_common_113 ?_
        refine g_goto 38 dX12_common_116 rfl ?_
        exact ih h
      · replace h := gif_t q h
        refine g_aload_n dX12_common_86 rfl ?_
        refine g_iload_n dX12_common_87 rfl ?_
        refine g_iload dX12_common_88 rfl ?_
        refine g_iload dX12_common_90 rfl ?_
        refine g_aload_n dX12_common_92 rfl ?_
        refine gR_X12_17 ok_28 dX12_common_93 ?_
        refine g_iconst dX12_common_96 kc_4 ?_
        refine g_iload_n dX12_common_97 rfl ?_
        refine g_iadd dX12_common_98 ?_
        obtain ⟨a99, e99, h⟩ := obind h
        refine g_ldB e99 ok_30 rfl rfl (by decide) dX12_common_99 ?_
        obtain ⟨p100, e100, h⟩ := obind h
        refine g_vP4 mv_X12_321 dX12_common_100 ok_28 ⟨by decide, by decide⟩ (Nat.le_of_ble_eq_true rfl) (f_X12_hasPair_ok e100) ?_
        refine g_if_eq 110 dX12_common_103 rfl (fun q => ?_) (fun q => ?_)
        · replace h := gif_t q h
          refine g_iconst dX12_common_110 kc_0 ?_
          refine g_iadd dX12_common_111 ?_
          refine g_istore3 dX12_common_112 ?_
          refine g_inc4 kc_1 dX12_common_113 ?_
          refine g_goto 38 dX12_common_116 rfl ?_
          exact ih h
        · replace h := gif_f q h
          refine g_iconst dX12_common_106 kc_1 ?_
          refine g_goto 111 dX12_common_107 rfl ?_
          refine g_iadd dX12_common_111 ?_
          refine g_istore3 dX12_common_112 ?_
          refine g_inc4 kc_1 dX12_common_113 ?_
          refine g_goto 38 dX12_common_116 rfl ?_
          exact ih h
theorem f_X12_common_22_ok {v1 : Int32} {v2 : Int32} {vs1 : Int32} {r : (Int32 × gSt)}  {σ : gSt} {x3 x4 x5 x6 : Option Value} (h : f_X12_common_22 v1 v2 vs1 σ = some r) : G l w 0 41 RX12 cX12_common 7 (some .int) 2 47 (gE (some (.int r.1)) r.2) 22 [some (.ref (w.2.1 28 0)), some (.int v1), some (.int v2), x3, x4, x5, x6] [.int vs1, .ref (w.2.1 28 0)] σ := by
  unfold f_X12_common_22 at h
  obtain ⟨p22, e22, h⟩ := obind h
  refine g_sP1 ms_X12_234 dX12_common_22 ⟨by decide, by decide⟩ (Nat.le_of_ble_eq_true rfl) (f_X12_unless_ok e22) ?_
  obtain ⟨p25, e25, h⟩ := obind h
  refine g_vP1 mv_X12_161 dX12_common_25 ok_28 ⟨by decide, by decide⟩ (Nat.le_of_ble_eq_true rfl) (f_X12_isRefused_ok e25) ?_
  refine g_if_eq 33 dX12_common_28 rfl (fun q => ?_) (fun q => ?_)
  · replace h := gif_t q h
    refine g_iconst dX12_common_33 kc_0 ?_
    refine g_istore3 dX12_common_34 ?_
    refine g_iconst dX12_common_35 kc_1 ?_
    refine g_istore4 dX12_common_36 ?_
    exact f_X12_common_38_ok gFuel h
  · replace h := gif_f q h
    refine g_iconst dX12_common_31 kc_m1 ?_
    cases h
    exact g_iret dX12_common_32 rfl ⟨rfl, rfl⟩
theorem f_X12_common_21_ok {v1 : Int32} {v2 : Int32} {r : (Int32 × gSt)}  {σ : gSt} {x3 x4 x5 x6 : Option Value} (h : f_X12_common_21 v1 v2 σ = some r) : G l w 0 41 RX12 cX12_common 7 (some .int) 2 47 (gE (some (.int r.1)) r.2) 21 [some (.ref (w.2.1 28 0)), some (.int v1), some (.int v2), x3, x4, x5, x6] [.ref (w.2.1 28 0)] σ := by
  unfold f_X12_common_21 at h
  refine g_iconst dX12_common_21 kc_0 ?_
  exact f_X12_common_22_ok h
theorem f_X12_common_ok {v1 : Int32} {v2 : Int32}  {σ : gSt} {r : (Int32 × gSt)} (h : f_X12_common v1 v2 σ = some r) : Mt l w 0 41 yX12_common cX12_common 7 (some .int) 2 47 [.ref (w.2.1 28 0), .int v1, .int v2] σ (gE (some (.int r.1)) r.2) := by
  unfold f_X12_common at h
  refine g_start pn_X12 rfl rfl (Nat.le_of_ble_eq_true rfl) ?_
  show G l w 0 41 RX12 cX12_common 7 (some .int) 2 47 (gE (some (.int r.1)) r.2) 0 [some (.ref (w.2.1 28 0)), some (.int v1), some (.int v2), none, none, none, none] [] σ
  refine g_aload_n dX12_common_0 rfl ?_
  refine g_aload_n dX12_common_1 rfl ?_
  refine g_iload_n dX12_common_2 rfl ?_
  obtain ⟨p3, e3, h⟩ := obind h
  refine g_vP1 mv_X12_184 dX12_common_3 ok_28 ⟨by decide, by decide⟩ (Nat.le_of_ble_eq_true rfl) (f_X12_isCourse_ok e3) ?_
  refine g_if_eq 21 dX12_common_6 rfl (fun q => ?_) (fun q => ?_)
  · replace h := gif_t q h
    exact f_X12_common_21_ok h
  · replace h := gif_f q h
    refine g_aload_n dX12_common_9 rfl ?_
    refine g_iload_n dX12_common_10 rfl ?_
    obtain ⟨p11, e11, h⟩ := obind h
    refine g_vP1 mv_X12_184 dX12_common_11 ok_28 ⟨by decide, by decide⟩ (Nat.le_of_ble_eq_true rfl) (f_X12_isCourse_ok e11) ?_
    refine g_if_eq 21 dX12_common_14 rfl (fun q => ?_) (fun q => ?_)
    · replace h := gif_t q h
      exact f_X12_common_21_ok h
    · replace h := gif_f q h
      refine g_iconst dX12_common_17 kc_1 ?_
      refine g_goto 22 dX12_common_18 rfl ?_
      exact f_X12_common_22_ok h
def f_X12_lays_k40_k30_3 (v1 : Int32) (v3 : Int32) (v4 : Int32) : Nat → Int32 → gSt → Option gSt
  | 0, _, _ => none
  | n + 1, v5, σ =>
    if v4 ≤ v5 then
      some σ
    else
      (gld σ 30 0 397 (v3 + v5)).bind fun a20 =>
      (gst σ 40 0 3970 (v1 + v5) a20).bind fun z21 =>
      f_X12_lays_k40_k30_3 v1 v3 v4 n (v5 + 1) z21
def f_X12_lays_k40_k30 (v1 : Int32) (v3 : Int32) (v4 : Int32) (σ : gSt) : Option gSt :=
  f_X12_lays_k40_k30_3 v1 v3 v4 gFuel 0 σ
theorem f_X12_lays_k40_k30_3_ok {v1 : Int32} {v3 : Int32} {v4 : Int32} {r : gSt}  : ∀ (n : Nat) {v5 : Int32} {σ : gSt} , f_X12_lays_k40_k30_3 v1 v3 v4 n v5 σ = some r → G l w 0 41 RX12 cX12_lays 6 none 0 0 (gE none r) 3 [some (.ref (w.2.1 40 0)), some (.int v1), some (.ref (w.2.1 30 0)), some (.int v3), some (.int v4), some (.int v5)] [] σ := by
  intro n
  induction n with
  | zero => intro v5 σ h; rw [f_X12_lays_k40_k30_3] at h; cases h
  | succ n ih =>
    intro v5 σ h
    rw [f_X12_lays_k40_k30_3] at h
    refine g_iload dX12_lays_3 rfl ?_
    refine g_iload dX12_lays_5 rfl ?_
    refine g_icmp_ge 28 dX12_lays_7 rfl (fun q => ?_) (fun q => ?_)
    · replace h := gif_t q h
      cases h
      exact g_vret dX12_lays_28 rfl ⟨rfl, rfl⟩
    · replace h := gif_f q h
      refine g_aload_n dX12_lays_10 rfl ?_
      refine g_iload_n dX12_lays_11 rfl ?_
      refine g_iload dX12_lays_12 rfl ?_
      refine g_iadd dX12_lays_14 ?_
      refine g_aload_n dX12_lays_15 rfl ?_
      refine g_iload_n dX12_lays_16 rfl ?_
      refine g_iload dX12_lays_17 rfl ?_
      refine g_iadd dX12_lays_19 ?_
      obtain ⟨a20, e20, h⟩ := obind h
      refine g_ldB e20 ok_30 rfl rfl (by decide) dX12_lays_20 ?_
      obtain ⟨z21, e21, h⟩ := obind h
      refine g_stB e21 ok_40 rfl rfl (by decide) dX12_lays_21 ?_
      refine g_inc5 kc_1 dX12_lays_22 ?_
      refine g_goto 3 dX12_lays_25 rfl ?_
      exact ih h
theorem f_X12_lays_k40_k30_ok {v1 : Int32} {v3 : Int32} {v4 : Int32}  {σ : gSt} {r : gSt} (h : f_X12_lays_k40_k30 v1 v3 v4 σ = some r) : Mt l w 0 41 yX12_lays cX12_lays 6 none 0 0 [.ref (w.2.1 40 0), .int v1, .ref (w.2.1 30 0), .int v3, .int v4] σ (gE none r) := by
  unfold f_X12_lays_k40_k30 at h
  refine g_start pn_X12 rfl rfl (Nat.le_of_ble_eq_true rfl) ?_
  show G l w 0 41 RX12 cX12_lays 6 none 0 0 (gE none r) 0 [some (.ref (w.2.1 40 0)), some (.int v1), some (.ref (w.2.1 30 0)), some (.int v3), some (.int v4), none] [] σ
  refine g_iconst dX12_lays_0 kc_0 ?_
  refine g_istore5 dX12_lays_1 ?_
  exact f_X12_lays_k40_k30_3_ok gFuel h
end MI
