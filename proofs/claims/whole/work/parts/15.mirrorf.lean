section MI
variable {l : Launch} {w : gWd}
theorem dX12_punchesOfAll_0 : decode cX12_punchesOfAll 0 = .ok (.iconst 0, 1) := by decide +kernel
theorem dX12_punchesOfAll_1 : decode cX12_punchesOfAll 1 = .ok (.istore_n 1, 1) := by decide +kernel
theorem dX12_punchesOfAll_2 : decode cX12_punchesOfAll 2 = .ok (.iconst 0, 1) := by decide +kernel
theorem dX12_punchesOfAll_3 : decode cX12_punchesOfAll 3 = .ok (.istore_n 2, 1) := by decide +kernel
theorem dX12_punchesOfAll_4 : decode cX12_punchesOfAll 4 = .ok (.iload_n 2, 1) := by decide +kernel
theorem dX12_punchesOfAll_5 : decode cX12_punchesOfAll 5 = .ok (.aload_n 0, 1) := by decide +kernel
theorem dX12_punchesOfAll_6 : decode cX12_punchesOfAll 6 = .ok (.getfield 17, 3) := by decide +kernel
theorem dX12_punchesOfAll_9 : decode cX12_punchesOfAll 9 = .ok (.iconst 1, 1) := by decide +kernel
theorem dX12_punchesOfAll_10 : decode cX12_punchesOfAll 10 = .ok (.iaload, 1) := by decide +kernel
theorem dX12_punchesOfAll_11 : decode cX12_punchesOfAll 11 = .ok (.if_icmp .ge 21, 3) := by decide +kernel
theorem dX12_punchesOfAll_14 : decode cX12_punchesOfAll 14 = .ok (.iload_n 1, 1) := by decide +kernel
theorem dX12_punchesOfAll_15 : decode cX12_punchesOfAll 15 = .ok (.aload_n 0, 1) := by decide +kernel
theorem dX12_punchesOfAll_16 : decode cX12_punchesOfAll 16 = .ok (.getfield 17, 3) := by decide +kernel
theorem dX12_punchesOfAll_19 : decode cX12_punchesOfAll 19 = .ok (.bipush 67, 2) := by decide +kernel
theorem dX12_punchesOfAll_21 : decode cX12_punchesOfAll 21 = .ok (.iload_n 2, 1) := by decide +kernel
theorem dX12_punchesOfAll_22 : decode cX12_punchesOfAll 22 = .ok (.iadd, 1) := by decide +kernel
theorem dX12_punchesOfAll_23 : decode cX12_punchesOfAll 23 = .ok (.iaload, 1) := by decide +kernel
theorem dX12_punchesOfAll_24 : decode cX12_punchesOfAll 24 = .ok (.iadd, 1) := by decide +kernel
theorem dX12_punchesOfAll_25 : decode cX12_punchesOfAll 25 = .ok (.istore_n 1, 1) := by decide +kernel
theorem dX12_punchesOfAll_26 : decode cX12_punchesOfAll 26 = .ok (.iinc 2 1, 3) := by decide +kernel
theorem dX12_punchesOfAll_29 : decode cX12_punchesOfAll 29 = .ok (.goto (-25), 3) := by decide +kernel
theorem dX12_punchesOfAll_32 : decode cX12_punchesOfAll 32 = .ok (.iload_n 1, 1) := by decide +kernel
theorem dX12_punchesOfAll_33 : decode cX12_punchesOfAll 33 = .ok (.ireturn, 1) := by decide +kernel
def f_X12_punchesOfAll_4  : Nat → Int32 → Int32 → gSt → Option (Int32 × gSt)
  | 0, _, _, _ => none
  | n + 1, v1, v2, σ =>
    (gld σ 30 0 397 1).bind fun a10 =>
    if a10 ≤ v2 then
      some (v1, σ)
    else
      (gld σ 30 0 397 (67 + v2)).bind fun a23 =>
      f_X12_punchesOfAll_4 n (v1 + a23) (v2 + 1) σ
def f_X12_punchesOfAll (σ : gSt) : Option (Int32 × gSt) :=
  f_X12_punchesOfAll_4 gFuel 0 0 σ
theorem f_X12_punchesOfAll_4_ok  {r : (Int32 × gSt)}  : ∀ (n : Nat) {v1 : Int32} {v2 : Int32} {σ : gSt} , f_X12_punchesOfAll_4 n v1 v2 σ = some r → G l w 0 41 RX12 cX12_punchesOfAll 3 (some .int) 0 0 (gE (some (.int r.1)) r.2) 4 [some (.ref (w.2.1 28 0)), some (.int v1), some (.int v2)] [] σ := by
  intro n
  induction n with
  | zero => intro v1 v2 σ h; rw [f_X12_punchesOfAll_4] at h; cases h
  | succ n ih =>
    intro v1 v2 σ h
    rw [f_X12_punchesOfAll_4] at h
    refine g_iload_n dX12_punchesOfAll_4 rfl ?_
    refine g_aload_n dX12_punchesOfAll_5 rfl ?_
    refine gR_X12_17 ok_28 dX12_punchesOfAll_6 ?_
    refine g_iconst dX12_punchesOfAll_9 kc_1 ?_
    obtain ⟨a10, e10, h⟩ := obind h
    refine g_ldB e10 ok_30 rfl rfl (by decide) dX12_punchesOfAll_10 ?_
    refine g_icmp_ge 32 dX12_punchesOfAll_11 rfl (fun q => ?_) (fun q => ?_)
    · replace h := gif_t q h
      refine g_iload_n dX12_punchesOfAll_32 rfl ?_
      cases h
      exact g_iret dX12_punchesOfAll_33 rfl ⟨rfl, rfl⟩
    · replace h := gif_f q h
      refine g_iload_n dX12_punchesOfAll_14 rfl ?_
      refine g_aload_n dX12_punchesOfAll_15 rfl ?_
      refine gR_X12_17 ok_28 dX12_punchesOfAll_16 ?_
      refine g_bipush dX12_punchesOfAll_19 kb_67 ?_
      refine g_iload_n dX12_punchesOfAll_21 rfl ?_
      refine g_iadd dX12_punchesOfAll_22 ?_
      obtain ⟨a23, e23, h⟩ := obind h
      refine g_ldB e23 ok_30 rfl rfl (by decide) dX12_punchesOfAll_23 ?_
      refine g_iadd dX12_punchesOfAll_24 ?_
      refine g_istore1 dX12_punchesOfAll_25 ?_
      refine g_inc2 kc_1 dX12_punchesOfAll_26 ?_
      refine g_goto 4 dX12_punchesOfAll_29 rfl ?_
      exact ih h
theorem f_X12_punchesOfAll_ok   {σ : gSt} {r : (Int32 × gSt)} (h : f_X12_punchesOfAll σ = some r) : Mt l w 0 41 yX12_punchesOfAll cX12_punchesOfAll 3 (some .int) 0 0 [.ref (w.2.1 28 0)] σ (gE (some (.int r.1)) r.2) := by
  unfold f_X12_punchesOfAll at h
  refine g_start pn_X12 rfl rfl (Nat.le_of_ble_eq_true rfl) ?_
  show G l w 0 41 RX12 cX12_punchesOfAll 3 (some .int) 0 0 (gE (some (.int r.1)) r.2) 0 [some (.ref (w.2.1 28 0)), none, none] [] σ
  refine g_iconst dX12_punchesOfAll_0 kc_0 ?_
  refine g_istore1 dX12_punchesOfAll_1 ?_
  refine g_iconst dX12_punchesOfAll_2 kc_0 ?_
  refine g_istore2 dX12_punchesOfAll_3 ?_
  exact f_X12_punchesOfAll_4_ok gFuel h
theorem dX12_about_0 : decode cX12_about 0 = .ok (.aload_n 0, 1) := by decide +kernel
theorem dX12_about_1 : decode cX12_about 1 = .ok (.aload_n 0, 1) := by decide +kernel
theorem dX12_about_2 : decode cX12_about 2 = .ok (.getfield 173, 3) := by decide +kernel
theorem dX12_about_5 : decode cX12_about 5 = .ok (.ifCond .eq 17, 3) := by decide +kernel
theorem dX12_about_8 : decode cX12_about 8 = .ok (.iload_n 1, 1) := by decide +kernel
theorem dX12_about_9 : decode cX12_about 9 = .ok (.iconst 0, 1) := by decide +kernel
theorem dX12_about_10 : decode cX12_about 10 = .ok (.bipush 6, 2) := by decide +kernel
theorem dX12_about_12 : decode cX12_about 12 = .ok (.invokestatic 79, 3) := by decide +kernel
theorem dX12_about_15 : decode cX12_about 15 = .ok (.ifCond .eq 7, 3) := by decide +kernel
theorem dX12_about_18 : decode cX12_about 18 = .ok (.iconst 1, 1) := by decide +kernel
theorem dX12_about_19 : decode cX12_about 19 = .ok (.goto 4, 3) := by decide +kernel
theorem dX12_about_22 : decode cX12_about 22 = .ok (.iconst 0, 1) := by decide +kernel
theorem dX12_about_23 : decode cX12_about 23 = .ok (.invokestatic 234, 3) := by decide +kernel
theorem dX12_about_26 : decode cX12_about 26 = .ok (.invokevirtual 161, 3) := by decide +kernel
theorem dX12_about_29 : decode cX12_about 29 = .ok (.ifCond .eq 5, 3) := by decide +kernel
theorem dX12_about_32 : decode cX12_about 32 = .ok (.iconst (-1), 1) := by decide +kernel
theorem dX12_about_33 : decode cX12_about 33 = .ok (.ireturn, 1) := by decide +kernel
theorem dX12_about_34 : decode cX12_about 34 = .ok (.iload_n 1, 1) := by decide +kernel
theorem dX12_about_35 : decode cX12_about 35 = .ok (.tableswitch 76 0 5 #[37, 44, 51, 58, 65, 70], 37) := by decide +kernel
theorem dX12_about_72 : decode cX12_about 72 = .ok (.aload_n 0, 1) := by decide +kernel
theorem dX12_about_73 : decode cX12_about 73 = .ok (.getfield 17, 3) := by decide +kernel
theorem dX12_about_76 : decode cX12_about 76 = .ok (.iconst 0, 1) := by decide +kernel
theorem dX12_about_77 : decode cX12_about 77 = .ok (.iaload, 1) := by decide +kernel
theorem dX12_about_78 : decode cX12_about 78 = .ok (.ireturn, 1) := by decide +kernel
theorem dX12_about_79 : decode cX12_about 79 = .ok (.aload_n 0, 1) := by decide +kernel
theorem dX12_about_80 : decode cX12_about 80 = .ok (.getfield 17, 3) := by decide +kernel
theorem dX12_about_83 : decode cX12_about 83 = .ok (.iconst 1, 1) := by decide +kernel
theorem dX12_about_84 : decode cX12_about 84 = .ok (.iaload, 1) := by decide +kernel
theorem dX12_about_85 : decode cX12_about 85 = .ok (.ireturn, 1) := by decide +kernel
theorem dX12_about_86 : decode cX12_about 86 = .ok (.aload_n 0, 1) := by decide +kernel
theorem dX12_about_87 : decode cX12_about 87 = .ok (.getfield 17, 3) := by decide +kernel
theorem dX12_about_90 : decode cX12_about 90 = .ok (.iconst 2, 1) := by decide +kernel
theorem dX12_about_91 : decode cX12_about 91 = .ok (.iaload, 1) := by decide +kernel
theorem dX12_about_92 : decode cX12_about 92 = .ok (.ireturn, 1) := by decide +kernel
theorem dX12_about_93 : decode cX12_about 93 = .ok (.aload_n 0, 1) := by decide +kernel
theorem dX12_about_94 : decode cX12_about 94 = .ok (.getfield 17, 3) := by decide +kernel
theorem dX12_about_97 : decode cX12_about 97 = .ok (.iconst 3, 1) := by decide +kernel
theorem dX12_about_98 : decode cX12_about 98 = .ok (.iaload, 1) := by decide +kernel
theorem dX12_about_99 : decode cX12_about 99 = .ok (.ireturn, 1) := by decide +kernel
theorem dX12_about_100 : decode cX12_about 100 = .ok (.aload_n 0, 1) := by decide +kernel
theorem dX12_about_101 : decode cX12_about 101 = .ok (.invokevirtual 237, 3) := by decide +kernel
theorem dX12_about_104 : decode cX12_about 104 = .ok (.ireturn, 1) := by decide +kernel
theorem dX12_about_105 : decode cX12_about 105 = .ok (.aload_n 0, 1) := by decide +kernel
theorem dX12_about_106 : decode cX12_about 106 = .ok (.iconst (-1), 1) := by decide +kernel
theorem dX12_about_107 : decode cX12_about 107 = .ok (.invokevirtual 240, 3) := by decide +kernel
theorem dX12_about_110 : decode cX12_about 110 = .ok (.ireturn, 1) := by decide +kernel
theorem dX12_about_111 : decode cX12_about 111 = .ok (.aload_n 0, 1) := by decide +kernel
theorem dX12_about_112 : decode cX12_about 112 = .ok (.getfield 177, 3) := by decide +kernel
theorem dX12_about_115 : decode cX12_about 115 = .ok (.ireturn, 1) := by decide +kernel
def f_X12_about_23 (v1 : Int32) (vs1 : Int32) (σ : gSt) : Option (Int32 × gSt) :=
  (f_X12_unless vs1 σ).bind fun p23 =>
  (f_X12_isRefused p23.1 p23.2).bind fun p26 =>
  if p26.1 = 0 then
    if v1 = 0 then
      (gld p26.2 30 0 397 0).bind fun a77 =>
      some (a77, p26.2)
    else
    if v1 = 1 then
      (gld p26.2 30 0 397 1).bind fun a84 =>
      some (a84, p26.2)
    else
    if v1 = 2 then
      (gld p26.2 30 0 397 2).bind fun a91 =>
      some (a91, p26.2)
    else
    if v1 = 3 then
      (gld p26.2 30 0 397 3).bind fun a98 =>
      some (a98, p26.2)
    else
    if v1 = 4 then
      (f_X12_punchesOfAll p26.2).bind fun p101 =>
      some (p101.1, p101.2)
    else
    if v1 = 5 then
      (f_X12_validOf (-1) p26.2).bind fun p107 =>
      some (p107.1, p107.2)
    else
    some ((p26.2 28 0 30), p26.2)
  else
    some ((-1), p26.2)
def f_X12_about_22 (v1 : Int32) (σ : gSt) : Option (Int32 × gSt) :=
  f_X12_about_23 v1 0 σ
def f_X12_about (v1 : Int32) (σ : gSt) : Option (Int32 × gSt) :=
  if (σ 28 0 6) = 0 then
    f_X12_about_22 v1 σ
  else
    (f_X12_in v1 0 6 σ).bind fun p12 =>
    if p12.1 = 0 then
      f_X12_about_22 v1 p12.2
    else
      f_X12_about_23 v1 1 p12.2
theorem f_X12_about_23_ok {v1 : Int32} {vs1 : Int32} {r : (Int32 × gSt)}  {σ : gSt}  (h : f_X12_about_23 v1 vs1 σ = some r) : G l w 0 41 RX12 cX12_about 2 (some .int) 5 117 (gE (some (.int r.1)) r.2) 23 [some (.ref (w.2.1 28 0)), some (.int v1)] [.int vs1, .ref (w.2.1 28 0)] σ := by
  unfold f_X12_about_23 at h
  obtain ⟨p23, e23, h⟩ := obind h
  refine g_sP1 ms_X12_234 dX12_about_23 ⟨by decide, by decide⟩ (Nat.le_of_ble_eq_true rfl) (f_X12_unless_ok e23) ?_
  obtain ⟨p26, e26, h⟩ := obind h
  refine g_vP1 mv_X12_161 dX12_about_26 ok_28 ⟨by decide, by decide⟩ (Nat.le_of_ble_eq_true rfl) (f_X12_isRefused_ok e26) ?_
  refine g_if_eq 34 dX12_about_29 rfl (fun q => ?_) (fun q => ?_)
  · replace h := gif_t q h
    refine g_iload_n dX12_about_34 rfl ?_
    by_cases q0 : v1 = 0
    · replace h := gif_t q0 h
      refine g_tableIn (off := 37) 72 dX12_about_35 (by rw [q0]; decide) (by rw [q0]; decide) (by rw [q0]; rfl) rfl ?_
      refine g_aload_n dX12_about_72 rfl ?_
      refine gR_X12_17 ok_28 dX12_about_73 ?_
      refine g_iconst dX12_about_76 kc_0 ?_
      obtain ⟨a77, e77, h⟩ := obind h
      refine g_ldB e77 ok_30 rfl rfl (by decide) dX12_about_77 ?_
      cases h
      exact g_iret dX12_about_78 rfl ⟨rfl, rfl⟩
    replace h := gif_f q0 h
    by_cases q1 : v1 = 1
    · replace h := gif_t q1 h
      refine g_tableIn (off := 44) 79 dX12_about_35 (by rw [q1]; decide) (by rw [q1]; decide) (by rw [q1]; rfl) rfl ?_
      refine g_aload_n dX12_about_79 rfl ?_
      refine gR_X12_17 ok_28 dX12_about_80 ?_
      refine g_iconst dX12_about_83 kc_1 ?_
      obtain ⟨a84, e84, h⟩ := obind h
      refine g_ldB e84 ok_30 rfl rfl (by decide) dX12_about_84 ?_
      cases h
      exact g_iret dX12_about_85 rfl ⟨rfl, rfl⟩
    replace h := gif_f q1 h
    by_cases q2 : v1 = 2
    · replace h := gif_t q2 h
      refine g_tableIn (off := 51) 86 dX12_about_35 (by rw [q2]; decide) (by rw [q2]; decide) (by rw [q2]; rfl) rfl ?_
      refine g_aload_n dX12_about_86 rfl ?_
      refine gR_X12_17 ok_28 dX12_about_87 ?_
      refine g_iconst dX12_about_90 kc_2 ?_
      obtain ⟨a91, e91, h⟩ := obind h
      refine g_ldB e91 ok_30 rfl rfl (by decide) dX12_about_91 ?_
      cases h
      exact g_iret dX12_about_92 rfl ⟨rfl, rfl⟩
    replace h := gif_f q2 h
    by_cases q3 : v1 = 3
    · replace h := gif_t q3 h
      refine g_tableIn (off := 58) 93 dX12_about_35 (by rw [q3]; decide) (by rw [q3]; decide) (by rw [q3]; rfl) rfl ?_
      refine g_aload_n dX12_about_93 rfl ?_
      refine gR_X12_17 ok_28 dX12_about_94 ?_
      refine g_iconst dX12_about_97 kc_3 ?_
      obtain ⟨a98, e98, h⟩ := obind h
      refine g_ldB e98 ok_30 rfl rfl (by decide) dX12_about_98 ?_
      cases h
      exact g_iret dX12_about_99 rfl ⟨rfl, rfl⟩
    replace h := gif_f q3 h
    by_cases q4 : v1 = 4
    · replace h := gif_t q4 h
      refine g_tableIn (off := 65) 100 dX12_about_35 (by rw [q4]; decide) (by rw [q4]; decide) (by rw [q4]; rfl) rfl ?_
      refine g_aload_n dX12_about_100 rfl ?_
      obtain ⟨p101, e101, h⟩ := obind h
      refine g_vP0 mv_X12_237 dX12_about_101 ok_28 ⟨by decide, by decide⟩ (Nat.le_of_ble_eq_true rfl) (f_X12_punchesOfAll_ok e101) ?_
      cases h
      exact g_iret dX12_about_104 rfl ⟨rfl, rfl⟩
    replace h := gif_f q4 h
    by_cases q5 : v1 = 5
    · replace h := gif_t q5 h
      refine g_tableIn (off := 70) 105 dX12_about_35 (by rw [q5]; decide) (by rw [q5]; decide) (by rw [q5]; rfl) rfl ?_
      refine g_aload_n dX12_about_105 rfl ?_
      refine g_iconst dX12_about_106 kc_m1 ?_
      obtain ⟨p107, e107, h⟩ := obind h
      refine g_vP1 mv_X12_240 dX12_about_107 ok_28 ⟨by decide, by decide⟩ (Nat.le_of_ble_eq_true rfl) (f_X12_validOf_ok e107) ?_
      cases h
      exact g_iret dX12_about_110 rfl ⟨rfl, rfl⟩
    replace h := gif_f q5 h
    refine g_tableOut 111 dX12_about_35 (tabOut (b := 5) (by decide) (fun j hj => by rcases (show j = 0 ∨ j = 1 ∨ j = 2 ∨ j = 3 ∨ j = 4 ∨ j = 5 by omega) with rfl | rfl | rfl | rfl | rfl | rfl <;> assumption)) rfl ?_
    refine g_aload_n dX12_about_111 rfl ?_
    refine gI_X12_177 ok_28 dX12_about_112 ?_
    cases h
    exact g_iret dX12_about_115 rfl ⟨rfl, rfl⟩
  · replace h := gif_f q h
    refine g_iconst dX12_about_32 kc_m1 ?_
    cases h
    exact g_iret dX12_about_33 rfl ⟨rfl, rfl⟩
theorem f_X12_about_22_ok {v1 : Int32} {r : (Int32 × gSt)}  {σ : gSt}  (h : f_X12_about_22 v1 σ = some r) : G l w 0 41 RX12 cX12_about 2 (some .int) 5 117 (gE (some (.int r.1)) r.2) 22 [some (.ref (w.2.1 28 0)), some (.int v1)] [.ref (w.2.1 28 0)] σ := by
  unfold f_X12_about_22 at h
  refine g_iconst dX12_about_22 kc_0 ?_
  exact f_X12_about_23_ok h
theorem f_X12_about_ok {v1 : Int32}  {σ : gSt} {r : (Int32 × gSt)} (h : f_X12_about v1 σ = some r) : Mt l w 0 41 yX12_about cX12_about 2 (some .int) 5 117 [.ref (w.2.1 28 0), .int v1] σ (gE (some (.int r.1)) r.2) := by
  unfold f_X12_about at h
  refine g_start pn_X12 rfl rfl (Nat.le_of_ble_eq_true rfl) ?_
  show G l w 0 41 RX12 cX12_about 2 (some .int) 5 117 (gE (some (.int r.1)) r.2) 0 [some (.ref (w.2.1 28 0)), some (.int v1)] [] σ
  refine g_aload_n dX12_about_0 rfl ?_
  refine g_aload_n dX12_about_1 rfl ?_
  refine gI_X12_173 ok_28 dX12_about_2 ?_
  refine g_if_eq 22 dX12_about_5 rfl (fun q => ?_) (fun q => ?_)
  · replace h := gif_t q h
    exact f_X12_about_22_ok h
  · replace h := gif_f q h
    refine g_iload_n dX12_about_8 rfl ?_
    refine g_iconst dX12_about_9 kc_0 ?_
    refine g_bipush dX12_about_10 kb_6 ?_
    obtain ⟨p12, e12, h⟩ := obind h
    refine g_sP3 ms_X12_79 dX12_about_12 ⟨by decide, by decide⟩ (Nat.le_of_ble_eq_true rfl) (f_X12_in_ok e12) ?_
    refine g_if_eq 22 dX12_about_15 rfl (fun q => ?_) (fun q => ?_)
    · replace h := gif_t q h
      exact f_X12_about_22_ok h
    · replace h := gif_f q h
      refine g_iconst dX12_about_18 kc_1 ?_
      refine g_goto 23 dX12_about_19 rfl ?_
      exact f_X12_about_23_ok h
theorem dX12_course_0 : decode cX12_course 0 = .ok (.aload_n 0, 1) := by decide +kernel
theorem dX12_course_1 : decode cX12_course 1 = .ok (.aload_n 0, 1) := by decide +kernel
theorem dX12_course_2 : decode cX12_course 2 = .ok (.iload_n 1, 1) := by decide +kernel
theorem dX12_course_3 : decode cX12_course 3 = .ok (.invokevirtual 184, 3) := by decide +kernel
theorem dX12_course_6 : decode cX12_course 6 = .ok (.ifCond .eq 16, 3) := by decide +kernel
theorem dX12_course_9 : decode cX12_course 9 = .ok (.iload_n 2, 1) := by decide +kernel
theorem dX12_course_10 : decode cX12_course 10 = .ok (.iconst 0, 1) := by decide +kernel
theorem dX12_course_11 : decode cX12_course 11 = .ok (.iconst 4, 1) := by decide +kernel
theorem dX12_course_12 : decode cX12_course 12 = .ok (.invokestatic 79, 3) := by decide +kernel
theorem dX12_course_15 : decode cX12_course 15 = .ok (.ifCond .eq 7, 3) := by decide +kernel
theorem dX12_course_18 : decode cX12_course 18 = .ok (.iconst 1, 1) := by decide +kernel
theorem dX12_course_19 : decode cX12_course 19 = .ok (.goto 4, 3) := by decide +kernel
theorem dX12_course_22 : decode cX12_course 22 = .ok (.iconst 0, 1) := by decide +kernel
theorem dX12_course_23 : decode cX12_course 23 = .ok (.invokestatic 234, 3) := by decide +kernel
theorem dX12_course_26 : decode cX12_course 26 = .ok (.invokevirtual 161, 3) := by decide +kernel
theorem dX12_course_29 : decode cX12_course 29 = .ok (.ifCond .eq 5, 3) := by decide +kernel
theorem dX12_course_32 : decode cX12_course 32 = .ok (.iconst (-1), 1) := by decide +kernel
theorem dX12_course_33 : decode cX12_course 33 = .ok (.ireturn, 1) := by decide +kernel
theorem dX12_course_34 : decode cX12_course 34 = .ok (.iload_n 2, 1) := by decide +kernel
theorem dX12_course_35 : decode cX12_course 35 = .ok (.tableswitch 56 0 3 #[29, 38, 44, 50], 29) := by decide +kernel
theorem dX12_course_64 : decode cX12_course 64 = .ok (.aload_n 0, 1) := by decide +kernel
theorem dX12_course_65 : decode cX12_course 65 = .ok (.getfield 17, 3) := by decide +kernel
theorem dX12_course_68 : decode cX12_course 68 = .ok (.iconst 4, 1) := by decide +kernel
theorem dX12_course_69 : decode cX12_course 69 = .ok (.iload_n 1, 1) := by decide +kernel
theorem dX12_course_70 : decode cX12_course 70 = .ok (.iadd, 1) := by decide +kernel
theorem dX12_course_71 : decode cX12_course 71 = .ok (.iaload, 1) := by decide +kernel
theorem dX12_course_72 : decode cX12_course 72 = .ok (.ireturn, 1) := by decide +kernel
theorem dX12_course_73 : decode cX12_course 73 = .ok (.aload_n 0, 1) := by decide +kernel
theorem dX12_course_74 : decode cX12_course 74 = .ok (.iload_n 1, 1) := by decide +kernel
theorem dX12_course_75 : decode cX12_course 75 = .ok (.invokevirtual 243, 3) := by decide +kernel
theorem dX12_course_78 : decode cX12_course 78 = .ok (.ireturn, 1) := by decide +kernel
theorem dX12_course_79 : decode cX12_course 79 = .ok (.aload_n 0, 1) := by decide +kernel
theorem dX12_course_80 : decode cX12_course 80 = .ok (.iload_n 1, 1) := by decide +kernel
theorem dX12_course_81 : decode cX12_course 81 = .ok (.invokevirtual 240, 3) := by decide +kernel
theorem dX12_course_84 : decode cX12_course 84 = .ok (.ireturn, 1) := by decide +kernel
theorem dX12_course_85 : decode cX12_course 85 = .ok (.aload_n 0, 1) := by decide +kernel
theorem dX12_course_86 : decode cX12_course 86 = .ok (.iload_n 1, 1) := by decide +kernel
theorem dX12_course_87 : decode cX12_course 87 = .ok (.invokevirtual 246, 3) := by decide +kernel
theorem dX12_course_90 : decode cX12_course 90 = .ok (.ireturn, 1) := by decide +kernel
theorem dX12_course_91 : decode cX12_course 91 = .ok (.aload_n 0, 1) := by decide +kernel
theorem dX12_course_92 : decode cX12_course 92 = .ok (.iload_n 1, 1) := by decide +kernel
theorem dX12_course_93 : decode cX12_course 93 = .ok (.invokevirtual 249, 3) := by decide +kernel
theorem dX12_course_96 : decode cX12_course 96 = .ok (.ireturn, 1) := by decide +kernel
def f_X12_course_23 (v1 : Int32) (v2 : Int32) (vs1 : Int32) (σ : gSt) : Option (Int32 × gSt) :=
  (f_X12_unless vs1 σ).bind fun p23 =>
  (f_X12_isRefused p23.1 p23.2).bind fun p26 =>
  if p26.1 = 0 then
    if v2 = 0 then
      (gld p26.2 30 0 397 (4 + v1)).bind fun a71 =>
      some (a71, p26.2)
    else
    if v2 = 1 then
      (f_X12_runnersOf v1 p26.2).bind fun p75 =>
      some (p75.1, p75.2)
    else
    if v2 = 2 then
      (f_X12_validOf v1 p26.2).bind fun p81 =>
      some (p81.1, p81.2)
    else
    if v2 = 3 then
      (f_X12_idealOf v1 p26.2).bind fun p87 =>
      some (p87.1, p87.2)
    else
    (f_X12_leastTotal v1 p26.2).bind fun p93 =>
    some (p93.1, p93.2)
  else
    some ((-1), p26.2)
def f_X12_course_22 (v1 : Int32) (v2 : Int32) (σ : gSt) : Option (Int32 × gSt) :=
  f_X12_course_23 v1 v2 0 σ
def f_X12_course (v1 : Int32) (v2 : Int32) (σ : gSt) : Option (Int32 × gSt) :=
  (f_X12_isCourse v1 σ).bind fun p3 =>
  if p3.1 = 0 then
    f_X12_course_22 v1 v2 p3.2
  else
    (f_X12_in v2 0 4 p3.2).bind fun p12 =>
    if p12.1 = 0 then
      f_X12_course_22 v1 v2 p12.2
    else
      f_X12_course_23 v1 v2 1 p12.2
theorem f_X12_course_23_ok {v1 : Int32} {v2 : Int32} {vs1 : Int32} {r : (Int32 × gSt)}  {σ : gSt}  (h : f_X12_course_23 v1 v2 vs1 σ = some r) : G l w 0 41 RX12 cX12_course 3 (some .int) 8 194 (gE (some (.int r.1)) r.2) 23 [some (.ref (w.2.1 28 0)), some (.int v1), some (.int v2)] [.int vs1, .ref (w.2.1 28 0)] σ := by
  unfold f_X12_course_23 at h
  obtain ⟨p23, e23, h⟩ := obind h
  refine g_sP1 ms_X12_234 dX12_course_23 ⟨by decide, by decide⟩ (Nat.le_of_ble_eq_true rfl) (f_X12_unless_ok e23) ?_
  obtain ⟨p26, e26, h⟩ := obind h
  refine g_vP1 mv_X12_161 dX12_course_26 ok_28 ⟨by decide, by decide⟩ (Nat.le_of_ble_eq_true rfl) (f_X12_isRefused_ok e26) ?_
  refine g_if_eq 34 dX12_course_29 rfl (fun q => ?_) (fun q => ?_)
  · replace h := gif_t q h
    refine g_iload_n dX12_course_34 rfl ?_
    by_cases q0 : v2 = 0
    · replace h := gif_t q0 h
      refine g_tableIn (off := 29) 64 dX12_course_35 (by rw [q0]; decide) (by rw [q0]; decide) (by rw [q0]; rfl) rfl ?_
      refine g_aload_n dX12_course_64 rfl ?_
      refine gR_X12_17 ok_28 dX12_course_65 ?_
      refine g_iconst dX12_course_68 kc_4 ?_
      refine g_iload_n dX12_course_69 rfl ?_
      refine g_iadd dX12_course_70 ?_
      obtain ⟨a71, e71, h⟩ := obind h
      refine g_ldB e71 ok_30 rfl rfl (by decide) dX12_course_71 ?_
      cases h
      exact g_iret dX12_course_72 rfl ⟨rfl, rfl⟩
    replace h := gif_f q0 h
    by_cases q1 : v2 = 1
    · replace h := gif_t q1 h
      refine g_tableIn (off := 38) 73 dX12_course_35 (by rw [q1]; decide) (by rw [q1]; decide) (by rw [q1]; rfl) rfl ?_
      refine g_aload_n dX12_course_73 rfl ?_
      refine g_iload_n dX12_course_74 rfl ?_
      obtain ⟨p75, e75, h⟩ := obind h
      refine g_vP1 mv_X12_243 dX12_course_75 ok_28 ⟨by decide, by decide⟩ (Nat.le_of_ble_eq_true rfl) (f_X12_runnersOf_ok e75) ?_
      cases h
      exact g_iret dX12_course_78 rfl ⟨rfl, rfl⟩
    replace h := gif_f q1 h
    by_cases q2 : v2 = 2
    · replace h := gif_t q2 h
      refine g_tableIn (off := 44) 79 dX12_course_35 (by rw [q2]; decide) (by rw [q2]; decide) (by rw [q2]; rfl) rfl ?_
      refine g_aload_n dX12_course_79 rfl ?_
      refine g_iload_n dX12_course_80 rfl ?_
      obtain ⟨p81, e81, h⟩ := obind h
      refine g_vP1 mv_X12_240 dX12_course_81 ok_28 ⟨by decide, by decide⟩ (Nat.le_of_ble_eq_true rfl) (f_X12_validOf_ok e81) ?_
      cases h
      exact g_iret dX12_course_84 rfl ⟨rfl, rfl⟩
    replace h := gif_f q2 h
    by_cases q3 : v2 = 3
    · replace h := gif_t q3 h
      refine g_tableIn (off := 50) 85 dX12_course_35 (by rw [q3]; decide) (by rw [q3]; decide) (by rw [q3]; rfl) rfl ?_
      refine g_aload_n dX12_course_85 rfl ?_
      refine g_iload_n dX12_course_86 rfl ?_
      obtain ⟨p87, e87, h⟩ := obind h
      refine g_vP1 mv_X12_246 dX12_course_87 ok_28 ⟨by decide, by decide⟩ (Nat.le_of_ble_eq_true rfl) (f_X12_idealOf_ok e87) ?_
      cases h
      exact g_iret dX12_course_90 rfl ⟨rfl, rfl⟩
    replace h := gif_f q3 h
    refine g_tableOut 91 dX12_course_35 (tabOut (b := 3) (by decide) (fun j hj => by rcases (show j = 0 ∨ j = 1 ∨ j = 2 ∨ j = 3 by omega) with rfl | rfl | rfl | rfl <;> assumption)) rfl ?_
    refine g_aload_n dX12_course_91 rfl ?_
    refine g_iload_n dX12_course_92 rfl ?_
    obtain ⟨p93, e93, h⟩ := obind h
    refine g_vP1 mv_X12_249 dX12_course_93 ok_28 ⟨by decide, by decide⟩ (Nat.le_of_ble_eq_true rfl) (f_X12_leastTotal_ok e93) ?_
    cases h
    exact g_iret dX12_course_96 rfl ⟨rfl, rfl⟩
  · replace h := gif_f q h
    refine g_iconst dX12_course_32 kc_m1 ?_
    cases h
    exact g_iret dX12_course_33 rfl ⟨rfl, rfl⟩
theorem f_X12_course_22_ok {v1 : Int32} {v2 : Int32} {r : (Int32 × gSt)}  {σ : gSt}  (h : f_X12_course_22 v1 v2 σ = some r) : G l w 0 41 RX12 cX12_course 3 (some .int) 8 194 (gE (some (.int r.1)) r.2) 22 [some (.ref (w.2.1 28 0)), some (.int v1), some (.int v2)] [.ref (w.2.1 28 0)] σ := by
  unfold f_X12_course_22 at h
  refine g_iconst dX12_course_22 kc_0 ?_
  exact f_X12_course_23_ok h
theorem f_X12_course_ok {v1 : Int32} {v2 : Int32}  {σ : gSt} {r : (Int32 × gSt)} (h : f_X12_course v1 v2 σ = some r) : Mt l w 0 41 yX12_course cX12_course 3 (some .int) 8 194 [.ref (w.2.1 28 0), .int v1, .int v2] σ (gE (some (.int r.1)) r.2) := by
  unfold f_X12_course at h
  refine g_start pn_X12 rfl rfl (Nat.le_of_ble_eq_true rfl) ?_
  show G l w 0 41 RX12 cX12_course 3 (some .int) 8 194 (gE (some (.int r.1)) r.2) 0 [some (.ref (w.2.1 28 0)), some (.int v1), some (.int v2)] [] σ
  refine g_aload_n dX12_course_0 rfl ?_
  refine g_aload_n dX12_course_1 rfl ?_
  refine g_iload_n dX12_course_2 rfl ?_
  obtain ⟨p3, e3, h⟩ := obind h
  refine g_vP1 mv_X12_184 dX12_course_3 ok_28 ⟨by decide, by decide⟩ (Nat.le_of_ble_eq_true rfl) (f_X12_isCourse_ok e3) ?_
  refine g_if_eq 22 dX12_course_6 rfl (fun q => ?_) (fun q => ?_)
  · replace h := gif_t q h
    exact f_X12_course_22_ok h
  · replace h := gif_f q h
    refine g_iload_n dX12_course_9 rfl ?_
    refine g_iconst dX12_course_10 kc_0 ?_
    refine g_iconst dX12_course_11 kc_4 ?_
    obtain ⟨p12, e12, h⟩ := obind h
    refine g_sP3 ms_X12_79 dX12_course_12 ⟨by decide, by decide⟩ (Nat.le_of_ble_eq_true rfl) (f_X12_in_ok e12) ?_
    refine g_if_eq 22 dX12_course_15 rfl (fun q => ?_) (fun q => ?_)
    · replace h := gif_t q h
      exact f_X12_course_22_ok h
    · replace h := gif_f q h
      refine g_iconst dX12_course_18 kc_1 ?_
      refine g_goto 23 dX12_course_19 rfl ?_
      exact f_X12_course_23_ok h
theorem dX12_code_0 : decode cX12_code 0 = .ok (.aload_n 0, 1) := by decide +kernel
theorem dX12_code_1 : decode cX12_code 1 = .ok (.aload_n 0, 1) := by decide +kernel
theorem dX12_code_2 : decode cX12_code 2 = .ok (.iload_n 1, 1) := by decide +kernel
theorem dX12_code_3 : decode cX12_code 3 = .ok (.iload_n 2, 1) := by decide +kernel
theorem dX12_code_4 : decode cX12_code 4 = .ok (.invokevirtual 252, 3) := by decide +kernel
theorem dX12_code_7 : decode cX12_code 7 = .ok (.invokestatic 234, 3) := by decide +kernel
theorem dX12_code_10 : decode cX12_code 10 = .ok (.invokevirtual 161, 3) := by decide +kernel
theorem dX12_code_13 : decode cX12_code 13 = .ok (.ifCond .eq 7, 3) := by decide +kernel
theorem dX12_code_16 : decode cX12_code 16 = .ok (.iconst (-1), 1) := by decide +kernel
theorem dX12_code_17 : decode cX12_code 17 = .ok (.goto 9, 3) := by decide +kernel
theorem dX12_code_20 : decode cX12_code 20 = .ok (.aload_n 0, 1) := by decide +kernel
theorem dX12_code_21 : decode cX12_code 21 = .ok (.iload_n 1, 1) := by decide +kernel
theorem dX12_code_22 : decode cX12_code 22 = .ok (.iload_n 2, 1) := by decide +kernel
theorem dX12_code_23 : decode cX12_code 23 = .ok (.invokevirtual 197, 3) := by decide +kernel
theorem dX12_code_26 : decode cX12_code 26 = .ok (.ireturn, 1) := by decide +kernel
def f_X12_code (v1 : Int32) (v2 : Int32) (σ : gSt) : Option (Int32 × gSt) :=
  (f_X12_isControl v1 v2 σ).bind fun p4 =>
  (f_X12_unless p4.1 p4.2).bind fun p7 =>
  (f_X12_isRefused p7.1 p7.2).bind fun p10 =>
  if p10.1 = 0 then
    (f_X12_codeOf v1 v2 p10.2).bind fun p23 =>
    some (p23.1, p23.2)
  else
    some ((-1), p10.2)
theorem f_X12_code_ok {v1 : Int32} {v2 : Int32}  {σ : gSt} {r : (Int32 × gSt)} (h : f_X12_code v1 v2 σ = some r) : Mt l w 0 41 yX12_code cX12_code 3 (some .int) 3 65 [.ref (w.2.1 28 0), .int v1, .int v2] σ (gE (some (.int r.1)) r.2) := by
  unfold f_X12_code at h
  refine g_start pn_X12 rfl rfl (Nat.le_of_ble_eq_true rfl) ?_
  show G l w 0 41 RX12 cX12_code 3 (some .int) 3 65 (gE (some (.int r.1)) r.2) 0 [some (.ref (w.2.1 28 0)), some (.int v1), some (.int v2)] [] σ
  refine g_aload_n dX12_code_0 rfl ?_
  refine g_aload_n dX12_code_1 rfl ?_
  refine g_iload_n dX12_code_2 rfl ?_
  refine g_iload_n dX12_code_3 rfl ?_
  obtain ⟨p4, e4, h⟩ := obind h
  refine g_vP2 mv_X12_252 dX12_code_4 ok_28 ⟨by decide, by decide⟩ (Nat.le_of_ble_eq_true rfl) (f_X12_isControl_ok e4) ?_
  obtain ⟨p7, e7, h⟩ := obind h
  refine g_sP1 ms_X12_234 dX12_code_7 ⟨by decide, by decide⟩ (Nat.le_of_ble_eq_true rfl) (f_X12_unless_ok e7) ?_
  obtain ⟨p10, e10, h⟩ := obind h
  refine g_vP1 mv_X12_161 dX12_code_10 ok_28 ⟨by decide, by decide⟩ (Nat.le_of_ble_eq_true rfl) (f_X12_isRefused_ok e10) ?_
  refine g_if_eq 20 dX12_code_13 rfl (fun q => ?_) (fun q => ?_)
  · replace h := gif_t q h
    refine g_aload_n dX12_code_20 rfl ?_
    refine g_iload_n dX12_code_21 rfl ?_
    refine g_iload_n dX12_code_22 rfl ?_
    obtain ⟨p23, e23, h⟩ := obind h
    refine g_vP2 mv_X12_197 dX12_code_23 ok_28 ⟨by decide, by decide⟩ (Nat.le_of_ble_eq_true rfl) (f_X12_codeOf_ok e23) ?_
    cases h
    exact g_iret dX12_code_26 rfl ⟨rfl, rfl⟩
  · replace h := gif_f q h
    refine g_iconst dX12_code_16 kc_m1 ?_
    refine g_goto 26 dX12_code_17 rfl ?_
    cases h
    exact g_iret dX12_code_26 rfl ⟨rfl, rfl⟩
theorem dX12_placeOf_0 : decode cX12_placeOf 0 = .ok (.iconst 1, 1) := by decide +kernel
theorem dX12_placeOf_1 : decode cX12_placeOf 1 = .ok (.istore_n 2, 1) := by decide +kernel
theorem dX12_placeOf_2 : decode cX12_placeOf 2 = .ok (.iconst 0, 1) := by decide +kernel
theorem dX12_placeOf_3 : decode cX12_placeOf 3 = .ok (.istore_n 3, 1) := by decide +kernel
theorem dX12_placeOf_4 : decode cX12_placeOf 4 = .ok (.iload_n 3, 1) := by decide +kernel
theorem dX12_placeOf_5 : decode cX12_placeOf 5 = .ok (.aload_n 0, 1) := by decide +kernel
theorem dX12_placeOf_6 : decode cX12_placeOf 6 = .ok (.getfield 17, 3) := by decide +kernel
theorem dX12_placeOf_9 : decode cX12_placeOf 9 = .ok (.iconst 1, 1) := by decide +kernel
theorem dX12_placeOf_10 : decode cX12_placeOf 10 = .ok (.iaload, 1) := by decide +kernel
theorem dX12_placeOf_11 : decode cX12_placeOf 11 = .ok (.if_icmp .ge 59, 3) := by decide +kernel
theorem dX12_placeOf_14 : decode cX12_placeOf 14 = .ok (.iload_n 2, 1) := by decide +kernel
theorem dX12_placeOf_15 : decode cX12_placeOf 15 = .ok (.aload_n 0, 1) := by decide +kernel
theorem dX12_placeOf_16 : decode cX12_placeOf 16 = .ok (.getfield 17, 3) := by decide +kernel
theorem dX12_placeOf_19 : decode cX12_placeOf 19 = .ok (.bipush 37, 2) := by decide +kernel
theorem dX12_placeOf_21 : decode cX12_placeOf 21 = .ok (.iload_n 3, 1) := by decide +kernel
theorem dX12_placeOf_22 : decode cX12_placeOf 22 = .ok (.iadd, 1) := by decide +kernel
theorem dX12_placeOf_23 : decode cX12_placeOf 23 = .ok (.iaload, 1) := by decide +kernel
theorem dX12_placeOf_24 : decode cX12_placeOf 24 = .ok (.aload_n 0, 1) := by decide +kernel
theorem dX12_placeOf_25 : decode cX12_placeOf 25 = .ok (.getfield 17, 3) := by decide +kernel
theorem dX12_placeOf_28 : decode cX12_placeOf 28 = .ok (.bipush 37, 2) := by decide +kernel
theorem dX12_placeOf_30 : decode cX12_placeOf 30 = .ok (.iload_n 1, 1) := by decide +kernel
theorem dX12_placeOf_31 : decode cX12_placeOf 31 = .ok (.iadd, 1) := by decide +kernel
theorem dX12_placeOf_32 : decode cX12_placeOf 32 = .ok (.iaload, 1) := by decide +kernel
theorem dX12_placeOf_33 : decode cX12_placeOf 33 = .ok (.if_icmp .ne 28, 3) := by decide +kernel
theorem dX12_placeOf_36 : decode cX12_placeOf 36 = .ok (.aload_n 0, 1) := by decide +kernel
theorem dX12_placeOf_37 : decode cX12_placeOf 37 = .ok (.iload_n 3, 1) := by decide +kernel
theorem dX12_placeOf_38 : decode cX12_placeOf 38 = .ok (.invokevirtual 215, 3) := by decide +kernel
theorem dX12_placeOf_41 : decode cX12_placeOf 41 = .ok (.ifCond .eq 20, 3) := by decide +kernel
theorem dX12_placeOf_44 : decode cX12_placeOf 44 = .ok (.aload_n 0, 1) := by decide +kernel
theorem dX12_placeOf_45 : decode cX12_placeOf 45 = .ok (.iload_n 3, 1) := by decide +kernel
theorem dX12_placeOf_46 : decode cX12_placeOf 46 = .ok (.invokevirtual 218, 3) := by decide +kernel
theorem dX12_placeOf_49 : decode cX12_placeOf 49 = .ok (.aload_n 0, 1) := by decide +kernel
theorem dX12_placeOf_50 : decode cX12_placeOf 50 = .ok (.iload_n 1, 1) := by decide +kernel
theorem dX12_placeOf_51 : decode cX12_placeOf 51 = .ok (.invokevirtual 218, 3) := by decide +kernel
theorem dX12_placeOf_54 : decode cX12_placeOf 54 = .ok (.if_icmp .ge 7, 3) := by decide +kernel
theorem dX12_placeOf_57 : decode cX12_placeOf 57 = .ok (.iconst 1, 1) := by decide +kernel
theorem dX12_placeOf_58 : decode cX12_placeOf 58 = .ok (.goto 4, 3) := by decide +kernel
theorem dX12_placeOf_61 : decode cX12_placeOf 61 = .ok (.iconst 0, 1) := by decide +kernel
theorem dX12_placeOf_62 : decode cX12_placeOf 62 = .ok (.iadd, 1) := by decide +kernel
theorem dX12_placeOf_63 : decode cX12_placeOf 63 = .ok (.istore_n 2, 1) := by decide +kernel
theorem dX12_placeOf_64 : decode cX12_placeOf 64 = .ok (.iinc 3 1, 3) := by decide +kernel
theorem dX12_placeOf_67 : decode cX12_placeOf 67 = .ok (.goto (-63), 3) := by decide +kernel
theorem dX12_placeOf_70 : decode cX12_placeOf 70 = .ok (.iload_n 2, 1) := by decide +kernel
theorem dX12_placeOf_71 : decode cX12_placeOf 71 = .ok (.ireturn, 1) := by decide +kernel
def f_X12_placeOf_4 (v1 : Int32) : Nat → Int32 → Int32 → gSt → Option (Int32 × gSt)
  | 0, _, _, _ => none
  | n + 1, v2, v3, σ =>
    (gld σ 30 0 397 1).bind fun a10 =>
    if a10 ≤ v3 then
      some (v2, σ)
    else
      (gld σ 30 0 397 (37 + v3)).bind fun a23 =>
      (gld σ 30 0 397 (37 + v1)).bind fun a32 =>
      if a23 = a32 then
        (f_X12_isValid v3 σ).bind fun p38 =>
        if p38.1 = 0 then
          f_X12_placeOf_4 v1 n (v2 + 0) (v3 + 1) p38.2
        else
          (f_X12_totalOf v3 p38.2).bind fun p46 =>
          (f_X12_totalOf v1 p46.2).bind fun p51 =>
          if p51.1 ≤ p46.1 then
            f_X12_placeOf_4 v1 n (v2 + 0) (v3 + 1) p51.2
          else
            f_X12_placeOf_4 v1 n (v2 + 1) (v3 + 1) p51.2
      else
        f_X12_placeOf_4 v1 n (v2 + 0) (v3 + 1) σ
def f_X12_placeOf (v1 : Int32) (σ : gSt) : Option (Int32 × gSt) :=
  f_X12_placeOf_4 v1 gFuel 1 0 σ
theorem f_X12_placeOf_4_ok {v1 : Int32} {r : (Int32 × gSt)}  : ∀ (n : Nat) {v2 : Int32} {v3 : Int32} {σ : gSt} , f_X12_placeOf_4 v1 n v2 v3 σ = some r → G l w 0 41 RX12 cX12_placeOf 4 (some .int) 4 94 (gE (some (.int r.1)) r.2) 4 [some (.ref (w.2.1 28 0)), some (.int v1), some (.int v2), some (.int v3)] [] σ := by
  intro n
  induction n with
  | zero => intro v2 v3 σ h; rw [f_X12_placeOf_4] at h; cases h
  | succ n ih =>
    intro v2 v3 σ h
    rw [f_X12_placeOf_4] at h
    refine g_iload_n dX12_placeOf_4 rfl ?_
    refine g_aload_n dX12_placeOf_5 rfl ?_
    refine gR_X12_17 ok_28 dX12_placeOf_6 ?_
    refine g_iconst dX12_placeOf_9 kc_1 ?_
    obtain ⟨a10, e10, h⟩ := obind h
    refine g_ldB e10 ok_30 rfl rfl (by decide) dX12_placeOf_10 ?_
    refine g_icmp_ge 70 dX12_placeOf_11 rfl (fun q => ?_) (fun q => ?_)
    · replace h := gif_t q h
      refine g_iload_n dX12_placeOf_70 rfl ?_
      cases h
      exact g_iret dX12_placeOf_71 rfl ⟨rfl, rfl⟩
    · replace h := gif_f q h
      refine g_iload_n dX12_placeOf_14 rfl ?_
      refine g_aload_n dX12_placeOf_15 rfl ?_
      refine gR_X12_17 ok_28 dX12_placeOf_16 ?_
      refine g_bipush dX12_placeOf_19 kb_37 ?_
      refine g_iload_n dX12_placeOf_21 rfl ?_
      refine g_iadd dX12_placeOf_22 ?_
      obtain ⟨a23, e23, h⟩ := obind h
      refine g_ldB e23 ok_30 rfl rfl (by decide) dX12_placeOf_23 ?_
      refine g_aload_n dX12_placeOf_24 rfl ?_
      refine gR_X12_17 ok_28 dX12_placeOf_25 ?_
      refine g_bipush dX12_placeOf_28 kb_37 ?_
      refine g_iload_n dX12_placeOf_30 rfl ?_
      refine g_iadd dX12_placeOf_31 ?_
      obtain ⟨a32, e32, h⟩ := obind h
      refine g_ldB e32 ok_30 rfl rfl (by decide) dX12_placeOf_32 ?_
      refine g_icmp_ne 61 dX12_placeOf_33 rfl (fun q => ?_) (fun q => ?_)
      · replace h := gif_f q h
        refine g_iconst dX12_placeOf_61 kc_0 ?_
        refine g_iadd dX12_placeOf_62 ?_
        refine g_istore2 dX12_placeOf_63 ?_
        refine g_inc3 kc_1 dX12_placeOf_64 ?_
        refine g_goto 4 dX12_placeOf_67 rfl ?_
        exact ih h
      · replace h := gif_t q h
        refine g_aload_n dX12_placeOf_36 rfl ?_
        refine g_iload_n dX12_placeOf_37 rfl ?_
        obtain ⟨p38, e38, h⟩ := obind h
        refine g_vP1 mv_X12_215 dX12_placeOf_38 ok_28 ⟨by decide, by decide⟩ (Nat.le_of_ble_eq_true rfl) (f_X12_isValid_ok e38) ?_
        refine g_if_eq 61 dX12_placeOf_41 rfl (fun q => ?_) (fun q => ?_)
        · replace h := gif_t q h
          refine g_iconst dX12_placeOf_61 kc_0 ?_
          refine g_iadd dX12_placeOf_62 ?_
          refine g_istore2 dX12_placeOf_63 ?_
          refine g_inc3 kc_1 dX12_placeOf_64 ?_
          refine g_goto 4 dX12_placeOf_67 rfl ?_
          exact ih h
        · replace h := gif_f q h
          refine g_aload_n dX12_placeOf_44 rfl ?_
          refine g_iload_n dX12_placeOf_45 rfl ?_
          obtain ⟨p46, e46, h⟩ := obind h
          refine g_vP1 mv_X12_218 dX12_placeOf_46 ok_28 ⟨by decide, by decide⟩ (Nat.le_of_ble_eq_true rfl) (f_X12_totalOf_ok e46) ?_
          refine g_aload_n dX12_placeOf_49 rfl ?_
          refine g_iload_n dX12_placeOf_50 rfl ?_
          obtain ⟨p51, e51, h⟩ := obind h
          refine g_vP1 mv_X12_218 dX12_placeOf_51 ok_28 ⟨by decide, by decide⟩ (Nat.le_of_ble_eq_true rfl) (f_X12_totalOf_ok e51) ?_
          refine g_icmp_ge 61 dX12_placeOf_54 rfl (fun q => ?_) (fun q => ?_)
          · replace h := gif_t q h
            refine g_iconst dX12_placeOf_61 kc_0 ?_
            refine g_iadd dX12_placeOf_62 ?_
            refine g_istore2 dX12_placeOf_63 ?_
            refine g_inc3 kc_1 dX12_placeOf_64 ?_
            refine g_goto 4 dX12_placeOf_67 rfl ?_
            exact ih h
          · replace h := gif_f q h
            refine g_iconst dX12_placeOf_57 kc_1 ?_
            refine g_goto 62 dX12_placeOf_58 rfl ?_
            refine g_iadd dX12_placeOf_62 ?_
            refine g_istore2 dX12_placeOf_63 ?_
            refine g_inc3 kc_1 dX12_placeOf_64 ?_
            refine g_goto 4 dX12_placeOf_67 rfl ?_
            exact ih h
theorem f_X12_placeOf_ok {v1 : Int32}  {σ : gSt} {r : (Int32 × gSt)} (h : f_X12_placeOf v1 σ = some r) : Mt l w 0 41 yX12_placeOf cX12_placeOf 4 (some .int) 4 94 [.ref (w.2.1 28 0), .int v1] σ (gE (some (.int r.1)) r.2) := by
  unfold f_X12_placeOf at h
  refine g_start pn_X12 rfl rfl (Nat.le_of_ble_eq_true rfl) ?_
  show G l w 0 41 RX12 cX12_placeOf 4 (some .int) 4 94 (gE (some (.int r.1)) r.2) 0 [some (.ref (w.2.1 28 0)), some (.int v1), none, none] [] σ
  refine g_iconst dX12_placeOf_0 kc_1 ?_
  refine g_istore2 dX12_placeOf_1 ?_
  refine g_iconst dX12_placeOf_2 kc_0 ?_
  refine g_istore3 dX12_placeOf_3 ?_
  exact f_X12_placeOf_4_ok gFuel h
theorem dX12_runner_0 : decode cX12_runner 0 = .ok (.aload_n 0, 1) := by decide +kernel
theorem dX12_runner_1 : decode cX12_runner 1 = .ok (.aload_n 0, 1) := by decide +kernel
theorem dX12_runner_2 : decode cX12_runner 2 = .ok (.iload_n 1, 1) := by decide +kernel
theorem dX12_runner_3 : decode cX12_runner 3 = .ok (.invokevirtual 187, 3) := by decide +kernel
theorem dX12_runner_6 : decode cX12_runner 6 = .ok (.ifCond .eq 17, 3) := by decide +kernel
theorem dX12_runner_9 : decode cX12_runner 9 = .ok (.iload_n 2, 1) := by decide +kernel
theorem dX12_runner_10 : decode cX12_runner 10 = .ok (.iconst 0, 1) := by decide +kernel
theorem dX12_runner_11 : decode cX12_runner 11 = .ok (.bipush 9, 2) := by decide +kernel
theorem dX12_runner_13 : decode cX12_runner 13 = .ok (.invokestatic 79, 3) := by decide +kernel
theorem dX12_runner_16 : decode cX12_runner 16 = .ok (.ifCond .eq 7, 3) := by decide +kernel
theorem dX12_runner_19 : decode cX12_runner 19 = .ok (.iconst 1, 1) := by decide +kernel
theorem dX12_runner_20 : decode cX12_runner 20 = .ok (.goto 4, 3) := by decide +kernel
theorem dX12_runner_23 : decode cX12_runner 23 = .ok (.iconst 0, 1) := by decide +kernel
theorem dX12_runner_24 : decode cX12_runner 24 = .ok (.invokestatic 234, 3) := by decide +kernel
theorem dX12_runner_27 : decode cX12_runner 27 = .ok (.invokevirtual 161, 3) := by decide +kernel
theorem dX12_runner_30 : decode cX12_runner 30 = .ok (.ifCond .eq 5, 3) := by decide +kernel
theorem dX12_runner_33 : decode cX12_runner 33 = .ok (.iconst (-1), 1) := by decide +kernel
theorem dX12_runner_34 : decode cX12_runner 34 = .ok (.ireturn, 1) := by decide +kernel
theorem dX12_runner_35 : decode cX12_runner 35 = .ok (.aload_n 0, 1) := by decide +kernel
theorem dX12_runner_36 : decode cX12_runner 36 = .ok (.iload_n 1, 1) := by decide +kernel
theorem dX12_runner_37 : decode cX12_runner 37 = .ok (.invokevirtual 206, 3) := by decide +kernel
theorem dX12_runner_40 : decode cX12_runner 40 = .ok (.istore_n 3, 1) := by decide +kernel
theorem dX12_runner_41 : decode cX12_runner 41 = .ok (.iload_n 2, 1) := by decide +kernel
theorem dX12_runner_42 : decode cX12_runner 42 = .ok (.tableswitch 152 0 8 #[50, 60, 70, 80, 86, 96, 98, 127, 137], 50) := by decide +kernel
theorem dX12_runner_92 : decode cX12_runner 92 = .ok (.aload_n 0, 1) := by decide +kernel
theorem dX12_runner_93 : decode cX12_runner 93 = .ok (.getfield 17, 3) := by decide +kernel
theorem dX12_runner_96 : decode cX12_runner 96 = .ok (.bipush 37, 2) := by decide +kernel
theorem dX12_runner_98 : decode cX12_runner 98 = .ok (.iload_n 1, 1) := by decide +kernel
theorem dX12_runner_99 : decode cX12_runner 99 = .ok (.iadd, 1) := by decide +kernel
theorem dX12_runner_100 : decode cX12_runner 100 = .ok (.iaload, 1) := by decide +kernel
theorem dX12_runner_101 : decode cX12_runner 101 = .ok (.ireturn, 1) := by decide +kernel
theorem dX12_runner_102 : decode cX12_runner 102 = .ok (.aload_n 0, 1) := by decide +kernel
theorem dX12_runner_103 : decode cX12_runner 103 = .ok (.getfield 17, 3) := by decide +kernel
theorem dX12_runner_106 : decode cX12_runner 106 = .ok (.bipush 47, 2) := by decide +kernel
theorem dX12_runner_108 : decode cX12_runner 108 = .ok (.iload_n 1, 1) := by decide +kernel
theorem dX12_runner_109 : decode cX12_runner 109 = .ok (.iadd, 1) := by decide +kernel
theorem dX12_runner_110 : decode cX12_runner 110 = .ok (.iaload, 1) := by decide +kernel
theorem dX12_runner_111 : decode cX12_runner 111 = .ok (.ireturn, 1) := by decide +kernel
theorem dX12_runner_112 : decode cX12_runner 112 = .ok (.aload_n 0, 1) := by decide +kernel
theorem dX12_runner_113 : decode cX12_runner 113 = .ok (.getfield 17, 3) := by decide +kernel
theorem dX12_runner_116 : decode cX12_runner 116 = .ok (.bipush 57, 2) := by decide +kernel
theorem dX12_runner_118 : decode cX12_runner 118 = .ok (.iload_n 1, 1) := by decide +kernel
theorem dX12_runner_119 : decode cX12_runner 119 = .ok (.iadd, 1) := by decide +kernel
theorem dX12_runner_120 : decode cX12_runner 120 = .ok (.iaload, 1) := by decide +kernel
theorem dX12_runner_121 : decode cX12_runner 121 = .ok (.ireturn, 1) := by decide +kernel
theorem dX12_runner_122 : decode cX12_runner 122 = .ok (.aload_n 0, 1) := by decide +kernel
theorem dX12_runner_123 : decode cX12_runner 123 = .ok (.iload_n 1, 1) := by decide +kernel
theorem dX12_runner_124 : decode cX12_runner 124 = .ok (.invokevirtual 218, 3) := by decide +kernel
theorem dX12_runner_127 : decode cX12_runner 127 = .ok (.ireturn, 1) := by decide +kernel
theorem dX12_runner_128 : decode cX12_runner 128 = .ok (.aload_n 0, 1) := by decide +kernel
theorem dX12_runner_129 : decode cX12_runner 129 = .ok (.getfield 17, 3) := by decide +kernel
theorem dX12_runner_132 : decode cX12_runner 132 = .ok (.bipush 67, 2) := by decide +kernel
theorem dX12_runner_134 : decode cX12_runner 134 = .ok (.iload_n 1, 1) := by decide +kernel
theorem dX12_runner_135 : decode cX12_runner 135 = .ok (.iadd, 1) := by decide +kernel
theorem dX12_runner_136 : decode cX12_runner 136 = .ok (.iaload, 1) := by decide +kernel
theorem dX12_runner_137 : decode cX12_runner 137 = .ok (.ireturn, 1) := by decide +kernel
theorem dX12_runner_138 : decode cX12_runner 138 = .ok (.iload_n 3, 1) := by decide +kernel
theorem dX12_runner_139 : decode cX12_runner 139 = .ok (.ireturn, 1) := by decide +kernel
theorem dX12_runner_140 : decode cX12_runner 140 = .ok (.aload_n 0, 1) := by decide +kernel
theorem dX12_runner_141 : decode cX12_runner 141 = .ok (.getfield 17, 3) := by decide +kernel
theorem dX12_runner_144 : decode cX12_runner 144 = .ok (.bipush 67, 2) := by decide +kernel
theorem dX12_runner_146 : decode cX12_runner 146 = .ok (.iload_n 1, 1) := by decide +kernel
theorem dX12_runner_147 : decode cX12_runner 147 = .ok (.iadd, 1) := by decide +kernel
theorem dX12_runner_148 : decode cX12_runner 148 = .ok (.iaload, 1) := by decide +kernel
theorem dX12_runner_149 : decode cX12_runner 149 = .ok (.aload_n 0, 1) := by decide +kernel
theorem dX12_runner_150 : decode cX12_runner 150 = .ok (.getfield 17, 3) := by decide +kernel
theorem dX12_runner_153 : decode cX12_runner 153 = .ok (.iconst 4, 1) := by decide +kernel
theorem dX12_runner_154 : decode cX12_runner 154 = .ok (.aload_n 0, 1) := by decide +kernel
theorem dX12_runner_155 : decode cX12_runner 155 = .ok (.getfield 17, 3) := by decide +kernel
theorem dX12_runner_158 : decode cX12_runner 158 = .ok (.bipush 37, 2) := by decide +kernel
theorem dX12_runner_160 : decode cX12_runner 160 = .ok (.iload_n 1, 1) := by decide +kernel
theorem dX12_runner_161 : decode cX12_runner 161 = .ok (.iadd, 1) := by decide +kernel
theorem dX12_runner_162 : decode cX12_runner 162 = .ok (.iaload, 1) := by decide +kernel
theorem dX12_runner_163 : decode cX12_runner 163 = .ok (.iadd, 1) := by decide +kernel
theorem dX12_runner_164 : decode cX12_runner 164 = .ok (.iaload, 1) := by decide +kernel
theorem dX12_runner_165 : decode cX12_runner 165 = .ok (.iload_n 3, 1) := by decide +kernel
theorem dX12_runner_166 : decode cX12_runner 166 = .ok (.isub, 1) := by decide +kernel
theorem dX12_runner_167 : decode cX12_runner 167 = .ok (.isub, 1) := by decide +kernel
theorem dX12_runner_168 : decode cX12_runner 168 = .ok (.ireturn, 1) := by decide +kernel
theorem dX12_runner_169 : decode cX12_runner 169 = .ok (.iload_n 3, 1) := by decide +kernel
theorem dX12_runner_170 : decode cX12_runner 170 = .ok (.ifCond .ne 7, 3) := by decide +kernel
theorem dX12_runner_173 : decode cX12_runner 173 = .ok (.iconst 1, 1) := by decide +kernel
theorem dX12_runner_174 : decode cX12_runner 174 = .ok (.goto 4, 3) := by decide +kernel
theorem dX12_runner_177 : decode cX12_runner 177 = .ok (.iconst 0, 1) := by decide +kernel
theorem dX12_runner_178 : decode cX12_runner 178 = .ok (.ireturn, 1) := by decide +kernel
theorem dX12_runner_179 : decode cX12_runner 179 = .ok (.iload_n 3, 1) := by decide +kernel
theorem dX12_runner_180 : decode cX12_runner 180 = .ok (.ifCond .ne 11, 3) := by decide +kernel
theorem dX12_runner_183 : decode cX12_runner 183 = .ok (.aload_n 0, 1) := by decide +kernel
theorem dX12_runner_184 : decode cX12_runner 184 = .ok (.iload_n 1, 1) := by decide +kernel
theorem dX12_runner_185 : decode cX12_runner 185 = .ok (.invokevirtual 255, 3) := by decide +kernel
theorem dX12_runner_188 : decode cX12_runner 188 = .ok (.goto 5, 3) := by decide +kernel
theorem dX12_runner_191 : decode cX12_runner 191 = .ok (.bipush (-2), 2) := by decide +kernel
theorem dX12_runner_193 : decode cX12_runner 193 = .ok (.ireturn, 1) := by decide +kernel
theorem dX12_runner_194 : decode cX12_runner 194 = .ok (.iload_n 3, 1) := by decide +kernel
theorem dX12_runner_195 : decode cX12_runner 195 = .ok (.ifCond .ne 25, 3) := by decide +kernel
theorem dX12_runner_198 : decode cX12_runner 198 = .ok (.aload_n 0, 1) := by decide +kernel
theorem dX12_runner_199 : decode cX12_runner 199 = .ok (.iload_n 1, 1) := by decide +kernel
theorem dX12_runner_200 : decode cX12_runner 200 = .ok (.invokevirtual 218, 3) := by decide +kernel
theorem dX12_runner_203 : decode cX12_runner 203 = .ok (.aload_n 0, 1) := by decide +kernel
theorem dX12_runner_204 : decode cX12_runner 204 = .ok (.aload_n 0, 1) := by decide +kernel
theorem dX12_runner_205 : decode cX12_runner 205 = .ok (.getfield 17, 3) := by decide +kernel
theorem dX12_runner_208 : decode cX12_runner 208 = .ok (.bipush 37, 2) := by decide +kernel
theorem dX12_runner_210 : decode cX12_runner 210 = .ok (.iload_n 1, 1) := by decide +kernel
theorem dX12_runner_211 : decode cX12_runner 211 = .ok (.iadd, 1) := by decide +kernel
theorem dX12_runner_212 : decode cX12_runner 212 = .ok (.iaload, 1) := by decide +kernel
theorem dX12_runner_213 : decode cX12_runner 213 = .ok (.invokevirtual 249, 3) := by decide +kernel
theorem dX12_runner_216 : decode cX12_runner 216 = .ok (.isub, 1) := by decide +kernel
theorem dX12_runner_217 : decode cX12_runner 217 = .ok (.goto 5, 3) := by decide +kernel
theorem dX12_runner_220 : decode cX12_runner 220 = .ok (.bipush (-2), 2) := by decide +kernel
theorem dX12_runner_222 : decode cX12_runner 222 = .ok (.ireturn, 1) := by decide +kernel
def f_X12_runner_24 (v1 : Int32) (v2 : Int32) (vs1 : Int32) (σ : gSt) : Option (Int32 × gSt) :=
  (f_X12_unless vs1 σ).bind fun p24 =>
  (f_X12_isRefused p24.1 p24.2).bind fun p27 =>
  if p27.1 = 0 then
    (f_X12_missedBy v1 p27.2).bind fun p37 =>
    if v2 = 0 then
      (gld p37.2 30 0 397 (37 + v1)).bind fun a100 =>
      some (a100, p37.2)
    else
    if v2 = 1 then
      (gld p37.2 30 0 397 (47 + v1)).bind fun a110 =>
      some (a110, p37.2)
    else
    if v2 = 2 then
      (gld p37.2 30 0 397 (57 + v1)).bind fun a120 =>
      some (a120, p37.2)
    else
    if v2 = 3 then
      (f_X12_totalOf v1 p37.2).bind fun p124 =>
      some (p124.1, p124.2)
    else
    if v2 = 4 then
      (gld p37.2 30 0 397 (67 + v1)).bind fun a136 =>
      some (a136, p37.2)
    else
    if v2 = 5 then
      some (p37.1, p37.2)
    else
    if v2 = 6 then
      (gld p37.2 30 0 397 (67 + v1)).bind fun a148 =>
      (gld p37.2 30 0 397 (37 + v1)).bind fun a162 =>
      (gld p37.2 30 0 397 (4 + a162)).bind fun a164 =>
      some ((a148 - (a164 - p37.1)), p37.2)
    else
    if v2 = 7 then
      if p37.1 = 0 then
        some (1, p37.2)
      else
        some (0, p37.2)
    else
    if v2 = 8 then
      if p37.1 = 0 then
        (f_X12_placeOf v1 p37.2).bind fun p185 =>
        some (p185.1, p185.2)
      else
        some ((-2), p37.2)
    else
    if p37.1 = 0 then
      (f_X12_totalOf v1 p37.2).bind fun p200 =>
      (gld p200.2 30 0 397 (37 + v1)).bind fun a212 =>
      (f_X12_leastTotal a212 p200.2).bind fun p213 =>
      some ((p200.1 - p213.1), p213.2)
    else
      some ((-2), p37.2)
  else
    some ((-1), p27.2)
def f_X12_runner_23 (v1 : Int32) (v2 : Int32) (σ : gSt) : Option (Int32 × gSt) :=
  f_X12_runner_24 v1 v2 0 σ
def f_X12_runner (v1 : Int32) (v2 : Int32) (σ : gSt) : Option (Int32 × gSt) :=
  (f_X12_isRunner v1 σ).bind fun p3 =>
  if p3.1 = 0 then
    f_X12_runner_23 v1 v2 p3.2
  else
    (f_X12_in v2 0 9 p3.2).bind fun p13 =>
    if p13.1 = 0 then
      f_X12_runner_23 v1 v2 p13.2
    else
      f_X12_runner_24 v1 v2 1 p13.2
theorem f_X12_runner_24_ok {v1 : Int32} {v2 : Int32} {vs1 : Int32} {r : (Int32 × gSt)}  {σ : gSt} {x3 : Option Value} (h : f_X12_runner_24 v1 v2 vs1 σ = some r) : G l w 0 41 RX12 cX12_runner 4 (some .int) 5 117 (gE (some (.int r.1)) r.2) 24 [some (.ref (w.2.1 28 0)), some (.int v1), some (.int v2), x3] [.int vs1, .ref (w.2.1 28 0)] σ := by
  unfold f_X12_runner_24 at h
  obtain ⟨p24, e24, h⟩ := obind h
  refine g_sP1 ms_X12_234 dX12_runner_24 ⟨by decide, by decide⟩ (Nat.le_of_ble_eq_true rfl) (f_X12_unless_ok e24) ?_
  obtain ⟨p27, e27, h⟩ := obind h
  refine g_vP1 mv_X12_161 dX12_runner_27 ok_28 ⟨by decide, by decide⟩ (Nat.le_of_ble_eq_true rfl) (f_X12_isRefused_ok e27) ?_
  refine g_if_eq 35 dX12_runner_30 rfl (fun q => ?_) (fun q => ?_)
  · replace h := gif_t q h
    refine g_aload_n dX12_runner_35 rfl ?_
    refine g_iload_n dX12_runner_36 rfl ?_
    obtain ⟨p37, e37, h⟩ := obind h
    refine g_vP1 mv_X12_206 dX12_runner_37 ok_28 ⟨by decide, by decide⟩ (Nat.le_of_ble_eq_true rfl) (f_X12_missedBy_ok e37) ?_
    refine g_istore3 dX12_runner_40 ?_
    refine g_iload_n dX12_runner_41 rfl ?_
    by_cases q0 : v2 = 0
    · replace h := gif_t q0 h
      refine g_tableIn (off := 50) 92 dX12_runner_42 (by rw [q0]; decide) (by rw [q0]; decide) (by rw [q0]; rfl) rfl ?_
      refine g_aload_n dX12_runner_92 rfl ?_
      refine gR_X12_17 ok_28 dX12_runner_93 ?_
      refine g_bipush dX12_runner_96 kb_37 ?_
      refine g_iload_n dX12_runner_98 rfl ?_
      refine g_iadd dX12_runner_99 ?_
      obtain ⟨a100, e100, h⟩ := obind h
      refine g_ldB e100 ok_30 rfl rfl (by decide) dX12_runner_100 ?_
      cases h
      exact g_iret dX12_runner_101 rfl ⟨rfl, rfl⟩
    replace h := gif_f q0 h
    by_cases q1 : v2 = 1
    · replace h := gif_t q1 h
      refine g_tableIn (off := 60) 102 dX12_runner_42 (by rw [q1]; decide) (by rw [q1]; decide) (by rw [q1]; rfl) rfl ?_
      refine g_aload_n dX12_runner_102 rfl ?_
      refine gR_X12_17 ok_28 dX12_runner_103 ?_
      refine g_bipush dX12_runner_106 kb_47 ?_
      refine g_iload_n dX12_runner_108 rfl ?_
      refine g_iadd dX12_runner_109 ?_
      obtain ⟨a110, e110, h⟩ := obind h
      refine g_ldB e110 ok_30 rfl rfl (by decide) dX12_runner_110 ?_
      cases h
      exact g_iret dX12_runner_111 rfl ⟨rfl, rfl⟩
    replace h := gif_f q1 h
    by_cases q2 : v2 = 2
    · replace h := gif_t q2 h
      refine g_tableIn (off := 70) 112 dX12_runner_42 (by rw [q2]; decide) (by rw [q2]; decide) (by rw [q2]; rfl) rfl ?_
      refine g_aload_n dX12_runner_112 rfl ?_
      refine gR_X12_17 ok_28 dX12_runner_113 ?_
      refine g_bipush dX12_runner_116 kb_57 ?_
      refine g_iload_n dX12_runner_118 rfl ?_
      refine g_iadd dX12_runner_119 ?_
      obtain ⟨a120, e120, h⟩ := obind h
      refine g_ldB e120 ok_30 rfl rfl (by decide) dX12_runner_120 ?_
      cases h
      exact g_iret dX12_runner_121 rfl ⟨rfl, rfl⟩
    replace h := gif_f q2 h
    by_cases q3 : v2 = 3
    · replace h := gif_t q3 h
      refine g_tableIn (off := 80) 122 dX12_runner_42 (by rw [q3]; decide) (by rw [q3]; decide) (by rw [q3]; rfl) rfl ?_
      refine g_aload_n dX12_runner_122 rfl ?_
      refine g_iload_n dX12_runner_123 rfl ?_
      obtain ⟨p124, e124, h⟩ := obind h
      refine g_vP1 mv_X12_218 dX12_runner_124 ok_28 ⟨by decide, by decide⟩ (Nat.le_of_ble_eq_true rfl) (f_X12_totalOf_ok e124) ?_
      cases h
      exact g_iret dX12_runner_127 rfl ⟨rfl, rfl⟩
    replace h := gif_f q3 h
    by_cases q4 : v2 = 4
    · replace h := gif_t q4 h
      refine g_tableIn (off := 86) 128 dX12_runner_42 (by rw [q4]; decide) (by rw [q4]; decide) (by rw [q4]; rfl) rfl ?_
      refine g_aload_n dX12_runner_128 rfl ?_
      refine gR_X12_17 ok_28 dX12_runner_129 ?_
      refine g_bipush dX12_runner_132 kb_67 ?_
      refine g_iload_n dX12_runner_134 rfl ?_
      refine g_iadd dX12_runner_135 ?_
      obtain ⟨a136, e136, h⟩ := obind h
      refine g_ldB e136 ok_30 rfl rfl (by decide) dX12_runner_136 ?_
      cases h
      exact g_iret dX12_runner_137 rfl ⟨rfl, rfl⟩
    replace h := gif_f q4 h
    by_cases q5 : v2 = 5
    · replace h := gif_t q5 h
      refine g_tableIn (off := 96) 138 dX12_runner_42 (by rw [q5]; decide) (by rw [q5]; decide) (by rw [q5]; rfl) rfl ?_
      refine g_iload_n dX12_runner_138 rfl ?_
      cases h
      exact g_iret dX12_runner_139 rfl ⟨rfl, rfl⟩
    replace h := gif_f q5 h
    by_cases q6 : v2 = 6
    · replace h := gif_t q6 h
      refine g_tableIn (off := 98) 140 dX12_runner_42 (by rw [q6]; decide) (by rw [q6]; decide) (by rw [q6]; rfl) rfl ?_
      refine g_aload_n dX12_runner_140 rfl ?_
      refine gR_X12_17 ok_28 dX12_runner_141 ?_
      refine g_bipush dX12_runner_144 kb_67 ?_
      refine g_iload_n dX12_runner_146 rfl ?_
      refine g_iadd dX12_runner_147 ?_
      obtain ⟨a148, e148, h⟩ := obind h
      refine g_ldB e148 ok_30 rfl rfl (by decide) dX12_runner_148 ?_
      refine g_aload_n dX12_runner_149 rfl ?_
      refine gR_X12_17 ok_28 dX12_runner_150 ?_
      refine g_iconst dX12_runner_153 kc_4 ?_
      refine g_aload_n dX12_runner_154 rfl ?_
      refine gR_X12_17 ok_28 dX12_runner_155 ?_
      refine g_bipush dX12_runner_158 kb_37 ?_
      refine g_iload_n dX12_runner_160 rfl ?_
      refine g_iadd dX12_runner_161 ?_
      obtain ⟨a162, e162, h⟩ := obind h
      refine g_ldB e162 ok_30 rfl rfl (by decide) dX12_runner_162 ?_
      refine g_iadd dX12_runner_163 ?_
      obtain ⟨a164, e164, h⟩ := obind h
      refine g_ldB e164 ok_30 rfl rfl (by decide) dX12_runner_164 ?_
      refine g_iload_n dX12_runner_165 rfl ?_
      refine g_isub dX12_runner_166 ?_
      refine g_isub dX12_runner_167 ?_
      cases h
      exact g_iret dX12_runner_168 rfl ⟨rfl, rfl⟩
    replace h := gif_f q6 h
    by_cases q7 : v2 = 7
    · replace h := gif_t q7 h
      refine g_tableIn (off := 127) 169 dX12_runner_42 (by rw [q7]; decide) (by rw [q7]; decide) (by rw [q7]; rfl) rfl ?_
      refine g_iload_n dX12_runner_169 rfl ?_
      refine g_if_ne 177 dX12_runner_170 rfl (fun q => ?_) (fun q => ?_)
      · replace h := gif_f q h
        refine g_iconst dX12_runner_177 kc_0 ?_
        cases h
        exact g_iret dX12_runner_178 rfl ⟨rfl, rfl⟩
      · replace h := gif_t q h
        refine g_iconst dX12_runner_173 kc_1 ?_
        refine g_goto 178 dX12_runner_174 rfl ?_
        cases h
        exact g_iret dX12_runner_178 rfl ⟨rfl, rfl⟩
    replace h := gif_f q7 h
    by_cases q8 : v2 = 8
    · replace h := gif_t q8 h
      refine g_tableIn (off := 137) 179 dX12_runner_42 (by rw [q8]; decide) (by rw [q8]; decide) (by rw [q8]; rfl) rfl ?_
      refine g_iload_n dX12_runner_179 rfl ?_
      refine g_if_ne 191 dX12_runner_180 rfl (fun q => ?_) (fun q => ?_)
      · replace h := gif_f q h
        refine g_bipush dX12_runner_191 kb_m2 ?_
        cases h
        exact g_iret dX12_runner_193 rfl ⟨rfl, rfl⟩
      · replace h := gif_t q h
        refine g_aload_n dX12_runner_183 rfl ?_
        refine g_iload_n dX12_runner_184 rfl ?_
        obtain ⟨p185, e185, h⟩ := obind h
        refine g_vP1 mv_X12_255 dX12_runner_185 ok_28 ⟨by decide, by decide⟩ (Nat.le_of_ble_eq_true rfl) (f_X12_placeOf_ok e185) ?_
        refine g_goto 193 dX12_runner_188 rfl ?_
        cases h
        exact g_iret dX12_runner_193 rfl ⟨rfl, rfl⟩
    replace h := gif_f q8 h
    refine g_tableOut 194 dX12_runner_42 (tabOut (b := 8) (by decide) (fun j hj => by rcases (show j = 0 ∨ j = 1 ∨ j = 2 ∨ j = 3 ∨ j = 4 ∨ j = 5 ∨ j = 6 ∨ j = 7 ∨ j = 8 by omega) with rfl | rfl | rfl | rfl | rfl | rfl | rfl | rfl | rfl <;> assumption)) rfl ?_
    refine g_iload_n dX12_runner_194 rfl ?_
    refine g_if_ne 220 dX12_runner_195 rfl (fun q => ?_) (fun q => ?_)
    · replace h := gif_f q h
      refine g_bipush dX12_runner_220 kb_m2 ?_
      cases h
      exact g_iret dX12_runner_222 rfl ⟨rfl, rfl⟩
    · replace h := gif_t q h
      refine g_aload_n dX12_runner_198 rfl ?_
      refine g_iload_n dX12_runner_199 rfl ?_
      obtain ⟨p200, e200, h⟩ := obind h
      refine g_vP1 mv_X12_218 dX12_runner_200 ok_28 ⟨by decide, by decide⟩ (Nat.le_of_ble_eq_true rfl) (f_X12_totalOf_ok e200) ?_
      refine g_aload_n dX12_runner_203 rfl ?_
      refine g_aload_n dX12_runner_204 rfl ?_
      refine gR_X12_17 ok_28 dX12_runner_205 ?_
      refine g_bipush dX12_runner_208 kb_37 ?_
      refine g_iload_n dX12_runner_210 rfl ?_
      refine g_iadd dX12_runner_211 ?_
      obtain ⟨a212, e212, h⟩ := obind h
      refine g_ldB e212 ok_30 rfl rfl (by decide) dX12_runner_212 ?_
      obtain ⟨p213, e213, h⟩ := obind h
      refine g_vP1 mv_X12_249 dX12_runner_213 ok_28 ⟨by decide, by decide⟩ (Nat.le_of_ble_eq_true rfl) (f_X12_leastTotal_ok e213) ?_
      refine g_isub dX12_runner_216 ?_
      refine g_goto 222 dX12_runner_217 rfl ?_
      cases h
      exact g_iret dX12_runner_222 rfl ⟨rfl, rfl⟩
  · replace h := gif_f q h
    refine g_iconst dX12_runner_33 kc_m1 ?_
    cases h
    exact g_iret dX12_runner_34 rfl ⟨rfl, rfl⟩
theorem f_X12_runner_23_ok {v1 : Int32} {v2 : Int32} {r : (Int32 × gSt)}  {σ : gSt} {x3 : Option Value} (h : f_X12_runner_23 v1 v2 σ = some r) : G l w 0 41 RX12 cX12_runner 4 (some .int) 5 117 (gE (some (.int r.1)) r.2) 23 [some (.ref (w.2.1 28 0)), some (.int v1), some (.int v2), x3] [.ref (w.2.1 28 0)] σ := by
  unfold f_X12_runner_23 at h
  refine g_iconst dX12_runner_23 kc_0 ?_
  exact f_X12_runner_24_ok h
theorem f_X12_runner_ok {v1 : Int32} {v2 : Int32}  {σ : gSt} {r : (Int32 × gSt)} (h : f_X12_runner v1 v2 σ = some r) : Mt l w 0 41 yX12_runner cX12_runner 4 (some .int) 5 117 [.ref (w.2.1 28 0), .int v1, .int v2] σ (gE (some (.int r.1)) r.2) := by
  unfold f_X12_runner at h
  refine g_start pn_X12 rfl rfl (Nat.le_of_ble_eq_true rfl) ?_
  show G l w 0 41 RX12 cX12_runner 4 (some .int) 5 117 (gE (some (.int r.1)) r.2) 0 [some (.ref (w.2.1 28 0)), some (.int v1), some (.int v2), none] [] σ
  refine g_aload_n dX12_runner_0 rfl ?_
  refine g_aload_n dX12_runner_1 rfl ?_
  refine g_iload_n dX12_runner_2 rfl ?_
  obtain ⟨p3, e3, h⟩ := obind h
  refine g_vP1 mv_X12_187 dX12_runner_3 ok_28 ⟨by decide, by decide⟩ (Nat.le_of_ble_eq_true rfl) (f_X12_isRunner_ok e3) ?_
  refine g_if_eq 23 dX12_runner_6 rfl (fun q => ?_) (fun q => ?_)
  · replace h := gif_t q h
    exact f_X12_runner_23_ok h
  · replace h := gif_f q h
    refine g_iload_n dX12_runner_9 rfl ?_
    refine g_iconst dX12_runner_10 kc_0 ?_
    refine g_bipush dX12_runner_11 kb_9 ?_
    obtain ⟨p13, e13, h⟩ := obind h
    refine g_sP3 ms_X12_79 dX12_runner_13 ⟨by decide, by decide⟩ (Nat.le_of_ble_eq_true rfl) (f_X12_in_ok e13) ?_
    refine g_if_eq 23 dX12_runner_16 rfl (fun q => ?_) (fun q => ?_)
    · replace h := gif_t q h
      exact f_X12_runner_23_ok h
    · replace h := gif_f q h
      refine g_iconst dX12_runner_19 kc_1 ?_
      refine g_goto 24 dX12_runner_20 rfl ?_
      exact f_X12_runner_24_ok h
theorem dX12_isPunch_0 : decode cX12_isPunch 0 = .ok (.aload_n 0, 1) := by decide +kernel
theorem dX12_isPunch_1 : decode cX12_isPunch 1 = .ok (.iload_n 1, 1) := by decide +kernel
theorem dX12_isPunch_2 : decode cX12_isPunch 2 = .ok (.invokevirtual 187, 3) := by decide +kernel
theorem dX12_isPunch_5 : decode cX12_isPunch 5 = .ok (.ifCond .eq 26, 3) := by decide +kernel
theorem dX12_isPunch_8 : decode cX12_isPunch 8 = .ok (.iload_n 2, 1) := by decide +kernel
theorem dX12_isPunch_9 : decode cX12_isPunch 9 = .ok (.iconst 0, 1) := by decide +kernel
theorem dX12_isPunch_10 : decode cX12_isPunch 10 = .ok (.aload_n 0, 1) := by decide +kernel
theorem dX12_isPunch_11 : decode cX12_isPunch 11 = .ok (.getfield 17, 3) := by decide +kernel
theorem dX12_isPunch_14 : decode cX12_isPunch 14 = .ok (.bipush 67, 2) := by decide +kernel
theorem dX12_isPunch_16 : decode cX12_isPunch 16 = .ok (.iload_n 1, 1) := by decide +kernel
theorem dX12_isPunch_17 : decode cX12_isPunch 17 = .ok (.iadd, 1) := by decide +kernel
theorem dX12_isPunch_18 : decode cX12_isPunch 18 = .ok (.iaload, 1) := by decide +kernel
theorem dX12_isPunch_19 : decode cX12_isPunch 19 = .ok (.iconst 1, 1) := by decide +kernel
theorem dX12_isPunch_20 : decode cX12_isPunch 20 = .ok (.isub, 1) := by decide +kernel
theorem dX12_isPunch_21 : decode cX12_isPunch 21 = .ok (.invokestatic 79, 3) := by decide +kernel
theorem dX12_isPunch_24 : decode cX12_isPunch 24 = .ok (.ifCond .eq 7, 3) := by decide +kernel
theorem dX12_isPunch_27 : decode cX12_isPunch 27 = .ok (.iconst 1, 1) := by decide +kernel
theorem dX12_isPunch_28 : decode cX12_isPunch 28 = .ok (.goto 4, 3) := by decide +kernel
theorem dX12_isPunch_31 : decode cX12_isPunch 31 = .ok (.iconst 0, 1) := by decide +kernel
theorem dX12_isPunch_32 : decode cX12_isPunch 32 = .ok (.ireturn, 1) := by decide +kernel
def f_X12_isPunch (v1 : Int32) (v2 : Int32) (σ : gSt) : Option (Int32 × gSt) :=
  (f_X12_isRunner v1 σ).bind fun p2 =>
  if p2.1 = 0 then
    some (0, p2.2)
  else
    (gld p2.2 30 0 397 (67 + v1)).bind fun a18 =>
    (f_X12_in v2 0 (a18 - 1) p2.2).bind fun p21 =>
    if p21.1 = 0 then
      some (0, p21.2)
    else
      some (1, p21.2)
theorem f_X12_isPunch_ok {v1 : Int32} {v2 : Int32}  {σ : gSt} {r : (Int32 × gSt)} (h : f_X12_isPunch v1 v2 σ = some r) : Mt l w 0 41 yX12_isPunch cX12_isPunch 3 (some .boolean) 2 43 [.ref (w.2.1 28 0), .int v1, .int v2] σ (gE (some (.int r.1)) r.2) := by
  unfold f_X12_isPunch at h
  refine g_start pn_X12 rfl rfl (Nat.le_of_ble_eq_true rfl) ?_
  show G l w 0 41 RX12 cX12_isPunch 3 (some .boolean) 2 43 (gE (some (.int r.1)) r.2) 0 [some (.ref (w.2.1 28 0)), some (.int v1), some (.int v2)] [] σ
  refine g_aload_n dX12_isPunch_0 rfl ?_
  refine g_iload_n dX12_isPunch_1 rfl ?_
  obtain ⟨p2, e2, h⟩ := obind h
  refine g_vP1 mv_X12_187 dX12_isPunch_2 ok_28 ⟨by decide, by decide⟩ (Nat.le_of_ble_eq_true rfl) (f_X12_isRunner_ok e2) ?_
  refine g_if_eq 31 dX12_isPunch_5 rfl (fun q => ?_) (fun q => ?_)
  · replace h := gif_t q h
    refine g_iconst dX12_isPunch_31 kc_0 ?_
    cases h
    exact g_zret0 dX12_isPunch_32 rfl
  · replace h := gif_f q h
    refine g_iload_n dX12_isPunch_8 rfl ?_
    refine g_iconst dX12_isPunch_9 kc_0 ?_
    refine g_aload_n dX12_isPunch_10 rfl ?_
    refine gR_X12_17 ok_28 dX12_isPunch_11 ?_
    refine g_bipush dX12_isPunch_14 kb_67 ?_
    refine g_iload_n dX12_isPunch_16 rfl ?_
    refine g_iadd dX12_isPunch_17 ?_
    obtain ⟨a18, e18, h⟩ := obind h
    refine g_ldB e18 ok_30 rfl rfl (by decide) dX12_isPunch_18 ?_
    refine g_iconst dX12_isPunch_19 kc_1 ?_
    refine g_isub dX12_isPunch_20 ?_
    obtain ⟨p21, e21, h⟩ := obind h
    refine g_sP3 ms_X12_79 dX12_isPunch_21 ⟨by decide, by decide⟩ (Nat.le_of_ble_eq_true rfl) (f_X12_in_ok e21) ?_
    refine g_if_eq 31 dX12_isPunch_24 rfl (fun q => ?_) (fun q => ?_)
    · replace h := gif_t q h
      refine g_iconst dX12_isPunch_31 kc_0 ?_
      cases h
      exact g_zret0 dX12_isPunch_32 rfl
    · replace h := gif_f q h
      refine g_iconst dX12_isPunch_27 kc_1 ?_
      refine g_goto 32 dX12_isPunch_28 rfl ?_
      cases h
      exact g_zret1 dX12_isPunch_32 rfl
theorem dX12_punch_0 : decode cX12_punch 0 = .ok (.aload_n 0, 1) := by decide +kernel
theorem dX12_punch_1 : decode cX12_punch 1 = .ok (.aload_n 0, 1) := by decide +kernel
theorem dX12_punch_2 : decode cX12_punch 2 = .ok (.iload_n 1, 1) := by decide +kernel
theorem dX12_punch_3 : decode cX12_punch 3 = .ok (.iload_n 2, 1) := by decide +kernel
theorem dX12_punch_4 : decode cX12_punch 4 = .ok (.invokevirtual 258, 3) := by decide +kernel
theorem dX12_punch_7 : decode cX12_punch 7 = .ok (.ifCond .eq 16, 3) := by decide +kernel
theorem dX12_punch_10 : decode cX12_punch 10 = .ok (.iload_n 3, 1) := by decide +kernel
theorem dX12_punch_11 : decode cX12_punch 11 = .ok (.iconst 0, 1) := by decide +kernel
theorem dX12_punch_12 : decode cX12_punch 12 = .ok (.iconst 2, 1) := by decide +kernel
theorem dX12_punch_13 : decode cX12_punch 13 = .ok (.invokestatic 79, 3) := by decide +kernel
theorem dX12_punch_16 : decode cX12_punch 16 = .ok (.ifCond .eq 7, 3) := by decide +kernel
theorem dX12_punch_19 : decode cX12_punch 19 = .ok (.iconst 1, 1) := by decide +kernel
theorem dX12_punch_20 : decode cX12_punch 20 = .ok (.goto 4, 3) := by decide +kernel
theorem dX12_punch_23 : decode cX12_punch 23 = .ok (.iconst 0, 1) := by decide +kernel
theorem dX12_punch_24 : decode cX12_punch 24 = .ok (.invokestatic 234, 3) := by decide +kernel
theorem dX12_punch_27 : decode cX12_punch 27 = .ok (.invokevirtual 161, 3) := by decide +kernel
theorem dX12_punch_30 : decode cX12_punch 30 = .ok (.ifCond .eq 5, 3) := by decide +kernel
theorem dX12_punch_33 : decode cX12_punch 33 = .ok (.iconst (-1), 1) := by decide +kernel
theorem dX12_punch_34 : decode cX12_punch 34 = .ok (.ireturn, 1) := by decide +kernel
theorem dX12_punch_35 : decode cX12_punch 35 = .ok (.iload_n 3, 1) := by decide +kernel
theorem dX12_punch_36 : decode cX12_punch 36 = .ok (.iconst 2, 1) := by decide +kernel
theorem dX12_punch_37 : decode cX12_punch 37 = .ok (.if_icmp .ge 23, 3) := by decide +kernel
theorem dX12_punch_40 : decode cX12_punch 40 = .ok (.iload_n 3, 1) := by decide +kernel
theorem dX12_punch_41 : decode cX12_punch 41 = .ok (.ifCond .ne 12, 3) := by decide +kernel
theorem dX12_punch_44 : decode cX12_punch 44 = .ok (.aload_n 0, 1) := by decide +kernel
theorem dX12_punch_45 : decode cX12_punch 45 = .ok (.iload_n 1, 1) := by decide +kernel
theorem dX12_punch_46 : decode cX12_punch 46 = .ok (.iload_n 2, 1) := by decide +kernel
theorem dX12_punch_47 : decode cX12_punch 47 = .ok (.invokevirtual 200, 3) := by decide +kernel
theorem dX12_punch_50 : decode cX12_punch 50 = .ok (.goto 9, 3) := by decide +kernel
theorem dX12_punch_53 : decode cX12_punch 53 = .ok (.aload_n 0, 1) := by decide +kernel
theorem dX12_punch_54 : decode cX12_punch 54 = .ok (.iload_n 1, 1) := by decide +kernel
theorem dX12_punch_55 : decode cX12_punch 55 = .ok (.iload_n 2, 1) := by decide +kernel
theorem dX12_punch_56 : decode cX12_punch 56 = .ok (.invokevirtual 209, 3) := by decide +kernel
theorem dX12_punch_59 : decode cX12_punch 59 = .ok (.ireturn, 1) := by decide +kernel
theorem dX12_punch_60 : decode cX12_punch 60 = .ok (.aload_n 0, 1) := by decide +kernel
theorem dX12_punch_61 : decode cX12_punch 61 = .ok (.iload_n 1, 1) := by decide +kernel
theorem dX12_punch_62 : decode cX12_punch 62 = .ok (.invokevirtual 206, 3) := by decide +kernel
theorem dX12_punch_65 : decode cX12_punch 65 = .ok (.pop, 1) := by decide +kernel
theorem dX12_punch_66 : decode cX12_punch 66 = .ok (.iconst 0, 1) := by decide +kernel
theorem dX12_punch_67 : decode cX12_punch 67 = .ok (.istore 4, 2) := by decide +kernel
theorem dX12_punch_69 : decode cX12_punch 69 = .ok (.iload 4, 2) := by decide +kernel
theorem dX12_punch_71 : decode cX12_punch 71 = .ok (.aload_n 0, 1) := by decide +kernel
theorem dX12_punch_72 : decode cX12_punch 72 = .ok (.getfield 17, 3) := by decide +kernel
theorem dX12_punch_75 : decode cX12_punch 75 = .ok (.iconst 4, 1) := by decide +kernel
theorem dX12_punch_76 : decode cX12_punch 76 = .ok (.aload_n 0, 1) := by decide +kernel
theorem dX12_punch_77 : decode cX12_punch 77 = .ok (.getfield 17, 3) := by decide +kernel
theorem dX12_punch_80 : decode cX12_punch 80 = .ok (.bipush 37, 2) := by decide +kernel
theorem dX12_punch_82 : decode cX12_punch 82 = .ok (.iload_n 1, 1) := by decide +kernel
theorem dX12_punch_83 : decode cX12_punch 83 = .ok (.iadd, 1) := by decide +kernel
theorem dX12_punch_84 : decode cX12_punch 84 = .ok (.iaload, 1) := by decide +kernel
theorem dX12_punch_85 : decode cX12_punch 85 = .ok (.iadd, 1) := by decide +kernel
theorem dX12_punch_86 : decode cX12_punch 86 = .ok (.iaload, 1) := by decide +kernel
theorem dX12_punch_87 : decode cX12_punch 87 = .ok (.if_icmp .ge 23, 3) := by decide +kernel
theorem dX12_punch_90 : decode cX12_punch 90 = .ok (.aload_n 0, 1) := by decide +kernel
theorem dX12_punch_91 : decode cX12_punch 91 = .ok (.getfield 32, 3) := by decide +kernel
theorem dX12_punch_94 : decode cX12_punch 94 = .ok (.iload 4, 2) := by decide +kernel
theorem dX12_punch_96 : decode cX12_punch 96 = .ok (.iaload, 1) := by decide +kernel
theorem dX12_punch_97 : decode cX12_punch 97 = .ok (.iload_n 2, 1) := by decide +kernel
theorem dX12_punch_98 : decode cX12_punch 98 = .ok (.if_icmp .ne 6, 3) := by decide +kernel
theorem dX12_punch_101 : decode cX12_punch 101 = .ok (.iload 4, 2) := by decide +kernel
theorem dX12_punch_103 : decode cX12_punch 103 = .ok (.ireturn, 1) := by decide +kernel
theorem dX12_punch_104 : decode cX12_punch 104 = .ok (.iinc 4 1, 3) := by decide +kernel
theorem dX12_punch_107 : decode cX12_punch 107 = .ok (.goto (-38), 3) := by decide +kernel
theorem dX12_punch_110 : decode cX12_punch 110 = .ok (.bipush (-2), 2) := by decide +kernel
theorem dX12_punch_112 : decode cX12_punch 112 = .ok (.ireturn, 1) := by decide +kernel
def f_X12_punch_69 (v1 : Int32) (v2 : Int32) : Nat → Int32 → gSt → Option (Int32 × gSt)
  | 0, _, _ => none
  | n + 1, v4, σ =>
    (gld σ 30 0 397 (37 + v1)).bind fun a84 =>
    (gld σ 30 0 397 (4 + a84)).bind fun a86 =>
    if a86 ≤ v4 then
      some ((-2), σ)
    else
      (gld σ 35 0 10 v4).bind fun a96 =>
      if a96 = v2 then
        some (v4, σ)
      else
        f_X12_punch_69 v1 v2 n (v4 + 1) σ
def f_X12_punch_24 (v1 : Int32) (v2 : Int32) (v3 : Int32) (vs1 : Int32) (σ : gSt) : Option (Int32 × gSt) :=
  (f_X12_unless vs1 σ).bind fun p24 =>
  (f_X12_isRefused p24.1 p24.2).bind fun p27 =>
  if p27.1 = 0 then
    if 2 ≤ v3 then
      (f_X12_missedBy v1 p27.2).bind fun p62 =>
      f_X12_punch_69 v1 v2 gFuel 0 p62.2
    else
      if v3 = 0 then
        (f_X12_punchCode v1 v2 p27.2).bind fun p47 =>
        some (p47.1, p47.2)
      else
        (f_X12_punchTime v1 v2 p27.2).bind fun p56 =>
        some (p56.1, p56.2)
  else
    some ((-1), p27.2)
def f_X12_punch_23 (v1 : Int32) (v2 : Int32) (v3 : Int32) (σ : gSt) : Option (Int32 × gSt) :=
  f_X12_punch_24 v1 v2 v3 0 σ
def f_X12_punch (v1 : Int32) (v2 : Int32) (v3 : Int32) (σ : gSt) : Option (Int32 × gSt) :=
  (f_X12_isPunch v1 v2 σ).bind fun p4 =>
  if p4.1 = 0 then
    f_X12_punch_23 v1 v2 v3 p4.2
  else
    (f_X12_in v3 0 2 p4.2).bind fun p13 =>
    if p13.1 = 0 then
      f_X12_punch_23 v1 v2 v3 p13.2
    else
      f_X12_punch_24 v1 v2 v3 1 p13.2
theorem f_X12_punch_69_ok {v1 : Int32} {v2 : Int32} {r : (Int32 × gSt)}  : ∀ (n : Nat) {v4 : Int32} {σ : gSt} {x3 : Option Value}, f_X12_punch_69 v1 v2 n v4 σ = some r → G l w 0 41 RX12 cX12_punch 5 (some .int) 3 73 (gE (some (.int r.1)) r.2) 69 [some (.ref (w.2.1 28 0)), some (.int v1), some (.int v2), x3, some (.int v4)] [] σ := by
  intro n
  induction n with
  | zero => intro v4 σ x3 h; rw [f_X12_punch_69] at h; cases h
  | succ n ih =>
    intro v4 σ x3 h
    rw [f_X12_punch_69] at h
    refine g_iload dX12_punch_69 rfl ?_
    refine g_aload_n dX12_punch_71 rfl ?_
    refine gR_X12_17 ok_28 dX12_punch_72 ?_
    refine g_iconst dX12_punch_75 kc_4 ?_
    refine g_aload_n dX12_punch_76 rfl ?_
    refine gR_X12_17 ok_28 dX12_punch_77 ?_
    refine g_bipush dX12_punch_80 kb_37 ?_
    refine g_iload_n dX12_punch_82 rfl ?_
    refine g_iadd dX12_punch_83 ?_
    obtain ⟨a84, e84, h⟩ := obind h
    refine g_ldB e84 ok_30 rfl rfl (by decide) dX12_punch_84 ?_
    refine g_iadd dX12_punch_85 ?_
    obtain ⟨a86, e86, h⟩ := obind h
    refine g_ldB e86 ok_30 rfl rfl (by decide) dX12_punch_86 ?_
    refine g_icmp_ge 110 dX12_punch_87 rfl (fun q => ?_) (fun q => ?_)
    · replace h := gif_t q h
      refine g_bipush dX12_punch_110 kb_m2 ?_
      cases h
      exact g_iret dX12_punch_112 rfl ⟨rfl, rfl⟩
    · replace h := gif_f q h
      refine g_aload_n dX12_punch_90 rfl ?_
      refine gR_X12_32 ok_28 dX12_punch_91 ?_
      refine g_iload dX12_punch_94 rfl ?_
      obtain ⟨a96, e96, h⟩ := obind h
      refine g_ldB e96 ok_35 rfl rfl (by decide) dX12_punch_96 ?_
      refine g_iload_n dX12_punch_97 rfl ?_
      refine g_icmp_ne 104 dX12_punch_98 rfl (fun q => ?_) (fun q => ?_)
      · replace h := gif_f q h
        refine g_inc4 kc_1 dX12_punch_104 ?_
        refine g_goto 69 dX12_punch_107 rfl ?_
        exact ih h
      · replace h := gif_t q h
        refine g_iload dX12_punch_101 rfl ?_
        cases h
        exact g_iret dX12_punch_103 rfl ⟨rfl, rfl⟩
theorem f_X12_punch_24_ok {v1 : Int32} {v2 : Int32} {v3 : Int32} {vs1 : Int32} {r : (Int32 × gSt)}  {σ : gSt} {x4 : Option Value} (h : f_X12_punch_24 v1 v2 v3 vs1 σ = some r) : G l w 0 41 RX12 cX12_punch 5 (some .int) 3 73 (gE (some (.int r.1)) r.2) 24 [some (.ref (w.2.1 28 0)), some (.int v1), some (.int v2), some (.int v3), x4] [.int vs1, .ref (w.2.1 28 0)] σ := by
  unfold f_X12_punch_24 at h
  obtain ⟨p24, e24, h⟩ := obind h
  refine g_sP1 ms_X12_234 dX12_punch_24 ⟨by decide, by decide⟩ (Nat.le_of_ble_eq_true rfl) (f_X12_unless_ok e24) ?_
  obtain ⟨p27, e27, h⟩ := obind h
  refine g_vP1 mv_X12_161 dX12_punch_27 ok_28 ⟨by decide, by decide⟩ (Nat.le_of_ble_eq_true rfl) (f_X12_isRefused_ok e27) ?_
  refine g_if_eq 35 dX12_punch_30 rfl (fun q => ?_) (fun q => ?_)
  · replace h := gif_t q h
    refine g_iload_n dX12_punch_35 rfl ?_
    refine g_iconst dX12_punch_36 kc_2 ?_
    refine g_icmp_ge 60 dX12_punch_37 rfl (fun q => ?_) (fun q => ?_)
    · replace h := gif_t q h
      refine g_aload_n dX12_punch_60 rfl ?_
      refine g_iload_n dX12_punch_61 rfl ?_
      obtain ⟨p62, e62, h⟩ := obind h
      refine g_vP1 mv_X12_206 dX12_punch_62 ok_28 ⟨by decide, by decide⟩ (Nat.le_of_ble_eq_true rfl) (f_X12_missedBy_ok e62) ?_
      refine g_pop dX12_punch_65 rfl ?_
      refine g_iconst dX12_punch_66 kc_0 ?_
      refine g_istore4 dX12_punch_67 ?_
      exact f_X12_punch_69_ok gFuel h
    · replace h := gif_f q h
      refine g_iload_n dX12_punch_40 rfl ?_
      refine g_if_ne 53 dX12_punch_41 rfl (fun q => ?_) (fun q => ?_)
      · replace h := gif_f q h
        refine g_aload_n dX12_punch_53 rfl ?_
        refine g_iload_n dX12_punch_54 rfl ?_
        refine g_iload_n dX12_punch_55 rfl ?_
        obtain ⟨p56, e56, h⟩ := obind h
        refine g_vP2 mv_X12_209 dX12_punch_56 ok_28 ⟨by decide, by decide⟩ (Nat.le_of_ble_eq_true rfl) (f_X12_punchTime_ok e56) ?_
        cases h
        exact g_iret dX12_punch_59 rfl ⟨rfl, rfl⟩
      · replace h := gif_t q h
        refine g_aload_n dX12_punch_44 rfl ?_
        refine g_iload_n dX12_punch_45 rfl ?_
        refine g_iload_n dX12_punch_46 rfl ?_
        obtain ⟨p47, e47, h⟩ := obind h
        refine g_vP2 mv_X12_200 dX12_punch_47 ok_28 ⟨by decide, by decide⟩ (Nat.le_of_ble_eq_true rfl) (f_X12_punchCode_ok e47) ?_
        refine g_goto 59 dX12_punch_50 rfl ?_
        cases h
        exact g_iret dX12_punch_59 rfl ⟨rfl, rfl⟩
  · replace h := gif_f q h
    refine g_iconst dX12_punch_33 kc_m1 ?_
    cases h
    exact g_iret dX12_punch_34 rfl ⟨rfl, rfl⟩
theorem f_X12_punch_23_ok {v1 : Int32} {v2 : Int32} {v3 : Int32} {r : (Int32 × gSt)}  {σ : gSt} {x4 : Option Value} (h : f_X12_punch_23 v1 v2 v3 σ = some r) : G l w 0 41 RX12 cX12_punch 5 (some .int) 3 73 (gE (some (.int r.1)) r.2) 23 [some (.ref (w.2.1 28 0)), some (.int v1), some (.int v2), some (.int v3), x4] [.ref (w.2.1 28 0)] σ := by
  unfold f_X12_punch_23 at h
  refine g_iconst dX12_punch_23 kc_0 ?_
  exact f_X12_punch_24_ok h
theorem f_X12_punch_ok {v1 : Int32} {v2 : Int32} {v3 : Int32}  {σ : gSt} {r : (Int32 × gSt)} (h : f_X12_punch v1 v2 v3 σ = some r) : Mt l w 0 41 yX12_punch cX12_punch 5 (some .int) 3 73 [.ref (w.2.1 28 0), .int v1, .int v2, .int v3] σ (gE (some (.int r.1)) r.2) := by
  unfold f_X12_punch at h
  refine g_start pn_X12 rfl rfl (Nat.le_of_ble_eq_true rfl) ?_
  show G l w 0 41 RX12 cX12_punch 5 (some .int) 3 73 (gE (some (.int r.1)) r.2) 0 [some (.ref (w.2.1 28 0)), some (.int v1), some (.int v2), some (.int v3), none] [] σ
  refine g_aload_n dX12_punch_0 rfl ?_
  refine g_aload_n dX12_punch_1 rfl ?_
  refine g_iload_n dX12_punch_2 rfl ?_
  refine g_iload_n dX12_punch_3 rfl ?_
  obtain ⟨p4, e4, h⟩ := obind h
  refine g_vP2 mv_X12_258 dX12_punch_4 ok_28 ⟨by decide, by decide⟩ (Nat.le_of_ble_eq_true rfl) (f_X12_isPunch_ok e4) ?_
  refine g_if_eq 23 dX12_punch_7 rfl (fun q => ?_) (fun q => ?_)
  · replace h := gif_t q h
    exact f_X12_punch_23_ok h
  · replace h := gif_f q h
    refine g_iload_n dX12_punch_10 rfl ?_
    refine g_iconst dX12_punch_11 kc_0 ?_
    refine g_iconst dX12_punch_12 kc_2 ?_
    obtain ⟨p13, e13, h⟩ := obind h
    refine g_sP3 ms_X12_79 dX12_punch_13 ⟨by decide, by decide⟩ (Nat.le_of_ble_eq_true rfl) (f_X12_in_ok e13) ?_
    refine g_if_eq 23 dX12_punch_16 rfl (fun q => ?_) (fun q => ?_)
    · replace h := gif_t q h
      exact f_X12_punch_23_ok h
    · replace h := gif_f q h
      refine g_iconst dX12_punch_19 kc_1 ?_
      refine g_goto 24 dX12_punch_20 rfl ?_
      exact f_X12_punch_24_ok h
theorem dX12_misses_0 : decode cX12_misses 0 = .ok (.aload_n 0, 1) := by decide +kernel
theorem dX12_misses_1 : decode cX12_misses 1 = .ok (.aload_n 0, 1) := by decide +kernel
theorem dX12_misses_2 : decode cX12_misses 2 = .ok (.iload_n 1, 1) := by decide +kernel
theorem dX12_misses_3 : decode cX12_misses 3 = .ok (.invokevirtual 187, 3) := by decide +kernel
theorem dX12_misses_6 : decode cX12_misses 6 = .ok (.ifCond .eq 15, 3) := by decide +kernel
theorem dX12_misses_9 : decode cX12_misses 9 = .ok (.aload_n 0, 1) := by decide +kernel
theorem dX12_misses_10 : decode cX12_misses 10 = .ok (.iload_n 2, 1) := by decide +kernel
theorem dX12_misses_11 : decode cX12_misses 11 = .ok (.invokevirtual 184, 3) := by decide +kernel
theorem dX12_misses_14 : decode cX12_misses 14 = .ok (.ifCond .eq 7, 3) := by decide +kernel
theorem dX12_misses_17 : decode cX12_misses 17 = .ok (.iconst 1, 1) := by decide +kernel
theorem dX12_misses_18 : decode cX12_misses 18 = .ok (.goto 4, 3) := by decide +kernel
theorem dX12_misses_21 : decode cX12_misses 21 = .ok (.iconst 0, 1) := by decide +kernel
theorem dX12_misses_22 : decode cX12_misses 22 = .ok (.invokestatic 234, 3) := by decide +kernel
theorem dX12_misses_25 : decode cX12_misses 25 = .ok (.invokevirtual 161, 3) := by decide +kernel
theorem dX12_misses_28 : decode cX12_misses 28 = .ok (.ifCond .eq 7, 3) := by decide +kernel
theorem dX12_misses_31 : decode cX12_misses 31 = .ok (.iconst (-1), 1) := by decide +kernel
theorem dX12_misses_32 : decode cX12_misses 32 = .ok (.goto 9, 3) := by decide +kernel
theorem dX12_misses_35 : decode cX12_misses 35 = .ok (.aload_n 0, 1) := by decide +kernel
theorem dX12_misses_36 : decode cX12_misses 36 = .ok (.iload_n 1, 1) := by decide +kernel
theorem dX12_misses_37 : decode cX12_misses 37 = .ok (.iload_n 2, 1) := by decide +kernel
theorem dX12_misses_38 : decode cX12_misses 38 = .ok (.invokevirtual 203, 3) := by decide +kernel
theorem dX12_misses_41 : decode cX12_misses 41 = .ok (.ireturn, 1) := by decide +kernel
def f_X12_misses_22 (v1 : Int32) (v2 : Int32) (vs1 : Int32) (σ : gSt) : Option (Int32 × gSt) :=
  (f_X12_unless vs1 σ).bind fun p22 =>
  (f_X12_isRefused p22.1 p22.2).bind fun p25 =>
  if p25.1 = 0 then
    (f_X12_matches v1 v2 p25.2).bind fun p38 =>
    some (p38.1, p38.2)
  else
    some ((-1), p25.2)
def f_X12_misses_21 (v1 : Int32) (v2 : Int32) (σ : gSt) : Option (Int32 × gSt) :=
  f_X12_misses_22 v1 v2 0 σ
def f_X12_misses (v1 : Int32) (v2 : Int32) (σ : gSt) : Option (Int32 × gSt) :=
  (f_X12_isRunner v1 σ).bind fun p3 =>
  if p3.1 = 0 then
    f_X12_misses_21 v1 v2 p3.2
  else
    (f_X12_isCourse v2 p3.2).bind fun p11 =>
    if p11.1 = 0 then
      f_X12_misses_21 v1 v2 p11.2
    else
      f_X12_misses_22 v1 v2 1 p11.2
theorem f_X12_misses_22_ok {v1 : Int32} {v2 : Int32} {vs1 : Int32} {r : (Int32 × gSt)}  {σ : gSt}  (h : f_X12_misses_22 v1 v2 vs1 σ = some r) : G l w 0 41 RX12 cX12_misses 3 (some .int) 2 52 (gE (some (.int r.1)) r.2) 22 [some (.ref (w.2.1 28 0)), some (.int v1), some (.int v2)] [.int vs1, .ref (w.2.1 28 0)] σ := by
  unfold f_X12_misses_22 at h
  obtain ⟨p22, e22, h⟩ := obind h
  refine g_sP1 ms_X12_234 dX12_misses_22 ⟨by decide, by decide⟩ (Nat.le_of_ble_eq_true rfl) (f_X12_unless_ok e22) ?_
  obtain ⟨p25, e25, h⟩ := obind h
  refine g_vP1 mv_X12_161 dX12_misses_25 ok_28 ⟨by decide, by decide⟩ (Nat.le_of_ble_eq_true rfl) (f_X12_isRefused_ok e25) ?_
  refine g_if_eq 35 dX12_misses_28 rfl (fun q => ?_) (fun q => ?_)
  · replace h := gif_t q h
    refine g_aload_n dX12_misses_35 rfl ?_
    refine g_iload_n dX12_misses_36 rfl ?_
    refine g_iload_n dX12_misses_37 rfl ?_
    obtain ⟨p38, e38, h⟩ := obind h
    refine g_vP2 mv_X12_203 dX12_misses_38 ok_28 ⟨by decide, by decide⟩ (Nat.le_of_ble_eq_true rfl) (f_X12_matches_ok e38) ?_
    cases h
    exact g_iret dX12_misses_41 rfl ⟨rfl, rfl⟩
  · replace h := gif_f q h
    refine g_iconst dX12_misses_31 kc_m1 ?_
    refine g_goto 41 dX12_misses_32 rfl ?_
    cases h
    exact g_iret dX12_misses_41 rfl ⟨rfl, rfl⟩
theorem f_X12_misses_21_ok {v1 : Int32} {v2 : Int32} {r : (Int32 × gSt)}  {σ : gSt}  (h : f_X12_misses_21 v1 v2 σ = some r) : G l w 0 41 RX12 cX12_misses 3 (some .int) 2 52 (gE (some (.int r.1)) r.2) 21 [some (.ref (w.2.1 28 0)), some (.int v1), some (.int v2)] [.ref (w.2.1 28 0)] σ := by
  unfold f_X12_misses_21 at h
  refine g_iconst dX12_misses_21 kc_0 ?_
  exact f_X12_misses_22_ok h
theorem f_X12_misses_ok {v1 : Int32} {v2 : Int32}  {σ : gSt} {r : (Int32 × gSt)} (h : f_X12_misses v1 v2 σ = some r) : Mt l w 0 41 yX12_misses cX12_misses 3 (some .int) 2 52 [.ref (w.2.1 28 0), .int v1, .int v2] σ (gE (some (.int r.1)) r.2) := by
  unfold f_X12_misses at h
  refine g_start pn_X12 rfl rfl (Nat.le_of_ble_eq_true rfl) ?_
  show G l w 0 41 RX12 cX12_misses 3 (some .int) 2 52 (gE (some (.int r.1)) r.2) 0 [some (.ref (w.2.1 28 0)), some (.int v1), some (.int v2)] [] σ
  refine g_aload_n dX12_misses_0 rfl ?_
  refine g_aload_n dX12_misses_1 rfl ?_
  refine g_iload_n dX12_misses_2 rfl ?_
  obtain ⟨p3, e3, h⟩ := obind h
  refine g_vP1 mv_X12_187 dX12_misses_3 ok_28 ⟨by decide, by decide⟩ (Nat.le_of_ble_eq_true rfl) (f_X12_isRunner_ok e3) ?_
  refine g_if_eq 21 dX12_misses_6 rfl (fun q => ?_) (fun q => ?_)
  · replace h := gif_t q h
    exact f_X12_misses_21_ok h
  · replace h := gif_f q h
    refine g_aload_n dX12_misses_9 rfl ?_
    refine g_iload_n dX12_misses_10 rfl ?_
    obtain ⟨p11, e11, h⟩ := obind h
    refine g_vP1 mv_X12_184 dX12_misses_11 ok_28 ⟨by decide, by decide⟩ (Nat.le_of_ble_eq_true rfl) (f_X12_isCourse_ok e11) ?_
    refine g_if_eq 21 dX12_misses_14 rfl (fun q => ?_) (fun q => ?_)
    · replace h := gif_t q h
      exact f_X12_misses_21_ok h
    · replace h := gif_f q h
      refine g_iconst dX12_misses_17 kc_1 ?_
      refine g_goto 22 dX12_misses_18 rfl ?_
      exact f_X12_misses_22_ok h
theorem dX12_fits_0 : decode cX12_fits 0 = .ok (.aload_n 0, 1) := by decide +kernel
theorem dX12_fits_1 : decode cX12_fits 1 = .ok (.aload_n 0, 1) := by decide +kernel
theorem dX12_fits_2 : decode cX12_fits 2 = .ok (.iload_n 1, 1) := by decide +kernel
theorem dX12_fits_3 : decode cX12_fits 3 = .ok (.invokevirtual 187, 3) := by decide +kernel
theorem dX12_fits_6 : decode cX12_fits 6 = .ok (.invokestatic 234, 3) := by decide +kernel
theorem dX12_fits_9 : decode cX12_fits 9 = .ok (.invokevirtual 161, 3) := by decide +kernel
theorem dX12_fits_12 : decode cX12_fits 12 = .ok (.ifCond .eq 5, 3) := by decide +kernel
theorem dX12_fits_15 : decode cX12_fits 15 = .ok (.iconst (-1), 1) := by decide +kernel
theorem dX12_fits_16 : decode cX12_fits 16 = .ok (.ireturn, 1) := by decide +kernel
theorem dX12_fits_17 : decode cX12_fits 17 = .ok (.iconst 0, 1) := by decide +kernel
theorem dX12_fits_18 : decode cX12_fits 18 = .ok (.istore_n 2, 1) := by decide +kernel
theorem dX12_fits_19 : decode cX12_fits 19 = .ok (.iconst 1, 1) := by decide +kernel
theorem dX12_fits_20 : decode cX12_fits 20 = .ok (.istore_n 3, 1) := by decide +kernel
theorem dX12_fits_21 : decode cX12_fits 21 = .ok (.iload_n 3, 1) := by decide +kernel
theorem dX12_fits_22 : decode cX12_fits 22 = .ok (.aload_n 0, 1) := by decide +kernel
theorem dX12_fits_23 : decode cX12_fits 23 = .ok (.getfield 17, 3) := by decide +kernel
theorem dX12_fits_26 : decode cX12_fits 26 = .ok (.iconst 0, 1) := by decide +kernel
theorem dX12_fits_27 : decode cX12_fits 27 = .ok (.iaload, 1) := by decide +kernel
theorem dX12_fits_28 : decode cX12_fits 28 = .ok (.if_icmp .ge 64, 3) := by decide +kernel
theorem dX12_fits_31 : decode cX12_fits 31 = .ok (.aload_n 0, 1) := by decide +kernel
theorem dX12_fits_32 : decode cX12_fits 32 = .ok (.iload_n 1, 1) := by decide +kernel
theorem dX12_fits_33 : decode cX12_fits 33 = .ok (.iload_n 3, 1) := by decide +kernel
theorem dX12_fits_34 : decode cX12_fits 34 = .ok (.invokevirtual 203, 3) := by decide +kernel
theorem dX12_fits_37 : decode cX12_fits 37 = .ok (.istore 4, 2) := by decide +kernel
theorem dX12_fits_39 : decode cX12_fits 39 = .ok (.aload_n 0, 1) := by decide +kernel
theorem dX12_fits_40 : decode cX12_fits 40 = .ok (.iload_n 1, 1) := by decide +kernel
theorem dX12_fits_41 : decode cX12_fits 41 = .ok (.iload_n 2, 1) := by decide +kernel
theorem dX12_fits_42 : decode cX12_fits 42 = .ok (.invokevirtual 203, 3) := by decide +kernel
theorem dX12_fits_45 : decode cX12_fits 45 = .ok (.istore 5, 2) := by decide +kernel
theorem dX12_fits_47 : decode cX12_fits 47 = .ok (.iload 4, 2) := by decide +kernel
theorem dX12_fits_49 : decode cX12_fits 49 = .ok (.iload 5, 2) := by decide +kernel
theorem dX12_fits_51 : decode cX12_fits 51 = .ok (.if_icmp .lt 29, 3) := by decide +kernel
theorem dX12_fits_54 : decode cX12_fits 54 = .ok (.iload 4, 2) := by decide +kernel
theorem dX12_fits_56 : decode cX12_fits 56 = .ok (.iload 5, 2) := by decide +kernel
theorem dX12_fits_58 : decode cX12_fits 58 = .ok (.if_icmp .ne 26, 3) := by decide +kernel
theorem dX12_fits_61 : decode cX12_fits 61 = .ok (.aload_n 0, 1) := by decide +kernel
theorem dX12_fits_62 : decode cX12_fits 62 = .ok (.getfield 17, 3) := by decide +kernel
theorem dX12_fits_65 : decode cX12_fits 65 = .ok (.iconst 4, 1) := by decide +kernel
theorem dX12_fits_66 : decode cX12_fits 66 = .ok (.iload_n 3, 1) := by decide +kernel
theorem dX12_fits_67 : decode cX12_fits 67 = .ok (.iadd, 1) := by decide +kernel
theorem dX12_fits_68 : decode cX12_fits 68 = .ok (.iaload, 1) := by decide +kernel
theorem dX12_fits_69 : decode cX12_fits 69 = .ok (.aload_n 0, 1) := by decide +kernel
theorem dX12_fits_70 : decode cX12_fits 70 = .ok (.getfield 17, 3) := by decide +kernel
theorem dX12_fits_73 : decode cX12_fits 73 = .ok (.iconst 4, 1) := by decide +kernel
theorem dX12_fits_74 : decode cX12_fits 74 = .ok (.iload_n 2, 1) := by decide +kernel
theorem dX12_fits_75 : decode cX12_fits 75 = .ok (.iadd, 1) := by decide +kernel
theorem dX12_fits_76 : decode cX12_fits 76 = .ok (.iaload, 1) := by decide +kernel
theorem dX12_fits_77 : decode cX12_fits 77 = .ok (.if_icmp .le 7, 3) := by decide +kernel
theorem dX12_fits_80 : decode cX12_fits 80 = .ok (.iload_n 3, 1) := by decide +kernel
theorem dX12_fits_81 : decode cX12_fits 81 = .ok (.goto 4, 3) := by decide +kernel
theorem dX12_fits_84 : decode cX12_fits 84 = .ok (.iload_n 2, 1) := by decide +kernel
theorem dX12_fits_85 : decode cX12_fits 85 = .ok (.istore_n 2, 1) := by decide +kernel
theorem dX12_fits_86 : decode cX12_fits 86 = .ok (.iinc 3 1, 3) := by decide +kernel
theorem dX12_fits_89 : decode cX12_fits 89 = .ok (.goto (-68), 3) := by decide +kernel
theorem dX12_fits_92 : decode cX12_fits 92 = .ok (.iload_n 2, 1) := by decide +kernel
theorem dX12_fits_93 : decode cX12_fits 93 = .ok (.ireturn, 1) := by decide +kernel
def f_X12_fits_21 (v1 : Int32) : Nat → Int32 → Int32 → gSt → Option (Int32 × gSt)
  | 0, _, _, _ => none
  | n + 1, v2, v3, σ =>
    (gld σ 30 0 397 0).bind fun a27 =>
    if a27 ≤ v3 then
      some (v2, σ)
    else
      (f_X12_matches v1 v3 σ).bind fun p34 =>
      (f_X12_matches v1 v2 p34.2).bind fun p42 =>
      if p34.1 < p42.1 then
        f_X12_fits_21 v1 n v3 (v3 + 1) p42.2
      else
        if p34.1 = p42.1 then
          (gld p42.2 30 0 397 (4 + v3)).bind fun a68 =>
          (gld p42.2 30 0 397 (4 + v2)).bind fun a76 =>
          if a68 ≤ a76 then
            f_X12_fits_21 v1 n v2 (v3 + 1) p42.2
          else
            f_X12_fits_21 v1 n v3 (v3 + 1) p42.2
        else
          f_X12_fits_21 v1 n v2 (v3 + 1) p42.2
def f_X12_fits (v1 : Int32) (σ : gSt) : Option (Int32 × gSt) :=
  (f_X12_isRunner v1 σ).bind fun p3 =>
  (f_X12_unless p3.1 p3.2).bind fun p6 =>
  (f_X12_isRefused p6.1 p6.2).bind fun p9 =>
  if p9.1 = 0 then
    f_X12_fits_21 v1 gFuel 0 1 p9.2
  else
    some ((-1), p9.2)
theorem f_X12_fits_21_ok {v1 : Int32} {r : (Int32 × gSt)}  : ∀ (n : Nat) {v2 : Int32} {v3 : Int32} {σ : gSt} {x4 x5 : Option Value}, f_X12_fits_21 v1 n v2 v3 σ = some r → G l w 0 41 RX12 cX12_fits 6 (some .int) 2 52 (gE (some (.int r.1)) r.2) 21 [some (.ref (w.2.1 28 0)), some (.int v1), some (.int v2), some (.int v3), x4, x5] [] σ := by
  intro n
  induction n with
  | zero => intro v2 v3 σ x4 x5 h; rw [f_X12_fits_21] at h; cases h
  | succ n ih =>
    intro v2 v3 σ x4 x5 h
    rw [f_X12_fits_21] at h
    refine g_iload_n dX12_fits_21 rfl ?_
    refine g_aload_n dX12_fits_22 rfl ?_
    refine gR_X12_17 ok_28 dX12_fits_23 ?_
    refine g_iconst dX12_fits_26 kc_0 ?_
    obtain ⟨a27, e27, h⟩ := obind h
    refine g_ldB e27 ok_30 rfl rfl (by decide) dX12_fits_27 ?_
    refine g_icmp_ge 92 dX12_fits_28 rfl (fun q => ?_) (fun q => ?_)
    · replace h := gif_t q h
      refine g_iload_n dX12_fits_92 rfl ?_
      cases h
      exact g_iret dX12_fits_93 rfl ⟨rfl, rfl⟩
    · replace h := gif_f q h
      refine g_aload_n dX12_fits_31 rfl ?_
      refine g_iload_n dX12_fits_32 rfl ?_
      refine g_iload_n dX12_fits_33 rfl ?_
      obtain ⟨p34, e34, h⟩ := obind h
      refine g_vP2 mv_X12_203 dX12_fits_34 ok_28 ⟨by decide, by decide⟩ (Nat.le_of_ble_eq_true rfl) (f_X12_matches_ok e34) ?_
      refine g_istore4 dX12_fits_37 ?_
      refine g_aload_n dX12_fits_39 rfl ?_
      refine g_iload_n dX12_fits_40 rfl ?_
      refine g_iload_n dX12_fits_41 rfl ?_
      obtain ⟨p42, e42, h⟩ := obind h
      refine g_vP2 mv_X12_203 dX12_fits_42 ok_28 ⟨by decide, by decide⟩ (Nat.le_of_ble_eq_true rfl) (f_X12_matches_ok e42) ?_
      refine g_istore5 dX12_fits_45 ?_
      refine g_iload dX12_fits_47 rfl ?_
      refine g_iload dX12_fits_49 rfl ?_
      refine g_icmp_lt 80 dX12_fits_51 rfl (fun q => ?_) (fun q => ?_)
      · replace h := gif_t q h
        refine g_iload_n dX12_fits_80 rfl ?_
        refine g_goto 85 dX12_fits_81 rfl ?_
        refine g_istore2 dX12_fits_85 ?_
        refine g_inc3 kc_1 dX12_fits_86 ?_
        refine g_goto 21 dX12_fits_89 rfl ?_
        exact ih h
      · replace h := gif_f q h
        refine g_iload dX12_fits_54 rfl ?_
        refine g_iload dX12_fits_56 rfl ?_
        refine g_icmp_ne 84 dX12_fits_58 rfl (fun q => ?_) (fun q => ?_)
        · replace h := gif_f q h
          refine g_iload_n dX12_fits_84 rfl ?_
          refine g_istore2 dX12_fits_85 ?_
          refine g_inc3 kc_1 dX12_fits_86 ?_
          refine g_goto 21 dX12_fits_89 rfl ?_
          exact ih h
        · replace h := gif_t q h
          refine g_aload_n dX12_fits_61 rfl ?_
          refine gR_X12_17 ok_28 dX12_fits_62 ?_
          refine g_iconst dX12_fits_65 kc_4 ?_
          refine g_iload_n dX12_fits_66 rfl ?_
          refine g_iadd dX12_fits_67 ?_
          obtain ⟨a68, e68, h⟩ := obind h
          refine g_ldB e68 ok_30 rfl rfl (by decide) dX12_fits_68 ?_
          refine g_aload_n dX12_fits_69 rfl ?_
          refine gR_X12_17 ok_28 dX12_fits_70 ?_
          refine g_iconst dX12_fits_73 kc_4 ?_
          refine g_iload_n dX12_fits_74 rfl ?_
          refine g_iadd dX12_fits_75 ?_
          obtain ⟨a76, e76, h⟩ := obind h
          refine g_ldB e76 ok_30 rfl rfl (by decide) dX12_fits_76 ?_
          refine g_icmp_le 84 dX12_fits_77 rfl (fun q => ?_) (fun q => ?_)
          · replace h := gif_t q h
            refine g_iload_n dX12_fits_84 rfl ?_
            refine g_istore2 dX12_fits_85 ?_
            refine g_inc3 kc_1 dX12_fits_86 ?_
            refine g_goto 21 dX12_fits_89 rfl ?_
            exact ih h
          · replace h := gif_f q h
            refine g_iload_n dX12_fits_80 rfl ?_
            refine g_goto 85 dX12_fits_81 rfl ?_
            refine g_istore2 dX12_fits_85 ?_
            refine g_inc3 kc_1 dX12_fits_86 ?_
            refine g_goto 21 dX12_fits_89 rfl ?_
            exact ih h
theorem f_X12_fits_ok {v1 : Int32}  {σ : gSt} {r : (Int32 × gSt)} (h : f_X12_fits v1 σ = some r) : Mt l w 0 41 yX12_fits cX12_fits 6 (some .int) 2 52 [.ref (w.2.1 28 0), .int v1] σ (gE (some (.int r.1)) r.2) := by
  unfold f_X12_fits at h
  refine g_start pn_X12 rfl rfl (Nat.le_of_ble_eq_true rfl) ?_
  show G l w 0 41 RX12 cX12_fits 6 (some .int) 2 52 (gE (some (.int r.1)) r.2) 0 [some (.ref (w.2.1 28 0)), some (.int v1), none, none, none, none] [] σ
  refine g_aload_n dX12_fits_0 rfl ?_
  refine g_aload_n dX12_fits_1 rfl ?_
  refine g_iload_n dX12_fits_2 rfl ?_
  obtain ⟨p3, e3, h⟩ := obind h
  refine g_vP1 mv_X12_187 dX12_fits_3 ok_28 ⟨by decide, by decide⟩ (Nat.le_of_ble_eq_true rfl) (f_X12_isRunner_ok e3) ?_
  obtain ⟨p6, e6, h⟩ := obind h
  refine g_sP1 ms_X12_234 dX12_fits_6 ⟨by decide, by decide⟩ (Nat.le_of_ble_eq_true rfl) (f_X12_unless_ok e6) ?_
  obtain ⟨p9, e9, h⟩ := obind h
  refine g_vP1 mv_X12_161 dX12_fits_9 ok_28 ⟨by decide, by decide⟩ (Nat.le_of_ble_eq_true rfl) (f_X12_isRefused_ok e9) ?_
  refine g_if_eq 17 dX12_fits_12 rfl (fun q => ?_) (fun q => ?_)
  · replace h := gif_t q h
    refine g_iconst dX12_fits_17 kc_0 ?_
    refine g_istore2 dX12_fits_18 ?_
    refine g_iconst dX12_fits_19 kc_1 ?_
    refine g_istore3 dX12_fits_20 ?_
    exact f_X12_fits_21_ok gFuel h
  · replace h := gif_f q h
    refine g_iconst dX12_fits_15 kc_m1 ?_
    cases h
    exact g_iret dX12_fits_16 rfl ⟨rfl, rfl⟩
theorem dX12_missed_0 : decode cX12_missed 0 = .ok (.aload_n 0, 1) := by decide +kernel
theorem dX12_missed_1 : decode cX12_missed 1 = .ok (.aload_n 0, 1) := by decide +kernel
theorem dX12_missed_2 : decode cX12_missed 2 = .ok (.iload_n 1, 1) := by decide +kernel
theorem dX12_missed_3 : decode cX12_missed 3 = .ok (.invokevirtual 187, 3) := by decide +kernel
theorem dX12_missed_6 : decode cX12_missed 6 = .ok (.invokestatic 234, 3) := by decide +kernel
theorem dX12_missed_9 : decode cX12_missed 9 = .ok (.invokevirtual 161, 3) := by decide +kernel
theorem dX12_missed_12 : decode cX12_missed 12 = .ok (.ifCond .eq 5, 3) := by decide +kernel
theorem dX12_missed_15 : decode cX12_missed 15 = .ok (.iconst (-1), 1) := by decide +kernel
theorem dX12_missed_16 : decode cX12_missed 16 = .ok (.ireturn, 1) := by decide +kernel
theorem dX12_missed_17 : decode cX12_missed 17 = .ok (.aload_n 0, 1) := by decide +kernel
theorem dX12_missed_18 : decode cX12_missed 18 = .ok (.iload_n 1, 1) := by decide +kernel
theorem dX12_missed_19 : decode cX12_missed 19 = .ok (.invokevirtual 206, 3) := by decide +kernel
theorem dX12_missed_22 : decode cX12_missed 22 = .ok (.pop, 1) := by decide +kernel
theorem dX12_missed_23 : decode cX12_missed 23 = .ok (.iconst 0, 1) := by decide +kernel
theorem dX12_missed_24 : decode cX12_missed 24 = .ok (.istore_n 2, 1) := by decide +kernel
theorem dX12_missed_25 : decode cX12_missed 25 = .ok (.iconst 0, 1) := by decide +kernel
theorem dX12_missed_26 : decode cX12_missed 26 = .ok (.istore_n 3, 1) := by decide +kernel
theorem dX12_missed_27 : decode cX12_missed 27 = .ok (.iload_n 3, 1) := by decide +kernel
theorem dX12_missed_28 : decode cX12_missed 28 = .ok (.aload_n 0, 1) := by decide +kernel
theorem dX12_missed_29 : decode cX12_missed 29 = .ok (.getfield 17, 3) := by decide +kernel
theorem dX12_missed_32 : decode cX12_missed 32 = .ok (.iconst 4, 1) := by decide +kernel
theorem dX12_missed_33 : decode cX12_missed 33 = .ok (.aload_n 0, 1) := by decide +kernel
theorem dX12_missed_34 : decode cX12_missed 34 = .ok (.getfield 17, 3) := by decide +kernel
theorem dX12_missed_37 : decode cX12_missed 37 = .ok (.bipush 37, 2) := by decide +kernel
theorem dX12_missed_39 : decode cX12_missed 39 = .ok (.iload_n 1, 1) := by decide +kernel
theorem dX12_missed_40 : decode cX12_missed 40 = .ok (.iadd, 1) := by decide +kernel
theorem dX12_missed_41 : decode cX12_missed 41 = .ok (.iaload, 1) := by decide +kernel
theorem dX12_missed_42 : decode cX12_missed 42 = .ok (.iadd, 1) := by decide +kernel
theorem dX12_missed_43 : decode cX12_missed 43 = .ok (.iaload, 1) := by decide +kernel
theorem dX12_missed_44 : decode cX12_missed 44 = .ok (.if_icmp .ge 29, 3) := by decide +kernel
theorem dX12_missed_47 : decode cX12_missed 47 = .ok (.iload_n 2, 1) := by decide +kernel
theorem dX12_missed_48 : decode cX12_missed 48 = .ok (.aload_n 0, 1) := by decide +kernel
theorem dX12_missed_49 : decode cX12_missed 49 = .ok (.getfield 32, 3) := by decide +kernel
theorem dX12_missed_52 : decode cX12_missed 52 = .ok (.iload_n 3, 1) := by decide +kernel
theorem dX12_missed_53 : decode cX12_missed 53 = .ok (.iaload, 1) := by decide +kernel
theorem dX12_missed_54 : decode cX12_missed 54 = .ok (.iconst (-1), 1) := by decide +kernel
theorem dX12_missed_55 : decode cX12_missed 55 = .ok (.if_icmp .ne 9, 3) := by decide +kernel
theorem dX12_missed_58 : decode cX12_missed 58 = .ok (.iconst 1, 1) := by decide +kernel
theorem dX12_missed_59 : decode cX12_missed 59 = .ok (.iload_n 3, 1) := by decide +kernel
theorem dX12_missed_60 : decode cX12_missed 60 = .ok (.ishl, 1) := by decide +kernel
theorem dX12_missed_61 : decode cX12_missed 61 = .ok (.goto 4, 3) := by decide +kernel
theorem dX12_missed_64 : decode cX12_missed 64 = .ok (.iconst 0, 1) := by decide +kernel
theorem dX12_missed_65 : decode cX12_missed 65 = .ok (.ior, 1) := by decide +kernel
theorem dX12_missed_66 : decode cX12_missed 66 = .ok (.istore_n 2, 1) := by decide +kernel
theorem dX12_missed_67 : decode cX12_missed 67 = .ok (.iinc 3 1, 3) := by decide +kernel
theorem dX12_missed_70 : decode cX12_missed 70 = .ok (.goto (-43), 3) := by decide +kernel
theorem dX12_missed_73 : decode cX12_missed 73 = .ok (.iload_n 2, 1) := by decide +kernel
theorem dX12_missed_74 : decode cX12_missed 74 = .ok (.ireturn, 1) := by decide +kernel
def f_X12_missed_27 (v1 : Int32) : Nat → Int32 → Int32 → gSt → Option (Int32 × gSt)
  | 0, _, _, _ => none
  | n + 1, v2, v3, σ =>
    (gld σ 30 0 397 (37 + v1)).bind fun a41 =>
    (gld σ 30 0 397 (4 + a41)).bind fun a43 =>
    if a43 ≤ v3 then
      some (v2, σ)
    else
      (gld σ 35 0 10 v3).bind fun a53 =>
      if a53 = (-1) then
        f_X12_missed_27 v1 n (v2 ||| (1 <<< (v3 &&& 31))) (v3 + 1) σ
      else
        f_X12_missed_27 v1 n (v2 ||| 0) (v3 + 1) σ
def f_X12_missed (v1 : Int32) (σ : gSt) : Option (Int32 × gSt) :=
  (f_X12_isRunner v1 σ).bind fun p3 =>
  (f_X12_unless p3.1 p3.2).bind fun p6 =>
  (f_X12_isRefused p6.1 p6.2).bind fun p9 =>
  if p9.1 = 0 then
    (f_X12_missedBy v1 p9.2).bind fun p19 =>
    f_X12_missed_27 v1 gFuel 0 0 p19.2
  else
    some ((-1), p9.2)
theorem f_X12_missed_27_ok {v1 : Int32} {r : (Int32 × gSt)}  : ∀ (n : Nat) {v2 : Int32} {v3 : Int32} {σ : gSt} , f_X12_missed_27 v1 n v2 v3 σ = some r → G l w 0 41 RX12 cX12_missed 4 (some .int) 3 73 (gE (some (.int r.1)) r.2) 27 [some (.ref (w.2.1 28 0)), some (.int v1), some (.int v2), some (.int v3)] [] σ := by
  intro n
  induction n with
  | zero => intro v2 v3 σ h; rw [f_X12_missed_27] at h; cases h
  | succ n ih =>
    intro v2 v3 σ h
    rw [f_X12_missed_27] at h
    refine g_iload_n dX12_missed_27 rfl ?_
    refine g_aload_n dX12_missed_28 rfl ?_
    refine gR_X12_17 ok_28 dX12_missed_29 ?_
    refine g_iconst dX12_missed_32 kc_4 ?_
    refine g_aload_n dX12_missed_33 rfl ?_
    refine gR_X12_17 ok_28 dX12_missed_34 ?_
    refine g_bipush dX12_missed_37 kb_37 ?_
    refine g_iload_n dX12_missed_39 rfl ?_
    refine g_iadd dX12_missed_40 ?_
    obtain ⟨a41, e41, h⟩ := obind h
    refine g_ldB e41 ok_30 rfl rfl (by decide) dX12_missed_41 ?_
    refine g_iadd dX12_missed_42 ?_
    obtain ⟨a43, e43, h⟩ := obind h
    refine g_ldB e43 ok_30 rfl rfl (by decide) dX12_missed_43 ?_
    refine g_icmp_ge 73 dX12_missed_44 rfl (fun q => ?_) (fun q => ?_)
    · replace h := gif_t q h
      refine g_iload_n dX12_missed_73 rfl ?_
      cases h
      exact g_iret dX12_missed_74 rfl ⟨rfl, rfl⟩
    · replace h := gif_f q h
      refine g_iload_n dX12_missed_47 rfl ?_
      refine g_aload_n dX12_missed_48 rfl ?_
      refine gR_X12_32 ok_28 dX12_missed_49 ?_
      refine g_iload_n dX12_missed_52 rfl ?_
      obtain ⟨a53, e53, h⟩ := obind h
      refine g_ldB e53 ok_35 rfl rfl (by decide) dX12_missed_53 ?_
      refine g_iconst dX12_missed_54 kc_m1 ?_
      refine g_icmp_ne 64 dX12_missed_55 rfl (fun q => ?_) (fun q => ?_)
      · replace h := gif_f q h
        refine g_iconst dX12_missed_64 kc_0 ?_
        refine g_ior dX12_missed_65 ?_
        refine g_istore2 dX12_missed_66 ?_
        refine g_inc3 kc_1 dX12_missed_67 ?_
        refine g_goto 27 dX12_missed_70 rfl ?_
        exact ih h
      · replace h := gif_t q h
        refine g_iconst dX12_missed_58 kc_1 ?_
        refine g_iload_n dX12_missed_59 rfl ?_
        refine g_ishl dX12_missed_60 ?_
        refine g_goto 65 dX12_missed_61 rfl ?_
        refine g_ior dX12_missed_65 ?_
        refine g_istore2 dX12_missed_66 ?_
        refine g_inc3 kc_1 dX12_missed_67 ?_
        refine g_goto 27 dX12_missed_70 rfl ?_
        exact ih h
theorem f_X12_missed_ok {v1 : Int32}  {σ : gSt} {r : (Int32 × gSt)} (h : f_X12_missed v1 σ = some r) : Mt l w 0 41 yX12_missed cX12_missed 4 (some .int) 3 73 [.ref (w.2.1 28 0), .int v1] σ (gE (some (.int r.1)) r.2) := by
  unfold f_X12_missed at h
  refine g_start pn_X12 rfl rfl (Nat.le_of_ble_eq_true rfl) ?_
  show G l w 0 41 RX12 cX12_missed 4 (some .int) 3 73 (gE (some (.int r.1)) r.2) 0 [some (.ref (w.2.1 28 0)), some (.int v1), none, none] [] σ
  refine g_aload_n dX12_missed_0 rfl ?_
  refine g_aload_n dX12_missed_1 rfl ?_
  refine g_iload_n dX12_missed_2 rfl ?_
  obtain ⟨p3, e3, h⟩ := obind h
  refine g_vP1 mv_X12_187 dX12_missed_3 ok_28 ⟨by decide, by decide⟩ (Nat.le_of_ble_eq_true rfl) (f_X12_isRunner_ok e3) ?_
  obtain ⟨p6, e6, h⟩ := obind h
  refine g_sP1 ms_X12_234 dX12_missed_6 ⟨by decide, by decide⟩ (Nat.le_of_ble_eq_true rfl) (f_X12_unless_ok e6) ?_
  obtain ⟨p9, e9, h⟩ := obind h
  refine g_vP1 mv_X12_161 dX12_missed_9 ok_28 ⟨by decide, by decide⟩ (Nat.le_of_ble_eq_true rfl) (f_X12_isRefused_ok e9) ?_
  refine g_if_eq 17 dX12_missed_12 rfl (fun q => ?_) (fun q => ?_)
  · replace h := gif_t q h
    refine g_aload_n dX12_missed_17 rfl ?_
    refine g_iload_n dX12_missed_18 rfl ?_
    obtain ⟨p19, e19, h⟩ := obind h
    refine g_vP1 mv_X12_206 dX12_missed_19 ok_28 ⟨by decide, by decide⟩ (Nat.le_of_ble_eq_true rfl) (f_X12_missedBy_ok e19) ?_
    refine g_pop dX12_missed_22 rfl ?_
    refine g_iconst dX12_missed_23 kc_0 ?_
    refine g_istore2 dX12_missed_24 ?_
    refine g_iconst dX12_missed_25 kc_0 ?_
    refine g_istore3 dX12_missed_26 ?_
    exact f_X12_missed_27_ok gFuel h
  · replace h := gif_f q h
    refine g_iconst dX12_missed_15 kc_m1 ?_
    cases h
    exact g_iret dX12_missed_16 rfl ⟨rfl, rfl⟩
theorem dX12_placeAt_0 : decode cX12_placeAt 0 = .ok (.iload_n 3, 1) := by decide +kernel
theorem dX12_placeAt_1 : decode cX12_placeAt 1 = .ok (.ifCond .eq 12, 3) := by decide +kernel
theorem dX12_placeAt_4 : decode cX12_placeAt 4 = .ok (.aload_n 0, 1) := by decide +kernel
theorem dX12_placeAt_5 : decode cX12_placeAt 5 = .ok (.iload_n 1, 1) := by decide +kernel
theorem dX12_placeAt_6 : decode cX12_placeAt 6 = .ok (.iload_n 2, 1) := by decide +kernel
theorem dX12_placeAt_7 : decode cX12_placeAt 7 = .ok (.invokevirtual 221, 3) := by decide +kernel
theorem dX12_placeAt_10 : decode cX12_placeAt 10 = .ok (.goto 9, 3) := by decide +kernel
theorem dX12_placeAt_13 : decode cX12_placeAt 13 = .ok (.aload_n 0, 1) := by decide +kernel
theorem dX12_placeAt_14 : decode cX12_placeAt 14 = .ok (.iload_n 1, 1) := by decide +kernel
theorem dX12_placeAt_15 : decode cX12_placeAt 15 = .ok (.iload_n 2, 1) := by decide +kernel
theorem dX12_placeAt_16 : decode cX12_placeAt 16 = .ok (.invokevirtual 224, 3) := by decide +kernel
theorem dX12_placeAt_19 : decode cX12_placeAt 19 = .ok (.istore 4, 2) := by decide +kernel
theorem dX12_placeAt_21 : decode cX12_placeAt 21 = .ok (.iconst 1, 1) := by decide +kernel
theorem dX12_placeAt_22 : decode cX12_placeAt 22 = .ok (.istore 5, 2) := by decide +kernel
theorem dX12_placeAt_24 : decode cX12_placeAt 24 = .ok (.iconst 0, 1) := by decide +kernel
theorem dX12_placeAt_25 : decode cX12_placeAt 25 = .ok (.istore 6, 2) := by decide +kernel
theorem dX12_placeAt_27 : decode cX12_placeAt 27 = .ok (.iload 6, 2) := by decide +kernel
theorem dX12_placeAt_29 : decode cX12_placeAt 29 = .ok (.aload_n 0, 1) := by decide +kernel
theorem dX12_placeAt_30 : decode cX12_placeAt 30 = .ok (.getfield 17, 3) := by decide +kernel
theorem dX12_placeAt_33 : decode cX12_placeAt 33 = .ok (.iconst 1, 1) := by decide +kernel
theorem dX12_placeAt_34 : decode cX12_placeAt 34 = .ok (.iaload, 1) := by decide +kernel
theorem dX12_placeAt_35 : decode cX12_placeAt 35 = .ok (.if_icmp .ge 83, 3) := by decide +kernel
theorem dX12_placeAt_38 : decode cX12_placeAt 38 = .ok (.aload_n 0, 1) := by decide +kernel
theorem dX12_placeAt_39 : decode cX12_placeAt 39 = .ok (.getfield 17, 3) := by decide +kernel
theorem dX12_placeAt_42 : decode cX12_placeAt 42 = .ok (.bipush 37, 2) := by decide +kernel
theorem dX12_placeAt_44 : decode cX12_placeAt 44 = .ok (.iload 6, 2) := by decide +kernel
theorem dX12_placeAt_46 : decode cX12_placeAt 46 = .ok (.iadd, 1) := by decide +kernel
theorem dX12_placeAt_47 : decode cX12_placeAt 47 = .ok (.iaload, 1) := by decide +kernel
theorem dX12_placeAt_48 : decode cX12_placeAt 48 = .ok (.aload_n 0, 1) := by decide +kernel
theorem dX12_placeAt_49 : decode cX12_placeAt 49 = .ok (.getfield 17, 3) := by decide +kernel
theorem dX12_placeAt_52 : decode cX12_placeAt 52 = .ok (.bipush 37, 2) := by decide +kernel
theorem dX12_placeAt_54 : decode cX12_placeAt 54 = .ok (.iload_n 1, 1) := by decide +kernel
theorem dX12_placeAt_55 : decode cX12_placeAt 55 = .ok (.iadd, 1) := by decide +kernel
theorem dX12_placeAt_56 : decode cX12_placeAt 56 = .ok (.iaload, 1) := by decide +kernel
theorem dX12_placeAt_57 : decode cX12_placeAt 57 = .ok (.if_icmp .eq 8, 3) := by decide +kernel
theorem dX12_placeAt_60 : decode cX12_placeAt 60 = .ok (.bipush (-2), 2) := by decide +kernel
theorem dX12_placeAt_62 : decode cX12_placeAt 62 = .ok (.goto 24, 3) := by decide +kernel
theorem dX12_placeAt_65 : decode cX12_placeAt 65 = .ok (.iload_n 3, 1) := by decide +kernel
theorem dX12_placeAt_66 : decode cX12_placeAt 66 = .ok (.ifCond .eq 13, 3) := by decide +kernel
theorem dX12_placeAt_69 : decode cX12_placeAt 69 = .ok (.aload_n 0, 1) := by decide +kernel
theorem dX12_placeAt_70 : decode cX12_placeAt 70 = .ok (.iload 6, 2) := by decide +kernel
theorem dX12_placeAt_72 : decode cX12_placeAt 72 = .ok (.iload_n 2, 1) := by decide +kernel
theorem dX12_placeAt_73 : decode cX12_placeAt 73 = .ok (.invokevirtual 221, 3) := by decide +kernel
theorem dX12_placeAt_76 : decode cX12_placeAt 76 = .ok (.goto 10, 3) := by decide +kernel
theorem dX12_placeAt_79 : decode cX12_placeAt 79 = .ok (.aload_n 0, 1) := by decide +kernel
theorem dX12_placeAt_80 : decode cX12_placeAt 80 = .ok (.iload 6, 2) := by decide +kernel
theorem dX12_placeAt_82 : decode cX12_placeAt 82 = .ok (.iload_n 2, 1) := by decide +kernel
theorem dX12_placeAt_83 : decode cX12_placeAt 83 = .ok (.invokevirtual 224, 3) := by decide +kernel
theorem dX12_placeAt_86 : decode cX12_placeAt 86 = .ok (.istore 7, 2) := by decide +kernel
theorem dX12_placeAt_88 : decode cX12_placeAt 88 = .ok (.iload 5, 2) := by decide +kernel
theorem dX12_placeAt_90 : decode cX12_placeAt 90 = .ok (.iload 7, 2) := by decide +kernel
theorem dX12_placeAt_92 : decode cX12_placeAt 92 = .ok (.bipush (-2), 2) := by decide +kernel
theorem dX12_placeAt_94 : decode cX12_placeAt 94 = .ok (.if_icmp .eq 14, 3) := by decide +kernel
theorem dX12_placeAt_97 : decode cX12_placeAt 97 = .ok (.iload 7, 2) := by decide +kernel
theorem dX12_placeAt_99 : decode cX12_placeAt 99 = .ok (.iload 4, 2) := by decide +kernel
theorem dX12_placeAt_101 : decode cX12_placeAt 101 = .ok (.if_icmp .ge 7, 3) := by decide +kernel
theorem dX12_placeAt_104 : decode cX12_placeAt 104 = .ok (.iconst 1, 1) := by decide +kernel
theorem dX12_placeAt_105 : decode cX12_placeAt 105 = .ok (.goto 4, 3) := by decide +kernel
theorem dX12_placeAt_108 : decode cX12_placeAt 108 = .ok (.iconst 0, 1) := by decide +kernel
theorem dX12_placeAt_109 : decode cX12_placeAt 109 = .ok (.iadd, 1) := by decide +kernel
theorem dX12_placeAt_110 : decode cX12_placeAt 110 = .ok (.istore 5, 2) := by decide +kernel
theorem dX12_placeAt_112 : decode cX12_placeAt 112 = .ok (.iinc 6 1, 3) := by decide +kernel
theorem dX12_placeAt_115 : decode cX12_placeAt 115 = .ok (.goto (-88), 3) := by decide +kernel
theorem dX12_placeAt_118 : decode cX12_placeAt 118 = .ok (.iload 5, 2) := by decide +kernel
theorem dX12_placeAt_120 : decode cX12_placeAt 120 = .ok (.ireturn, 1) := by decide +kernel
def f_X12_placeAt_86 (v1 : Int32) (v2 : Int32) (v3 : Int32) (v4 : Int32) (v5 : Int32) (v6 : Int32) (k27 : Int32 → Int32 → gSt → Option (Int32 × gSt)) (vs0 : Int32) (σ : gSt) : Option (Int32 × gSt) :=
  if vs0 = (-2) then
    k27 (v5 + 0) (v6 + 1) σ
  else
    if v4 ≤ vs0 then
      k27 (v5 + 0) (v6 + 1) σ
    else
      k27 (v5 + 1) (v6 + 1) σ
def f_X12_placeAt_27 (v1 : Int32) (v2 : Int32) (v3 : Int32) (v4 : Int32) : Nat → Int32 → Int32 → gSt → Option (Int32 × gSt)
  | 0, _, _, _ => none
  | n + 1, v5, v6, σ =>
    (gld σ 30 0 397 1).bind fun a34 =>
    if a34 ≤ v6 then
      some (v5, σ)
    else
      (gld σ 30 0 397 (37 + v6)).bind fun a47 =>
      (gld σ 30 0 397 (37 + v1)).bind fun a56 =>
      if a47 = a56 then
        if v3 = 0 then
          (f_X12_splitOf v6 v2 σ).bind fun p83 =>
          f_X12_placeAt_86 v1 v2 v3 v4 v5 v6 (fun v5 v6 σ => f_X12_placeAt_27 v1 v2 v3 v4 n v5 v6 σ) p83.1 p83.2
        else
          (f_X12_legOf v6 v2 σ).bind fun p73 =>
          f_X12_placeAt_86 v1 v2 v3 v4 v5 v6 (fun v5 v6 σ => f_X12_placeAt_27 v1 v2 v3 v4 n v5 v6 σ) p73.1 p73.2
      else
        f_X12_placeAt_86 v1 v2 v3 v4 v5 v6 (fun v5 v6 σ => f_X12_placeAt_27 v1 v2 v3 v4 n v5 v6 σ) (-2) σ
def f_X12_placeAt (v1 : Int32) (v2 : Int32) (v3 : Int32) (σ : gSt) : Option (Int32 × gSt) :=
  if v3 = 0 then
    (f_X12_splitOf v1 v2 σ).bind fun p16 =>
    f_X12_placeAt_27 v1 v2 v3 p16.1 gFuel 1 0 p16.2
  else
    (f_X12_legOf v1 v2 σ).bind fun p7 =>
    f_X12_placeAt_27 v1 v2 v3 p7.1 gFuel 1 0 p7.2
theorem f_X12_placeAt_86_ok {v1 : Int32} {v2 : Int32} {v3 : Int32} {v4 : Int32} {v5 : Int32} {v6 : Int32} {k27 : Int32 → Int32 → gSt → Option (Int32 × gSt)} {vs0 : Int32} {r : (Int32 × gSt)} (hk27 : ∀ {v5 : Int32} {v6 : Int32} {σ : gSt} {x7 : Option Value}, k27 v5 v6 σ = some r → G l w 0 41 RX12 cX12_placeAt 8 (some .int) 5 120 (gE (some (.int r.1)) r.2) 27 [some (.ref (w.2.1 28 0)), some (.int v1), some (.int v2), some (.int v3), some (.int v4), some (.int v5), some (.int v6), x7] [] σ) {σ : gSt} {x7 : Option Value} (h : f_X12_placeAt_86 v1 v2 v3 v4 v5 v6 k27 vs0 σ = some r) : G l w 0 41 RX12 cX12_placeAt 8 (some .int) 5 120 (gE (some (.int r.1)) r.2) 86 [some (.ref (w.2.1 28 0)), some (.int v1), some (.int v2), some (.int v3), some (.int v4), some (.int v5), some (.int v6), x7] [.int vs0] σ := by
  unfold f_X12_placeAt_86 at h
  refine g_istore7 dX12_placeAt_86 ?_
  refine g_iload dX12_placeAt_88 rfl ?_
  refine g_iload dX12_placeAt_90 rfl ?_
  refine g_bipush dX12_placeAt_92 kb_m2 ?_
  refine g_icmp_eq 108 dX12_placeAt_94 rfl (fun q => ?_) (fun q => ?_)
  · replace h := gif_t q h
    refine g_iconst dX12_placeAt_108 kc_0 ?_
    refine g_iadd dX12_placeAt_109 ?_
    refine g_istore5 dX12_placeAt_110 ?_
    refine g_inc6 kc_1 dX12_placeAt_112 ?_
    refine g_goto 27 dX12_placeAt_115 rfl ?_
    exact hk27 h
  · replace h := gif_f q h
    refine g_iload dX12_placeAt_97 rfl ?_
    refine g_iload dX12_placeAt_99 rfl ?_
    refine g_icmp_ge 108 dX12_placeAt_101 rfl (fun q => ?_) (fun q => ?_)
    · replace h := gif_t q h
      refine g_iconst dX12_placeAt_108 kc_0 ?_
      refine g_iadd dX12_placeAt_109 ?_
      refine g_istore5 dX12_placeAt_110 ?_
      refine g_inc6 kc_1 dX12_placeAt_112 ?_
      refine g_goto 27 dX12_placeAt_115 rfl ?_
      exact hk27 h
    · replace h := gif_f q h
      refine g_iconst dX12_placeAt_104 kc_1 ?_
      refine g_goto 109 dX12_placeAt_105 rfl ?_
      refine g_iadd dX12_placeAt_109 ?_
      refine g_istore5 dX12_placeAt_110 ?_
      refine g_inc6 kc_1 dX12_placeAt_112 ?_
      refine g_goto 27 dX12_placeAt_115 rfl ?_
      exact hk27 h
theorem f_X12_placeAt_27_ok {v1 : Int32} {v2 : Int32} {v3 : Int32} {v4 : Int32} {r : (Int32 × gSt)}  : ∀ (n : Nat) {v5 : Int32} {v6 : Int32} {σ : gSt} {x7 : Option Value}, f_X12_placeAt_27 v1 v2 v3 v4 n v5 v6 σ = some r → G l w 0 41 RX12 cX12_placeAt 8 (some .int) 5 120 (gE (some (.int r.1)) r.2) 27 [some (.ref (w.2.1 28 0)), some (.int v1), some (.int v2), some (.int v3), some (.int v4), some (.int v5), some (.int v6), x7] [] σ := by
  intro n
  induction n with
  | zero => intro v5 v6 σ x7 h; rw [f_X12_placeAt_27] at h; cases h
  | succ n ih =>
    intro v5 v6 σ x7 h
    rw [f_X12_placeAt_27] at h
    refine g_iload dX12_placeAt_27 rfl ?_
    refine g_aload_n dX12_placeAt_29 rfl ?_
    refine gR_X12_17 ok_28 dX12_placeAt_30 ?_
    refine g_iconst dX12_placeAt_33 kc_1 ?_
    obtain ⟨a34, e34, h⟩ := obind h
    refine g_ldB e34 ok_30 rfl rfl (by decide) dX12_placeAt_34 ?_
    refine g_icmp_ge 118 dX12_placeAt_35 rfl (fun q => ?_) (fun q => ?_)
    · replace h := gif_t q h
      refine g_iload dX12_placeAt_118 rfl ?_
      cases h
      exact g_iret dX12_placeAt_120 rfl ⟨rfl, rfl⟩
    · replace h := gif_f q h
      refine g_aload_n dX12_placeAt_38 rfl ?_
      refine gR_X12_17 ok_28 dX12_placeAt_39 ?_
      refine g_bipush dX12_placeAt_42 kb_37 ?_
      refine g_iload dX12_placeAt_44 rfl ?_
      refine g_iadd dX12_placeAt_46 ?_
      obtain ⟨a47, e47, h⟩ := obind h
      refine g_ldB e47 ok_30 rfl rfl (by decide) dX12_placeAt_47 ?_
      refine g_aload_n dX12_placeAt_48 rfl ?_
      refine gR_X12_17 ok_28 dX12_placeAt_49 ?_
      refine g_bipush dX12_placeAt_52 kb_37 ?_
      refine g_iload_n dX12_placeAt_54 rfl ?_
      refine g_iadd dX12_placeAt_55 ?_
      obtain ⟨a56, e56, h⟩ := obind h
      refine g_ldB e56 ok_30 rfl rfl (by decide) dX12_placeAt_56 ?_
      refine g_icmp_eq 65 dX12_placeAt_57 rfl (fun q => ?_) (fun q => ?_)
      · replace h := gif_t q h
        refine g_iload_n dX12_placeAt_65 rfl ?_
        refine g_if_eq 79 dX12_placeAt_66 rfl (fun q => ?_) (fun q => ?_)
        · replace h := gif_t q h
          refine g_aload_n dX12_placeAt_79 rfl ?_
          refine g_iload dX12_placeAt_80 rfl ?_
          refine g_iload_n dX12_placeAt_82 rfl ?_
          obtain ⟨p83, e83, h⟩ := obind h
          refine g_vP2 mv_X12_224 dX12_placeAt_83 ok_28 ⟨by decide, by decide⟩ (Nat.le_of_ble_eq_true rfl) (f_X12_splitOf_ok e83) ?_
          exact f_X12_placeAt_86_ok (fun h => ih h) h
        · replace h := gif_f q h
          refine g_aload_n dX12_placeAt_69 rfl ?_
          refine g_iload dX12_placeAt_70 rfl ?_
          refine g_iload_n dX12_placeAt_72 rfl ?_
          obtain ⟨p73, e73, h⟩ := obind h
          refine g_vP2 mv_X12_221 dX12_placeAt_73 ok_28 ⟨by decide, by decide⟩ (Nat.le_of_ble_eq_true rfl) (f_X12_legOf_ok e73) ?_
          refine g_goto 86 dX12_placeAt_76 rfl ?_
          exact f_X12_placeAt_86_ok (fun h => ih h) h
      · replace h := gif_f q h
        refine g_bipush dX12_placeAt_60 kb_m2 ?_
        refine g_goto 86 dX12_placeAt_62 rfl ?_
        exact f_X12_placeAt_86_ok (fun h => ih h) h
theorem f_X12_placeAt_ok {v1 : Int32} {v2 : Int32} {v3 : Int32}  {σ : gSt} {r : (Int32 × gSt)} (h : f_X12_placeAt v1 v2 v3 σ = some r) : Mt l w 0 41 yX12_placeAt cX12_placeAt 8 (some .int) 5 120 [.ref (w.2.1 28 0), .int v1, .int v2, .int v3] σ (gE (some (.int r.1)) r.2) := by
  unfold f_X12_placeAt at h
  refine g_start pn_X12 rfl rfl (Nat.le_of_ble_eq_true rfl) ?_
  show G l w 0 41 RX12 cX12_placeAt 8 (some .int) 5 120 (gE (some (.int r.1)) r.2) 0 [some (.ref (w.2.1 28 0)), some (.int v1), some (.int v2), some (.int v3), none, none, none, none] [] σ
  refine g_iload_n dX12_placeAt_0 rfl ?_
  refine g_if_eq 13 dX12_placeAt_1 rfl (fun q => ?_) (fun q => ?_)
  · replace h := gif_t q h
    refine g_aload_n dX12_placeAt_13 rfl ?_
    refine g_iload_n dX12_placeAt_14 rfl ?_
    refine g_iload_n dX12_placeAt_15 rfl ?_
    obtain ⟨p16, e16, h⟩ := obind h
    refine g_vP2 mv_X12_224 dX12_placeAt_16 ok_28 ⟨by decide, by decide⟩ (Nat.le_of_ble_eq_true rfl) (f_X12_splitOf_ok e16) ?_
    refine g_istore4 dX12_placeAt_19 ?_
    refine g_iconst dX12_placeAt_21 kc_1 ?_
    refine g_istore5 dX12_placeAt_22 ?_
    refine g_iconst dX12_placeAt_24 kc_0 ?_
    refine g_istore6 dX12_placeAt_25 ?_
    exact f_X12_placeAt_27_ok gFuel h
  · replace h := gif_f q h
    refine g_aload_n dX12_placeAt_4 rfl ?_
    refine g_iload_n dX12_placeAt_5 rfl ?_
    refine g_iload_n dX12_placeAt_6 rfl ?_
    obtain ⟨p7, e7, h⟩ := obind h
    refine g_vP2 mv_X12_221 dX12_placeAt_7 ok_28 ⟨by decide, by decide⟩ (Nat.le_of_ble_eq_true rfl) (f_X12_legOf_ok e7) ?_
    refine g_goto 19 dX12_placeAt_10 rfl ?_
    refine g_istore4 dX12_placeAt_19 ?_
    refine g_iconst dX12_placeAt_21 kc_1 ?_
    refine g_istore5 dX12_placeAt_22 ?_
    refine g_iconst dX12_placeAt_24 kc_0 ?_
    refine g_istore6 dX12_placeAt_25 ?_
    exact f_X12_placeAt_27_ok gFuel h
theorem dX12_split_0 : decode cX12_split 0 = .ok (.aload_n 0, 1) := by decide +kernel
theorem dX12_split_1 : decode cX12_split 1 = .ok (.aload_n 0, 1) := by decide +kernel
theorem dX12_split_2 : decode cX12_split 2 = .ok (.iload_n 1, 1) := by decide +kernel
theorem dX12_split_3 : decode cX12_split 3 = .ok (.iload_n 2, 1) := by decide +kernel
theorem dX12_split_4 : decode cX12_split 4 = .ok (.invokevirtual 261, 3) := by decide +kernel
theorem dX12_split_7 : decode cX12_split 7 = .ok (.ifCond .eq 16, 3) := by decide +kernel
theorem dX12_split_10 : decode cX12_split 10 = .ok (.iload_n 3, 1) := by decide +kernel
theorem dX12_split_11 : decode cX12_split 11 = .ok (.iconst 0, 1) := by decide +kernel
theorem dX12_split_12 : decode cX12_split 12 = .ok (.iconst 2, 1) := by decide +kernel
theorem dX12_split_13 : decode cX12_split 13 = .ok (.invokestatic 79, 3) := by decide +kernel
theorem dX12_split_16 : decode cX12_split 16 = .ok (.ifCond .eq 7, 3) := by decide +kernel
theorem dX12_split_19 : decode cX12_split 19 = .ok (.iconst 1, 1) := by decide +kernel
theorem dX12_split_20 : decode cX12_split 20 = .ok (.goto 4, 3) := by decide +kernel
theorem dX12_split_23 : decode cX12_split 23 = .ok (.iconst 0, 1) := by decide +kernel
theorem dX12_split_24 : decode cX12_split 24 = .ok (.invokestatic 234, 3) := by decide +kernel
theorem dX12_split_27 : decode cX12_split 27 = .ok (.invokevirtual 161, 3) := by decide +kernel
theorem dX12_split_30 : decode cX12_split 30 = .ok (.ifCond .eq 5, 3) := by decide +kernel
theorem dX12_split_33 : decode cX12_split 33 = .ok (.iconst (-1), 1) := by decide +kernel
theorem dX12_split_34 : decode cX12_split 34 = .ok (.ireturn, 1) := by decide +kernel
theorem dX12_split_35 : decode cX12_split 35 = .ok (.aload_n 0, 1) := by decide +kernel
theorem dX12_split_36 : decode cX12_split 36 = .ok (.iload_n 1, 1) := by decide +kernel
theorem dX12_split_37 : decode cX12_split 37 = .ok (.iload_n 2, 1) := by decide +kernel
theorem dX12_split_38 : decode cX12_split 38 = .ok (.invokevirtual 224, 3) := by decide +kernel
theorem dX12_split_41 : decode cX12_split 41 = .ok (.istore 4, 2) := by decide +kernel
theorem dX12_split_43 : decode cX12_split 43 = .ok (.iload 4, 2) := by decide +kernel
theorem dX12_split_45 : decode cX12_split 45 = .ok (.bipush (-2), 2) := by decide +kernel
theorem dX12_split_47 : decode cX12_split 47 = .ok (.if_icmp .eq 7, 3) := by decide +kernel
theorem dX12_split_50 : decode cX12_split 50 = .ok (.iload_n 3, 1) := by decide +kernel
theorem dX12_split_51 : decode cX12_split 51 = .ok (.ifCond .ne 6, 3) := by decide +kernel
theorem dX12_split_54 : decode cX12_split 54 = .ok (.iload 4, 2) := by decide +kernel
theorem dX12_split_56 : decode cX12_split 56 = .ok (.ireturn, 1) := by decide +kernel
theorem dX12_split_57 : decode cX12_split 57 = .ok (.iload_n 3, 1) := by decide +kernel
theorem dX12_split_58 : decode cX12_split 58 = .ok (.iconst 1, 1) := by decide +kernel
theorem dX12_split_59 : decode cX12_split 59 = .ok (.if_icmp .ne 13, 3) := by decide +kernel
theorem dX12_split_62 : decode cX12_split 62 = .ok (.aload_n 0, 1) := by decide +kernel
theorem dX12_split_63 : decode cX12_split 63 = .ok (.iload_n 1, 1) := by decide +kernel
theorem dX12_split_64 : decode cX12_split 64 = .ok (.iload_n 2, 1) := by decide +kernel
theorem dX12_split_65 : decode cX12_split 65 = .ok (.iconst 0, 1) := by decide +kernel
theorem dX12_split_66 : decode cX12_split 66 = .ok (.invokevirtual 264, 3) := by decide +kernel
theorem dX12_split_69 : decode cX12_split 69 = .ok (.goto 26, 3) := by decide +kernel
theorem dX12_split_72 : decode cX12_split 72 = .ok (.iload 4, 2) := by decide +kernel
theorem dX12_split_74 : decode cX12_split 74 = .ok (.aload_n 0, 1) := by decide +kernel
theorem dX12_split_75 : decode cX12_split 75 = .ok (.aload_n 0, 1) := by decide +kernel
theorem dX12_split_76 : decode cX12_split 76 = .ok (.aload_n 0, 1) := by decide +kernel
theorem dX12_split_77 : decode cX12_split 77 = .ok (.getfield 17, 3) := by decide +kernel
theorem dX12_split_80 : decode cX12_split 80 = .ok (.bipush 37, 2) := by decide +kernel
theorem dX12_split_82 : decode cX12_split 82 = .ok (.iload_n 1, 1) := by decide +kernel
theorem dX12_split_83 : decode cX12_split 83 = .ok (.iadd, 1) := by decide +kernel
theorem dX12_split_84 : decode cX12_split 84 = .ok (.iaload, 1) := by decide +kernel
theorem dX12_split_85 : decode cX12_split 85 = .ok (.iload_n 2, 1) := by decide +kernel
theorem dX12_split_86 : decode cX12_split 86 = .ok (.iconst 0, 1) := by decide +kernel
theorem dX12_split_87 : decode cX12_split 87 = .ok (.invokevirtual 227, 3) := by decide +kernel
theorem dX12_split_90 : decode cX12_split 90 = .ok (.iload_n 2, 1) := by decide +kernel
theorem dX12_split_91 : decode cX12_split 91 = .ok (.invokevirtual 224, 3) := by decide +kernel
theorem dX12_split_94 : decode cX12_split 94 = .ok (.isub, 1) := by decide +kernel
theorem dX12_split_95 : decode cX12_split 95 = .ok (.ireturn, 1) := by decide +kernel
def f_X12_split_24 (v1 : Int32) (v2 : Int32) (v3 : Int32) (vs1 : Int32) (σ : gSt) : Option (Int32 × gSt) :=
  (f_X12_unless vs1 σ).bind fun p24 =>
  (f_X12_isRefused p24.1 p24.2).bind fun p27 =>
  if p27.1 = 0 then
    (f_X12_splitOf v1 v2 p27.2).bind fun p38 =>
    if p38.1 = (-2) then
      some (p38.1, p38.2)
    else
      if v3 = 0 then
        some (p38.1, p38.2)
      else
        if v3 = 1 then
          (f_X12_placeAt v1 v2 0 p38.2).bind fun p66 =>
          some (p66.1, p66.2)
        else
          (gld p38.2 30 0 397 (37 + v1)).bind fun a84 =>
          (f_X12_bestRunner a84 v2 0 p38.2).bind fun p87 =>
          (f_X12_splitOf p87.1 v2 p87.2).bind fun p91 =>
          some ((p38.1 - p91.1), p91.2)
  else
    some ((-1), p27.2)
def f_X12_split_23 (v1 : Int32) (v2 : Int32) (v3 : Int32) (σ : gSt) : Option (Int32 × gSt) :=
  f_X12_split_24 v1 v2 v3 0 σ
def f_X12_split (v1 : Int32) (v2 : Int32) (v3 : Int32) (σ : gSt) : Option (Int32 × gSt) :=
  (f_X12_isOwnPoint v1 v2 σ).bind fun p4 =>
  if p4.1 = 0 then
    f_X12_split_23 v1 v2 v3 p4.2
  else
    (f_X12_in v3 0 2 p4.2).bind fun p13 =>
    if p13.1 = 0 then
      f_X12_split_23 v1 v2 v3 p13.2
    else
      f_X12_split_24 v1 v2 v3 1 p13.2
theorem f_X12_split_24_ok {v1 : Int32} {v2 : Int32} {v3 : Int32} {vs1 : Int32} {r : (Int32 × gSt)}  {σ : gSt} {x4 : Option Value} (h : f_X12_split_24 v1 v2 v3 vs1 σ = some r) : G l w 0 41 RX12 cX12_split 5 (some .int) 6 147 (gE (some (.int r.1)) r.2) 24 [some (.ref (w.2.1 28 0)), some (.int v1), some (.int v2), some (.int v3), x4] [.int vs1, .ref (w.2.1 28 0)] σ := by
  unfold f_X12_split_24 at h
  obtain ⟨p24, e24, h⟩ := obind h
  refine g_sP1 ms_X12_234 dX12_split_24 ⟨by decide, by decide⟩ (Nat.le_of_ble_eq_true rfl) (f_X12_unless_ok e24) ?_
  obtain ⟨p27, e27, h⟩ := obind h
  refine g_vP1 mv_X12_161 dX12_split_27 ok_28 ⟨by decide, by decide⟩ (Nat.le_of_ble_eq_true rfl) (f_X12_isRefused_ok e27) ?_
  refine g_if_eq 35 dX12_split_30 rfl (fun q => ?_) (fun q => ?_)
  · replace h := gif_t q h
    refine g_aload_n dX12_split_35 rfl ?_
    refine g_iload_n dX12_split_36 rfl ?_
    refine g_iload_n dX12_split_37 rfl ?_
    obtain ⟨p38, e38, h⟩ := obind h
    refine g_vP2 mv_X12_224 dX12_split_38 ok_28 ⟨by decide, by decide⟩ (Nat.le_of_ble_eq_true rfl) (f_X12_splitOf_ok e38) ?_
    refine g_istore4 dX12_split_41 ?_
    refine g_iload dX12_split_43 rfl ?_
    refine g_bipush dX12_split_45 kb_m2 ?_
    refine g_icmp_eq 54 dX12_split_47 rfl (fun q => ?_) (fun q => ?_)
    · replace h := gif_t q h
      refine g_iload dX12_split_54 rfl ?_
      cases h
      exact g_iret dX12_split_56 rfl ⟨rfl, rfl⟩
    · replace h := gif_f q h
      refine g_iload_n dX12_split_50 rfl ?_
      refine g_if_ne 57 dX12_split_51 rfl (fun q => ?_) (fun q => ?_)
      · replace h := gif_f q h
        refine g_iload_n dX12_split_57 rfl ?_
        refine g_iconst dX12_split_58 kc_1 ?_
        refine g_icmp_ne 72 dX12_split_59 rfl (fun q => ?_) (fun q => ?_)
        · replace h := gif_f q h
          refine g_iload dX12_split_72 rfl ?_
          refine g_aload_n dX12_split_74 rfl ?_
          refine g_aload_n dX12_split_75 rfl ?_
          refine g_aload_n dX12_split_76 rfl ?_
          refine gR_X12_17 ok_28 dX12_split_77 ?_
          refine g_bipush dX12_split_80 kb_37 ?_
          refine g_iload_n dX12_split_82 rfl ?_
          refine g_iadd dX12_split_83 ?_
          obtain ⟨a84, e84, h⟩ := obind h
          refine g_ldB e84 ok_30 rfl rfl (by decide) dX12_split_84 ?_
          refine g_iload_n dX12_split_85 rfl ?_
          refine g_iconst dX12_split_86 kc_0 ?_
          obtain ⟨p87, e87, h⟩ := obind h
          refine g_vP3 mv_X12_227 dX12_split_87 ok_28 ⟨by decide, by decide⟩ (Nat.le_of_ble_eq_true rfl) (f_X12_bestRunner_ok e87) ?_
          refine g_iload_n dX12_split_90 rfl ?_
          obtain ⟨p91, e91, h⟩ := obind h
          refine g_vP2 mv_X12_224 dX12_split_91 ok_28 ⟨by decide, by decide⟩ (Nat.le_of_ble_eq_true rfl) (f_X12_splitOf_ok e91) ?_
          refine g_isub dX12_split_94 ?_
          cases h
          exact g_iret dX12_split_95 rfl ⟨rfl, rfl⟩
        · replace h := gif_t q h
          refine g_aload_n dX12_split_62 rfl ?_
          refine g_iload_n dX12_split_63 rfl ?_
          refine g_iload_n dX12_split_64 rfl ?_
          refine g_iconst dX12_split_65 kc_0 ?_
          obtain ⟨p66, e66, h⟩ := obind h
          refine g_vP3 mv_X12_264 dX12_split_66 ok_28 ⟨by decide, by decide⟩ (Nat.le_of_ble_eq_true rfl) (f_X12_placeAt_ok e66) ?_
          refine g_goto 95 dX12_split_69 rfl ?_
          cases h
          exact g_iret dX12_split_95 rfl ⟨rfl, rfl⟩
      · replace h := gif_t q h
        refine g_iload dX12_split_54 rfl ?_
        cases h
        exact g_iret dX12_split_56 rfl ⟨rfl, rfl⟩
  · replace h := gif_f q h
    refine g_iconst dX12_split_33 kc_m1 ?_
    cases h
    exact g_iret dX12_split_34 rfl ⟨rfl, rfl⟩
theorem f_X12_split_23_ok {v1 : Int32} {v2 : Int32} {v3 : Int32} {r : (Int32 × gSt)}  {σ : gSt} {x4 : Option Value} (h : f_X12_split_23 v1 v2 v3 σ = some r) : G l w 0 41 RX12 cX12_split 5 (some .int) 6 147 (gE (some (.int r.1)) r.2) 23 [some (.ref (w.2.1 28 0)), some (.int v1), some (.int v2), some (.int v3), x4] [.ref (w.2.1 28 0)] σ := by
  unfold f_X12_split_23 at h
  refine g_iconst dX12_split_23 kc_0 ?_
  exact f_X12_split_24_ok h
theorem f_X12_split_ok {v1 : Int32} {v2 : Int32} {v3 : Int32}  {σ : gSt} {r : (Int32 × gSt)} (h : f_X12_split v1 v2 v3 σ = some r) : Mt l w 0 41 yX12_split cX12_split 5 (some .int) 6 147 [.ref (w.2.1 28 0), .int v1, .int v2, .int v3] σ (gE (some (.int r.1)) r.2) := by
  unfold f_X12_split at h
  refine g_start pn_X12 rfl rfl (Nat.le_of_ble_eq_true rfl) ?_
  show G l w 0 41 RX12 cX12_split 5 (some .int) 6 147 (gE (some (.int r.1)) r.2) 0 [some (.ref (w.2.1 28 0)), some (.int v1), some (.int v2), some (.int v3), none] [] σ
  refine g_aload_n dX12_split_0 rfl ?_
  refine g_aload_n dX12_split_1 rfl ?_
  refine g_iload_n dX12_split_2 rfl ?_
  refine g_iload_n dX12_split_3 rfl ?_
  obtain ⟨p4, e4, h⟩ := obind h
  refine g_vP2 mv_X12_261 dX12_split_4 ok_28 ⟨by decide, by decide⟩ (Nat.le_of_ble_eq_true rfl) (f_X12_isOwnPoint_ok e4) ?_
  refine g_if_eq 23 dX12_split_7 rfl (fun q => ?_) (fun q => ?_)
  · replace h := gif_t q h
    exact f_X12_split_23_ok h
  · replace h := gif_f q h
    refine g_iload_n dX12_split_10 rfl ?_
    refine g_iconst dX12_split_11 kc_0 ?_
    refine g_iconst dX12_split_12 kc_2 ?_
    obtain ⟨p13, e13, h⟩ := obind h
    refine g_sP3 ms_X12_79 dX12_split_13 ⟨by decide, by decide⟩ (Nat.le_of_ble_eq_true rfl) (f_X12_in_ok e13) ?_
    refine g_if_eq 23 dX12_split_16 rfl (fun q => ?_) (fun q => ?_)
    · replace h := gif_t q h
      exact f_X12_split_23_ok h
    · replace h := gif_f q h
      refine g_iconst dX12_split_19 kc_1 ?_
      refine g_goto 24 dX12_split_20 rfl ?_
      exact f_X12_split_24_ok h
theorem dX12_paces_0 : decode cX12_paces 0 = .ok (.aload_n 0, 1) := by decide +kernel
theorem dX12_paces_1 : decode cX12_paces 1 = .ok (.getfield 17, 3) := by decide +kernel
theorem dX12_paces_4 : decode cX12_paces 4 = .ok (.bipush 37, 2) := by decide +kernel
theorem dX12_paces_6 : decode cX12_paces 6 = .ok (.iload_n 1, 1) := by decide +kernel
theorem dX12_paces_7 : decode cX12_paces 7 = .ok (.iadd, 1) := by decide +kernel
theorem dX12_paces_8 : decode cX12_paces 8 = .ok (.iaload, 1) := by decide +kernel
theorem dX12_paces_9 : decode cX12_paces 9 = .ok (.istore_n 2, 1) := by decide +kernel
theorem dX12_paces_10 : decode cX12_paces 10 = .ok (.iconst 0, 1) := by decide +kernel
theorem dX12_paces_11 : decode cX12_paces 11 = .ok (.istore_n 3, 1) := by decide +kernel
theorem dX12_paces_12 : decode cX12_paces 12 = .ok (.iconst 0, 1) := by decide +kernel
theorem dX12_paces_13 : decode cX12_paces 13 = .ok (.istore 4, 2) := by decide +kernel
theorem dX12_paces_15 : decode cX12_paces 15 = .ok (.iload 4, 2) := by decide +kernel
theorem dX12_paces_17 : decode cX12_paces 17 = .ok (.aload_n 0, 1) := by decide +kernel
theorem dX12_paces_18 : decode cX12_paces 18 = .ok (.getfield 17, 3) := by decide +kernel
theorem dX12_paces_21 : decode cX12_paces 21 = .ok (.iconst 4, 1) := by decide +kernel
theorem dX12_paces_22 : decode cX12_paces 22 = .ok (.iload_n 2, 1) := by decide +kernel
theorem dX12_paces_23 : decode cX12_paces 23 = .ok (.iadd, 1) := by decide +kernel
theorem dX12_paces_24 : decode cX12_paces 24 = .ok (.iaload, 1) := by decide +kernel
theorem dX12_paces_25 : decode cX12_paces 25 = .ok (.if_icmp .gt 137, 3) := by decide +kernel
theorem dX12_paces_28 : decode cX12_paces 28 = .ok (.aload_n 0, 1) := by decide +kernel
theorem dX12_paces_29 : decode cX12_paces 29 = .ok (.iload_n 1, 1) := by decide +kernel
theorem dX12_paces_30 : decode cX12_paces 30 = .ok (.iload 4, 2) := by decide +kernel
theorem dX12_paces_32 : decode cX12_paces 32 = .ok (.invokevirtual 221, 3) := by decide +kernel
theorem dX12_paces_35 : decode cX12_paces 35 = .ok (.istore 5, 2) := by decide +kernel
theorem dX12_paces_37 : decode cX12_paces 37 = .ok (.iload 5, 2) := by decide +kernel
theorem dX12_paces_39 : decode cX12_paces 39 = .ok (.bipush (-2), 2) := by decide +kernel
theorem dX12_paces_41 : decode cX12_paces 41 = .ok (.if_icmp .ne 7, 3) := by decide +kernel
theorem dX12_paces_44 : decode cX12_paces 44 = .ok (.iconst 0, 1) := by decide +kernel
theorem dX12_paces_45 : decode cX12_paces 45 = .ok (.goto 10, 3) := by decide +kernel
theorem dX12_paces_48 : decode cX12_paces 48 = .ok (.aload_n 0, 1) := by decide +kernel
theorem dX12_paces_49 : decode cX12_paces 49 = .ok (.iload_n 2, 1) := by decide +kernel
theorem dX12_paces_50 : decode cX12_paces 50 = .ok (.iload 4, 2) := by decide +kernel
theorem dX12_paces_52 : decode cX12_paces 52 = .ok (.invokevirtual 231, 3) := by decide +kernel
theorem dX12_paces_55 : decode cX12_paces 55 = .ok (.istore 6, 2) := by decide +kernel
theorem dX12_paces_57 : decode cX12_paces 57 = .ok (.iload 6, 2) := by decide +kernel
theorem dX12_paces_59 : decode cX12_paces 59 = .ok (.ifCond .le 97, 3) := by decide +kernel
theorem dX12_paces_62 : decode cX12_paces 62 = .ok (.iload_n 3, 1) := by decide +kernel
theorem dX12_paces_63 : decode cX12_paces 63 = .ok (.istore 7, 2) := by decide +kernel
theorem dX12_paces_65 : decode cX12_paces 65 = .ok (.iload 7, 2) := by decide +kernel
theorem dX12_paces_67 : decode cX12_paces 67 = .ok (.ifCond .le 68, 3) := by decide +kernel
theorem dX12_paces_70 : decode cX12_paces 70 = .ok (.iload 5, 2) := by decide +kernel
theorem dX12_paces_72 : decode cX12_paces 72 = .ok (.aload_n 0, 1) := by decide +kernel
theorem dX12_paces_73 : decode cX12_paces 73 = .ok (.getfield 38, 3) := by decide +kernel
theorem dX12_paces_76 : decode cX12_paces 76 = .ok (.iload 7, 2) := by decide +kernel
theorem dX12_paces_78 : decode cX12_paces 78 = .ok (.iconst 1, 1) := by decide +kernel
theorem dX12_paces_79 : decode cX12_paces 79 = .ok (.isub, 1) := by decide +kernel
theorem dX12_paces_80 : decode cX12_paces 80 = .ok (.iaload, 1) := by decide +kernel
theorem dX12_paces_81 : decode cX12_paces 81 = .ok (.imul, 1) := by decide +kernel
theorem dX12_paces_82 : decode cX12_paces 82 = .ok (.aload_n 0, 1) := by decide +kernel
theorem dX12_paces_83 : decode cX12_paces 83 = .ok (.getfield 35, 3) := by decide +kernel
theorem dX12_paces_86 : decode cX12_paces 86 = .ok (.iload 7, 2) := by decide +kernel
theorem dX12_paces_88 : decode cX12_paces 88 = .ok (.iconst 1, 1) := by decide +kernel
theorem dX12_paces_89 : decode cX12_paces 89 = .ok (.isub, 1) := by decide +kernel
theorem dX12_paces_90 : decode cX12_paces 90 = .ok (.iaload, 1) := by decide +kernel
theorem dX12_paces_91 : decode cX12_paces 91 = .ok (.iload 6, 2) := by decide +kernel
theorem dX12_paces_93 : decode cX12_paces 93 = .ok (.imul, 1) := by decide +kernel
theorem dX12_paces_94 : decode cX12_paces 94 = .ok (.if_icmp .ge 41, 3) := by decide +kernel
theorem dX12_paces_97 : decode cX12_paces 97 = .ok (.aload_n 0, 1) := by decide +kernel
theorem dX12_paces_98 : decode cX12_paces 98 = .ok (.getfield 35, 3) := by decide +kernel
theorem dX12_paces_101 : decode cX12_paces 101 = .ok (.iload 7, 2) := by decide +kernel
theorem dX12_paces_103 : decode cX12_paces 103 = .ok (.aload_n 0, 1) := by decide +kernel
theorem dX12_paces_104 : decode cX12_paces 104 = .ok (.getfield 35, 3) := by decide +kernel
theorem dX12_paces_107 : decode cX12_paces 107 = .ok (.iload 7, 2) := by decide +kernel
theorem dX12_paces_109 : decode cX12_paces 109 = .ok (.iconst 1, 1) := by decide +kernel
theorem dX12_paces_110 : decode cX12_paces 110 = .ok (.isub, 1) := by decide +kernel
theorem dX12_paces_111 : decode cX12_paces 111 = .ok (.iaload, 1) := by decide +kernel
theorem dX12_paces_112 : decode cX12_paces 112 = .ok (.iastore, 1) := by decide +kernel
theorem dX12_paces_113 : decode cX12_paces 113 = .ok (.aload_n 0, 1) := by decide +kernel
theorem dX12_paces_114 : decode cX12_paces 114 = .ok (.getfield 38, 3) := by decide +kernel
theorem dX12_paces_117 : decode cX12_paces 117 = .ok (.iload 7, 2) := by decide +kernel
theorem dX12_paces_119 : decode cX12_paces 119 = .ok (.aload_n 0, 1) := by decide +kernel
theorem dX12_paces_120 : decode cX12_paces 120 = .ok (.getfield 38, 3) := by decide +kernel
theorem dX12_paces_123 : decode cX12_paces 123 = .ok (.iload 7, 2) := by decide +kernel
theorem dX12_paces_125 : decode cX12_paces 125 = .ok (.iconst 1, 1) := by decide +kernel
theorem dX12_paces_126 : decode cX12_paces 126 = .ok (.isub, 1) := by decide +kernel
theorem dX12_paces_127 : decode cX12_paces 127 = .ok (.iaload, 1) := by decide +kernel
theorem dX12_paces_128 : decode cX12_paces 128 = .ok (.iastore, 1) := by decide +kernel
theorem dX12_paces_129 : decode cX12_paces 129 = .ok (.iinc 7 (-1), 3) := by decide +kernel
theorem dX12_paces_132 : decode cX12_paces 132 = .ok (.goto (-67), 3) := by decide +kernel
theorem dX12_paces_135 : decode cX12_paces 135 = .ok (.aload_n 0, 1) := by decide +kernel
theorem dX12_paces_136 : decode cX12_paces 136 = .ok (.getfield 35, 3) := by decide +kernel
theorem dX12_paces_139 : decode cX12_paces 139 = .ok (.iload 7, 2) := by decide +kernel
theorem dX12_paces_141 : decode cX12_paces 141 = .ok (.iload 5, 2) := by decide +kernel
theorem dX12_paces_143 : decode cX12_paces 143 = .ok (.iastore, 1) := by decide +kernel
theorem dX12_paces_144 : decode cX12_paces 144 = .ok (.aload_n 0, 1) := by decide +kernel
theorem dX12_paces_145 : decode cX12_paces 145 = .ok (.getfield 38, 3) := by decide +kernel
theorem dX12_paces_148 : decode cX12_paces 148 = .ok (.iload 7, 2) := by decide +kernel
theorem dX12_paces_150 : decode cX12_paces 150 = .ok (.iload 6, 2) := by decide +kernel
theorem dX12_paces_152 : decode cX12_paces 152 = .ok (.iastore, 1) := by decide +kernel
theorem dX12_paces_153 : decode cX12_paces 153 = .ok (.iinc 3 1, 3) := by decide +kernel
theorem dX12_paces_156 : decode cX12_paces 156 = .ok (.iinc 4 1, 3) := by decide +kernel
theorem dX12_paces_159 : decode cX12_paces 159 = .ok (.goto (-144), 3) := by decide +kernel
theorem dX12_paces_162 : decode cX12_paces 162 = .ok (.iload_n 3, 1) := by decide +kernel
theorem dX12_paces_163 : decode cX12_paces 163 = .ok (.ifCond .ne 5, 3) := by decide +kernel
theorem dX12_paces_166 : decode cX12_paces 166 = .ok (.iconst 0, 1) := by decide +kernel
theorem dX12_paces_167 : decode cX12_paces 167 = .ok (.ireturn, 1) := by decide +kernel
theorem dX12_paces_168 : decode cX12_paces 168 = .ok (.aload_n 0, 1) := by decide +kernel
theorem dX12_paces_169 : decode cX12_paces 169 = .ok (.aload_n 0, 1) := by decide +kernel
theorem dX12_paces_170 : decode cX12_paces 170 = .ok (.getfield 35, 3) := by decide +kernel
theorem dX12_paces_173 : decode cX12_paces 173 = .ok (.iload_n 3, 1) := by decide +kernel
theorem dX12_paces_174 : decode cX12_paces 174 = .ok (.iconst 1, 1) := by decide +kernel
theorem dX12_paces_175 : decode cX12_paces 175 = .ok (.isub, 1) := by decide +kernel
theorem dX12_paces_176 : decode cX12_paces 176 = .ok (.iconst 2, 1) := by decide +kernel
theorem dX12_paces_177 : decode cX12_paces 177 = .ok (.idiv, 1) := by decide +kernel
theorem dX12_paces_178 : decode cX12_paces 178 = .ok (.iaload, 1) := by decide +kernel
theorem dX12_paces_179 : decode cX12_paces 179 = .ok (.putfield 267, 3) := by decide +kernel
theorem dX12_paces_182 : decode cX12_paces 182 = .ok (.aload_n 0, 1) := by decide +kernel
theorem dX12_paces_183 : decode cX12_paces 183 = .ok (.aload_n 0, 1) := by decide +kernel
theorem dX12_paces_184 : decode cX12_paces 184 = .ok (.getfield 38, 3) := by decide +kernel
theorem dX12_paces_187 : decode cX12_paces 187 = .ok (.iload_n 3, 1) := by decide +kernel
theorem dX12_paces_188 : decode cX12_paces 188 = .ok (.iconst 1, 1) := by decide +kernel
theorem dX12_paces_189 : decode cX12_paces 189 = .ok (.isub, 1) := by decide +kernel
theorem dX12_paces_190 : decode cX12_paces 190 = .ok (.iconst 2, 1) := by decide +kernel
theorem dX12_paces_191 : decode cX12_paces 191 = .ok (.idiv, 1) := by decide +kernel
theorem dX12_paces_192 : decode cX12_paces 192 = .ok (.iaload, 1) := by decide +kernel
theorem dX12_paces_193 : decode cX12_paces 193 = .ok (.putfield 270, 3) := by decide +kernel
theorem dX12_paces_196 : decode cX12_paces 196 = .ok (.iconst 1, 1) := by decide +kernel
theorem dX12_paces_197 : decode cX12_paces 197 = .ok (.ireturn, 1) := by decide +kernel
def f_X12_paces_65 (v1 : Int32) (v2 : Int32) (v3 : Int32) (v4 : Int32) (v5 : Int32) (v6 : Int32) (k15 : Int32 → Int32 → gSt → Option (Int32 × gSt)) : Nat → Int32 → gSt → Option (Int32 × gSt)
  | 0, _, _ => none
  | n + 1, v7, σ =>
    if v7 ≤ 0 then
      (gst σ 36 0 11 v7 v5).bind fun z143 =>
      (gst z143 37 0 11 v7 v6).bind fun z152 =>
      k15 (v3 + 1) (v4 + 1) z152
    else
      (gld σ 37 0 11 (v7 - 1)).bind fun a80 =>
      (gld σ 36 0 11 (v7 - 1)).bind fun a90 =>
      if (a90 * v6) ≤ (v5 * a80) then
        (gst σ 36 0 11 v7 v5).bind fun z143 =>
        (gst z143 37 0 11 v7 v6).bind fun z152 =>
        k15 (v3 + 1) (v4 + 1) z152
      else
        (gld σ 36 0 11 (v7 - 1)).bind fun a111 =>
        (gst σ 36 0 11 v7 a111).bind fun z112 =>
        (gld z112 37 0 11 (v7 - 1)).bind fun a127 =>
        (gst z112 37 0 11 v7 a127).bind fun z128 =>
        f_X12_paces_65 v1 v2 v3 v4 v5 v6 k15 n (v7 + (-1)) z128
def f_X12_paces_55 (v1 : Int32) (v2 : Int32) (v3 : Int32) (v4 : Int32) (v5 : Int32) (k15 : Int32 → Int32 → gSt → Option (Int32 × gSt)) (vs0 : Int32) (σ : gSt) : Option (Int32 × gSt) :=
  if vs0 ≤ 0 then
    k15 v3 (v4 + 1) σ
  else
    f_X12_paces_65 v1 v2 v3 v4 v5 vs0 k15 gFuel v3 σ
def f_X12_paces_15 (v1 : Int32) (v2 : Int32) : Nat → Int32 → Int32 → gSt → Option (Int32 × gSt)
  | 0, _, _, _ => none
  | n + 1, v3, v4, σ =>
    (gld σ 30 0 397 (4 + v2)).bind fun a24 =>
    if a24 < v4 then
      if v3 = 0 then
        some (0, σ)
      else
        (gdv (v3 - 1) 2).bind fun a177 =>
        (gld σ 36 0 11 a177).bind fun a178 =>
        (gdv (v3 - 1) 2).bind fun a191 =>
        (gld (gup σ 28 0 23 a178) 37 0 11 a191).bind fun a192 =>
        some (1, (gup (gup σ 28 0 23 a178) 28 0 24 a192))
    else
      (f_X12_legOf v1 v4 σ).bind fun p32 =>
      if p32.1 = (-2) then
        f_X12_paces_55 v1 v2 v3 v4 p32.1 (fun v3 v4 σ => f_X12_paces_15 v1 v2 n v3 v4 σ) 0 p32.2
      else
        (f_X12_bestLeg v2 v4 p32.2).bind fun p52 =>
        f_X12_paces_55 v1 v2 v3 v4 p32.1 (fun v3 v4 σ => f_X12_paces_15 v1 v2 n v3 v4 σ) p52.1 p52.2
def f_X12_paces (v1 : Int32) (σ : gSt) : Option (Int32 × gSt) :=
  (gld σ 30 0 397 (37 + v1)).bind fun a8 =>
  f_X12_paces_15 v1 a8 gFuel 0 0 σ
theorem f_X12_paces_65_ok {v1 : Int32} {v2 : Int32} {v3 : Int32} {v4 : Int32} {v5 : Int32} {v6 : Int32} {k15 : Int32 → Int32 → gSt → Option (Int32 × gSt)} {r : (Int32 × gSt)} (hk15 : ∀ {v3 : Int32} {v4 : Int32} {σ : gSt} {x5 x6 x7 : Option Value}, k15 v3 v4 σ = some r → G l w 0 41 RX12 cX12_paces 8 (some .boolean) 7 170 (gE (some (.int r.1)) r.2) 15 [some (.ref (w.2.1 28 0)), some (.int v1), some (.int v2), some (.int v3), some (.int v4), x5, x6, x7] [] σ) : ∀ (n : Nat) {v7 : Int32} {σ : gSt} , f_X12_paces_65 v1 v2 v3 v4 v5 v6 k15 n v7 σ = some r → G l w 0 41 RX12 cX12_paces 8 (some .boolean) 7 170 (gE (some (.int r.1)) r.2) 65 [some (.ref (w.2.1 28 0)), some (.int v1), some (.int v2), some (.int v3), some (.int v4), some (.int v5), some (.int v6), some (.int v7)] [] σ := by
  intro n
  induction n with
  | zero => intro v7 σ h; rw [f_X12_paces_65] at h; cases h
  | succ n ih =>
    intro v7 σ h
    rw [f_X12_paces_65] at h
    refine g_iload dX12_paces_65 rfl ?_
    refine g_if_le 135 dX12_paces_67 rfl (fun q => ?_) (fun q => ?_)
    · replace h := gif_t q h
      refine g_aload_n dX12_paces_135 rfl ?_
      refine gR_X12_35 ok_28 dX12_paces_136 ?_
      refine g_iload dX12_paces_139 rfl ?_
      refine g_iload dX12_paces_141 rfl ?_
      obtain ⟨z143, e143, h⟩ := obind h
      refine g_stB e143 ok_36 rfl rfl (by decide) dX12_paces_143 ?_
      refine g_aload_n dX12_paces_144 rfl ?_
      refine gR_X12_38 ok_28 dX12_paces_145 ?_
      refine g_iload dX12_paces_148 rfl ?_
      refine g_iload dX12_paces_150 rfl ?_
      obtain ⟨z152, e152, h⟩ := obind h
      refine g_stB e152 ok_37 rfl rfl (by decide) dX12_paces_152 ?_
      refine g_inc3 kc_1 dX12_paces_153 ?_
      refine g_inc4 kc_1 dX12_paces_156 ?_
      refine g_goto 15 dX12_paces_159 rfl ?_
      exact hk15 h
    · replace h := gif_f q h
      refine g_iload dX12_paces_70 rfl ?_
      refine g_aload_n dX12_paces_72 rfl ?_
      refine gR_X12_38 ok_28 dX12_paces_73 ?_
      refine g_iload dX12_paces_76 rfl ?_
      refine g_iconst dX12_paces_78 kc_1 ?_
      refine g_isub dX12_paces_79 ?_
      obtain ⟨a80, e80, h⟩ := obind h
      refine g_ldB e80 ok_37 rfl rfl (by decide) dX12_paces_80 ?_
      refine g_imul dX12_paces_81 ?_
      refine g_aload_n dX12_paces_82 rfl ?_
      refine gR_X12_35 ok_28 dX12_paces_83 ?_
      refine g_iload dX12_paces_86 rfl ?_
      refine g_iconst dX12_paces_88 kc_1 ?_
      refine g_isub dX12_paces_89 ?_
      obtain ⟨a90, e90, h⟩ := obind h
      refine g_ldB e90 ok_36 rfl rfl (by decide) dX12_paces_90 ?_
      refine g_iload dX12_paces_91 rfl ?_
      refine g_imul dX12_paces_93 ?_
      refine g_icmp_ge 135 dX12_paces_94 rfl (fun q => ?_) (fun q => ?_)
      · replace h := gif_t q h
        refine g_aload_n dX12_paces_135 rfl ?_
        refine gR_X12_35 ok_28 dX12_paces_136 ?_
        refine g_iload dX12_paces_139 rfl ?_
        refine g_iload dX12_paces_141 rfl ?_
        obtain ⟨z143, e143, h⟩ := obind h
        refine g_stB e143 ok_36 rfl rfl (by decide) dX12_paces_143 ?_
        refine g_aload_n dX12_paces_144 rfl ?_
        refine gR_X12_38 ok_28 dX12_paces_145 ?_
        refine g_iload dX12_paces_148 rfl ?_
        refine g_iload dX12_paces_150 rfl ?_
        obtain ⟨z152, e152, h⟩ := obind h
        refine g_stB e152 ok_37 rfl rfl (by decide) dX12_paces_152 ?_
        refine g_inc3 kc_1 dX12_paces_153 ?_
        refine g_inc4 kc_1 dX12_paces_156 ?_
        refine g_goto 15 dX12_paces_159 rfl ?_
        exact hk15 h
      · replace h := gif_f q h
        refine g_aload_n dX12_paces_97 rfl ?_
        refine gR_X12_35 ok_28 dX12_paces_98 ?_
        refine g_iload dX12_paces_101 rfl ?_
        refine g_aload_n dX12_paces_103 rfl ?_
        refine gR_X12_35 ok_28 dX12_paces_104 ?_
        refine g_iload dX12_paces_107 rfl ?_
        refine g_iconst dX12_paces_109 kc_1 ?_
        refine g_isub dX12_paces_110 ?_
        obtain ⟨a111, e111, h⟩ := obind h
        refine g_ldB e111 ok_36 rfl rfl (by decide) dX12_paces_111 ?_
        obtain ⟨z112, e112, h⟩ := obind h
        refine g_stB e112 ok_36 rfl rfl (by decide) dX12_paces_112 ?_
        refine g_aload_n dX12_paces_113 rfl ?_
        refine gR_X12_38 ok_28 dX12_paces_114 ?_
        refine g_iload dX12_paces_117 rfl ?_
        refine g_aload_n dX12_paces_119 rfl ?_
        refine gR_X12_38 ok_28 dX12_paces_120 ?_
        refine g_iload dX12_paces_123 rfl ?_
        refine g_iconst dX12_paces_125 kc_1 ?_
        refine g_isub dX12_paces_126 ?_
        obtain ⟨a127, e127, h⟩ := obind h
        refine g_ldB e127 ok_37 rfl rfl (by decide) dX12_paces_127 ?_
        obtain ⟨z128, e128, h⟩ := obind h
        refine g_stB e128 ok_37 rfl rfl (by decide) dX12_paces_128 ?_
        refine g_inc7 kc_m1 dX12_paces_129 ?_
        refine g_goto 65 dX12_paces_132 rfl ?_
        exact ih h
theorem f_X12_paces_55_ok {v1 : Int32} {v2 : Int32} {v3 : Int32} {v4 : Int32} {v5 : Int32} {k15 : Int32 → Int32 → gSt → Option (Int32 × gSt)} {vs0 : Int32} {r : (Int32 × gSt)} (hk15 : ∀ {v3 : Int32} {v4 : Int32} {σ : gSt} {x5 x6 x7 : Option Value}, k15 v3 v4 σ = some r → G l w 0 41 RX12 cX12_paces 8 (some .boolean) 7 170 (gE (some (.int r.1)) r.2) 15 [some (.ref (w.2.1 28 0)), some (.int v1), some (.int v2), some (.int v3), some (.int v4), x5, x6, x7] [] σ) {σ : gSt} {x6 x7 : Option Value} (h : f_X12_paces_55 v1 v2 v3 v4 v5 k15 vs0 σ = some r) : G l w 0 41 RX12 cX12_paces 8 (some .boolean) 7 170 (gE (some (.int r.1)) r.2) 55 [some (.ref (w.2.1 28 0)), some (.int v1), some (.int v2), some (.int v3), some (.int v4), some (.int v5), x6, x7] [.int vs0] σ := by
  unfold f_X12_paces_55 at h
  refine g_istore6 dX12_paces_55 ?_
  refine g_iload dX12_paces_57 rfl ?_
  refine g_if_le 156 dX12_paces_59 rfl (fun q => ?_) (fun q => ?_)
  · replace h := gif_t q h
    refine g_inc4 kc_1 dX12_paces_156 ?_
    refine g_goto 15 dX12_paces_159 rfl ?_
    exact hk15 h
  · replace h := gif_f q h
    refine g_iload_n dX12_paces_62 rfl ?_
    refine g_istore7 dX12_paces_63 ?_
    exact f_X12_paces_65_ok hk15 gFuel h
theorem f_X12_paces_15_ok {v1 : Int32} {v2 : Int32} {r : (Int32 × gSt)}  : ∀ (n : Nat) {v3 : Int32} {v4 : Int32} {σ : gSt} {x5 x6 x7 : Option Value}, f_X12_paces_15 v1 v2 n v3 v4 σ = some r → G l w 0 41 RX12 cX12_paces 8 (some .boolean) 7 170 (gE (some (.int r.1)) r.2) 15 [some (.ref (w.2.1 28 0)), some (.int v1), some (.int v2), some (.int v3), some (.int v4), x5, x6, x7] [] σ := by
  intro n
  induction n with
  | zero => intro v3 v4 σ x5 x6 x7 h; rw [f_X12_paces_15] at h; cases h
  | succ n ih =>
    intro v3 v4 σ x5 x6 x7 h
    rw [f_X12_paces_15] at h
    refine g_iload dX12_paces_15 rfl ?_
    refine g_aload_n dX12_paces_17 rfl ?_
    refine gR_X12_17 ok_28 dX12_paces_18 ?_
    refine g_iconst dX12_paces_21 kc_4 ?_
    refine g_iload_n dX12_paces_22 rfl ?_
    refine g_iadd dX12_paces_23 ?_
    obtain ⟨a24, e24, h⟩ := obind h
    refine g_ldB e24 ok_30 rfl rfl (by decide) dX12_paces_24 ?_
    refine g_icmp_gt 162 dX12_paces_25 rfl (fun q => ?_) (fun q => ?_)
    · replace h := gif_t q h
      refine g_iload_n dX12_paces_162 rfl ?_
      refine g_if_ne 168 dX12_paces_163 rfl (fun q => ?_) (fun q => ?_)
      · replace h := gif_f q h
        refine g_aload_n dX12_paces_168 rfl ?_
        refine g_aload_n dX12_paces_169 rfl ?_
        refine gR_X12_35 ok_28 dX12_paces_170 ?_
        refine g_iload_n dX12_paces_173 rfl ?_
        refine g_iconst dX12_paces_174 kc_1 ?_
        refine g_isub dX12_paces_175 ?_
        refine g_iconst dX12_paces_176 kc_2 ?_
        obtain ⟨a177, e177, h⟩ := obind h
        refine g_dvB e177 dX12_paces_177 ?_
        obtain ⟨a178, e178, h⟩ := obind h
        refine g_ldB e178 ok_36 rfl rfl (by decide) dX12_paces_178 ?_
        refine gP_X12_267 ok_28 dX12_paces_179 ?_
        refine g_aload_n dX12_paces_182 rfl ?_
        refine g_aload_n dX12_paces_183 rfl ?_
        refine gR_X12_38 ok_28 dX12_paces_184 ?_
        refine g_iload_n dX12_paces_187 rfl ?_
        refine g_iconst dX12_paces_188 kc_1 ?_
        refine g_isub dX12_paces_189 ?_
        refine g_iconst dX12_paces_190 kc_2 ?_
        obtain ⟨a191, e191, h⟩ := obind h
        refine g_dvB e191 dX12_paces_191 ?_
        obtain ⟨a192, e192, h⟩ := obind h
        refine g_ldB e192 ok_37 rfl rfl (by decide) dX12_paces_192 ?_
        refine gP_X12_270 ok_28 dX12_paces_193 ?_
        refine g_iconst dX12_paces_196 kc_1 ?_
        cases h
        exact g_zret1 dX12_paces_197 rfl
      · replace h := gif_t q h
        refine g_iconst dX12_paces_166 kc_0 ?_
        cases h
        exact g_zret0 dX12_paces_167 rfl
    · replace h := gif_f q h
      refine g_aload_n dX12_paces_28 rfl ?_
      refine g_iload_n dX12_paces_29 rfl ?_
      refine g_iload dX12_paces_30 rfl ?_
      obtain ⟨p32, e32, h⟩ := obind h
      refine g_vP2 mv_X12_221 dX12_paces_32 ok_28 ⟨by decide, by decide⟩ (Nat.le_of_ble_eq_true rfl) (f_X12_legOf_ok e32) ?_
      refine g_istore5 dX12_paces_35 ?_
      refine g_iload dX12_paces_37 rfl ?_
      refine g_bipush dX12_paces_39 kb_m2 ?_
      refine g_icmp_ne 48 dX12_paces_41 rfl (fun q => ?_) (fun q => ?_)
      · replace h := gif_f q h
        refine g_aload_n dX12_paces_48 rfl ?_
        refine g_iload_n dX12_paces_49 rfl ?_
        refine g_iload dX12_paces_50 rfl ?_
        obtain ⟨p52, e52, h⟩ := obind h
        refine g_vP2 mv_X12_231 dX12_paces_52 ok_28 ⟨by decide, by decide⟩ (Nat.le_of_ble_eq_true rfl) (f_X12_bestLeg_ok e52) ?_
        exact f_X12_paces_55_ok (fun h => ih h) h
      · replace h := gif_t q h
        refine g_iconst dX12_paces_44 kc_0 ?_
        refine g_goto 55 dX12_paces_45 rfl ?_
        exact f_X12_paces_55_ok (fun h => ih h) h
theorem f_X12_paces_ok {v1 : Int32}  {σ : gSt} {r : (Int32 × gSt)} (h : f_X12_paces v1 σ = some r) : Mt l w 0 41 yX12_paces cX12_paces 8 (some .boolean) 7 170 [.ref (w.2.1 28 0), .int v1] σ (gE (some (.int r.1)) r.2) := by
  unfold f_X12_paces at h
  refine g_start pn_X12 rfl rfl (Nat.le_of_ble_eq_true rfl) ?_
  show G l w 0 41 RX12 cX12_paces 8 (some .boolean) 7 170 (gE (some (.int r.1)) r.2) 0 [some (.ref (w.2.1 28 0)), some (.int v1), none, none, none, none, none, none] [] σ
  refine g_aload_n dX12_paces_0 rfl ?_
  refine gR_X12_17 ok_28 dX12_paces_1 ?_
  refine g_bipush dX12_paces_4 kb_37 ?_
  refine g_iload_n dX12_paces_6 rfl ?_
  refine g_iadd dX12_paces_7 ?_
  obtain ⟨a8, e8, h⟩ := obind h
  refine g_ldB e8 ok_30 rfl rfl (by decide) dX12_paces_8 ?_
  refine g_istore2 dX12_paces_9 ?_
  refine g_iconst dX12_paces_10 kc_0 ?_
  refine g_istore3 dX12_paces_11 ?_
  refine g_iconst dX12_paces_12 kc_0 ?_
  refine g_istore4 dX12_paces_13 ?_
  exact f_X12_paces_15_ok gFuel h
theorem dX12_dueBy_0 : decode cX12_dueBy 0 = .ok (.aload_n 0, 1) := by decide +kernel
theorem dX12_dueBy_1 : decode cX12_dueBy 1 = .ok (.getfield 267, 3) := by decide +kernel
theorem dX12_dueBy_4 : decode cX12_dueBy 4 = .ok (.iload_n 1, 1) := by decide +kernel
theorem dX12_dueBy_5 : decode cX12_dueBy 5 = .ok (.imul, 1) := by decide +kernel
theorem dX12_dueBy_6 : decode cX12_dueBy 6 = .ok (.istore_n 2, 1) := by decide +kernel
theorem dX12_dueBy_7 : decode cX12_dueBy 7 = .ok (.iload_n 2, 1) := by decide +kernel
theorem dX12_dueBy_8 : decode cX12_dueBy 8 = .ok (.aload_n 0, 1) := by decide +kernel
theorem dX12_dueBy_9 : decode cX12_dueBy 9 = .ok (.getfield 270, 3) := by decide +kernel
theorem dX12_dueBy_12 : decode cX12_dueBy 12 = .ok (.idiv, 1) := by decide +kernel
theorem dX12_dueBy_13 : decode cX12_dueBy 13 = .ok (.istore_n 3, 1) := by decide +kernel
theorem dX12_dueBy_14 : decode cX12_dueBy 14 = .ok (.iconst 2, 1) := by decide +kernel
theorem dX12_dueBy_15 : decode cX12_dueBy 15 = .ok (.iload_n 2, 1) := by decide +kernel
theorem dX12_dueBy_16 : decode cX12_dueBy 16 = .ok (.aload_n 0, 1) := by decide +kernel
theorem dX12_dueBy_17 : decode cX12_dueBy 17 = .ok (.getfield 270, 3) := by decide +kernel
theorem dX12_dueBy_20 : decode cX12_dueBy 20 = .ok (.irem, 1) := by decide +kernel
theorem dX12_dueBy_21 : decode cX12_dueBy 21 = .ok (.imul, 1) := by decide +kernel
theorem dX12_dueBy_22 : decode cX12_dueBy 22 = .ok (.aload_n 0, 1) := by decide +kernel
theorem dX12_dueBy_23 : decode cX12_dueBy 23 = .ok (.getfield 270, 3) := by decide +kernel
theorem dX12_dueBy_26 : decode cX12_dueBy 26 = .ok (.if_icmp .le 9, 3) := by decide +kernel
theorem dX12_dueBy_29 : decode cX12_dueBy 29 = .ok (.iload_n 3, 1) := by decide +kernel
theorem dX12_dueBy_30 : decode cX12_dueBy 30 = .ok (.iconst 1, 1) := by decide +kernel
theorem dX12_dueBy_31 : decode cX12_dueBy 31 = .ok (.iadd, 1) := by decide +kernel
theorem dX12_dueBy_32 : decode cX12_dueBy 32 = .ok (.goto 4, 3) := by decide +kernel
theorem dX12_dueBy_35 : decode cX12_dueBy 35 = .ok (.iload_n 3, 1) := by decide +kernel
theorem dX12_dueBy_36 : decode cX12_dueBy 36 = .ok (.ireturn, 1) := by decide +kernel
def f_X12_dueBy (v1 : Int32) (σ : gSt) : Option (Int32 × gSt) :=
  (gdv ((σ 28 0 23) * v1) (σ 28 0 24)).bind fun a12 =>
  (grm ((σ 28 0 23) * v1) (σ 28 0 24)).bind fun a20 =>
  if (2 * a20) ≤ (σ 28 0 24) then
    some (a12, σ)
  else
    some ((a12 + 1), σ)
theorem f_X12_dueBy_ok {v1 : Int32}  {σ : gSt} {r : (Int32 × gSt)} (h : f_X12_dueBy v1 σ = some r) : Mt l w 0 41 yX12_dueBy cX12_dueBy 4 (some .int) 0 0 [.ref (w.2.1 28 0), .int v1] σ (gE (some (.int r.1)) r.2) := by
  unfold f_X12_dueBy at h
  refine g_start pn_X12 rfl rfl (Nat.le_of_ble_eq_true rfl) ?_
  show G l w 0 41 RX12 cX12_dueBy 4 (some .int) 0 0 (gE (some (.int r.1)) r.2) 0 [some (.ref (w.2.1 28 0)), some (.int v1), none, none] [] σ
  refine g_aload_n dX12_dueBy_0 rfl ?_
  refine gI_X12_267 ok_28 dX12_dueBy_1 ?_
  refine g_iload_n dX12_dueBy_4 rfl ?_
  refine g_imul dX12_dueBy_5 ?_
  refine g_istore2 dX12_dueBy_6 ?_
  refine g_iload_n dX12_dueBy_7 rfl ?_
  refine g_aload_n dX12_dueBy_8 rfl ?_
  refine gI_X12_270 ok_28 dX12_dueBy_9 ?_
  obtain ⟨a12, e12, h⟩ := obind h
  refine g_dvB e12 dX12_dueBy_12 ?_
  refine g_istore3 dX12_dueBy_13 ?_
  refine g_iconst dX12_dueBy_14 kc_2 ?_
  refine g_iload_n dX12_dueBy_15 rfl ?_
  refine g_aload_n dX12_dueBy_16 rfl ?_
  refine gI_X12_270 ok_28 dX12_dueBy_17 ?_
  obtain ⟨a20, e20, h⟩ := obind h
  refine g_rmB e20 dX12_dueBy_20 ?_
  refine g_imul dX12_dueBy_21 ?_
  refine g_aload_n dX12_dueBy_22 rfl ?_
  refine gI_X12_270 ok_28 dX12_dueBy_23 ?_
  refine g_icmp_le 35 dX12_dueBy_26 rfl (fun q => ?_) (fun q => ?_)
  · replace h := gif_t q h
    refine g_iload_n dX12_dueBy_35 rfl ?_
    cases h
    exact g_iret dX12_dueBy_36 rfl ⟨rfl, rfl⟩
  · replace h := gif_f q h
    refine g_iload_n dX12_dueBy_29 rfl ?_
    refine g_iconst dX12_dueBy_30 kc_1 ?_
    refine g_iadd dX12_dueBy_31 ?_
    refine g_goto 36 dX12_dueBy_32 rfl ?_
    cases h
    exact g_iret dX12_dueBy_36 rfl ⟨rfl, rfl⟩
theorem dX12_mistakeOf_0 : decode cX12_mistakeOf 0 = .ok (.aload_n 0, 1) := by decide +kernel
theorem dX12_mistakeOf_1 : decode cX12_mistakeOf 1 = .ok (.iload_n 1, 1) := by decide +kernel
theorem dX12_mistakeOf_2 : decode cX12_mistakeOf 2 = .ok (.iload_n 2, 1) := by decide +kernel
theorem dX12_mistakeOf_3 : decode cX12_mistakeOf 3 = .ok (.invokevirtual 221, 3) := by decide +kernel
theorem dX12_mistakeOf_6 : decode cX12_mistakeOf 6 = .ok (.istore_n 3, 1) := by decide +kernel
theorem dX12_mistakeOf_7 : decode cX12_mistakeOf 7 = .ok (.iload_n 3, 1) := by decide +kernel
theorem dX12_mistakeOf_8 : decode cX12_mistakeOf 8 = .ok (.bipush (-2), 2) := by decide +kernel
theorem dX12_mistakeOf_10 : decode cX12_mistakeOf 10 = .ok (.if_icmp .ne 7, 3) := by decide +kernel
theorem dX12_mistakeOf_13 : decode cX12_mistakeOf 13 = .ok (.iconst 0, 1) := by decide +kernel
theorem dX12_mistakeOf_14 : decode cX12_mistakeOf 14 = .ok (.goto 17, 3) := by decide +kernel
theorem dX12_mistakeOf_17 : decode cX12_mistakeOf 17 = .ok (.aload_n 0, 1) := by decide +kernel
theorem dX12_mistakeOf_18 : decode cX12_mistakeOf 18 = .ok (.aload_n 0, 1) := by decide +kernel
theorem dX12_mistakeOf_19 : decode cX12_mistakeOf 19 = .ok (.getfield 17, 3) := by decide +kernel
theorem dX12_mistakeOf_22 : decode cX12_mistakeOf 22 = .ok (.bipush 37, 2) := by decide +kernel
theorem dX12_mistakeOf_24 : decode cX12_mistakeOf 24 = .ok (.iload_n 1, 1) := by decide +kernel
theorem dX12_mistakeOf_25 : decode cX12_mistakeOf 25 = .ok (.iadd, 1) := by decide +kernel
theorem dX12_mistakeOf_26 : decode cX12_mistakeOf 26 = .ok (.iaload, 1) := by decide +kernel
theorem dX12_mistakeOf_27 : decode cX12_mistakeOf 27 = .ok (.iload_n 2, 1) := by decide +kernel
theorem dX12_mistakeOf_28 : decode cX12_mistakeOf 28 = .ok (.invokevirtual 231, 3) := by decide +kernel
theorem dX12_mistakeOf_31 : decode cX12_mistakeOf 31 = .ok (.istore 4, 2) := by decide +kernel
theorem dX12_mistakeOf_33 : decode cX12_mistakeOf 33 = .ok (.iload 4, 2) := by decide +kernel
theorem dX12_mistakeOf_35 : decode cX12_mistakeOf 35 = .ok (.ifCond .le 11, 3) := by decide +kernel
theorem dX12_mistakeOf_38 : decode cX12_mistakeOf 38 = .ok (.aload_n 0, 1) := by decide +kernel
theorem dX12_mistakeOf_39 : decode cX12_mistakeOf 39 = .ok (.iload_n 1, 1) := by decide +kernel
theorem dX12_mistakeOf_40 : decode cX12_mistakeOf 40 = .ok (.invokevirtual 273, 3) := by decide +kernel
theorem dX12_mistakeOf_43 : decode cX12_mistakeOf 43 = .ok (.ifCond .ne 6, 3) := by decide +kernel
theorem dX12_mistakeOf_46 : decode cX12_mistakeOf 46 = .ok (.bipush (-2), 2) := by decide +kernel
theorem dX12_mistakeOf_48 : decode cX12_mistakeOf 48 = .ok (.ireturn, 1) := by decide +kernel
theorem dX12_mistakeOf_49 : decode cX12_mistakeOf 49 = .ok (.iload_n 3, 1) := by decide +kernel
theorem dX12_mistakeOf_50 : decode cX12_mistakeOf 50 = .ok (.aload_n 0, 1) := by decide +kernel
theorem dX12_mistakeOf_51 : decode cX12_mistakeOf 51 = .ok (.iload 4, 2) := by decide +kernel
theorem dX12_mistakeOf_53 : decode cX12_mistakeOf 53 = .ok (.invokevirtual 276, 3) := by decide +kernel
theorem dX12_mistakeOf_56 : decode cX12_mistakeOf 56 = .ok (.isub, 1) := by decide +kernel
theorem dX12_mistakeOf_57 : decode cX12_mistakeOf 57 = .ok (.istore 5, 2) := by decide +kernel
theorem dX12_mistakeOf_59 : decode cX12_mistakeOf 59 = .ok (.iload 5, 2) := by decide +kernel
theorem dX12_mistakeOf_61 : decode cX12_mistakeOf 61 = .ok (.ifCond .le 19, 3) := by decide +kernel
theorem dX12_mistakeOf_64 : decode cX12_mistakeOf 64 = .ok (.iload 5, 2) := by decide +kernel
theorem dX12_mistakeOf_66 : decode cX12_mistakeOf 66 = .ok (.aload_n 0, 1) := by decide +kernel
theorem dX12_mistakeOf_67 : decode cX12_mistakeOf 67 = .ok (.getfield 17, 3) := by decide +kernel
theorem dX12_mistakeOf_70 : decode cX12_mistakeOf 70 = .ok (.iconst 3, 1) := by decide +kernel
theorem dX12_mistakeOf_71 : decode cX12_mistakeOf 71 = .ok (.iaload, 1) := by decide +kernel
theorem dX12_mistakeOf_72 : decode cX12_mistakeOf 72 = .ok (.if_icmp .lt 8, 3) := by decide +kernel
theorem dX12_mistakeOf_75 : decode cX12_mistakeOf 75 = .ok (.iload 5, 2) := by decide +kernel
theorem dX12_mistakeOf_77 : decode cX12_mistakeOf 77 = .ok (.goto 4, 3) := by decide +kernel
theorem dX12_mistakeOf_80 : decode cX12_mistakeOf 80 = .ok (.iconst 0, 1) := by decide +kernel
theorem dX12_mistakeOf_81 : decode cX12_mistakeOf 81 = .ok (.ireturn, 1) := by decide +kernel
def f_X12_mistakeOf_31 (v1 : Int32) (v3 : Int32) (vs0 : Int32) (σ : gSt) : Option (Int32 × gSt) :=
  if vs0 ≤ 0 then
    some ((-2), σ)
  else
    (f_X12_paces v1 σ).bind fun p40 =>
    if p40.1 = 0 then
      some ((-2), p40.2)
    else
      (f_X12_dueBy vs0 p40.2).bind fun p53 =>
      if (v3 - p53.1) ≤ 0 then
        some (0, p53.2)
      else
        (gld p53.2 30 0 397 3).bind fun a71 =>
        if (v3 - p53.1) < a71 then
          some (0, p53.2)
        else
          some ((v3 - p53.1), p53.2)
def f_X12_mistakeOf (v1 : Int32) (v2 : Int32) (σ : gSt) : Option (Int32 × gSt) :=
  (f_X12_legOf v1 v2 σ).bind fun p3 =>
  if p3.1 = (-2) then
    f_X12_mistakeOf_31 v1 p3.1 0 p3.2
  else
    (gld p3.2 30 0 397 (37 + v1)).bind fun a26 =>
    (f_X12_bestLeg a26 v2 p3.2).bind fun p28 =>
    f_X12_mistakeOf_31 v1 p3.1 p28.1 p28.2
theorem f_X12_mistakeOf_31_ok {v1 : Int32} {v3 : Int32} {vs0 : Int32} {r : (Int32 × gSt)}  {σ : gSt} {x2 x4 x5 : Option Value} (h : f_X12_mistakeOf_31 v1 v3 vs0 σ = some r) : G l w 0 41 RX12 cX12_mistakeOf 6 (some .int) 8 197 (gE (some (.int r.1)) r.2) 31 [some (.ref (w.2.1 28 0)), some (.int v1), x2, some (.int v3), x4, x5] [.int vs0] σ := by
  unfold f_X12_mistakeOf_31 at h
  refine g_istore4 dX12_mistakeOf_31 ?_
  refine g_iload dX12_mistakeOf_33 rfl ?_
  refine g_if_le 46 dX12_mistakeOf_35 rfl (fun q => ?_) (fun q => ?_)
  · replace h := gif_t q h
    refine g_bipush dX12_mistakeOf_46 kb_m2 ?_
    cases h
    exact g_iret dX12_mistakeOf_48 rfl ⟨rfl, rfl⟩
  · replace h := gif_f q h
    refine g_aload_n dX12_mistakeOf_38 rfl ?_
    refine g_iload_n dX12_mistakeOf_39 rfl ?_
    obtain ⟨p40, e40, h⟩ := obind h
    refine g_vP1 mv_X12_273 dX12_mistakeOf_40 ok_28 ⟨by decide, by decide⟩ (Nat.le_of_ble_eq_true rfl) (f_X12_paces_ok e40) ?_
    refine g_if_ne 49 dX12_mistakeOf_43 rfl (fun q => ?_) (fun q => ?_)
    · replace h := gif_f q h
      refine g_iload_n dX12_mistakeOf_49 rfl ?_
      refine g_aload_n dX12_mistakeOf_50 rfl ?_
      refine g_iload dX12_mistakeOf_51 rfl ?_
      obtain ⟨p53, e53, h⟩ := obind h
      refine g_vP1 mv_X12_276 dX12_mistakeOf_53 ok_28 ⟨by decide, by decide⟩ (Nat.le_of_ble_eq_true rfl) (f_X12_dueBy_ok e53) ?_
      refine g_isub dX12_mistakeOf_56 ?_
      refine g_istore5 dX12_mistakeOf_57 ?_
      refine g_iload dX12_mistakeOf_59 rfl ?_
      refine g_if_le 80 dX12_mistakeOf_61 rfl (fun q => ?_) (fun q => ?_)
      · replace h := gif_t q h
        refine g_iconst dX12_mistakeOf_80 kc_0 ?_
        cases h
        exact g_iret dX12_mistakeOf_81 rfl ⟨rfl, rfl⟩
      · replace h := gif_f q h
        refine g_iload dX12_mistakeOf_64 rfl ?_
        refine g_aload_n dX12_mistakeOf_66 rfl ?_
        refine gR_X12_17 ok_28 dX12_mistakeOf_67 ?_
        refine g_iconst dX12_mistakeOf_70 kc_3 ?_
        obtain ⟨a71, e71, h⟩ := obind h
        refine g_ldB e71 ok_30 rfl rfl (by decide) dX12_mistakeOf_71 ?_
        refine g_icmp_lt 80 dX12_mistakeOf_72 rfl (fun q => ?_) (fun q => ?_)
        · replace h := gif_t q h
          refine g_iconst dX12_mistakeOf_80 kc_0 ?_
          cases h
          exact g_iret dX12_mistakeOf_81 rfl ⟨rfl, rfl⟩
        · replace h := gif_f q h
          refine g_iload dX12_mistakeOf_75 rfl ?_
          refine g_goto 81 dX12_mistakeOf_77 rfl ?_
          cases h
          exact g_iret dX12_mistakeOf_81 rfl ⟨rfl, rfl⟩
    · replace h := gif_t q h
      refine g_bipush dX12_mistakeOf_46 kb_m2 ?_
      cases h
      exact g_iret dX12_mistakeOf_48 rfl ⟨rfl, rfl⟩
theorem f_X12_mistakeOf_ok {v1 : Int32} {v2 : Int32}  {σ : gSt} {r : (Int32 × gSt)} (h : f_X12_mistakeOf v1 v2 σ = some r) : Mt l w 0 41 yX12_mistakeOf cX12_mistakeOf 6 (some .int) 8 197 [.ref (w.2.1 28 0), .int v1, .int v2] σ (gE (some (.int r.1)) r.2) := by
  unfold f_X12_mistakeOf at h
  refine g_start pn_X12 rfl rfl (Nat.le_of_ble_eq_true rfl) ?_
  show G l w 0 41 RX12 cX12_mistakeOf 6 (some .int) 8 197 (gE (some (.int r.1)) r.2) 0 [some (.ref (w.2.1 28 0)), some (.int v1), some (.int v2), none, none, none] [] σ
  refine g_aload_n dX12_mistakeOf_0 rfl ?_
  refine g_iload_n dX12_mistakeOf_1 rfl ?_
  refine g_iload_n dX12_mistakeOf_2 rfl ?_
  obtain ⟨p3, e3, h⟩ := obind h
  refine g_vP2 mv_X12_221 dX12_mistakeOf_3 ok_28 ⟨by decide, by decide⟩ (Nat.le_of_ble_eq_true rfl) (f_X12_legOf_ok e3) ?_
  refine g_istore3 dX12_mistakeOf_6 ?_
  refine g_iload_n dX12_mistakeOf_7 rfl ?_
  refine g_bipush dX12_mistakeOf_8 kb_m2 ?_
  refine g_icmp_ne 17 dX12_mistakeOf_10 rfl (fun q => ?_) (fun q => ?_)
  · replace h := gif_f q h
    refine g_aload_n dX12_mistakeOf_17 rfl ?_
    refine g_aload_n dX12_mistakeOf_18 rfl ?_
    refine gR_X12_17 ok_28 dX12_mistakeOf_19 ?_
    refine g_bipush dX12_mistakeOf_22 kb_37 ?_
    refine g_iload_n dX12_mistakeOf_24 rfl ?_
    refine g_iadd dX12_mistakeOf_25 ?_
    obtain ⟨a26, e26, h⟩ := obind h
    refine g_ldB e26 ok_30 rfl rfl (by decide) dX12_mistakeOf_26 ?_
    refine g_iload_n dX12_mistakeOf_27 rfl ?_
    obtain ⟨p28, e28, h⟩ := obind h
    refine g_vP2 mv_X12_231 dX12_mistakeOf_28 ok_28 ⟨by decide, by decide⟩ (Nat.le_of_ble_eq_true rfl) (f_X12_bestLeg_ok e28) ?_
    exact f_X12_mistakeOf_31_ok h
  · replace h := gif_t q h
    refine g_iconst dX12_mistakeOf_13 kc_0 ?_
    refine g_goto 31 dX12_mistakeOf_14 rfl ?_
    exact f_X12_mistakeOf_31_ok h
theorem dX12_leg_0 : decode cX12_leg 0 = .ok (.aload_n 0, 1) := by decide +kernel
theorem dX12_leg_1 : decode cX12_leg 1 = .ok (.aload_n 0, 1) := by decide +kernel
theorem dX12_leg_2 : decode cX12_leg 2 = .ok (.iload_n 1, 1) := by decide +kernel
theorem dX12_leg_3 : decode cX12_leg 3 = .ok (.iload_n 2, 1) := by decide +kernel
theorem dX12_leg_4 : decode cX12_leg 4 = .ok (.invokevirtual 261, 3) := by decide +kernel
theorem dX12_leg_7 : decode cX12_leg 7 = .ok (.ifCond .eq 16, 3) := by decide +kernel
theorem dX12_leg_10 : decode cX12_leg 10 = .ok (.iload_n 3, 1) := by decide +kernel
theorem dX12_leg_11 : decode cX12_leg 11 = .ok (.iconst 0, 1) := by decide +kernel
theorem dX12_leg_12 : decode cX12_leg 12 = .ok (.iconst 3, 1) := by decide +kernel
theorem dX12_leg_13 : decode cX12_leg 13 = .ok (.invokestatic 79, 3) := by decide +kernel
theorem dX12_leg_16 : decode cX12_leg 16 = .ok (.ifCond .eq 7, 3) := by decide +kernel
theorem dX12_leg_19 : decode cX12_leg 19 = .ok (.iconst 1, 1) := by decide +kernel
theorem dX12_leg_20 : decode cX12_leg 20 = .ok (.goto 4, 3) := by decide +kernel
theorem dX12_leg_23 : decode cX12_leg 23 = .ok (.iconst 0, 1) := by decide +kernel
theorem dX12_leg_24 : decode cX12_leg 24 = .ok (.invokestatic 234, 3) := by decide +kernel
theorem dX12_leg_27 : decode cX12_leg 27 = .ok (.invokevirtual 161, 3) := by decide +kernel
theorem dX12_leg_30 : decode cX12_leg 30 = .ok (.ifCond .eq 5, 3) := by decide +kernel
theorem dX12_leg_33 : decode cX12_leg 33 = .ok (.iconst (-1), 1) := by decide +kernel
theorem dX12_leg_34 : decode cX12_leg 34 = .ok (.ireturn, 1) := by decide +kernel
theorem dX12_leg_35 : decode cX12_leg 35 = .ok (.aload_n 0, 1) := by decide +kernel
theorem dX12_leg_36 : decode cX12_leg 36 = .ok (.iload_n 1, 1) := by decide +kernel
theorem dX12_leg_37 : decode cX12_leg 37 = .ok (.iload_n 2, 1) := by decide +kernel
theorem dX12_leg_38 : decode cX12_leg 38 = .ok (.invokevirtual 221, 3) := by decide +kernel
theorem dX12_leg_41 : decode cX12_leg 41 = .ok (.istore 4, 2) := by decide +kernel
theorem dX12_leg_43 : decode cX12_leg 43 = .ok (.iload 4, 2) := by decide +kernel
theorem dX12_leg_45 : decode cX12_leg 45 = .ok (.bipush (-2), 2) := by decide +kernel
theorem dX12_leg_47 : decode cX12_leg 47 = .ok (.if_icmp .eq 7, 3) := by decide +kernel
theorem dX12_leg_50 : decode cX12_leg 50 = .ok (.iload_n 3, 1) := by decide +kernel
theorem dX12_leg_51 : decode cX12_leg 51 = .ok (.ifCond .ne 6, 3) := by decide +kernel
theorem dX12_leg_54 : decode cX12_leg 54 = .ok (.iload 4, 2) := by decide +kernel
theorem dX12_leg_56 : decode cX12_leg 56 = .ok (.ireturn, 1) := by decide +kernel
theorem dX12_leg_57 : decode cX12_leg 57 = .ok (.iload_n 3, 1) := by decide +kernel
theorem dX12_leg_58 : decode cX12_leg 58 = .ok (.iconst 1, 1) := by decide +kernel
theorem dX12_leg_59 : decode cX12_leg 59 = .ok (.if_icmp .ne 13, 3) := by decide +kernel
theorem dX12_leg_62 : decode cX12_leg 62 = .ok (.aload_n 0, 1) := by decide +kernel
theorem dX12_leg_63 : decode cX12_leg 63 = .ok (.iload_n 1, 1) := by decide +kernel
theorem dX12_leg_64 : decode cX12_leg 64 = .ok (.iload_n 2, 1) := by decide +kernel
theorem dX12_leg_65 : decode cX12_leg 65 = .ok (.iconst 1, 1) := by decide +kernel
theorem dX12_leg_66 : decode cX12_leg 66 = .ok (.invokevirtual 264, 3) := by decide +kernel
theorem dX12_leg_69 : decode cX12_leg 69 = .ok (.goto 34, 3) := by decide +kernel
theorem dX12_leg_72 : decode cX12_leg 72 = .ok (.iload_n 3, 1) := by decide +kernel
theorem dX12_leg_73 : decode cX12_leg 73 = .ok (.iconst 2, 1) := by decide +kernel
theorem dX12_leg_74 : decode cX12_leg 74 = .ok (.if_icmp .ne 23, 3) := by decide +kernel
theorem dX12_leg_77 : decode cX12_leg 77 = .ok (.iload 4, 2) := by decide +kernel
theorem dX12_leg_79 : decode cX12_leg 79 = .ok (.aload_n 0, 1) := by decide +kernel
theorem dX12_leg_80 : decode cX12_leg 80 = .ok (.aload_n 0, 1) := by decide +kernel
theorem dX12_leg_81 : decode cX12_leg 81 = .ok (.getfield 17, 3) := by decide +kernel
theorem dX12_leg_84 : decode cX12_leg 84 = .ok (.bipush 37, 2) := by decide +kernel
theorem dX12_leg_86 : decode cX12_leg 86 = .ok (.iload_n 1, 1) := by decide +kernel
theorem dX12_leg_87 : decode cX12_leg 87 = .ok (.iadd, 1) := by decide +kernel
theorem dX12_leg_88 : decode cX12_leg 88 = .ok (.iaload, 1) := by decide +kernel
theorem dX12_leg_89 : decode cX12_leg 89 = .ok (.iload_n 2, 1) := by decide +kernel
theorem dX12_leg_90 : decode cX12_leg 90 = .ok (.invokevirtual 231, 3) := by decide +kernel
theorem dX12_leg_93 : decode cX12_leg 93 = .ok (.isub, 1) := by decide +kernel
theorem dX12_leg_94 : decode cX12_leg 94 = .ok (.goto 9, 3) := by decide +kernel
theorem dX12_leg_97 : decode cX12_leg 97 = .ok (.aload_n 0, 1) := by decide +kernel
theorem dX12_leg_98 : decode cX12_leg 98 = .ok (.iload_n 1, 1) := by decide +kernel
theorem dX12_leg_99 : decode cX12_leg 99 = .ok (.iload_n 2, 1) := by decide +kernel
theorem dX12_leg_100 : decode cX12_leg 100 = .ok (.invokevirtual 279, 3) := by decide +kernel
theorem dX12_leg_103 : decode cX12_leg 103 = .ok (.ireturn, 1) := by decide +kernel
def f_X12_leg_24 (v1 : Int32) (v2 : Int32) (v3 : Int32) (vs1 : Int32) (σ : gSt) : Option (Int32 × gSt) :=
  (f_X12_unless vs1 σ).bind fun p24 =>
  (f_X12_isRefused p24.1 p24.2).bind fun p27 =>
  if p27.1 = 0 then
    (f_X12_legOf v1 v2 p27.2).bind fun p38 =>
    if p38.1 = (-2) then
      some (p38.1, p38.2)
    else
      if v3 = 0 then
        some (p38.1, p38.2)
      else
        if v3 = 1 then
          (f_X12_placeAt v1 v2 1 p38.2).bind fun p66 =>
          some (p66.1, p66.2)
        else
          if v3 = 2 then
            (gld p38.2 30 0 397 (37 + v1)).bind fun a88 =>
            (f_X12_bestLeg a88 v2 p38.2).bind fun p90 =>
            some ((p38.1 - p90.1), p90.2)
          else
            (f_X12_mistakeOf v1 v2 p38.2).bind fun p100 =>
            some (p100.1, p100.2)
  else
    some ((-1), p27.2)
def f_X12_leg_23 (v1 : Int32) (v2 : Int32) (v3 : Int32) (σ : gSt) : Option (Int32 × gSt) :=
  f_X12_leg_24 v1 v2 v3 0 σ
def f_X12_leg (v1 : Int32) (v2 : Int32) (v3 : Int32) (σ : gSt) : Option (Int32 × gSt) :=
  (f_X12_isOwnPoint v1 v2 σ).bind fun p4 =>
  if p4.1 = 0 then
    f_X12_leg_23 v1 v2 v3 p4.2
  else
    (f_X12_in v3 0 3 p4.2).bind fun p13 =>
    if p13.1 = 0 then
      f_X12_leg_23 v1 v2 v3 p13.2
    else
      f_X12_leg_24 v1 v2 v3 1 p13.2
theorem f_X12_leg_24_ok {v1 : Int32} {v2 : Int32} {v3 : Int32} {vs1 : Int32} {r : (Int32 × gSt)}  {σ : gSt} {x4 : Option Value} (h : f_X12_leg_24 v1 v2 v3 vs1 σ = some r) : G l w 0 41 RX12 cX12_leg 5 (some .int) 9 222 (gE (some (.int r.1)) r.2) 24 [some (.ref (w.2.1 28 0)), some (.int v1), some (.int v2), some (.int v3), x4] [.int vs1, .ref (w.2.1 28 0)] σ := by
  unfold f_X12_leg_24 at h
  obtain ⟨p24, e24, h⟩ := obind h
  refine g_sP1 ms_X12_234 dX12_leg_24 ⟨by decide, by decide⟩ (Nat.le_of_ble_eq_true rfl) (f_X12_unless_ok e24) ?_
  obtain ⟨p27, e27, h⟩ := obind h
  refine g_vP1 mv_X12_161 dX12_leg_27 ok_28 ⟨by decide, by decide⟩ (Nat.le_of_ble_eq_true rfl) (f_X12_isRefused_ok e27) ?_
  refine g_if_eq 35 dX12_leg_30 rfl (fun q => ?_) (fun q => ?_)
  · replace h := gif_t q h
    refine g_aload_n dX12_leg_35 rfl ?_
    refine g_iload_n dX12_leg_36 rfl ?_
    refine g_iload_n dX12_leg_37 rfl ?_
    obtain ⟨p38, e38, h⟩ := obind h
    refine g_vP2 mv_X12_221 dX12_leg_38 ok_28 ⟨by decide, by decide⟩ (Nat.le_of_ble_eq_true rfl) (f_X12_legOf_ok e38) ?_
    refine g_istore4 dX12_leg_41 ?_
    refine g_iload dX12_leg_43 rfl ?_
    refine g_bipush dX12_leg_45 kb_m2 ?_
    refine g_icmp_eq 54 dX12_leg_47 rfl (fun q => ?_) (fun q => ?_)
    · replace h := gif_t q h
      refine g_iload dX12_leg_54 rfl ?_
      cases h
      exact g_iret dX12_leg_56 rfl ⟨rfl, rfl⟩
    · replace h := gif_f q h
      refine g_iload_n dX12_leg_50 rfl ?_
      refine g_if_ne 57 dX12_leg_51 rfl (fun q => ?_) (fun q => ?_)
      · replace h := gif_f q h
        refine g_iload_n dX12_leg_57 rfl ?_
        refine g_iconst dX12_leg_58 kc_1 ?_
        refine g_icmp_ne 72 dX12_leg_59 rfl (fun q => ?_) (fun q => ?_)
        · replace h := gif_f q h
          refine g_iload_n dX12_leg_72 rfl ?_
          refine g_iconst dX12_leg_73 kc_2 ?_
          refine g_icmp_ne 97 dX12_leg_74 rfl (fun q => ?_) (fun q => ?_)
          · replace h := gif_f q h
            refine g_aload_n dX12_leg_97 rfl ?_
            refine g_iload_n dX12_leg_98 rfl ?_
            refine g_iload_n dX12_leg_99 rfl ?_
            obtain ⟨p100, e100, h⟩ := obind h
            refine g_vP2 mv_X12_279 dX12_leg_100 ok_28 ⟨by decide, by decide⟩ (Nat.le_of_ble_eq_true rfl) (f_X12_mistakeOf_ok e100) ?_
            cases h
            exact g_iret dX12_leg_103 rfl ⟨rfl, rfl⟩
          · replace h := gif_t q h
            refine g_iload dX12_leg_77 rfl ?_
            refine g_aload_n dX12_leg_79 rfl ?_
            refine g_aload_n dX12_leg_80 rfl ?_
            refine gR_X12_17 ok_28 dX12_leg_81 ?_
            refine g_bipush dX12_leg_84 kb_37 ?_
            refine g_iload_n dX12_leg_86 rfl ?_
            refine g_iadd dX12_leg_87 ?_
            obtain ⟨a88, e88, h⟩ := obind h
            refine g_ldB e88 ok_30 rfl rfl (by decide) dX12_leg_88 ?_
            refine g_iload_n dX12_leg_89 rfl ?_
            obtain ⟨p90, e90, h⟩ := obind h
            refine g_vP2 mv_X12_231 dX12_leg_90 ok_28 ⟨by decide, by decide⟩ (Nat.le_of_ble_eq_true rfl) (f_X12_bestLeg_ok e90) ?_
            refine g_isub dX12_leg_93 ?_
            refine g_goto 103 dX12_leg_94 rfl ?_
            cases h
            exact g_iret dX12_leg_103 rfl ⟨rfl, rfl⟩
        · replace h := gif_t q h
          refine g_aload_n dX12_leg_62 rfl ?_
          refine g_iload_n dX12_leg_63 rfl ?_
          refine g_iload_n dX12_leg_64 rfl ?_
          refine g_iconst dX12_leg_65 kc_1 ?_
          obtain ⟨p66, e66, h⟩ := obind h
          refine g_vP3 mv_X12_264 dX12_leg_66 ok_28 ⟨by decide, by decide⟩ (Nat.le_of_ble_eq_true rfl) (f_X12_placeAt_ok e66) ?_
          refine g_goto 103 dX12_leg_69 rfl ?_
          cases h
          exact g_iret dX12_leg_103 rfl ⟨rfl, rfl⟩
      · replace h := gif_t q h
        refine g_iload dX12_leg_54 rfl ?_
        cases h
        exact g_iret dX12_leg_56 rfl ⟨rfl, rfl⟩
  · replace h := gif_f q h
    refine g_iconst dX12_leg_33 kc_m1 ?_
    cases h
    exact g_iret dX12_leg_34 rfl ⟨rfl, rfl⟩
theorem f_X12_leg_23_ok {v1 : Int32} {v2 : Int32} {v3 : Int32} {r : (Int32 × gSt)}  {σ : gSt} {x4 : Option Value} (h : f_X12_leg_23 v1 v2 v3 σ = some r) : G l w 0 41 RX12 cX12_leg 5 (some .int) 9 222 (gE (some (.int r.1)) r.2) 23 [some (.ref (w.2.1 28 0)), some (.int v1), some (.int v2), some (.int v3), x4] [.ref (w.2.1 28 0)] σ := by
  unfold f_X12_leg_23 at h
  refine g_iconst dX12_leg_23 kc_0 ?_
  exact f_X12_leg_24_ok h
theorem f_X12_leg_ok {v1 : Int32} {v2 : Int32} {v3 : Int32}  {σ : gSt} {r : (Int32 × gSt)} (h : f_X12_leg v1 v2 v3 σ = some r) : Mt l w 0 41 yX12_leg cX12_leg 5 (some .int) 9 222 [.ref (w.2.1 28 0), .int v1, .int v2, .int v3] σ (gE (some (.int r.1)) r.2) := by
  unfold f_X12_leg at h
  refine g_start pn_X12 rfl rfl (Nat.le_of_ble_eq_true rfl) ?_
  show G l w 0 41 RX12 cX12_leg 5 (some .int) 9 222 (gE (some (.int r.1)) r.2) 0 [some (.ref (w.2.1 28 0)), some (.int v1), some (.int v2), some (.int v3), none] [] σ
  refine g_aload_n dX12_leg_0 rfl ?_
  refine g_aload_n dX12_leg_1 rfl ?_
  refine g_iload_n dX12_leg_2 rfl ?_
  refine g_iload_n dX12_leg_3 rfl ?_
  obtain ⟨p4, e4, h⟩ := obind h
  refine g_vP2 mv_X12_261 dX12_leg_4 ok_28 ⟨by decide, by decide⟩ (Nat.le_of_ble_eq_true rfl) (f_X12_isOwnPoint_ok e4) ?_
  refine g_if_eq 23 dX12_leg_7 rfl (fun q => ?_) (fun q => ?_)
  · replace h := gif_t q h
    exact f_X12_leg_23_ok h
  · replace h := gif_f q h
    refine g_iload_n dX12_leg_10 rfl ?_
    refine g_iconst dX12_leg_11 kc_0 ?_
    refine g_iconst dX12_leg_12 kc_3 ?_
    obtain ⟨p13, e13, h⟩ := obind h
    refine g_sP3 ms_X12_79 dX12_leg_13 ⟨by decide, by decide⟩ (Nat.le_of_ble_eq_true rfl) (f_X12_in_ok e13) ?_
    refine g_if_eq 23 dX12_leg_16 rfl (fun q => ?_) (fun q => ?_)
    · replace h := gif_t q h
      exact f_X12_leg_23_ok h
    · replace h := gif_f q h
      refine g_iconst dX12_leg_19 kc_1 ?_
      refine g_goto 24 dX12_leg_20 rfl ?_
      exact f_X12_leg_24_ok h
theorem dX12_best_0 : decode cX12_best 0 = .ok (.aload_n 0, 1) := by decide +kernel
theorem dX12_best_1 : decode cX12_best 1 = .ok (.aload_n 0, 1) := by decide +kernel
theorem dX12_best_2 : decode cX12_best 2 = .ok (.iload_n 1, 1) := by decide +kernel
theorem dX12_best_3 : decode cX12_best 3 = .ok (.iload_n 2, 1) := by decide +kernel
theorem dX12_best_4 : decode cX12_best 4 = .ok (.invokevirtual 190, 3) := by decide +kernel
theorem dX12_best_7 : decode cX12_best 7 = .ok (.ifCond .eq 16, 3) := by decide +kernel
theorem dX12_best_10 : decode cX12_best 10 = .ok (.iload_n 3, 1) := by decide +kernel
theorem dX12_best_11 : decode cX12_best 11 = .ok (.iconst 0, 1) := by decide +kernel
theorem dX12_best_12 : decode cX12_best 12 = .ok (.iconst 1, 1) := by decide +kernel
theorem dX12_best_13 : decode cX12_best 13 = .ok (.invokestatic 79, 3) := by decide +kernel
theorem dX12_best_16 : decode cX12_best 16 = .ok (.ifCond .eq 7, 3) := by decide +kernel
theorem dX12_best_19 : decode cX12_best 19 = .ok (.iconst 1, 1) := by decide +kernel
theorem dX12_best_20 : decode cX12_best 20 = .ok (.goto 4, 3) := by decide +kernel
theorem dX12_best_23 : decode cX12_best 23 = .ok (.iconst 0, 1) := by decide +kernel
theorem dX12_best_24 : decode cX12_best 24 = .ok (.invokestatic 234, 3) := by decide +kernel
theorem dX12_best_27 : decode cX12_best 27 = .ok (.invokevirtual 161, 3) := by decide +kernel
theorem dX12_best_30 : decode cX12_best 30 = .ok (.ifCond .eq 5, 3) := by decide +kernel
theorem dX12_best_33 : decode cX12_best 33 = .ok (.iconst (-1), 1) := by decide +kernel
theorem dX12_best_34 : decode cX12_best 34 = .ok (.ireturn, 1) := by decide +kernel
theorem dX12_best_35 : decode cX12_best 35 = .ok (.iload_n 3, 1) := by decide +kernel
theorem dX12_best_36 : decode cX12_best 36 = .ok (.ifCond .ne 12, 3) := by decide +kernel
theorem dX12_best_39 : decode cX12_best 39 = .ok (.aload_n 0, 1) := by decide +kernel
theorem dX12_best_40 : decode cX12_best 40 = .ok (.iload_n 1, 1) := by decide +kernel
theorem dX12_best_41 : decode cX12_best 41 = .ok (.iload_n 2, 1) := by decide +kernel
theorem dX12_best_42 : decode cX12_best 42 = .ok (.invokevirtual 231, 3) := by decide +kernel
theorem dX12_best_45 : decode cX12_best 45 = .ok (.goto 10, 3) := by decide +kernel
theorem dX12_best_48 : decode cX12_best 48 = .ok (.aload_n 0, 1) := by decide +kernel
theorem dX12_best_49 : decode cX12_best 49 = .ok (.iload_n 1, 1) := by decide +kernel
theorem dX12_best_50 : decode cX12_best 50 = .ok (.iload_n 2, 1) := by decide +kernel
theorem dX12_best_51 : decode cX12_best 51 = .ok (.iconst 1, 1) := by decide +kernel
theorem dX12_best_52 : decode cX12_best 52 = .ok (.invokevirtual 227, 3) := by decide +kernel
theorem dX12_best_55 : decode cX12_best 55 = .ok (.ireturn, 1) := by decide +kernel
def f_X12_best_24 (v1 : Int32) (v2 : Int32) (v3 : Int32) (vs1 : Int32) (σ : gSt) : Option (Int32 × gSt) :=
  (f_X12_unless vs1 σ).bind fun p24 =>
  (f_X12_isRefused p24.1 p24.2).bind fun p27 =>
  if p27.1 = 0 then
    if v3 = 0 then
      (f_X12_bestLeg v1 v2 p27.2).bind fun p42 =>
      some (p42.1, p42.2)
    else
      (f_X12_bestRunner v1 v2 1 p27.2).bind fun p52 =>
      some (p52.1, p52.2)
  else
    some ((-1), p27.2)
def f_X12_best_23 (v1 : Int32) (v2 : Int32) (v3 : Int32) (σ : gSt) : Option (Int32 × gSt) :=
  f_X12_best_24 v1 v2 v3 0 σ
def f_X12_best (v1 : Int32) (v2 : Int32) (v3 : Int32) (σ : gSt) : Option (Int32 × gSt) :=
  (f_X12_isPoint v1 v2 σ).bind fun p4 =>
  if p4.1 = 0 then
    f_X12_best_23 v1 v2 v3 p4.2
  else
    (f_X12_in v3 0 1 p4.2).bind fun p13 =>
    if p13.1 = 0 then
      f_X12_best_23 v1 v2 v3 p13.2
    else
      f_X12_best_24 v1 v2 v3 1 p13.2
theorem f_X12_best_24_ok {v1 : Int32} {v2 : Int32} {v3 : Int32} {vs1 : Int32} {r : (Int32 × gSt)}  {σ : gSt}  (h : f_X12_best_24 v1 v2 v3 vs1 σ = some r) : G l w 0 41 RX12 cX12_best 4 (some .int) 7 170 (gE (some (.int r.1)) r.2) 24 [some (.ref (w.2.1 28 0)), some (.int v1), some (.int v2), some (.int v3)] [.int vs1, .ref (w.2.1 28 0)] σ := by
  unfold f_X12_best_24 at h
  obtain ⟨p24, e24, h⟩ := obind h
  refine g_sP1 ms_X12_234 dX12_best_24 ⟨by decide, by decide⟩ (Nat.le_of_ble_eq_true rfl) (f_X12_unless_ok e24) ?_
  obtain ⟨p27, e27, h⟩ := obind h
  refine g_vP1 mv_X12_161 dX12_best_27 ok_28 ⟨by decide, by decide⟩ (Nat.le_of_ble_eq_true rfl) (f_X12_isRefused_ok e27) ?_
  refine g_if_eq 35 dX12_best_30 rfl (fun q => ?_) (fun q => ?_)
  · replace h := gif_t q h
    refine g_iload_n dX12_best_35 rfl ?_
    refine g_if_ne 48 dX12_best_36 rfl (fun q => ?_) (fun q => ?_)
    · replace h := gif_f q h
      refine g_aload_n dX12_best_48 rfl ?_
      refine g_iload_n dX12_best_49 rfl ?_
      refine g_iload_n dX12_best_50 rfl ?_
      refine g_iconst dX12_best_51 kc_1 ?_
      obtain ⟨p52, e52, h⟩ := obind h
      refine g_vP3 mv_X12_227 dX12_best_52 ok_28 ⟨by decide, by decide⟩ (Nat.le_of_ble_eq_true rfl) (f_X12_bestRunner_ok e52) ?_
      cases h
      exact g_iret dX12_best_55 rfl ⟨rfl, rfl⟩
    · replace h := gif_t q h
      refine g_aload_n dX12_best_39 rfl ?_
      refine g_iload_n dX12_best_40 rfl ?_
      refine g_iload_n dX12_best_41 rfl ?_
      obtain ⟨p42, e42, h⟩ := obind h
      refine g_vP2 mv_X12_231 dX12_best_42 ok_28 ⟨by decide, by decide⟩ (Nat.le_of_ble_eq_true rfl) (f_X12_bestLeg_ok e42) ?_
      refine g_goto 55 dX12_best_45 rfl ?_
      cases h
      exact g_iret dX12_best_55 rfl ⟨rfl, rfl⟩
  · replace h := gif_f q h
    refine g_iconst dX12_best_33 kc_m1 ?_
    cases h
    exact g_iret dX12_best_34 rfl ⟨rfl, rfl⟩
theorem f_X12_best_23_ok {v1 : Int32} {v2 : Int32} {v3 : Int32} {r : (Int32 × gSt)}  {σ : gSt}  (h : f_X12_best_23 v1 v2 v3 σ = some r) : G l w 0 41 RX12 cX12_best 4 (some .int) 7 170 (gE (some (.int r.1)) r.2) 23 [some (.ref (w.2.1 28 0)), some (.int v1), some (.int v2), some (.int v3)] [.ref (w.2.1 28 0)] σ := by
  unfold f_X12_best_23 at h
  refine g_iconst dX12_best_23 kc_0 ?_
  exact f_X12_best_24_ok h
theorem f_X12_best_ok {v1 : Int32} {v2 : Int32} {v3 : Int32}  {σ : gSt} {r : (Int32 × gSt)} (h : f_X12_best v1 v2 v3 σ = some r) : Mt l w 0 41 yX12_best cX12_best 4 (some .int) 7 170 [.ref (w.2.1 28 0), .int v1, .int v2, .int v3] σ (gE (some (.int r.1)) r.2) := by
  unfold f_X12_best at h
  refine g_start pn_X12 rfl rfl (Nat.le_of_ble_eq_true rfl) ?_
  show G l w 0 41 RX12 cX12_best 4 (some .int) 7 170 (gE (some (.int r.1)) r.2) 0 [some (.ref (w.2.1 28 0)), some (.int v1), some (.int v2), some (.int v3)] [] σ
  refine g_aload_n dX12_best_0 rfl ?_
  refine g_aload_n dX12_best_1 rfl ?_
  refine g_iload_n dX12_best_2 rfl ?_
  refine g_iload_n dX12_best_3 rfl ?_
  obtain ⟨p4, e4, h⟩ := obind h
  refine g_vP2 mv_X12_190 dX12_best_4 ok_28 ⟨by decide, by decide⟩ (Nat.le_of_ble_eq_true rfl) (f_X12_isPoint_ok e4) ?_
  refine g_if_eq 23 dX12_best_7 rfl (fun q => ?_) (fun q => ?_)
  · replace h := gif_t q h
    exact f_X12_best_23_ok h
  · replace h := gif_f q h
    refine g_iload_n dX12_best_10 rfl ?_
    refine g_iconst dX12_best_11 kc_0 ?_
    refine g_iconst dX12_best_12 kc_1 ?_
    obtain ⟨p13, e13, h⟩ := obind h
    refine g_sP3 ms_X12_79 dX12_best_13 ⟨by decide, by decide⟩ (Nat.le_of_ble_eq_true rfl) (f_X12_in_ok e13) ?_
    refine g_if_eq 23 dX12_best_16 rfl (fun q => ?_) (fun q => ?_)
    · replace h := gif_t q h
      exact f_X12_best_23_ok h
    · replace h := gif_f q h
      refine g_iconst dX12_best_19 kc_1 ?_
      refine g_goto 24 dX12_best_20 rfl ?_
      exact f_X12_best_24_ok h
theorem dX12_leads_0 : decode cX12_leads 0 = .ok (.aload_n 0, 1) := by decide +kernel
theorem dX12_leads_1 : decode cX12_leads 1 = .ok (.aload_n 0, 1) := by decide +kernel
theorem dX12_leads_2 : decode cX12_leads 2 = .ok (.iload_n 1, 1) := by decide +kernel
theorem dX12_leads_3 : decode cX12_leads 3 = .ok (.iload_n 2, 1) := by decide +kernel
theorem dX12_leads_4 : decode cX12_leads 4 = .ok (.invokevirtual 190, 3) := by decide +kernel
theorem dX12_leads_7 : decode cX12_leads 7 = .ok (.invokestatic 234, 3) := by decide +kernel
theorem dX12_leads_10 : decode cX12_leads 10 = .ok (.invokevirtual 161, 3) := by decide +kernel
theorem dX12_leads_13 : decode cX12_leads 13 = .ok (.ifCond .eq 7, 3) := by decide +kernel
theorem dX12_leads_16 : decode cX12_leads 16 = .ok (.iconst (-1), 1) := by decide +kernel
theorem dX12_leads_17 : decode cX12_leads 17 = .ok (.goto 10, 3) := by decide +kernel
theorem dX12_leads_20 : decode cX12_leads 20 = .ok (.aload_n 0, 1) := by decide +kernel
theorem dX12_leads_21 : decode cX12_leads 21 = .ok (.iload_n 1, 1) := by decide +kernel
theorem dX12_leads_22 : decode cX12_leads 22 = .ok (.iload_n 2, 1) := by decide +kernel
theorem dX12_leads_23 : decode cX12_leads 23 = .ok (.iconst 0, 1) := by decide +kernel
theorem dX12_leads_24 : decode cX12_leads 24 = .ok (.invokevirtual 227, 3) := by decide +kernel
theorem dX12_leads_27 : decode cX12_leads 27 = .ok (.ireturn, 1) := by decide +kernel
def f_X12_leads (v1 : Int32) (v2 : Int32) (σ : gSt) : Option (Int32 × gSt) :=
  (f_X12_isPoint v1 v2 σ).bind fun p4 =>
  (f_X12_unless p4.1 p4.2).bind fun p7 =>
  (f_X12_isRefused p7.1 p7.2).bind fun p10 =>
  if p10.1 = 0 then
    (f_X12_bestRunner v1 v2 0 p10.2).bind fun p24 =>
    some (p24.1, p24.2)
  else
    some ((-1), p10.2)
theorem f_X12_leads_ok {v1 : Int32} {v2 : Int32}  {σ : gSt} {r : (Int32 × gSt)} (h : f_X12_leads v1 v2 σ = some r) : Mt l w 0 41 yX12_leads cX12_leads 3 (some .int) 6 147 [.ref (w.2.1 28 0), .int v1, .int v2] σ (gE (some (.int r.1)) r.2) := by
  unfold f_X12_leads at h
  refine g_start pn_X12 rfl rfl (Nat.le_of_ble_eq_true rfl) ?_
  show G l w 0 41 RX12 cX12_leads 3 (some .int) 6 147 (gE (some (.int r.1)) r.2) 0 [some (.ref (w.2.1 28 0)), some (.int v1), some (.int v2)] [] σ
  refine g_aload_n dX12_leads_0 rfl ?_
  refine g_aload_n dX12_leads_1 rfl ?_
  refine g_iload_n dX12_leads_2 rfl ?_
  refine g_iload_n dX12_leads_3 rfl ?_
  obtain ⟨p4, e4, h⟩ := obind h
  refine g_vP2 mv_X12_190 dX12_leads_4 ok_28 ⟨by decide, by decide⟩ (Nat.le_of_ble_eq_true rfl) (f_X12_isPoint_ok e4) ?_
  obtain ⟨p7, e7, h⟩ := obind h
  refine g_sP1 ms_X12_234 dX12_leads_7 ⟨by decide, by decide⟩ (Nat.le_of_ble_eq_true rfl) (f_X12_unless_ok e7) ?_
  obtain ⟨p10, e10, h⟩ := obind h
  refine g_vP1 mv_X12_161 dX12_leads_10 ok_28 ⟨by decide, by decide⟩ (Nat.le_of_ble_eq_true rfl) (f_X12_isRefused_ok e10) ?_
  refine g_if_eq 20 dX12_leads_13 rfl (fun q => ?_) (fun q => ?_)
  · replace h := gif_t q h
    refine g_aload_n dX12_leads_20 rfl ?_
    refine g_iload_n dX12_leads_21 rfl ?_
    refine g_iload_n dX12_leads_22 rfl ?_
    refine g_iconst dX12_leads_23 kc_0 ?_
    obtain ⟨p24, e24, h⟩ := obind h
    refine g_vP3 mv_X12_227 dX12_leads_24 ok_28 ⟨by decide, by decide⟩ (Nat.le_of_ble_eq_true rfl) (f_X12_bestRunner_ok e24) ?_
    cases h
    exact g_iret dX12_leads_27 rfl ⟨rfl, rfl⟩
  · replace h := gif_f q h
    refine g_iconst dX12_leads_16 kc_m1 ?_
    refine g_goto 27 dX12_leads_17 rfl ?_
    cases h
    exact g_iret dX12_leads_27 rfl ⟨rfl, rfl⟩
theorem dX12_changes_0 : decode cX12_changes 0 = .ok (.aload_n 0, 1) := by decide +kernel
theorem dX12_changes_1 : decode cX12_changes 1 = .ok (.aload_n 0, 1) := by decide +kernel
theorem dX12_changes_2 : decode cX12_changes 2 = .ok (.iload_n 1, 1) := by decide +kernel
theorem dX12_changes_3 : decode cX12_changes 3 = .ok (.invokevirtual 184, 3) := by decide +kernel
theorem dX12_changes_6 : decode cX12_changes 6 = .ok (.invokestatic 234, 3) := by decide +kernel
theorem dX12_changes_9 : decode cX12_changes 9 = .ok (.invokevirtual 161, 3) := by decide +kernel
theorem dX12_changes_12 : decode cX12_changes 12 = .ok (.ifCond .eq 5, 3) := by decide +kernel
theorem dX12_changes_15 : decode cX12_changes 15 = .ok (.iconst (-1), 1) := by decide +kernel
theorem dX12_changes_16 : decode cX12_changes 16 = .ok (.ireturn, 1) := by decide +kernel
theorem dX12_changes_17 : decode cX12_changes 17 = .ok (.iconst 0, 1) := by decide +kernel
theorem dX12_changes_18 : decode cX12_changes 18 = .ok (.istore_n 2, 1) := by decide +kernel
theorem dX12_changes_19 : decode cX12_changes 19 = .ok (.iconst 1, 1) := by decide +kernel
theorem dX12_changes_20 : decode cX12_changes 20 = .ok (.istore_n 3, 1) := by decide +kernel
theorem dX12_changes_21 : decode cX12_changes 21 = .ok (.iload_n 3, 1) := by decide +kernel
theorem dX12_changes_22 : decode cX12_changes 22 = .ok (.aload_n 0, 1) := by decide +kernel
theorem dX12_changes_23 : decode cX12_changes 23 = .ok (.getfield 17, 3) := by decide +kernel
theorem dX12_changes_26 : decode cX12_changes 26 = .ok (.iconst 4, 1) := by decide +kernel
theorem dX12_changes_27 : decode cX12_changes 27 = .ok (.iload_n 1, 1) := by decide +kernel
theorem dX12_changes_28 : decode cX12_changes 28 = .ok (.iadd, 1) := by decide +kernel
theorem dX12_changes_29 : decode cX12_changes 29 = .ok (.iaload, 1) := by decide +kernel
theorem dX12_changes_30 : decode cX12_changes 30 = .ok (.if_icmp .gt 58, 3) := by decide +kernel
theorem dX12_changes_33 : decode cX12_changes 33 = .ok (.aload_n 0, 1) := by decide +kernel
theorem dX12_changes_34 : decode cX12_changes 34 = .ok (.iload_n 1, 1) := by decide +kernel
theorem dX12_changes_35 : decode cX12_changes 35 = .ok (.iload_n 3, 1) := by decide +kernel
theorem dX12_changes_36 : decode cX12_changes 36 = .ok (.iconst 1, 1) := by decide +kernel
theorem dX12_changes_37 : decode cX12_changes 37 = .ok (.isub, 1) := by decide +kernel
theorem dX12_changes_38 : decode cX12_changes 38 = .ok (.iconst 0, 1) := by decide +kernel
theorem dX12_changes_39 : decode cX12_changes 39 = .ok (.invokevirtual 227, 3) := by decide +kernel
theorem dX12_changes_42 : decode cX12_changes 42 = .ok (.istore 4, 2) := by decide +kernel
theorem dX12_changes_44 : decode cX12_changes 44 = .ok (.aload_n 0, 1) := by decide +kernel
theorem dX12_changes_45 : decode cX12_changes 45 = .ok (.iload_n 1, 1) := by decide +kernel
theorem dX12_changes_46 : decode cX12_changes 46 = .ok (.iload_n 3, 1) := by decide +kernel
theorem dX12_changes_47 : decode cX12_changes 47 = .ok (.iconst 0, 1) := by decide +kernel
theorem dX12_changes_48 : decode cX12_changes 48 = .ok (.invokevirtual 227, 3) := by decide +kernel
theorem dX12_changes_51 : decode cX12_changes 51 = .ok (.istore 5, 2) := by decide +kernel
theorem dX12_changes_53 : decode cX12_changes 53 = .ok (.iload_n 2, 1) := by decide +kernel
theorem dX12_changes_54 : decode cX12_changes 54 = .ok (.iload 4, 2) := by decide +kernel
theorem dX12_changes_56 : decode cX12_changes 56 = .ok (.bipush (-2), 2) := by decide +kernel
theorem dX12_changes_58 : decode cX12_changes 58 = .ok (.if_icmp .eq 21, 3) := by decide +kernel
theorem dX12_changes_61 : decode cX12_changes 61 = .ok (.iload 5, 2) := by decide +kernel
theorem dX12_changes_63 : decode cX12_changes 63 = .ok (.bipush (-2), 2) := by decide +kernel
theorem dX12_changes_65 : decode cX12_changes 65 = .ok (.if_icmp .eq 14, 3) := by decide +kernel
theorem dX12_changes_68 : decode cX12_changes 68 = .ok (.iload 4, 2) := by decide +kernel
theorem dX12_changes_70 : decode cX12_changes 70 = .ok (.iload 5, 2) := by decide +kernel
theorem dX12_changes_72 : decode cX12_changes 72 = .ok (.if_icmp .eq 7, 3) := by decide +kernel
theorem dX12_changes_75 : decode cX12_changes 75 = .ok (.iconst 1, 1) := by decide +kernel
theorem dX12_changes_76 : decode cX12_changes 76 = .ok (.goto 4, 3) := by decide +kernel
theorem dX12_changes_79 : decode cX12_changes 79 = .ok (.iconst 0, 1) := by decide +kernel
theorem dX12_changes_80 : decode cX12_changes 80 = .ok (.iadd, 1) := by decide +kernel
theorem dX12_changes_81 : decode cX12_changes 81 = .ok (.istore_n 2, 1) := by decide +kernel
theorem dX12_changes_82 : decode cX12_changes 82 = .ok (.iinc 3 1, 3) := by decide +kernel
theorem dX12_changes_85 : decode cX12_changes 85 = .ok (.goto (-64), 3) := by decide +kernel
theorem dX12_changes_88 : decode cX12_changes 88 = .ok (.iload_n 2, 1) := by decide +kernel
theorem dX12_changes_89 : decode cX12_changes 89 = .ok (.ireturn, 1) := by decide +kernel
def f_X12_changes_21 (v1 : Int32) : Nat → Int32 → Int32 → gSt → Option (Int32 × gSt)
  | 0, _, _, _ => none
  | n + 1, v2, v3, σ =>
    (gld σ 30 0 397 (4 + v1)).bind fun a29 =>
    if a29 < v3 then
      some (v2, σ)
    else
      (f_X12_bestRunner v1 (v3 - 1) 0 σ).bind fun p39 =>
      (f_X12_bestRunner v1 v3 0 p39.2).bind fun p48 =>
      if p39.1 = (-2) then
        f_X12_changes_21 v1 n (v2 + 0) (v3 + 1) p48.2
      else
        if p48.1 = (-2) then
          f_X12_changes_21 v1 n (v2 + 0) (v3 + 1) p48.2
        else
          if p39.1 = p48.1 then
            f_X12_changes_21 v1 n (v2 + 0) (v3 + 1) p48.2
          else
            f_X12_changes_21 v1 n (v2 + 1) (v3 + 1) p48.2
def f_X12_changes (v1 : Int32) (σ : gSt) : Option (Int32 × gSt) :=
  (f_X12_isCourse v1 σ).bind fun p3 =>
  (f_X12_unless p3.1 p3.2).bind fun p6 =>
  (f_X12_isRefused p6.1 p6.2).bind fun p9 =>
  if p9.1 = 0 then
    f_X12_changes_21 v1 gFuel 0 1 p9.2
  else
    some ((-1), p9.2)
theorem f_X12_changes_21_ok {v1 : Int32} {r : (Int32 × gSt)}  : ∀ (n : Nat) {v2 : Int32} {v3 : Int32} {σ : gSt} {x4 x5 : Option Value}, f_X12_changes_21 v1 n v2 v3 σ = some r → G l w 0 41 RX12 cX12_changes 6 (some .int) 6 147 (gE (some (.int r.1)) r.2) 21 [some (.ref (w.2.1 28 0)), some (.int v1), some (.int v2), some (.int v3), x4, x5] [] σ := by
  intro n
  induction n with
  | zero => intro v2 v3 σ x4 x5 h; rw [f_X12_changes_21] at h; cases h
  | succ n ih =>
    intro v2 v3 σ x4 x5 h
    rw [f_X12_changes_21] at h
    refine g_iload_n dX12_changes_21 rfl ?_
    refine g_aload_n dX12_changes_22 rfl ?_
    refine gR_X12_17 ok_28 dX12_changes_23 ?_
    refine g_iconst dX12_changes_26 kc_4 ?_
    refine g_iload_n dX12_changes_27 rfl ?_
    refine g_iadd dX12_changes_28 ?_
    obtain ⟨a29, e29, h⟩ := obind h
    refine g_ldB e29 ok_30 rfl rfl (by decide) dX12_changes_29 ?_
    refine g_icmp_gt 88 dX12_changes_30 rfl (fun q => ?_) (fun q => ?_)
    · replace h := gif_t q h
      refine g_iload_n dX12_changes_88 rfl ?_
      cases h
      exact g_iret dX12_changes_89 rfl ⟨rfl, rfl⟩
    · replace h := gif_f q h
      refine g_aload_n dX12_changes_33 rfl ?_
      refine g_iload_n dX12_changes_34 rfl ?_
      refine g_iload_n dX12_changes_35 rfl ?_
      refine g_iconst dX12_changes_36 kc_1 ?_
      refine g_isub dX12_changes_37 ?_
      refine g_iconst dX12_changes_38 kc_0 ?_
      obtain ⟨p39, e39, h⟩ := obind h
      refine g_vP3 mv_X12_227 dX12_changes_39 ok_28 ⟨by decide, by decide⟩ (Nat.le_of_ble_eq_true rfl) (f_X12_bestRunner_ok e39) ?_
      refine g_istore4 dX12_changes_42 ?_
      refine g_aload_n dX12_changes_44 rfl ?_
      refine g_iload_n dX12_changes_45 rfl ?_
      refine g_iload_n dX12_changes_46 rfl ?_
      refine g_iconst dX12_changes_47 kc_0 ?_
      obtain ⟨p48, e48, h⟩ := obind h
      refine g_vP3 mv_X12_227 dX12_changes_48 ok_28 ⟨by decide, by decide⟩ (Nat.le_of_ble_eq_true rfl) (f_X12_bestRunner_ok e48) ?_
      refine g_istore5 dX12_changes_51 ?_
      refine g_iload_n dX12_changes_53 rfl ?_
      refine g_iload dX12_changes_54 rfl ?_
      refine g_bipush dX12_changes_56 kb_m2 ?_
      refine g_icmp_eq 79 dX12_changes_58 rfl (fun q => ?_) (fun q => ?_)
      · replace h := gif_t q h
        refine g_iconst dX12_changes_79 kc_0 ?_
        refine g_iadd dX12_changes_80 ?_
        refine g_istore2 dX12_changes_81 ?_
        refine g_inc3 kc_1 dX12_changes_82 ?_
        refine g_goto 21 dX12_changes_85 rfl ?_
        exact ih h
      · replace h := gif_f q h
        refine g_iload dX12_changes_61 rfl ?_
        refine g_bipush dX12_changes_63 kb_m2 ?_
        refine g_icmp_eq 79 dX12_changes_65 rfl (fun q => ?_) (fun q => ?_)
        · replace h := gif_t q h
          refine g_iconst dX12_changes_79 kc_0 ?_
          refine g_iadd dX12_changes_80 ?_
          refine g_istore2 dX12_changes_81 ?_
          refine g_inc3 kc_1 dX12_changes_82 ?_
          refine g_goto 21 dX12_changes_85 rfl ?_
          exact ih h
        · replace h := gif_f q h
          refine g_iload dX12_changes_68 rfl ?_
          refine g_iload dX12_changes_70 rfl ?_
          refine g_icmp_eq 79 dX12_changes_72 rfl (fun q => ?_) (fun q => ?_)
          · replace h := gif_t q h
            refine g_iconst dX12_changes_79 kc_0 ?_
            refine g_iadd dX12_changes_80 ?_
            refine g_istore2 dX12_changes_81 ?_
            refine g_inc3 kc_1 dX12_changes_82 ?_
            refine g_goto 21 dX12_changes_85 rfl ?_
            exact ih h
          · replace h := gif_f q h
            refine g_iconst dX12_changes_75 kc_1 ?_
            refine g_goto 80 dX12_changes_76 rfl ?_
            refine g_iadd dX12_changes_80 ?_
            refine g_istore2 dX12_changes_81 ?_
            refine g_inc3 kc_1 dX12_changes_82 ?_
            refine g_goto 21 dX12_changes_85 rfl ?_
            exact ih h
theorem f_X12_changes_ok {v1 : Int32}  {σ : gSt} {r : (Int32 × gSt)} (h : f_X12_changes v1 σ = some r) : Mt l w 0 41 yX12_changes cX12_changes 6 (some .int) 6 147 [.ref (w.2.1 28 0), .int v1] σ (gE (some (.int r.1)) r.2) := by
  unfold f_X12_changes at h
  refine g_start pn_X12 rfl rfl (Nat.le_of_ble_eq_true rfl) ?_
  show G l w 0 41 RX12 cX12_changes 6 (some .int) 6 147 (gE (some (.int r.1)) r.2) 0 [some (.ref (w.2.1 28 0)), some (.int v1), none, none, none, none] [] σ
  refine g_aload_n dX12_changes_0 rfl ?_
  refine g_aload_n dX12_changes_1 rfl ?_
  refine g_iload_n dX12_changes_2 rfl ?_
  obtain ⟨p3, e3, h⟩ := obind h
  refine g_vP1 mv_X12_184 dX12_changes_3 ok_28 ⟨by decide, by decide⟩ (Nat.le_of_ble_eq_true rfl) (f_X12_isCourse_ok e3) ?_
  obtain ⟨p6, e6, h⟩ := obind h
  refine g_sP1 ms_X12_234 dX12_changes_6 ⟨by decide, by decide⟩ (Nat.le_of_ble_eq_true rfl) (f_X12_unless_ok e6) ?_
  obtain ⟨p9, e9, h⟩ := obind h
  refine g_vP1 mv_X12_161 dX12_changes_9 ok_28 ⟨by decide, by decide⟩ (Nat.le_of_ble_eq_true rfl) (f_X12_isRefused_ok e9) ?_
  refine g_if_eq 17 dX12_changes_12 rfl (fun q => ?_) (fun q => ?_)
  · replace h := gif_t q h
    refine g_iconst dX12_changes_17 kc_0 ?_
    refine g_istore2 dX12_changes_18 ?_
    refine g_iconst dX12_changes_19 kc_1 ?_
    refine g_istore3 dX12_changes_20 ?_
    exact f_X12_changes_21_ok gFuel h
  · replace h := gif_f q h
    refine g_iconst dX12_changes_15 kc_m1 ?_
    cases h
    exact g_iret dX12_changes_16 rfl ⟨rfl, rfl⟩
theorem dX12_ranked_0 : decode cX12_ranked 0 = .ok (.aload_n 0, 1) := by decide +kernel
theorem dX12_ranked_1 : decode cX12_ranked 1 = .ok (.aload_n 0, 1) := by decide +kernel
theorem dX12_ranked_2 : decode cX12_ranked 2 = .ok (.iload_n 1, 1) := by decide +kernel
theorem dX12_ranked_3 : decode cX12_ranked 3 = .ok (.invokevirtual 184, 3) := by decide +kernel
theorem dX12_ranked_6 : decode cX12_ranked 6 = .ok (.ifCond .eq 11, 3) := by decide +kernel
theorem dX12_ranked_9 : decode cX12_ranked 9 = .ok (.iload_n 2, 1) := by decide +kernel
theorem dX12_ranked_10 : decode cX12_ranked 10 = .ok (.ifCond .lt 7, 3) := by decide +kernel
theorem dX12_ranked_13 : decode cX12_ranked 13 = .ok (.iconst 1, 1) := by decide +kernel
theorem dX12_ranked_14 : decode cX12_ranked 14 = .ok (.goto 4, 3) := by decide +kernel
theorem dX12_ranked_17 : decode cX12_ranked 17 = .ok (.iconst 0, 1) := by decide +kernel
theorem dX12_ranked_18 : decode cX12_ranked 18 = .ok (.invokestatic 234, 3) := by decide +kernel
theorem dX12_ranked_21 : decode cX12_ranked 21 = .ok (.invokevirtual 161, 3) := by decide +kernel
theorem dX12_ranked_24 : decode cX12_ranked 24 = .ok (.ifCond .eq 5, 3) := by decide +kernel
theorem dX12_ranked_27 : decode cX12_ranked 27 = .ok (.iconst (-1), 1) := by decide +kernel
theorem dX12_ranked_28 : decode cX12_ranked 28 = .ok (.ireturn, 1) := by decide +kernel
theorem dX12_ranked_29 : decode cX12_ranked 29 = .ok (.iconst 0, 1) := by decide +kernel
theorem dX12_ranked_30 : decode cX12_ranked 30 = .ok (.istore_n 3, 1) := by decide +kernel
theorem dX12_ranked_31 : decode cX12_ranked 31 = .ok (.iload_n 3, 1) := by decide +kernel
theorem dX12_ranked_32 : decode cX12_ranked 32 = .ok (.aload_n 0, 1) := by decide +kernel
theorem dX12_ranked_33 : decode cX12_ranked 33 = .ok (.getfield 17, 3) := by decide +kernel
theorem dX12_ranked_36 : decode cX12_ranked 36 = .ok (.iconst 1, 1) := by decide +kernel
theorem dX12_ranked_37 : decode cX12_ranked 37 = .ok (.iaload, 1) := by decide +kernel
theorem dX12_ranked_38 : decode cX12_ranked 38 = .ok (.if_icmp .ge 140, 3) := by decide +kernel
theorem dX12_ranked_41 : decode cX12_ranked 41 = .ok (.aload_n 0, 1) := by decide +kernel
theorem dX12_ranked_42 : decode cX12_ranked 42 = .ok (.getfield 17, 3) := by decide +kernel
theorem dX12_ranked_45 : decode cX12_ranked 45 = .ok (.bipush 37, 2) := by decide +kernel
theorem dX12_ranked_47 : decode cX12_ranked 47 = .ok (.iload_n 3, 1) := by decide +kernel
theorem dX12_ranked_48 : decode cX12_ranked 48 = .ok (.iadd, 1) := by decide +kernel
theorem dX12_ranked_49 : decode cX12_ranked 49 = .ok (.iaload, 1) := by decide +kernel
theorem dX12_ranked_50 : decode cX12_ranked 50 = .ok (.iload_n 1, 1) := by decide +kernel
theorem dX12_ranked_51 : decode cX12_ranked 51 = .ok (.if_icmp .ne 121, 3) := by decide +kernel
theorem dX12_ranked_54 : decode cX12_ranked 54 = .ok (.aload_n 0, 1) := by decide +kernel
theorem dX12_ranked_55 : decode cX12_ranked 55 = .ok (.iload_n 3, 1) := by decide +kernel
theorem dX12_ranked_56 : decode cX12_ranked 56 = .ok (.invokevirtual 215, 3) := by decide +kernel
theorem dX12_ranked_59 : decode cX12_ranked 59 = .ok (.ifCond .eq 113, 3) := by decide +kernel
theorem dX12_ranked_62 : decode cX12_ranked 62 = .ok (.iconst 0, 1) := by decide +kernel
theorem dX12_ranked_63 : decode cX12_ranked 63 = .ok (.istore 4, 2) := by decide +kernel
theorem dX12_ranked_65 : decode cX12_ranked 65 = .ok (.iconst 0, 1) := by decide +kernel
theorem dX12_ranked_66 : decode cX12_ranked 66 = .ok (.istore 5, 2) := by decide +kernel
theorem dX12_ranked_68 : decode cX12_ranked 68 = .ok (.iload 5, 2) := by decide +kernel
theorem dX12_ranked_70 : decode cX12_ranked 70 = .ok (.aload_n 0, 1) := by decide +kernel
theorem dX12_ranked_71 : decode cX12_ranked 71 = .ok (.getfield 17, 3) := by decide +kernel
theorem dX12_ranked_74 : decode cX12_ranked 74 = .ok (.iconst 1, 1) := by decide +kernel
theorem dX12_ranked_75 : decode cX12_ranked 75 = .ok (.iaload, 1) := by decide +kernel
theorem dX12_ranked_76 : decode cX12_ranked 76 = .ok (.if_icmp .ge 88, 3) := by decide +kernel
theorem dX12_ranked_79 : decode cX12_ranked 79 = .ok (.aload_n 0, 1) := by decide +kernel
theorem dX12_ranked_80 : decode cX12_ranked 80 = .ok (.getfield 17, 3) := by decide +kernel
theorem dX12_ranked_83 : decode cX12_ranked 83 = .ok (.bipush 37, 2) := by decide +kernel
theorem dX12_ranked_85 : decode cX12_ranked 85 = .ok (.iload 5, 2) := by decide +kernel
theorem dX12_ranked_87 : decode cX12_ranked 87 = .ok (.iadd, 1) := by decide +kernel
theorem dX12_ranked_88 : decode cX12_ranked 88 = .ok (.iaload, 1) := by decide +kernel
theorem dX12_ranked_89 : decode cX12_ranked 89 = .ok (.iload_n 1, 1) := by decide +kernel
theorem dX12_ranked_90 : decode cX12_ranked 90 = .ok (.if_icmp .ne 16, 3) := by decide +kernel
theorem dX12_ranked_93 : decode cX12_ranked 93 = .ok (.aload_n 0, 1) := by decide +kernel
theorem dX12_ranked_94 : decode cX12_ranked 94 = .ok (.iload 5, 2) := by decide +kernel
theorem dX12_ranked_96 : decode cX12_ranked 96 = .ok (.invokevirtual 215, 3) := by decide +kernel
theorem dX12_ranked_99 : decode cX12_ranked 99 = .ok (.ifCond .eq 7, 3) := by decide +kernel
theorem dX12_ranked_102 : decode cX12_ranked 102 = .ok (.iconst 1, 1) := by decide +kernel
theorem dX12_ranked_103 : decode cX12_ranked 103 = .ok (.goto 4, 3) := by decide +kernel
theorem dX12_ranked_106 : decode cX12_ranked 106 = .ok (.iconst 0, 1) := by decide +kernel
theorem dX12_ranked_107 : decode cX12_ranked 107 = .ok (.istore 6, 2) := by decide +kernel
theorem dX12_ranked_109 : decode cX12_ranked 109 = .ok (.iload 4, 2) := by decide +kernel
theorem dX12_ranked_111 : decode cX12_ranked 111 = .ok (.iload 6, 2) := by decide +kernel
theorem dX12_ranked_113 : decode cX12_ranked 113 = .ok (.ifCond .eq 41, 3) := by decide +kernel
theorem dX12_ranked_116 : decode cX12_ranked 116 = .ok (.aload_n 0, 1) := by decide +kernel
theorem dX12_ranked_117 : decode cX12_ranked 117 = .ok (.iload 5, 2) := by decide +kernel
theorem dX12_ranked_119 : decode cX12_ranked 119 = .ok (.invokevirtual 218, 3) := by decide +kernel
theorem dX12_ranked_122 : decode cX12_ranked 122 = .ok (.aload_n 0, 1) := by decide +kernel
theorem dX12_ranked_123 : decode cX12_ranked 123 = .ok (.iload_n 3, 1) := by decide +kernel
theorem dX12_ranked_124 : decode cX12_ranked 124 = .ok (.invokevirtual 218, 3) := by decide +kernel
theorem dX12_ranked_127 : decode cX12_ranked 127 = .ok (.if_icmp .lt 23, 3) := by decide +kernel
theorem dX12_ranked_130 : decode cX12_ranked 130 = .ok (.aload_n 0, 1) := by decide +kernel
theorem dX12_ranked_131 : decode cX12_ranked 131 = .ok (.iload 5, 2) := by decide +kernel
theorem dX12_ranked_133 : decode cX12_ranked 133 = .ok (.invokevirtual 218, 3) := by decide +kernel
theorem dX12_ranked_136 : decode cX12_ranked 136 = .ok (.aload_n 0, 1) := by decide +kernel
theorem dX12_ranked_137 : decode cX12_ranked 137 = .ok (.iload_n 3, 1) := by decide +kernel
theorem dX12_ranked_138 : decode cX12_ranked 138 = .ok (.invokevirtual 218, 3) := by decide +kernel
theorem dX12_ranked_141 : decode cX12_ranked 141 = .ok (.if_icmp .ne 13, 3) := by decide +kernel
theorem dX12_ranked_144 : decode cX12_ranked 144 = .ok (.iload 5, 2) := by decide +kernel
theorem dX12_ranked_146 : decode cX12_ranked 146 = .ok (.iload_n 3, 1) := by decide +kernel
theorem dX12_ranked_147 : decode cX12_ranked 147 = .ok (.if_icmp .ge 7, 3) := by decide +kernel
theorem dX12_ranked_150 : decode cX12_ranked 150 = .ok (.iconst 1, 1) := by decide +kernel
theorem dX12_ranked_151 : decode cX12_ranked 151 = .ok (.goto 4, 3) := by decide +kernel
theorem dX12_ranked_154 : decode cX12_ranked 154 = .ok (.iconst 0, 1) := by decide +kernel
theorem dX12_ranked_155 : decode cX12_ranked 155 = .ok (.iadd, 1) := by decide +kernel
theorem dX12_ranked_156 : decode cX12_ranked 156 = .ok (.istore 4, 2) := by decide +kernel
theorem dX12_ranked_158 : decode cX12_ranked 158 = .ok (.iinc 5 1, 3) := by decide +kernel
theorem dX12_ranked_161 : decode cX12_ranked 161 = .ok (.goto (-93), 3) := by decide +kernel
theorem dX12_ranked_164 : decode cX12_ranked 164 = .ok (.iload 4, 2) := by decide +kernel
theorem dX12_ranked_166 : decode cX12_ranked 166 = .ok (.iload_n 2, 1) := by decide +kernel
theorem dX12_ranked_167 : decode cX12_ranked 167 = .ok (.if_icmp .ne 5, 3) := by decide +kernel
theorem dX12_ranked_170 : decode cX12_ranked 170 = .ok (.iload_n 3, 1) := by decide +kernel
theorem dX12_ranked_171 : decode cX12_ranked 171 = .ok (.ireturn, 1) := by decide +kernel
theorem dX12_ranked_172 : decode cX12_ranked 172 = .ok (.iinc 3 1, 3) := by decide +kernel
theorem dX12_ranked_175 : decode cX12_ranked 175 = .ok (.goto (-144), 3) := by decide +kernel
theorem dX12_ranked_178 : decode cX12_ranked 178 = .ok (.bipush (-2), 2) := by decide +kernel
theorem dX12_ranked_180 : decode cX12_ranked 180 = .ok (.ireturn, 1) := by decide +kernel
def f_X12_ranked_107 (v1 : Int32) (v2 : Int32) (v3 : Int32) (v4 : Int32) (v5 : Int32) (k31 : Int32 → gSt → Option (Int32 × gSt)) (k68 : Int32 → Int32 → gSt → Option (Int32 × gSt)) (vs0 : Int32) (σ : gSt) : Option (Int32 × gSt) :=
  if vs0 = 0 then
    k68 (v4 + 0) (v5 + 1) σ
  else
    (f_X12_totalOf v5 σ).bind fun p119 =>
    (f_X12_totalOf v3 p119.2).bind fun p124 =>
    if p119.1 < p124.1 then
      k68 (v4 + 1) (v5 + 1) p124.2
    else
      (f_X12_totalOf v5 p124.2).bind fun p133 =>
      (f_X12_totalOf v3 p133.2).bind fun p138 =>
      if p133.1 = p138.1 then
        if v3 ≤ v5 then
          k68 (v4 + 0) (v5 + 1) p138.2
        else
          k68 (v4 + 1) (v5 + 1) p138.2
      else
        k68 (v4 + 0) (v5 + 1) p138.2
def f_X12_ranked_106 (v1 : Int32) (v2 : Int32) (v3 : Int32) (v4 : Int32) (v5 : Int32) (k31 : Int32 → gSt → Option (Int32 × gSt)) (k68 : Int32 → Int32 → gSt → Option (Int32 × gSt)) (σ : gSt) : Option (Int32 × gSt) :=
  f_X12_ranked_107 v1 v2 v3 v4 v5 k31 k68 0 σ
def f_X12_ranked_68 (v1 : Int32) (v2 : Int32) (v3 : Int32) (k31 : Int32 → gSt → Option (Int32 × gSt)) : Nat → Int32 → Int32 → gSt → Option (Int32 × gSt)
  | 0, _, _, _ => none
  | n + 1, v4, v5, σ =>
    (gld σ 30 0 397 1).bind fun a75 =>
    if a75 ≤ v5 then
      if v4 = v2 then
        some (v3, σ)
      else
        k31 (v3 + 1) σ
    else
      (gld σ 30 0 397 (37 + v5)).bind fun a88 =>
      if a88 = v1 then
        (f_X12_isValid v5 σ).bind fun p96 =>
        if p96.1 = 0 then
          f_X12_ranked_106 v1 v2 v3 v4 v5 k31 (fun v4 v5 σ => f_X12_ranked_68 v1 v2 v3 k31 n v4 v5 σ) p96.2
        else
          f_X12_ranked_107 v1 v2 v3 v4 v5 k31 (fun v4 v5 σ => f_X12_ranked_68 v1 v2 v3 k31 n v4 v5 σ) 1 p96.2
      else
        f_X12_ranked_106 v1 v2 v3 v4 v5 k31 (fun v4 v5 σ => f_X12_ranked_68 v1 v2 v3 k31 n v4 v5 σ) σ
def f_X12_ranked_31 (v1 : Int32) (v2 : Int32) : Nat → Int32 → gSt → Option (Int32 × gSt)
  | 0, _, _ => none
  | n + 1, v3, σ =>
    (gld σ 30 0 397 1).bind fun a37 =>
    if a37 ≤ v3 then
      some ((-2), σ)
    else
      (gld σ 30 0 397 (37 + v3)).bind fun a49 =>
      if a49 = v1 then
        (f_X12_isValid v3 σ).bind fun p56 =>
        if p56.1 = 0 then
          f_X12_ranked_31 v1 v2 n (v3 + 1) p56.2
        else
          f_X12_ranked_68 v1 v2 v3 (fun v3 σ => f_X12_ranked_31 v1 v2 n v3 σ) gFuel 0 0 p56.2
      else
        f_X12_ranked_31 v1 v2 n (v3 + 1) σ
def f_X12_ranked_18 (v1 : Int32) (v2 : Int32) (vs1 : Int32) (σ : gSt) : Option (Int32 × gSt) :=
  (f_X12_unless vs1 σ).bind fun p18 =>
  (f_X12_isRefused p18.1 p18.2).bind fun p21 =>
  if p21.1 = 0 then
    f_X12_ranked_31 v1 v2 gFuel 0 p21.2
  else
    some ((-1), p21.2)
def f_X12_ranked_17 (v1 : Int32) (v2 : Int32) (σ : gSt) : Option (Int32 × gSt) :=
  f_X12_ranked_18 v1 v2 0 σ
def f_X12_ranked (v1 : Int32) (v2 : Int32) (σ : gSt) : Option (Int32 × gSt) :=
  (f_X12_isCourse v1 σ).bind fun p3 =>
  if p3.1 = 0 then
    f_X12_ranked_17 v1 v2 p3.2
  else
    if v2 < 0 then
      f_X12_ranked_17 v1 v2 p3.2
    else
      f_X12_ranked_18 v1 v2 1 p3.2
theorem f_X12_ranked_107_ok {v1 : Int32} {v2 : Int32} {v3 : Int32} {v4 : Int32} {v5 : Int32} {k31 : Int32 → gSt → Option (Int32 × gSt)} {k68 : Int32 → Int32 → gSt → Option (Int32 × gSt)} {vs0 : Int32} {r : (Int32 × gSt)} (hk31 : ∀ {v3 : Int32} {σ : gSt} {x4 x5 x6 : Option Value}, k31 v3 σ = some r → G l w 0 41 RX12 cX12_ranked 7 (some .int) 4 94 (gE (some (.int r.1)) r.2) 31 [some (.ref (w.2.1 28 0)), some (.int v1), some (.int v2), some (.int v3), x4, x5, x6] [] σ) (hk68 : ∀ {v4 : Int32} {v5 : Int32} {σ : gSt} {x6 : Option Value}, k68 v4 v5 σ = some r → G l w 0 41 RX12 cX12_ranked 7 (some .int) 4 94 (gE (some (.int r.1)) r.2) 68 [some (.ref (w.2.1 28 0)), some (.int v1), some (.int v2), some (.int v3), some (.int v4), some (.int v5), x6] [] σ) {σ : gSt} {x6 : Option Value} (h : f_X12_ranked_107 v1 v2 v3 v4 v5 k31 k68 vs0 σ = some r) : G l w 0 41 RX12 cX12_ranked 7 (some .int) 4 94 (gE (some (.int r.1)) r.2) 107 [some (.ref (w.2.1 28 0)), some (.int v1), some (.int v2), some (.int v3), some (.int v4), some (.int v5), x6] [.int vs0] σ := by
  unfold f_X12_ranked_107 at h
  refine g_istore6 dX12_ranked_107 ?_
  refine g_iload dX12_ranked_109 rfl ?_
  refine g_iload dX12_ranked_111 rfl ?_
  refine g_if_eq 154 dX12_ranked_113 rfl (fun q => ?_) (fun q => ?_)
  · replace h := gif_t q h
    refine g_iconst dX12_ranked_154 kc_0 ?_
    refine g_iadd dX12_ranked_155 ?_
    refine g_istore4 dX12_ranked_156 ?_
    refine g_inc5 kc_1 dX12_ranked_158 ?_
    refine g_goto 68 dX12_ranked_161 rfl ?_
    exact hk68 h
  · replace h := gif_f q h
    refine g_aload_n dX12_ranked_116 rfl ?_
    refine g_iload dX12_ranked_117 rfl ?_
    obtain ⟨p119, e119, h⟩ := obind h
    refine g_vP1 mv_X12_218 dX12_ranked_119 ok_28 ⟨by decide, by decide⟩ (Nat.le_of_ble_eq_true rfl) (f_X12_totalOf_ok e119) ?_
    refine g_aload_n dX12_ranked_122 rfl ?_
    refine g_iload_n dX12_ranked_123 rfl ?_
    obtain ⟨p124, e124, h⟩ := obind h
    refine g_vP1 mv_X12_218 dX12_ranked_124 ok_28 ⟨by decide, by decide⟩ (Nat.le_of_ble_eq_true rfl) (f_X12_totalOf_ok e124) ?_
    refine g_icmp_lt 150 dX12_ranked_127 rfl (fun q => ?_) (fun q => ?_)
    · replace h := gif_t q h
      refine g_iconst dX12_ranked_150 kc_1 ?_
      refine g_goto 155 dX12_ranked_151 rfl ?_
      refine g_iadd dX12_ranked_155 ?_
      refine g_istore4 dX12_ranked_156 ?_
      refine g_inc5 kc_1 dX12_ranked_158 ?_
      refine g_goto 68 dX12_ranked_161 rfl ?_
      exact hk68 h
    · replace h := gif_f q h
      refine g_aload_n dX12_ranked_130 rfl ?_
      refine g_iload dX12_ranked_131 rfl ?_
      obtain ⟨p133, e133, h⟩ := obind h
      refine g_vP1 mv_X12_218 dX12_ranked_133 ok_28 ⟨by decide, by decide⟩ (Nat.le_of_ble_eq_true rfl) (f_X12_totalOf_ok e133) ?_
      refine g_aload_n dX12_ranked_136 rfl ?_
      refine g_iload_n dX12_ranked_137 rfl ?_
      obtain ⟨p138, e138, h⟩ := obind h
      refine g_vP1 mv_X12_218 dX12_ranked_138 ok_28 ⟨by decide, by decide⟩ (Nat.le_of_ble_eq_true rfl) (f_X12_totalOf_ok e138) ?_
      refine g_icmp_ne 154 dX12_ranked_141 rfl (fun q => ?_) (fun q => ?_)
      · replace h := gif_f q h
        refine g_iconst dX12_ranked_154 kc_0 ?_
        refine g_iadd dX12_ranked_155 ?_
        refine g_istore4 dX12_ranked_156 ?_
        refine g_inc5 kc_1 dX12_ranked_158 ?_
        refine g_goto 68 dX12_ranked_161 rfl ?_
        exact hk68 h
      · replace h := gif_t q h
        refine g_iload dX12_ranked_144 rfl ?_
        refine g_iload_n dX12_ranked_146 rfl ?_
        refine g_icmp_ge 154 dX12_ranked_147 rfl (fun q => ?_) (fun q => ?_)
        · replace h := gif_t q h
          refine g_iconst dX12_ranked_154 kc_0 ?_
          refine g_iadd dX12_ranked_155 ?_
          refine g_istore4 dX12_ranked_156 ?_
          refine g_inc5 kc_1 dX12_ranked_158 ?_
          refine g_goto 68 dX12_ranked_161 rfl ?_
          exact hk68 h
        · replace h := gif_f q h
          refine g_iconst dX12_ranked_150 kc_1 ?_
          refine g_goto 155 dX12_ranked_151 rfl ?_
          refine g_iadd dX12_ranked_155 ?_
          refine g_istore4 dX12_ranked_156 ?_
          refine g_inc5 kc_1 dX12_ranked_158 ?_
          refine g_goto 68 dX12_ranked_161 rfl ?_
          exact hk68 h
theorem f_X12_ranked_106_ok {v1 : Int32} {v2 : Int32} {v3 : Int32} {v4 : Int32} {v5 : Int32} {k31 : Int32 → gSt → Option (Int32 × gSt)} {k68 : Int32 → Int32 → gSt → Option (Int32 × gSt)} {r : (Int32 × gSt)} (hk31 : ∀ {v3 : Int32} {σ : gSt} {x4 x5 x6 : Option Value}, k31 v3 σ = some r → G l w 0 41 RX12 cX12_ranked 7 (some .int) 4 94 (gE (some (.int r.1)) r.2) 31 [some (.ref (w.2.1 28 0)), some (.int v1), some (.int v2), some (.int v3), x4, x5, x6] [] σ) (hk68 : ∀ {v4 : Int32} {v5 : Int32} {σ : gSt} {x6 : Option Value}, k68 v4 v5 σ = some r → G l w 0 41 RX12 cX12_ranked 7 (some .int) 4 94 (gE (some (.int r.1)) r.2) 68 [some (.ref (w.2.1 28 0)), some (.int v1), some (.int v2), some (.int v3), some (.int v4), some (.int v5), x6] [] σ) {σ : gSt} {x6 : Option Value} (h : f_X12_ranked_106 v1 v2 v3 v4 v5 k31 k68 σ = some r) : G l w 0 41 RX12 cX12_ranked 7 (some .int) 4 94 (gE (some (.int r.1)) r.2) 106 [some (.ref (w.2.1 28 0)), some (.int v1), some (.int v2), some (.int v3), some (.int v4), some (.int v5), x6] [] σ := by
  unfold f_X12_ranked_106 at h
  refine g_iconst dX12_ranked_106 kc_0 ?_
  exact f_X12_ranked_107_ok hk31 hk68 h
theorem f_X12_ranked_68_ok {v1 : Int32} {v2 : Int32} {v3 : Int32} {k31 : Int32 → gSt → Option (Int32 × gSt)} {r : (Int32 × gSt)} (hk31 : ∀ {v3 : Int32} {σ : gSt} {x4 x5 x6 : Option Value}, k31 v3 σ = some r → G l w 0 41 RX12 cX12_ranked 7 (some .int) 4 94 (gE (some (.int r.1)) r.2) 31 [some (.ref (w.2.1 28 0)), some (.int v1), some (.int v2), some (.int v3), x4, x5, x6] [] σ) : ∀ (n : Nat) {v4 : Int32} {v5 : Int32} {σ : gSt} {x6 : Option Value}, f_X12_ranked_68 v1 v2 v3 k31 n v4 v5 σ = some r → G l w 0 41 RX12 cX12_ranked 7 (some .int) 4 94 (gE (some (.int r.1)) r.2) 68 [some (.ref (w.2.1 28 0)), some (.int v1), some (.int v2), some (.int v3), some (.int v4), some (.int v5), x6] [] σ := by
  intro n
  induction n with
  | zero => intro v4 v5 σ x6 h; rw [f_X12_ranked_68] at h; cases h
  | succ n ih =>
    intro v4 v5 σ x6 h
    rw [f_X12_ranked_68] at h
    refine g_iload dX12_ranked_68 rfl ?_
    refine g_aload_n dX12_ranked_70 rfl ?_
    refine gR_X12_17 ok_28 dX12_ranked_71 ?_
    refine g_iconst dX12_ranked_74 kc_1 ?_
    obtain ⟨a75, e75, h⟩ := obind h
    refine g_ldB e75 ok_30 rfl rfl (by decide) dX12_ranked_75 ?_
    refine g_icmp_ge 164 dX12_ranked_76 rfl (fun q => ?_) (fun q => ?_)
    · replace h := gif_t q h
      refine g_iload dX12_ranked_164 rfl ?_
      refine g_iload_n dX12_ranked_166 rfl ?_
      refine g_icmp_ne 172 dX12_ranked_167 rfl (fun q => ?_) (fun q => ?_)
      · replace h := gif_f q h
        refine g_inc3 kc_1 dX12_ranked_172 ?_
        refine g_goto 31 dX12_ranked_175 rfl ?_
        exact hk31 h
      · replace h := gif_t q h
        refine g_iload_n dX12_ranked_170 rfl ?_
        cases h
        exact g_iret dX12_ranked_171 rfl ⟨rfl, rfl⟩
    · replace h := gif_f q h
      refine g_aload_n dX12_ranked_79 rfl ?_
      refine gR_X12_17 ok_28 dX12_ranked_80 ?_
      refine g_bipush dX12_ranked_83 kb_37 ?_
      refine g_iload dX12_ranked_85 rfl ?_
      refine g_iadd dX12_ranked_87 ?_
      obtain ⟨a88, e88, h⟩ := obind h
      refine g_ldB e88 ok_30 rfl rfl (by decide) dX12_ranked_88 ?_
      refine g_iload_n dX12_ranked_89 rfl ?_
      refine g_icmp_ne 106 dX12_ranked_90 rfl (fun q => ?_) (fun q => ?_)
      · replace h := gif_f q h
        exact f_X12_ranked_106_ok hk31 (fun h => ih h) h
      · replace h := gif_t q h
        refine g_aload_n dX12_ranked_93 rfl ?_
        refine g_iload dX12_ranked_94 rfl ?_
        obtain ⟨p96, e96, h⟩ := obind h
        refine g_vP1 mv_X12_215 dX12_ranked_96 ok_28 ⟨by decide, by decide⟩ (Nat.le_of_ble_eq_true rfl) (f_X12_isValid_ok e96) ?_
        refine g_if_eq 106 dX12_ranked_99 rfl (fun q => ?_) (fun q => ?_)
        · replace h := gif_t q h
          exact f_X12_ranked_106_ok hk31 (fun h => ih h) h
        · replace h := gif_f q h
          refine g_iconst dX12_ranked_102 kc_1 ?_
          refine g_goto 107 dX12_ranked_103 rfl ?_
          exact f_X12_ranked_107_ok hk31 (fun h => ih h) h
theorem f_X12_ranked_31_ok {v1 : Int32} {v2 : Int32} {r : (Int32 × gSt)}  : ∀ (n : Nat) {v3 : Int32} {σ : gSt} {x4 x5 x6 : Option Value}, f_X12_ranked_31 v1 v2 n v3 σ = some r → G l w 0 41 RX12 cX12_ranked 7 (some .int) 4 94 (gE (some (.int r.1)) r.2) 31 [some (.ref (w.2.1 28 0)), some (.int v1), some (.int v2), some (.int v3), x4, x5, x6] [] σ := by
  intro n
  induction n with
  | zero => intro v3 σ x4 x5 x6 h; rw [f_X12_ranked_31] at h; cases h
  | succ n ih =>
    intro v3 σ x4 x5 x6 h
    rw [f_X12_ranked_31] at h
    refine g_iload_n dX12_ranked_31 rfl ?_
    refine g_aload_n dX12_ranked_32 rfl ?_
    refine gR_X12_17 ok_28 dX12_ranked_33 ?_
    refine g_iconst dX12_ranked_36 kc_1 ?_
    obtain ⟨a37, e37, h⟩ := obind h
    refine g_ldB e37 ok_30 rfl rfl (by decide) dX12_ranked_37 ?_
    refine g_icmp_ge 178 dX12_ranked_38 rfl (fun q => ?_) (fun q => ?_)
    · replace h := gif_t q h
      refine g_bipush dX12_ranked_178 kb_m2 ?_
      cases h
      exact g_iret dX12_ranked_180 rfl ⟨rfl, rfl⟩
    · replace h := gif_f q h
      refine g_aload_n dX12_ranked_41 rfl ?_
      refine gR_X12_17 ok_28 dX12_ranked_42 ?_
      refine g_bipush dX12_ranked_45 kb_37 ?_
      refine g_iload_n dX12_ranked_47 rfl ?_
      refine g_iadd dX12_ranked_48 ?_
      obtain ⟨a49, e49, h⟩ := obind h
      refine g_ldB e49 ok_30 rfl rfl (by decide) dX12_ranked_49 ?_
      refine g_iload_n dX12_ranked_50 rfl ?_
      refine g_icmp_ne 172 dX12_ranked_51 rfl (fun q => ?_) (fun q => ?_)
      · replace h := gif_f q h
        refine g_inc3 kc_1 dX12_ranked_172 ?_
        refine g_goto 31 dX12_ranked_175 rfl ?_
        exact ih h
      · replace h := gif_t q h
        refine g_aload_n dX12_ranked_54 rfl ?_
        refine g_iload_n dX12_ranked_55 rfl ?_
        obtain ⟨p56, e56, h⟩ := obind h
        refine g_vP1 mv_X12_215 dX12_ranked_56 ok_28 ⟨by decide, by decide⟩ (Nat.le_of_ble_eq_true rfl) (f_X12_isValid_ok e56) ?_
        refine g_if_eq 172 dX12_ranked_59 rfl (fun q => ?_) (fun q => ?_)
        · replace h := gif_t q h
          refine g_inc3 kc_1 dX12_ranked_172 ?_
          refine g_goto 31 dX12_ranked_175 rfl ?_
          exact ih h
        · replace h := gif_f q h
          refine g_iconst dX12_ranked_62 kc_0 ?_
          refine g_istore4 dX12_ranked_63 ?_
          refine g_iconst dX12_ranked_65 kc_0 ?_
          refine g_istore5 dX12_ranked_66 ?_
          exact f_X12_ranked_68_ok (fun h => ih h) gFuel h
theorem f_X12_ranked_18_ok {v1 : Int32} {v2 : Int32} {vs1 : Int32} {r : (Int32 × gSt)}  {σ : gSt} {x3 x4 x5 x6 : Option Value} (h : f_X12_ranked_18 v1 v2 vs1 σ = some r) : G l w 0 41 RX12 cX12_ranked 7 (some .int) 4 94 (gE (some (.int r.1)) r.2) 18 [some (.ref (w.2.1 28 0)), some (.int v1), some (.int v2), x3, x4, x5, x6] [.int vs1, .ref (w.2.1 28 0)] σ := by
  unfold f_X12_ranked_18 at h
  obtain ⟨p18, e18, h⟩ := obind h
  refine g_sP1 ms_X12_234 dX12_ranked_18 ⟨by decide, by decide⟩ (Nat.le_of_ble_eq_true rfl) (f_X12_unless_ok e18) ?_
  obtain ⟨p21, e21, h⟩ := obind h
  refine g_vP1 mv_X12_161 dX12_ranked_21 ok_28 ⟨by decide, by decide⟩ (Nat.le_of_ble_eq_true rfl) (f_X12_isRefused_ok e21) ?_
  refine g_if_eq 29 dX12_ranked_24 rfl (fun q => ?_) (fun q => ?_)
  · replace h := gif_t q h
    refine g_iconst dX12_ranked_29 kc_0 ?_
    refine g_istore3 dX12_ranked_30 ?_
    exact f_X12_ranked_31_ok gFuel h
  · replace h := gif_f q h
    refine g_iconst dX12_ranked_27 kc_m1 ?_
    cases h
    exact g_iret dX12_ranked_28 rfl ⟨rfl, rfl⟩
theorem f_X12_ranked_17_ok {v1 : Int32} {v2 : Int32} {r : (Int32 × gSt)}  {σ : gSt} {x3 x4 x5 x6 : Option Value} (h : f_X12_ranked_17 v1 v2 σ = some r) : G l w 0 41 RX12 cX12_ranked 7 (some .int) 4 94 (gE (some (.int r.1)) r.2) 17 [some (.ref (w.2.1 28 0)), some (.int v1), some (.int v2), x3, x4, x5, x6] [.ref (w.2.1 28 0)] σ := by
  unfold f_X12_ranked_17 at h
  refine g_iconst dX12_ranked_17 kc_0 ?_
  exact f_X12_ranked_18_ok h
theorem f_X12_ranked_ok {v1 : Int32} {v2 : Int32}  {σ : gSt} {r : (Int32 × gSt)} (h : f_X12_ranked v1 v2 σ = some r) : Mt l w 0 41 yX12_ranked cX12_ranked 7 (some .int) 4 94 [.ref (w.2.1 28 0), .int v1, .int v2] σ (gE (some (.int r.1)) r.2) := by
  unfold f_X12_ranked at h
  refine g_start pn_X12 rfl rfl (Nat.le_of_ble_eq_true rfl) ?_
  show G l w 0 41 RX12 cX12_ranked 7 (some .int) 4 94 (gE (some (.int r.1)) r.2) 0 [some (.ref (w.2.1 28 0)), some (.int v1), some (.int v2), none, none, none, none] [] σ
  refine g_aload_n dX12_ranked_0 rfl ?_
  refine g_aload_n dX12_ranked_1 rfl ?_
  refine g_iload_n dX12_ranked_2 rfl ?_
  obtain ⟨p3, e3, h⟩ := obind h
  refine g_vP1 mv_X12_184 dX12_ranked_3 ok_28 ⟨by decide, by decide⟩ (Nat.le_of_ble_eq_true rfl) (f_X12_isCourse_ok e3) ?_
  refine g_if_eq 17 dX12_ranked_6 rfl (fun q => ?_) (fun q => ?_)
  · replace h := gif_t q h
    exact f_X12_ranked_17_ok h
  · replace h := gif_f q h
    refine g_iload_n dX12_ranked_9 rfl ?_
    refine g_if_lt 17 dX12_ranked_10 rfl (fun q => ?_) (fun q => ?_)
    · replace h := gif_t q h
      exact f_X12_ranked_17_ok h
    · replace h := gif_f q h
      refine g_iconst dX12_ranked_13 kc_1 ?_
      refine g_goto 18 dX12_ranked_14 rfl ?_
      exact f_X12_ranked_18_ok h
theorem dX12_lostOn_0 : decode cX12_lostOn 0 = .ok (.aload_n 0, 1) := by decide +kernel
theorem dX12_lostOn_1 : decode cX12_lostOn 1 = .ok (.iload_n 1, 1) := by decide +kernel
theorem dX12_lostOn_2 : decode cX12_lostOn 2 = .ok (.iload_n 2, 1) := by decide +kernel
theorem dX12_lostOn_3 : decode cX12_lostOn 3 = .ok (.invokevirtual 221, 3) := by decide +kernel
theorem dX12_lostOn_6 : decode cX12_lostOn 6 = .ok (.istore_n 3, 1) := by decide +kernel
theorem dX12_lostOn_7 : decode cX12_lostOn 7 = .ok (.iload_n 3, 1) := by decide +kernel
theorem dX12_lostOn_8 : decode cX12_lostOn 8 = .ok (.bipush (-2), 2) := by decide +kernel
theorem dX12_lostOn_10 : decode cX12_lostOn 10 = .ok (.if_icmp .ne 8, 3) := by decide +kernel
theorem dX12_lostOn_13 : decode cX12_lostOn 13 = .ok (.bipush (-2), 2) := by decide +kernel
theorem dX12_lostOn_15 : decode cX12_lostOn 15 = .ok (.goto 19, 3) := by decide +kernel
theorem dX12_lostOn_18 : decode cX12_lostOn 18 = .ok (.iload_n 3, 1) := by decide +kernel
theorem dX12_lostOn_19 : decode cX12_lostOn 19 = .ok (.aload_n 0, 1) := by decide +kernel
theorem dX12_lostOn_20 : decode cX12_lostOn 20 = .ok (.aload_n 0, 1) := by decide +kernel
theorem dX12_lostOn_21 : decode cX12_lostOn 21 = .ok (.getfield 17, 3) := by decide +kernel
theorem dX12_lostOn_24 : decode cX12_lostOn 24 = .ok (.bipush 37, 2) := by decide +kernel
theorem dX12_lostOn_26 : decode cX12_lostOn 26 = .ok (.iload_n 1, 1) := by decide +kernel
theorem dX12_lostOn_27 : decode cX12_lostOn 27 = .ok (.iadd, 1) := by decide +kernel
theorem dX12_lostOn_28 : decode cX12_lostOn 28 = .ok (.iaload, 1) := by decide +kernel
theorem dX12_lostOn_29 : decode cX12_lostOn 29 = .ok (.iload_n 2, 1) := by decide +kernel
theorem dX12_lostOn_30 : decode cX12_lostOn 30 = .ok (.invokevirtual 231, 3) := by decide +kernel
theorem dX12_lostOn_33 : decode cX12_lostOn 33 = .ok (.isub, 1) := by decide +kernel
theorem dX12_lostOn_34 : decode cX12_lostOn 34 = .ok (.ireturn, 1) := by decide +kernel
def f_X12_lostOn (v1 : Int32) (v2 : Int32) (σ : gSt) : Option (Int32 × gSt) :=
  (f_X12_legOf v1 v2 σ).bind fun p3 =>
  if p3.1 = (-2) then
    some ((-2), p3.2)
  else
    (gld p3.2 30 0 397 (37 + v1)).bind fun a28 =>
    (f_X12_bestLeg a28 v2 p3.2).bind fun p30 =>
    some ((p3.1 - p30.1), p30.2)
theorem f_X12_lostOn_ok {v1 : Int32} {v2 : Int32}  {σ : gSt} {r : (Int32 × gSt)} (h : f_X12_lostOn v1 v2 σ = some r) : Mt l w 0 41 yX12_lostOn cX12_lostOn 4 (some .int) 7 170 [.ref (w.2.1 28 0), .int v1, .int v2] σ (gE (some (.int r.1)) r.2) := by
  unfold f_X12_lostOn at h
  refine g_start pn_X12 rfl rfl (Nat.le_of_ble_eq_true rfl) ?_
  show G l w 0 41 RX12 cX12_lostOn 4 (some .int) 7 170 (gE (some (.int r.1)) r.2) 0 [some (.ref (w.2.1 28 0)), some (.int v1), some (.int v2), none] [] σ
  refine g_aload_n dX12_lostOn_0 rfl ?_
  refine g_iload_n dX12_lostOn_1 rfl ?_
  refine g_iload_n dX12_lostOn_2 rfl ?_
  obtain ⟨p3, e3, h⟩ := obind h
  refine g_vP2 mv_X12_221 dX12_lostOn_3 ok_28 ⟨by decide, by decide⟩ (Nat.le_of_ble_eq_true rfl) (f_X12_legOf_ok e3) ?_
  refine g_istore3 dX12_lostOn_6 ?_
  refine g_iload_n dX12_lostOn_7 rfl ?_
  refine g_bipush dX12_lostOn_8 kb_m2 ?_
  refine g_icmp_ne 18 dX12_lostOn_10 rfl (fun q => ?_) (fun q => ?_)
  · replace h := gif_f q h
    refine g_iload_n dX12_lostOn_18 rfl ?_
    refine g_aload_n dX12_lostOn_19 rfl ?_
    refine g_aload_n dX12_lostOn_20 rfl ?_
    refine gR_X12_17 ok_28 dX12_lostOn_21 ?_
    refine g_bipush dX12_lostOn_24 kb_37 ?_
    refine g_iload_n dX12_lostOn_26 rfl ?_
    refine g_iadd dX12_lostOn_27 ?_
    obtain ⟨a28, e28, h⟩ := obind h
    refine g_ldB e28 ok_30 rfl rfl (by decide) dX12_lostOn_28 ?_
    refine g_iload_n dX12_lostOn_29 rfl ?_
    obtain ⟨p30, e30, h⟩ := obind h
    refine g_vP2 mv_X12_231 dX12_lostOn_30 ok_28 ⟨by decide, by decide⟩ (Nat.le_of_ble_eq_true rfl) (f_X12_bestLeg_ok e30) ?_
    refine g_isub dX12_lostOn_33 ?_
    cases h
    exact g_iret dX12_lostOn_34 rfl ⟨rfl, rfl⟩
  · replace h := gif_t q h
    refine g_bipush dX12_lostOn_13 kb_m2 ?_
    refine g_goto 34 dX12_lostOn_15 rfl ?_
    cases h
    exact g_iret dX12_lostOn_34 rfl ⟨rfl, rfl⟩
theorem dX12_lostByAll_0 : decode cX12_lostByAll 0 = .ok (.bipush (-2), 2) := by decide +kernel
theorem dX12_lostByAll_2 : decode cX12_lostByAll 2 = .ok (.istore_n 3, 1) := by decide +kernel
theorem dX12_lostByAll_3 : decode cX12_lostByAll 3 = .ok (.iconst 0, 1) := by decide +kernel
theorem dX12_lostByAll_4 : decode cX12_lostByAll 4 = .ok (.istore 4, 2) := by decide +kernel
theorem dX12_lostByAll_6 : decode cX12_lostByAll 6 = .ok (.iload 4, 2) := by decide +kernel
theorem dX12_lostByAll_8 : decode cX12_lostByAll 8 = .ok (.aload_n 0, 1) := by decide +kernel
theorem dX12_lostByAll_9 : decode cX12_lostByAll 9 = .ok (.getfield 17, 3) := by decide +kernel
theorem dX12_lostByAll_12 : decode cX12_lostByAll 12 = .ok (.iconst 1, 1) := by decide +kernel
theorem dX12_lostByAll_13 : decode cX12_lostByAll 13 = .ok (.iaload, 1) := by decide +kernel
theorem dX12_lostByAll_14 : decode cX12_lostByAll 14 = .ok (.if_icmp .ge 64, 3) := by decide +kernel
theorem dX12_lostByAll_17 : decode cX12_lostByAll 17 = .ok (.aload_n 0, 1) := by decide +kernel
theorem dX12_lostByAll_18 : decode cX12_lostByAll 18 = .ok (.getfield 17, 3) := by decide +kernel
theorem dX12_lostByAll_21 : decode cX12_lostByAll 21 = .ok (.bipush 37, 2) := by decide +kernel
theorem dX12_lostByAll_23 : decode cX12_lostByAll 23 = .ok (.iload 4, 2) := by decide +kernel
theorem dX12_lostByAll_25 : decode cX12_lostByAll 25 = .ok (.iadd, 1) := by decide +kernel
theorem dX12_lostByAll_26 : decode cX12_lostByAll 26 = .ok (.iaload, 1) := by decide +kernel
theorem dX12_lostByAll_27 : decode cX12_lostByAll 27 = .ok (.iload_n 1, 1) := by decide +kernel
theorem dX12_lostByAll_28 : decode cX12_lostByAll 28 = .ok (.if_icmp .ne 13, 3) := by decide +kernel
theorem dX12_lostByAll_31 : decode cX12_lostByAll 31 = .ok (.aload_n 0, 1) := by decide +kernel
theorem dX12_lostByAll_32 : decode cX12_lostByAll 32 = .ok (.iload 4, 2) := by decide +kernel
theorem dX12_lostByAll_34 : decode cX12_lostByAll 34 = .ok (.iload_n 2, 1) := by decide +kernel
theorem dX12_lostByAll_35 : decode cX12_lostByAll 35 = .ok (.invokevirtual 282, 3) := by decide +kernel
theorem dX12_lostByAll_38 : decode cX12_lostByAll 38 = .ok (.goto 5, 3) := by decide +kernel
theorem dX12_lostByAll_41 : decode cX12_lostByAll 41 = .ok (.bipush (-2), 2) := by decide +kernel
theorem dX12_lostByAll_43 : decode cX12_lostByAll 43 = .ok (.istore 5, 2) := by decide +kernel
theorem dX12_lostByAll_45 : decode cX12_lostByAll 45 = .ok (.iload 5, 2) := by decide +kernel
theorem dX12_lostByAll_47 : decode cX12_lostByAll 47 = .ok (.bipush (-2), 2) := by decide +kernel
theorem dX12_lostByAll_49 : decode cX12_lostByAll 49 = .ok (.if_icmp .ne 7, 3) := by decide +kernel
theorem dX12_lostByAll_52 : decode cX12_lostByAll 52 = .ok (.iload_n 3, 1) := by decide +kernel
theorem dX12_lostByAll_53 : decode cX12_lostByAll 53 = .ok (.goto 18, 3) := by decide +kernel
theorem dX12_lostByAll_56 : decode cX12_lostByAll 56 = .ok (.iload_n 3, 1) := by decide +kernel
theorem dX12_lostByAll_57 : decode cX12_lostByAll 57 = .ok (.bipush (-2), 2) := by decide +kernel
theorem dX12_lostByAll_59 : decode cX12_lostByAll 59 = .ok (.if_icmp .ne 8, 3) := by decide +kernel
theorem dX12_lostByAll_62 : decode cX12_lostByAll 62 = .ok (.iload 5, 2) := by decide +kernel
theorem dX12_lostByAll_64 : decode cX12_lostByAll 64 = .ok (.goto 7, 3) := by decide +kernel
theorem dX12_lostByAll_67 : decode cX12_lostByAll 67 = .ok (.iload_n 3, 1) := by decide +kernel
theorem dX12_lostByAll_68 : decode cX12_lostByAll 68 = .ok (.iload 5, 2) := by decide +kernel
theorem dX12_lostByAll_70 : decode cX12_lostByAll 70 = .ok (.iadd, 1) := by decide +kernel
theorem dX12_lostByAll_71 : decode cX12_lostByAll 71 = .ok (.istore_n 3, 1) := by decide +kernel
theorem dX12_lostByAll_72 : decode cX12_lostByAll 72 = .ok (.iinc 4 1, 3) := by decide +kernel
theorem dX12_lostByAll_75 : decode cX12_lostByAll 75 = .ok (.goto (-69), 3) := by decide +kernel
theorem dX12_lostByAll_78 : decode cX12_lostByAll 78 = .ok (.iload_n 3, 1) := by decide +kernel
theorem dX12_lostByAll_79 : decode cX12_lostByAll 79 = .ok (.ireturn, 1) := by decide +kernel
def f_X12_lostByAll_43 (v1 : Int32) (v2 : Int32) (v3 : Int32) (v4 : Int32) (k6 : Int32 → Int32 → gSt → Option (Int32 × gSt)) (vs0 : Int32) (σ : gSt) : Option (Int32 × gSt) :=
  if vs0 = (-2) then
    k6 v3 (v4 + 1) σ
  else
    if v3 = (-2) then
      k6 vs0 (v4 + 1) σ
    else
      k6 (v3 + vs0) (v4 + 1) σ
def f_X12_lostByAll_6 (v1 : Int32) (v2 : Int32) : Nat → Int32 → Int32 → gSt → Option (Int32 × gSt)
  | 0, _, _, _ => none
  | n + 1, v3, v4, σ =>
    (gld σ 30 0 397 1).bind fun a13 =>
    if a13 ≤ v4 then
      some (v3, σ)
    else
      (gld σ 30 0 397 (37 + v4)).bind fun a26 =>
      if a26 = v1 then
        (f_X12_lostOn v4 v2 σ).bind fun p35 =>
        f_X12_lostByAll_43 v1 v2 v3 v4 (fun v3 v4 σ => f_X12_lostByAll_6 v1 v2 n v3 v4 σ) p35.1 p35.2
      else
        f_X12_lostByAll_43 v1 v2 v3 v4 (fun v3 v4 σ => f_X12_lostByAll_6 v1 v2 n v3 v4 σ) (-2) σ
def f_X12_lostByAll (v1 : Int32) (v2 : Int32) (σ : gSt) : Option (Int32 × gSt) :=
  f_X12_lostByAll_6 v1 v2 gFuel (-2) 0 σ
theorem f_X12_lostByAll_43_ok {v1 : Int32} {v2 : Int32} {v3 : Int32} {v4 : Int32} {k6 : Int32 → Int32 → gSt → Option (Int32 × gSt)} {vs0 : Int32} {r : (Int32 × gSt)} (hk6 : ∀ {v3 : Int32} {v4 : Int32} {σ : gSt} {x5 : Option Value}, k6 v3 v4 σ = some r → G l w 0 41 RX12 cX12_lostByAll 6 (some .int) 8 193 (gE (some (.int r.1)) r.2) 6 [some (.ref (w.2.1 28 0)), some (.int v1), some (.int v2), some (.int v3), some (.int v4), x5] [] σ) {σ : gSt} {x5 : Option Value} (h : f_X12_lostByAll_43 v1 v2 v3 v4 k6 vs0 σ = some r) : G l w 0 41 RX12 cX12_lostByAll 6 (some .int) 8 193 (gE (some (.int r.1)) r.2) 43 [some (.ref (w.2.1 28 0)), some (.int v1), some (.int v2), some (.int v3), some (.int v4), x5] [.int vs0] σ := by
  unfold f_X12_lostByAll_43 at h
  refine g_istore5 dX12_lostByAll_43 ?_
  refine g_iload dX12_lostByAll_45 rfl ?_
  refine g_bipush dX12_lostByAll_47 kb_m2 ?_
  refine g_icmp_ne 56 dX12_lostByAll_49 rfl (fun q => ?_) (fun q => ?_)
  · replace h := gif_f q h
    refine g_iload_n dX12_lostByAll_56 rfl ?_
    refine g_bipush dX12_lostByAll_57 kb_m2 ?_
    refine g_icmp_ne 67 dX12_lostByAll_59 rfl (fun q => ?_) (fun q => ?_)
    · replace h := gif_f q h
      refine g_iload_n dX12_lostByAll_67 rfl ?_
      refine g_iload dX12_lostByAll_68 rfl ?_
      refine g_iadd dX12_lostByAll_70 ?_
      refine g_istore3 dX12_lostByAll_71 ?_
      refine g_inc4 kc_1 dX12_lostByAll_72 ?_
      refine g_goto 6 dX12_lostByAll_75 rfl ?_
      exact hk6 h
    · replace h := gif_t q h
      refine g_iload dX12_lostByAll_62 rfl ?_
      refine g_goto 71 dX12_lostByAll_64 rfl ?_
      refine g_istore3 dX12_lostByAll_71 ?_
      refine g_inc4 kc_1 dX12_lostByAll_72 ?_
      refine g_goto 6 dX12_lostByAll_75 rfl ?_
      exact hk6 h
  · replace h := gif_t q h
    refine g_iload_n dX12_lostByAll_52 rfl ?_
    refine g_goto 71 dX12_lostByAll_53 rfl ?_
    refine g_istore3 dX12_lostByAll_71 ?_
    refine g_inc4 kc_1 dX12_lostByAll_72 ?_
    refine g_goto 6 dX12_lostByAll_75 rfl ?_
    exact hk6 h
theorem f_X12_lostByAll_6_ok {v1 : Int32} {v2 : Int32} {r : (Int32 × gSt)}  : ∀ (n : Nat) {v3 : Int32} {v4 : Int32} {σ : gSt} {x5 : Option Value}, f_X12_lostByAll_6 v1 v2 n v3 v4 σ = some r → G l w 0 41 RX12 cX12_lostByAll 6 (some .int) 8 193 (gE (some (.int r.1)) r.2) 6 [some (.ref (w.2.1 28 0)), some (.int v1), some (.int v2), some (.int v3), some (.int v4), x5] [] σ := by
  intro n
  induction n with
  | zero => intro v3 v4 σ x5 h; rw [f_X12_lostByAll_6] at h; cases h
  | succ n ih =>
    intro v3 v4 σ x5 h
    rw [f_X12_lostByAll_6] at h
    refine g_iload dX12_lostByAll_6 rfl ?_
    refine g_aload_n dX12_lostByAll_8 rfl ?_
    refine gR_X12_17 ok_28 dX12_lostByAll_9 ?_
    refine g_iconst dX12_lostByAll_12 kc_1 ?_
    obtain ⟨a13, e13, h⟩ := obind h
    refine g_ldB e13 ok_30 rfl rfl (by decide) dX12_lostByAll_13 ?_
    refine g_icmp_ge 78 dX12_lostByAll_14 rfl (fun q => ?_) (fun q => ?_)
    · replace h := gif_t q h
      refine g_iload_n dX12_lostByAll_78 rfl ?_
      cases h
      exact g_iret dX12_lostByAll_79 rfl ⟨rfl, rfl⟩
    · replace h := gif_f q h
      refine g_aload_n dX12_lostByAll_17 rfl ?_
      refine gR_X12_17 ok_28 dX12_lostByAll_18 ?_
      refine g_bipush dX12_lostByAll_21 kb_37 ?_
      refine g_iload dX12_lostByAll_23 rfl ?_
      refine g_iadd dX12_lostByAll_25 ?_
      obtain ⟨a26, e26, h⟩ := obind h
      refine g_ldB e26 ok_30 rfl rfl (by decide) dX12_lostByAll_26 ?_
      refine g_iload_n dX12_lostByAll_27 rfl ?_
      refine g_icmp_ne 41 dX12_lostByAll_28 rfl (fun q => ?_) (fun q => ?_)
      · replace h := gif_f q h
        refine g_bipush dX12_lostByAll_41 kb_m2 ?_
        exact f_X12_lostByAll_43_ok (fun h => ih h) h
      · replace h := gif_t q h
        refine g_aload_n dX12_lostByAll_31 rfl ?_
        refine g_iload dX12_lostByAll_32 rfl ?_
        refine g_iload_n dX12_lostByAll_34 rfl ?_
        obtain ⟨p35, e35, h⟩ := obind h
        refine g_vP2 mv_X12_282 dX12_lostByAll_35 ok_28 ⟨by decide, by decide⟩ (Nat.le_of_ble_eq_true rfl) (f_X12_lostOn_ok e35) ?_
        refine g_goto 43 dX12_lostByAll_38 rfl ?_
        exact f_X12_lostByAll_43_ok (fun h => ih h) h
theorem f_X12_lostByAll_ok {v1 : Int32} {v2 : Int32}  {σ : gSt} {r : (Int32 × gSt)} (h : f_X12_lostByAll v1 v2 σ = some r) : Mt l w 0 41 yX12_lostByAll cX12_lostByAll 6 (some .int) 8 193 [.ref (w.2.1 28 0), .int v1, .int v2] σ (gE (some (.int r.1)) r.2) := by
  unfold f_X12_lostByAll at h
  refine g_start pn_X12 rfl rfl (Nat.le_of_ble_eq_true rfl) ?_
  show G l w 0 41 RX12 cX12_lostByAll 6 (some .int) 8 193 (gE (some (.int r.1)) r.2) 0 [some (.ref (w.2.1 28 0)), some (.int v1), some (.int v2), none, none, none] [] σ
  refine g_bipush dX12_lostByAll_0 kb_m2 ?_
  refine g_istore3 dX12_lostByAll_2 ?_
  refine g_iconst dX12_lostByAll_3 kc_0 ?_
  refine g_istore4 dX12_lostByAll_4 ?_
  exact f_X12_lostByAll_6_ok gFuel h
theorem dX12_hardest_0 : decode cX12_hardest 0 = .ok (.aload_n 0, 1) := by decide +kernel
theorem dX12_hardest_1 : decode cX12_hardest 1 = .ok (.aload_n 0, 1) := by decide +kernel
theorem dX12_hardest_2 : decode cX12_hardest 2 = .ok (.iload_n 1, 1) := by decide +kernel
theorem dX12_hardest_3 : decode cX12_hardest 3 = .ok (.invokevirtual 184, 3) := by decide +kernel
theorem dX12_hardest_6 : decode cX12_hardest 6 = .ok (.ifCond .eq 16, 3) := by decide +kernel
theorem dX12_hardest_9 : decode cX12_hardest 9 = .ok (.iload_n 2, 1) := by decide +kernel
theorem dX12_hardest_10 : decode cX12_hardest 10 = .ok (.iconst 0, 1) := by decide +kernel
theorem dX12_hardest_11 : decode cX12_hardest 11 = .ok (.iconst 1, 1) := by decide +kernel
theorem dX12_hardest_12 : decode cX12_hardest 12 = .ok (.invokestatic 79, 3) := by decide +kernel
theorem dX12_hardest_15 : decode cX12_hardest 15 = .ok (.ifCond .eq 7, 3) := by decide +kernel
theorem dX12_hardest_18 : decode cX12_hardest 18 = .ok (.iconst 1, 1) := by decide +kernel
theorem dX12_hardest_19 : decode cX12_hardest 19 = .ok (.goto 4, 3) := by decide +kernel
theorem dX12_hardest_22 : decode cX12_hardest 22 = .ok (.iconst 0, 1) := by decide +kernel
theorem dX12_hardest_23 : decode cX12_hardest 23 = .ok (.invokestatic 234, 3) := by decide +kernel
theorem dX12_hardest_26 : decode cX12_hardest 26 = .ok (.invokevirtual 161, 3) := by decide +kernel
theorem dX12_hardest_29 : decode cX12_hardest 29 = .ok (.ifCond .eq 5, 3) := by decide +kernel
theorem dX12_hardest_32 : decode cX12_hardest 32 = .ok (.iconst (-1), 1) := by decide +kernel
theorem dX12_hardest_33 : decode cX12_hardest 33 = .ok (.ireturn, 1) := by decide +kernel
theorem dX12_hardest_34 : decode cX12_hardest 34 = .ok (.bipush (-2), 2) := by decide +kernel
theorem dX12_hardest_36 : decode cX12_hardest 36 = .ok (.istore_n 3, 1) := by decide +kernel
theorem dX12_hardest_37 : decode cX12_hardest 37 = .ok (.bipush (-2), 2) := by decide +kernel
theorem dX12_hardest_39 : decode cX12_hardest 39 = .ok (.istore 4, 2) := by decide +kernel
theorem dX12_hardest_41 : decode cX12_hardest 41 = .ok (.iconst 0, 1) := by decide +kernel
theorem dX12_hardest_42 : decode cX12_hardest 42 = .ok (.istore 5, 2) := by decide +kernel
theorem dX12_hardest_44 : decode cX12_hardest 44 = .ok (.iload 5, 2) := by decide +kernel
theorem dX12_hardest_46 : decode cX12_hardest 46 = .ok (.aload_n 0, 1) := by decide +kernel
theorem dX12_hardest_47 : decode cX12_hardest 47 = .ok (.getfield 17, 3) := by decide +kernel
theorem dX12_hardest_50 : decode cX12_hardest 50 = .ok (.iconst 4, 1) := by decide +kernel
theorem dX12_hardest_51 : decode cX12_hardest 51 = .ok (.iload_n 1, 1) := by decide +kernel
theorem dX12_hardest_52 : decode cX12_hardest 52 = .ok (.iadd, 1) := by decide +kernel
theorem dX12_hardest_53 : decode cX12_hardest 53 = .ok (.iaload, 1) := by decide +kernel
theorem dX12_hardest_54 : decode cX12_hardest 54 = .ok (.if_icmp .gt 45, 3) := by decide +kernel
theorem dX12_hardest_57 : decode cX12_hardest 57 = .ok (.aload_n 0, 1) := by decide +kernel
theorem dX12_hardest_58 : decode cX12_hardest 58 = .ok (.iload_n 1, 1) := by decide +kernel
theorem dX12_hardest_59 : decode cX12_hardest 59 = .ok (.iload 5, 2) := by decide +kernel
theorem dX12_hardest_61 : decode cX12_hardest 61 = .ok (.invokevirtual 285, 3) := by decide +kernel
theorem dX12_hardest_64 : decode cX12_hardest 64 = .ok (.istore 6, 2) := by decide +kernel
theorem dX12_hardest_66 : decode cX12_hardest 66 = .ok (.iload 6, 2) := by decide +kernel
theorem dX12_hardest_68 : decode cX12_hardest 68 = .ok (.bipush (-2), 2) := by decide +kernel
theorem dX12_hardest_70 : decode cX12_hardest 70 = .ok (.if_icmp .eq 23, 3) := by decide +kernel
theorem dX12_hardest_73 : decode cX12_hardest 73 = .ok (.iload_n 3, 1) := by decide +kernel
theorem dX12_hardest_74 : decode cX12_hardest 74 = .ok (.bipush (-2), 2) := by decide +kernel
theorem dX12_hardest_76 : decode cX12_hardest 76 = .ok (.if_icmp .eq 10, 3) := by decide +kernel
theorem dX12_hardest_79 : decode cX12_hardest 79 = .ok (.iload 6, 2) := by decide +kernel
theorem dX12_hardest_81 : decode cX12_hardest 81 = .ok (.iload 4, 2) := by decide +kernel
theorem dX12_hardest_83 : decode cX12_hardest 83 = .ok (.if_icmp .le 10, 3) := by decide +kernel
theorem dX12_hardest_86 : decode cX12_hardest 86 = .ok (.iload 5, 2) := by decide +kernel
theorem dX12_hardest_88 : decode cX12_hardest 88 = .ok (.istore_n 3, 1) := by decide +kernel
theorem dX12_hardest_89 : decode cX12_hardest 89 = .ok (.iload 6, 2) := by decide +kernel
theorem dX12_hardest_91 : decode cX12_hardest 91 = .ok (.istore 4, 2) := by decide +kernel
theorem dX12_hardest_93 : decode cX12_hardest 93 = .ok (.iinc 5 1, 3) := by decide +kernel
theorem dX12_hardest_96 : decode cX12_hardest 96 = .ok (.goto (-52), 3) := by decide +kernel
theorem dX12_hardest_99 : decode cX12_hardest 99 = .ok (.iload_n 2, 1) := by decide +kernel
theorem dX12_hardest_100 : decode cX12_hardest 100 = .ok (.ifCond .ne 7, 3) := by decide +kernel
theorem dX12_hardest_103 : decode cX12_hardest 103 = .ok (.iload_n 3, 1) := by decide +kernel
theorem dX12_hardest_104 : decode cX12_hardest 104 = .ok (.goto 5, 3) := by decide +kernel
theorem dX12_hardest_107 : decode cX12_hardest 107 = .ok (.iload 4, 2) := by decide +kernel
theorem dX12_hardest_109 : decode cX12_hardest 109 = .ok (.ireturn, 1) := by decide +kernel
def f_X12_hardest_44 (v1 : Int32) (v2 : Int32) : Nat → Int32 → Int32 → Int32 → gSt → Option (Int32 × gSt)
  | 0, _, _, _, _ => none
  | n + 1, v3, v4, v5, σ =>
    (gld σ 30 0 397 (4 + v1)).bind fun a53 =>
    if a53 < v5 then
      if v2 = 0 then
        some (v3, σ)
      else
        some (v4, σ)
    else
      (f_X12_lostByAll v1 v5 σ).bind fun p61 =>
      if p61.1 = (-2) then
        f_X12_hardest_44 v1 v2 n v3 v4 (v5 + 1) p61.2
      else
        if v3 = (-2) then
          f_X12_hardest_44 v1 v2 n v5 p61.1 (v5 + 1) p61.2
        else
          if p61.1 ≤ v4 then
            f_X12_hardest_44 v1 v2 n v3 v4 (v5 + 1) p61.2
          else
            f_X12_hardest_44 v1 v2 n v5 p61.1 (v5 + 1) p61.2
def f_X12_hardest_23 (v1 : Int32) (v2 : Int32) (vs1 : Int32) (σ : gSt) : Option (Int32 × gSt) :=
  (f_X12_unless vs1 σ).bind fun p23 =>
  (f_X12_isRefused p23.1 p23.2).bind fun p26 =>
  if p26.1 = 0 then
    f_X12_hardest_44 v1 v2 gFuel (-2) (-2) 0 p26.2
  else
    some ((-1), p26.2)
def f_X12_hardest_22 (v1 : Int32) (v2 : Int32) (σ : gSt) : Option (Int32 × gSt) :=
  f_X12_hardest_23 v1 v2 0 σ
def f_X12_hardest (v1 : Int32) (v2 : Int32) (σ : gSt) : Option (Int32 × gSt) :=
  (f_X12_isCourse v1 σ).bind fun p3 =>
  if p3.1 = 0 then
    f_X12_hardest_22 v1 v2 p3.2
  else
    (f_X12_in v2 0 1 p3.2).bind fun p12 =>
    if p12.1 = 0 then
      f_X12_hardest_22 v1 v2 p12.2
    else
      f_X12_hardest_23 v1 v2 1 p12.2
theorem f_X12_hardest_44_ok {v1 : Int32} {v2 : Int32} {r : (Int32 × gSt)}  : ∀ (n : Nat) {v3 : Int32} {v4 : Int32} {v5 : Int32} {σ : gSt} {x6 : Option Value}, f_X12_hardest_44 v1 v2 n v3 v4 v5 σ = some r → G l w 0 41 RX12 cX12_hardest 7 (some .int) 9 218 (gE (some (.int r.1)) r.2) 44 [some (.ref (w.2.1 28 0)), some (.int v1), some (.int v2), some (.int v3), some (.int v4), some (.int v5), x6] [] σ := by
  intro n
  induction n with
  | zero => intro v3 v4 v5 σ x6 h; rw [f_X12_hardest_44] at h; cases h
  | succ n ih =>
    intro v3 v4 v5 σ x6 h
    rw [f_X12_hardest_44] at h
    refine g_iload dX12_hardest_44 rfl ?_
    refine g_aload_n dX12_hardest_46 rfl ?_
    refine gR_X12_17 ok_28 dX12_hardest_47 ?_
    refine g_iconst dX12_hardest_50 kc_4 ?_
    refine g_iload_n dX12_hardest_51 rfl ?_
    refine g_iadd dX12_hardest_52 ?_
    obtain ⟨a53, e53, h⟩ := obind h
    refine g_ldB e53 ok_30 rfl rfl (by decide) dX12_hardest_53 ?_
    refine g_icmp_gt 99 dX12_hardest_54 rfl (fun q => ?_) (fun q => ?_)
    · replace h := gif_t q h
      refine g_iload_n dX12_hardest_99 rfl ?_
      refine g_if_ne 107 dX12_hardest_100 rfl (fun q => ?_) (fun q => ?_)
      · replace h := gif_f q h
        refine g_iload dX12_hardest_107 rfl ?_
        cases h
        exact g_iret dX12_hardest_109 rfl ⟨rfl, rfl⟩
      · replace h := gif_t q h
        refine g_iload_n dX12_hardest_103 rfl ?_
        refine g_goto 109 dX12_hardest_104 rfl ?_
        cases h
        exact g_iret dX12_hardest_109 rfl ⟨rfl, rfl⟩
    · replace h := gif_f q h
      refine g_aload_n dX12_hardest_57 rfl ?_
      refine g_iload_n dX12_hardest_58 rfl ?_
      refine g_iload dX12_hardest_59 rfl ?_
      obtain ⟨p61, e61, h⟩ := obind h
      refine g_vP2 mv_X12_285 dX12_hardest_61 ok_28 ⟨by decide, by decide⟩ (Nat.le_of_ble_eq_true rfl) (f_X12_lostByAll_ok e61) ?_
      refine g_istore6 dX12_hardest_64 ?_
      refine g_iload dX12_hardest_66 rfl ?_
      refine g_bipush dX12_hardest_68 kb_m2 ?_
      refine g_icmp_eq 93 dX12_hardest_70 rfl (fun q => ?_) (fun q => ?_)
      · replace h := gif_t q h
        refine g_inc5 kc_1 dX12_hardest_93 ?_
        refine g_goto 44 dX12_hardest_96 rfl ?_
        exact ih h
      · replace h := gif_f q h
        refine g_iload_n dX12_hardest_73 rfl ?_
        refine g_bipush dX12_hardest_74 kb_m2 ?_
        refine g_icmp_eq 86 dX12_hardest_76 rfl (fun q => ?_) (fun q => ?_)
        · replace h := gif_t q h
          refine g_iload dX12_hardest_86 rfl ?_
          refine g_istore3 dX12_hardest_88 ?_
          refine g_iload dX12_hardest_89 rfl ?_
          refine g_istore4 dX12_hardest_91 ?_
          refine g_inc5 kc_1 dX12_hardest_93 ?_
          refine g_goto 44 dX12_hardest_96 rfl ?_
          exact ih h
        · replace h := gif_f q h
          refine g_iload dX12_hardest_79 rfl ?_
          refine g_iload dX12_hardest_81 rfl ?_
          refine g_icmp_le 93 dX12_hardest_83 rfl (fun q => ?_) (fun q => ?_)
          · replace h := gif_t q h
            refine g_inc5 kc_1 dX12_hardest_93 ?_
            refine g_goto 44 dX12_hardest_96 rfl ?_
            exact ih h
          · replace h := gif_f q h
            refine g_iload dX12_hardest_86 rfl ?_
            refine g_istore3 dX12_hardest_88 ?_
            refine g_iload dX12_hardest_89 rfl ?_
            refine g_istore4 dX12_hardest_91 ?_
            refine g_inc5 kc_1 dX12_hardest_93 ?_
            refine g_goto 44 dX12_hardest_96 rfl ?_
            exact ih h
theorem f_X12_hardest_23_ok {v1 : Int32} {v2 : Int32} {vs1 : Int32} {r : (Int32 × gSt)}  {σ : gSt} {x3 x4 x5 x6 : Option Value} (h : f_X12_hardest_23 v1 v2 vs1 σ = some r) : G l w 0 41 RX12 cX12_hardest 7 (some .int) 9 218 (gE (some (.int r.1)) r.2) 23 [some (.ref (w.2.1 28 0)), some (.int v1), some (.int v2), x3, x4, x5, x6] [.int vs1, .ref (w.2.1 28 0)] σ := by
  unfold f_X12_hardest_23 at h
  obtain ⟨p23, e23, h⟩ := obind h
  refine g_sP1 ms_X12_234 dX12_hardest_23 ⟨by decide, by decide⟩ (Nat.le_of_ble_eq_true rfl) (f_X12_unless_ok e23) ?_
  obtain ⟨p26, e26, h⟩ := obind h
  refine g_vP1 mv_X12_161 dX12_hardest_26 ok_28 ⟨by decide, by decide⟩ (Nat.le_of_ble_eq_true rfl) (f_X12_isRefused_ok e26) ?_
  refine g_if_eq 34 dX12_hardest_29 rfl (fun q => ?_) (fun q => ?_)
  · replace h := gif_t q h
    refine g_bipush dX12_hardest_34 kb_m2 ?_
    refine g_istore3 dX12_hardest_36 ?_
    refine g_bipush dX12_hardest_37 kb_m2 ?_
    refine g_istore4 dX12_hardest_39 ?_
    refine g_iconst dX12_hardest_41 kc_0 ?_
    refine g_istore5 dX12_hardest_42 ?_
    exact f_X12_hardest_44_ok gFuel h
  · replace h := gif_f q h
    refine g_iconst dX12_hardest_32 kc_m1 ?_
    cases h
    exact g_iret dX12_hardest_33 rfl ⟨rfl, rfl⟩
theorem f_X12_hardest_22_ok {v1 : Int32} {v2 : Int32} {r : (Int32 × gSt)}  {σ : gSt} {x3 x4 x5 x6 : Option Value} (h : f_X12_hardest_22 v1 v2 σ = some r) : G l w 0 41 RX12 cX12_hardest 7 (some .int) 9 218 (gE (some (.int r.1)) r.2) 22 [some (.ref (w.2.1 28 0)), some (.int v1), some (.int v2), x3, x4, x5, x6] [.ref (w.2.1 28 0)] σ := by
  unfold f_X12_hardest_22 at h
  refine g_iconst dX12_hardest_22 kc_0 ?_
  exact f_X12_hardest_23_ok h
theorem f_X12_hardest_ok {v1 : Int32} {v2 : Int32}  {σ : gSt} {r : (Int32 × gSt)} (h : f_X12_hardest v1 v2 σ = some r) : Mt l w 0 41 yX12_hardest cX12_hardest 7 (some .int) 9 218 [.ref (w.2.1 28 0), .int v1, .int v2] σ (gE (some (.int r.1)) r.2) := by
  unfold f_X12_hardest at h
  refine g_start pn_X12 rfl rfl (Nat.le_of_ble_eq_true rfl) ?_
  show G l w 0 41 RX12 cX12_hardest 7 (some .int) 9 218 (gE (some (.int r.1)) r.2) 0 [some (.ref (w.2.1 28 0)), some (.int v1), some (.int v2), none, none, none, none] [] σ
  refine g_aload_n dX12_hardest_0 rfl ?_
  refine g_aload_n dX12_hardest_1 rfl ?_
  refine g_iload_n dX12_hardest_2 rfl ?_
  obtain ⟨p3, e3, h⟩ := obind h
  refine g_vP1 mv_X12_184 dX12_hardest_3 ok_28 ⟨by decide, by decide⟩ (Nat.le_of_ble_eq_true rfl) (f_X12_isCourse_ok e3) ?_
  refine g_if_eq 22 dX12_hardest_6 rfl (fun q => ?_) (fun q => ?_)
  · replace h := gif_t q h
    exact f_X12_hardest_22_ok h
  · replace h := gif_f q h
    refine g_iload_n dX12_hardest_9 rfl ?_
    refine g_iconst dX12_hardest_10 kc_0 ?_
    refine g_iconst dX12_hardest_11 kc_1 ?_
    obtain ⟨p12, e12, h⟩ := obind h
    refine g_sP3 ms_X12_79 dX12_hardest_12 ⟨by decide, by decide⟩ (Nat.le_of_ble_eq_true rfl) (f_X12_in_ok e12) ?_
    refine g_if_eq 22 dX12_hardest_15 rfl (fun q => ?_) (fun q => ?_)
    · replace h := gif_t q h
      exact f_X12_hardest_22_ok h
    · replace h := gif_f q h
      refine g_iconst dX12_hardest_18 kc_1 ?_
      refine g_goto 23 dX12_hardest_19 rfl ?_
      exact f_X12_hardest_23_ok h
theorem dX12_without_0 : decode cX12_without 0 = .ok (.aload_n 0, 1) := by decide +kernel
theorem dX12_without_1 : decode cX12_without 1 = .ok (.aload_n 0, 1) := by decide +kernel
theorem dX12_without_2 : decode cX12_without 2 = .ok (.iload_n 1, 1) := by decide +kernel
theorem dX12_without_3 : decode cX12_without 3 = .ok (.iload_n 2, 1) := by decide +kernel
theorem dX12_without_4 : decode cX12_without 4 = .ok (.invokevirtual 190, 3) := by decide +kernel
theorem dX12_without_7 : decode cX12_without 7 = .ok (.ifCond .eq 16, 3) := by decide +kernel
theorem dX12_without_10 : decode cX12_without 10 = .ok (.iload_n 3, 1) := by decide +kernel
theorem dX12_without_11 : decode cX12_without 11 = .ok (.iconst 0, 1) := by decide +kernel
theorem dX12_without_12 : decode cX12_without 12 = .ok (.iconst 1, 1) := by decide +kernel
theorem dX12_without_13 : decode cX12_without 13 = .ok (.invokestatic 79, 3) := by decide +kernel
theorem dX12_without_16 : decode cX12_without 16 = .ok (.ifCond .eq 7, 3) := by decide +kernel
theorem dX12_without_19 : decode cX12_without 19 = .ok (.iconst 1, 1) := by decide +kernel
theorem dX12_without_20 : decode cX12_without 20 = .ok (.goto 4, 3) := by decide +kernel
theorem dX12_without_23 : decode cX12_without 23 = .ok (.iconst 0, 1) := by decide +kernel
theorem dX12_without_24 : decode cX12_without 24 = .ok (.invokestatic 234, 3) := by decide +kernel
theorem dX12_without_27 : decode cX12_without 27 = .ok (.invokevirtual 161, 3) := by decide +kernel
theorem dX12_without_30 : decode cX12_without 30 = .ok (.ifCond .eq 5, 3) := by decide +kernel
theorem dX12_without_33 : decode cX12_without 33 = .ok (.iconst (-1), 1) := by decide +kernel
theorem dX12_without_34 : decode cX12_without 34 = .ok (.ireturn, 1) := by decide +kernel
theorem dX12_without_35 : decode cX12_without 35 = .ok (.bipush (-2), 2) := by decide +kernel
theorem dX12_without_37 : decode cX12_without 37 = .ok (.istore 4, 2) := by decide +kernel
theorem dX12_without_39 : decode cX12_without 39 = .ok (.bipush (-2), 2) := by decide +kernel
theorem dX12_without_41 : decode cX12_without 41 = .ok (.istore 5, 2) := by decide +kernel
theorem dX12_without_43 : decode cX12_without 43 = .ok (.iconst 0, 1) := by decide +kernel
theorem dX12_without_44 : decode cX12_without 44 = .ok (.istore 6, 2) := by decide +kernel
theorem dX12_without_46 : decode cX12_without 46 = .ok (.iload 6, 2) := by decide +kernel
theorem dX12_without_48 : decode cX12_without 48 = .ok (.aload_n 0, 1) := by decide +kernel
theorem dX12_without_49 : decode cX12_without 49 = .ok (.getfield 17, 3) := by decide +kernel
theorem dX12_without_52 : decode cX12_without 52 = .ok (.iconst 1, 1) := by decide +kernel
theorem dX12_without_53 : decode cX12_without 53 = .ok (.iaload, 1) := by decide +kernel
theorem dX12_without_54 : decode cX12_without 54 = .ok (.if_icmp .ge 70, 3) := by decide +kernel
theorem dX12_without_57 : decode cX12_without 57 = .ok (.aload_n 0, 1) := by decide +kernel
theorem dX12_without_58 : decode cX12_without 58 = .ok (.getfield 17, 3) := by decide +kernel
theorem dX12_without_61 : decode cX12_without 61 = .ok (.bipush 37, 2) := by decide +kernel
theorem dX12_without_63 : decode cX12_without 63 = .ok (.iload 6, 2) := by decide +kernel
theorem dX12_without_65 : decode cX12_without 65 = .ok (.iadd, 1) := by decide +kernel
theorem dX12_without_66 : decode cX12_without 66 = .ok (.iaload, 1) := by decide +kernel
theorem dX12_without_67 : decode cX12_without 67 = .ok (.iload_n 1, 1) := by decide +kernel
theorem dX12_without_68 : decode cX12_without 68 = .ok (.if_icmp .ne 50, 3) := by decide +kernel
theorem dX12_without_71 : decode cX12_without 71 = .ok (.aload_n 0, 1) := by decide +kernel
theorem dX12_without_72 : decode cX12_without 72 = .ok (.iload 6, 2) := by decide +kernel
theorem dX12_without_74 : decode cX12_without 74 = .ok (.invokevirtual 215, 3) := by decide +kernel
theorem dX12_without_77 : decode cX12_without 77 = .ok (.ifCond .eq 41, 3) := by decide +kernel
theorem dX12_without_80 : decode cX12_without 80 = .ok (.aload_n 0, 1) := by decide +kernel
theorem dX12_without_81 : decode cX12_without 81 = .ok (.iload 6, 2) := by decide +kernel
theorem dX12_without_83 : decode cX12_without 83 = .ok (.invokevirtual 218, 3) := by decide +kernel
theorem dX12_without_86 : decode cX12_without 86 = .ok (.aload_n 0, 1) := by decide +kernel
theorem dX12_without_87 : decode cX12_without 87 = .ok (.iload 6, 2) := by decide +kernel
theorem dX12_without_89 : decode cX12_without 89 = .ok (.iload_n 2, 1) := by decide +kernel
theorem dX12_without_90 : decode cX12_without 90 = .ok (.invokevirtual 221, 3) := by decide +kernel
theorem dX12_without_93 : decode cX12_without 93 = .ok (.isub, 1) := by decide +kernel
theorem dX12_without_94 : decode cX12_without 94 = .ok (.istore 7, 2) := by decide +kernel
theorem dX12_without_96 : decode cX12_without 96 = .ok (.iload 4, 2) := by decide +kernel
theorem dX12_without_98 : decode cX12_without 98 = .ok (.bipush (-2), 2) := by decide +kernel
theorem dX12_without_100 : decode cX12_without 100 = .ok (.if_icmp .eq 10, 3) := by decide +kernel
theorem dX12_without_103 : decode cX12_without 103 = .ok (.iload 7, 2) := by decide +kernel
theorem dX12_without_105 : decode cX12_without 105 = .ok (.iload 5, 2) := by decide +kernel
theorem dX12_without_107 : decode cX12_without 107 = .ok (.if_icmp .ge 11, 3) := by decide +kernel
theorem dX12_without_110 : decode cX12_without 110 = .ok (.iload 6, 2) := by decide +kernel
theorem dX12_without_112 : decode cX12_without 112 = .ok (.istore 4, 2) := by decide +kernel
theorem dX12_without_114 : decode cX12_without 114 = .ok (.iload 7, 2) := by decide +kernel
theorem dX12_without_116 : decode cX12_without 116 = .ok (.istore 5, 2) := by decide +kernel
theorem dX12_without_118 : decode cX12_without 118 = .ok (.iinc 6 1, 3) := by decide +kernel
theorem dX12_without_121 : decode cX12_without 121 = .ok (.goto (-75), 3) := by decide +kernel
theorem dX12_without_124 : decode cX12_without 124 = .ok (.iload_n 3, 1) := by decide +kernel
theorem dX12_without_125 : decode cX12_without 125 = .ok (.ifCond .ne 8, 3) := by decide +kernel
theorem dX12_without_128 : decode cX12_without 128 = .ok (.iload 4, 2) := by decide +kernel
theorem dX12_without_130 : decode cX12_without 130 = .ok (.goto 5, 3) := by decide +kernel
theorem dX12_without_133 : decode cX12_without 133 = .ok (.iload 5, 2) := by decide +kernel
theorem dX12_without_135 : decode cX12_without 135 = .ok (.ireturn, 1) := by decide +kernel
def f_X12_without_46 (v1 : Int32) (v2 : Int32) (v3 : Int32) : Nat → Int32 → Int32 → Int32 → gSt → Option (Int32 × gSt)
  | 0, _, _, _, _ => none
  | n + 1, v4, v5, v6, σ =>
    (gld σ 30 0 397 1).bind fun a53 =>
    if a53 ≤ v6 then
      if v3 = 0 then
        some (v4, σ)
      else
        some (v5, σ)
    else
      (gld σ 30 0 397 (37 + v6)).bind fun a66 =>
      if a66 = v1 then
        (f_X12_isValid v6 σ).bind fun p74 =>
        if p74.1 = 0 then
          f_X12_without_46 v1 v2 v3 n v4 v5 (v6 + 1) p74.2
        else
          (f_X12_totalOf v6 p74.2).bind fun p83 =>
          (f_X12_legOf v6 v2 p83.2).bind fun p90 =>
          if v4 = (-2) then
            f_X12_without_46 v1 v2 v3 n v6 (p83.1 - p90.1) (v6 + 1) p90.2
          else
            if v5 ≤ (p83.1 - p90.1) then
              f_X12_without_46 v1 v2 v3 n v4 v5 (v6 + 1) p90.2
            else
              f_X12_without_46 v1 v2 v3 n v6 (p83.1 - p90.1) (v6 + 1) p90.2
      else
        f_X12_without_46 v1 v2 v3 n v4 v5 (v6 + 1) σ
def f_X12_without_24 (v1 : Int32) (v2 : Int32) (v3 : Int32) (vs1 : Int32) (σ : gSt) : Option (Int32 × gSt) :=
  (f_X12_unless vs1 σ).bind fun p24 =>
  (f_X12_isRefused p24.1 p24.2).bind fun p27 =>
  if p27.1 = 0 then
    f_X12_without_46 v1 v2 v3 gFuel (-2) (-2) 0 p27.2
  else
    some ((-1), p27.2)
def f_X12_without_23 (v1 : Int32) (v2 : Int32) (v3 : Int32) (σ : gSt) : Option (Int32 × gSt) :=
  f_X12_without_24 v1 v2 v3 0 σ
def f_X12_without (v1 : Int32) (v2 : Int32) (v3 : Int32) (σ : gSt) : Option (Int32 × gSt) :=
  (f_X12_isPoint v1 v2 σ).bind fun p4 =>
  if p4.1 = 0 then
    f_X12_without_23 v1 v2 v3 p4.2
  else
    (f_X12_in v3 0 1 p4.2).bind fun p13 =>
    if p13.1 = 0 then
      f_X12_without_23 v1 v2 v3 p13.2
    else
      f_X12_without_24 v1 v2 v3 1 p13.2
theorem f_X12_without_46_ok {v1 : Int32} {v2 : Int32} {v3 : Int32} {r : (Int32 × gSt)}  : ∀ (n : Nat) {v4 : Int32} {v5 : Int32} {v6 : Int32} {σ : gSt} {x7 : Option Value}, f_X12_without_46 v1 v2 v3 n v4 v5 v6 σ = some r → G l w 0 41 RX12 cX12_without 8 (some .int) 5 120 (gE (some (.int r.1)) r.2) 46 [some (.ref (w.2.1 28 0)), some (.int v1), some (.int v2), some (.int v3), some (.int v4), some (.int v5), some (.int v6), x7] [] σ := by
  intro n
  induction n with
  | zero => intro v4 v5 v6 σ x7 h; rw [f_X12_without_46] at h; cases h
  | succ n ih =>
    intro v4 v5 v6 σ x7 h
    rw [f_X12_without_46] at h
    refine g_iload dX12_without_46 rfl ?_
    refine g_aload_n dX12_without_48 rfl ?_
    refine gR_X12_17 ok_28 dX12_without_49 ?_
    refine g_iconst dX12_without_52 kc_1 ?_
    obtain ⟨a53, e53, h⟩ := obind h
    refine g_ldB e53 ok_30 rfl rfl (by decide) dX12_without_53 ?_
    refine g_icmp_ge 124 dX12_without_54 rfl (fun q => ?_) (fun q => ?_)
    · replace h := gif_t q h
      refine g_iload_n dX12_without_124 rfl ?_
      refine g_if_ne 133 dX12_without_125 rfl (fun q => ?_) (fun q => ?_)
      · replace h := gif_f q h
        refine g_iload dX12_without_133 rfl ?_
        cases h
        exact g_iret dX12_without_135 rfl ⟨rfl, rfl⟩
      · replace h := gif_t q h
        refine g_iload dX12_without_128 rfl ?_
        refine g_goto 135 dX12_without_130 rfl ?_
        cases h
        exact g_iret dX12_without_135 rfl ⟨rfl, rfl⟩
    · replace h := gif_f q h
      refine g_aload_n dX12_without_57 rfl ?_
      refine gR_X12_17 ok_28 dX12_without_58 ?_
      refine g_bipush dX12_without_61 kb_37 ?_
      refine g_iload dX12_without_63 rfl ?_
      refine g_iadd dX12_without_65 ?_
      obtain ⟨a66, e66, h⟩ := obind h
      refine g_ldB e66 ok_30 rfl rfl (by decide) dX12_without_66 ?_
      refine g_iload_n dX12_without_67 rfl ?_
      refine g_icmp_ne 118 dX12_without_68 rfl (fun q => ?_) (fun q => ?_)
      · replace h := gif_f q h
        refine g_inc6 kc_1 dX12_without_118 ?_
        refine g_goto 46 dX12_without_121 rfl ?_
        exact ih h
      · replace h := gif_t q h
        refine g_aload_n dX12_without_71 rfl ?_
        refine g_iload dX12_without_72 rfl ?_
        obtain ⟨p74, e74, h⟩ := obind h
        refine g_vP1 mv_X12_215 dX12_without_74 ok_28 ⟨by decide, by decide⟩ (Nat.le_of_ble_eq_true rfl) (f_X12_isValid_ok e74) ?_
        refine g_if_eq 118 dX12_without_77 rfl (fun q => ?_) (fun q => ?_)
        · replace h := gif_t q h
          refine g_inc6 kc_1 dX12_without_118 ?_
          refine g_goto 46 dX12_without_121 rfl ?_
          exact ih h
        · replace h := gif_f q h
          refine g_aload_n dX12_without_80 rfl ?_
          refine g_iload dX12_without_81 rfl ?_
          obtain ⟨p83, e83, h⟩ := obind h
          refine g_vP1 mv_X12_218 dX12_without_83 ok_28 ⟨by decide, by decide⟩ (Nat.le_of_ble_eq_true rfl) (f_X12_totalOf_ok e83) ?_
          refine g_aload_n dX12_without_86 rfl ?_
          refine g_iload dX12_without_87 rfl ?_
          refine g_iload_n dX12_without_89 rfl ?_
          obtain ⟨p90, e90, h⟩ := obind h
          refine g_vP2 mv_X12_221 dX12_without_90 ok_28 ⟨by decide, by decide⟩ (Nat.le_of_ble_eq_true rfl) (f_X12_legOf_ok e90) ?_
          refine g_isub dX12_without_93 ?_
          refine g_istore7 dX12_without_94 ?_
          refine g_iload dX12_without_96 rfl ?_
          refine g_bipush dX12_without_98 kb_m2 ?_
          refine g_icmp_eq 110 dX12_without_100 rfl (fun q => ?_) (fun q => ?_)
          · replace h := gif_t q h
            refine g_iload dX12_without_110 rfl ?_
            refine g_istore4 dX12_without_112 ?_
            refine g_iload dX12_without_114 rfl ?_
            refine g_istore5 dX12_without_116 ?_
            refine g_inc6 kc_1 dX12_without_118 ?_
            refine g_goto 46 dX12_without_121 rfl ?_
            exact ih h
          · replace h := gif_f q h
            refine g_iload dX12_without_103 rfl ?_
            refine g_iload dX12_without_105 rfl ?_
            refine g_icmp_ge 118 dX12_without_107 rfl (fun q => ?_) (fun q => ?_)
            · replace h := gif_t q h
              refine g_inc6 kc_1 dX12_without_118 ?_
              refine g_goto 46 dX12_without_121 rfl ?_
              exact ih h
            · replace h := gif_f q h
              refine g_iload dX12_without_110 rfl ?_
              refine g_istore4 dX12_without_112 ?_
              refine g_iload dX12_without_114 rfl ?_
              refine g_istore5 dX12_without_116 ?_
              refine g_inc6 kc_1 dX12_without_118 ?_
              refine g_goto 46 dX12_without_121 rfl ?_
              exact ih h
theorem f_X12_without_24_ok {v1 : Int32} {v2 : Int32} {v3 : Int32} {vs1 : Int32} {r : (Int32 × gSt)}  {σ : gSt} {x4 x5 x6 x7 : Option Value} (h : f_X12_without_24 v1 v2 v3 vs1 σ = some r) : G l w 0 41 RX12 cX12_without 8 (some .int) 5 120 (gE (some (.int r.1)) r.2) 24 [some (.ref (w.2.1 28 0)), some (.int v1), some (.int v2), some (.int v3), x4, x5, x6, x7] [.int vs1, .ref (w.2.1 28 0)] σ := by
  unfold f_X12_without_24 at h
  obtain ⟨p24, e24, h⟩ := obind h
  refine g_sP1 ms_X12_234 dX12_without_24 ⟨by decide, by decide⟩ (Nat.le_of_ble_eq_true rfl) (f_X12_unless_ok e24) ?_
  obtain ⟨p27, e27, h⟩ := obind h
  refine g_vP1 mv_X12_161 dX12_without_27 ok_28 ⟨by decide, by decide⟩ (Nat.le_of_ble_eq_true rfl) (f_X12_isRefused_ok e27) ?_
  refine g_if_eq 35 dX12_without_30 rfl (fun q => ?_) (fun q => ?_)
  · replace h := gif_t q h
    refine g_bipush dX12_without_35 kb_m2 ?_
    refine g_istore4 dX12_without_37 ?_
    refine g_bipush dX12_without_39 kb_m2 ?_
    refine g_istore5 dX12_without_41 ?_
    refine g_iconst dX12_without_43 kc_0 ?_
    refine g_istore6 dX12_without_44 ?_
    exact f_X12_without_46_ok gFuel h
  · replace h := gif_f q h
    refine g_iconst dX12_without_33 kc_m1 ?_
    cases h
    exact g_iret dX12_without_34 rfl ⟨rfl, rfl⟩
theorem f_X12_without_23_ok {v1 : Int32} {v2 : Int32} {v3 : Int32} {r : (Int32 × gSt)}  {σ : gSt} {x4 x5 x6 x7 : Option Value} (h : f_X12_without_23 v1 v2 v3 σ = some r) : G l w 0 41 RX12 cX12_without 8 (some .int) 5 120 (gE (some (.int r.1)) r.2) 23 [some (.ref (w.2.1 28 0)), some (.int v1), some (.int v2), some (.int v3), x4, x5, x6, x7] [.ref (w.2.1 28 0)] σ := by
  unfold f_X12_without_23 at h
  refine g_iconst dX12_without_23 kc_0 ?_
  exact f_X12_without_24_ok h
theorem f_X12_without_ok {v1 : Int32} {v2 : Int32} {v3 : Int32}  {σ : gSt} {r : (Int32 × gSt)} (h : f_X12_without v1 v2 v3 σ = some r) : Mt l w 0 41 yX12_without cX12_without 8 (some .int) 5 120 [.ref (w.2.1 28 0), .int v1, .int v2, .int v3] σ (gE (some (.int r.1)) r.2) := by
  unfold f_X12_without at h
  refine g_start pn_X12 rfl rfl (Nat.le_of_ble_eq_true rfl) ?_
  show G l w 0 41 RX12 cX12_without 8 (some .int) 5 120 (gE (some (.int r.1)) r.2) 0 [some (.ref (w.2.1 28 0)), some (.int v1), some (.int v2), some (.int v3), none, none, none, none] [] σ
  refine g_aload_n dX12_without_0 rfl ?_
  refine g_aload_n dX12_without_1 rfl ?_
  refine g_iload_n dX12_without_2 rfl ?_
  refine g_iload_n dX12_without_3 rfl ?_
  obtain ⟨p4, e4, h⟩ := obind h
  refine g_vP2 mv_X12_190 dX12_without_4 ok_28 ⟨by decide, by decide⟩ (Nat.le_of_ble_eq_true rfl) (f_X12_isPoint_ok e4) ?_
  refine g_if_eq 23 dX12_without_7 rfl (fun q => ?_) (fun q => ?_)
  · replace h := gif_t q h
    exact f_X12_without_23_ok h
  · replace h := gif_f q h
    refine g_iload_n dX12_without_10 rfl ?_
    refine g_iconst dX12_without_11 kc_0 ?_
    refine g_iconst dX12_without_12 kc_1 ?_
    obtain ⟨p13, e13, h⟩ := obind h
    refine g_sP3 ms_X12_79 dX12_without_13 ⟨by decide, by decide⟩ (Nat.le_of_ble_eq_true rfl) (f_X12_in_ok e13) ?_
    refine g_if_eq 23 dX12_without_16 rfl (fun q => ?_) (fun q => ?_)
    · replace h := gif_t q h
      exact f_X12_without_23_ok h
    · replace h := gif_f q h
      refine g_iconst dX12_without_19 kc_1 ?_
      refine g_goto 24 dX12_without_20 rfl ?_
      exact f_X12_without_24_ok h
theorem dX12_lost_0 : decode cX12_lost 0 = .ok (.aload_n 0, 1) := by decide +kernel
theorem dX12_lost_1 : decode cX12_lost 1 = .ok (.aload_n 0, 1) := by decide +kernel
theorem dX12_lost_2 : decode cX12_lost 2 = .ok (.iload_n 1, 1) := by decide +kernel
theorem dX12_lost_3 : decode cX12_lost 3 = .ok (.invokevirtual 187, 3) := by decide +kernel
theorem dX12_lost_6 : decode cX12_lost 6 = .ok (.invokestatic 234, 3) := by decide +kernel
theorem dX12_lost_9 : decode cX12_lost 9 = .ok (.invokevirtual 161, 3) := by decide +kernel
theorem dX12_lost_12 : decode cX12_lost 12 = .ok (.ifCond .eq 5, 3) := by decide +kernel
theorem dX12_lost_15 : decode cX12_lost 15 = .ok (.iconst (-1), 1) := by decide +kernel
theorem dX12_lost_16 : decode cX12_lost 16 = .ok (.ireturn, 1) := by decide +kernel
theorem dX12_lost_17 : decode cX12_lost 17 = .ok (.iconst 0, 1) := by decide +kernel
theorem dX12_lost_18 : decode cX12_lost 18 = .ok (.istore_n 2, 1) := by decide +kernel
theorem dX12_lost_19 : decode cX12_lost 19 = .ok (.iconst 0, 1) := by decide +kernel
theorem dX12_lost_20 : decode cX12_lost 20 = .ok (.istore_n 3, 1) := by decide +kernel
theorem dX12_lost_21 : decode cX12_lost 21 = .ok (.iload_n 3, 1) := by decide +kernel
theorem dX12_lost_22 : decode cX12_lost 22 = .ok (.aload_n 0, 1) := by decide +kernel
theorem dX12_lost_23 : decode cX12_lost 23 = .ok (.getfield 17, 3) := by decide +kernel
theorem dX12_lost_26 : decode cX12_lost 26 = .ok (.iconst 4, 1) := by decide +kernel
theorem dX12_lost_27 : decode cX12_lost 27 = .ok (.aload_n 0, 1) := by decide +kernel
theorem dX12_lost_28 : decode cX12_lost 28 = .ok (.getfield 17, 3) := by decide +kernel
theorem dX12_lost_31 : decode cX12_lost 31 = .ok (.bipush 37, 2) := by decide +kernel
theorem dX12_lost_33 : decode cX12_lost 33 = .ok (.iload_n 1, 1) := by decide +kernel
theorem dX12_lost_34 : decode cX12_lost 34 = .ok (.iadd, 1) := by decide +kernel
theorem dX12_lost_35 : decode cX12_lost 35 = .ok (.iaload, 1) := by decide +kernel
theorem dX12_lost_36 : decode cX12_lost 36 = .ok (.iadd, 1) := by decide +kernel
theorem dX12_lost_37 : decode cX12_lost 37 = .ok (.iaload, 1) := by decide +kernel
theorem dX12_lost_38 : decode cX12_lost 38 = .ok (.if_icmp .gt 33, 3) := by decide +kernel
theorem dX12_lost_41 : decode cX12_lost 41 = .ok (.aload_n 0, 1) := by decide +kernel
theorem dX12_lost_42 : decode cX12_lost 42 = .ok (.iload_n 1, 1) := by decide +kernel
theorem dX12_lost_43 : decode cX12_lost 43 = .ok (.iload_n 3, 1) := by decide +kernel
theorem dX12_lost_44 : decode cX12_lost 44 = .ok (.invokevirtual 282, 3) := by decide +kernel
theorem dX12_lost_47 : decode cX12_lost 47 = .ok (.istore 4, 2) := by decide +kernel
theorem dX12_lost_49 : decode cX12_lost 49 = .ok (.iload_n 2, 1) := by decide +kernel
theorem dX12_lost_50 : decode cX12_lost 50 = .ok (.iload 4, 2) := by decide +kernel
theorem dX12_lost_52 : decode cX12_lost 52 = .ok (.bipush (-2), 2) := by decide +kernel
theorem dX12_lost_54 : decode cX12_lost 54 = .ok (.if_icmp .ne 7, 3) := by decide +kernel
theorem dX12_lost_57 : decode cX12_lost 57 = .ok (.iconst 0, 1) := by decide +kernel
theorem dX12_lost_58 : decode cX12_lost 58 = .ok (.goto 5, 3) := by decide +kernel
theorem dX12_lost_61 : decode cX12_lost 61 = .ok (.iload 4, 2) := by decide +kernel
theorem dX12_lost_63 : decode cX12_lost 63 = .ok (.iadd, 1) := by decide +kernel
theorem dX12_lost_64 : decode cX12_lost 64 = .ok (.istore_n 2, 1) := by decide +kernel
theorem dX12_lost_65 : decode cX12_lost 65 = .ok (.iinc 3 1, 3) := by decide +kernel
theorem dX12_lost_68 : decode cX12_lost 68 = .ok (.goto (-47), 3) := by decide +kernel
theorem dX12_lost_71 : decode cX12_lost 71 = .ok (.iload_n 2, 1) := by decide +kernel
theorem dX12_lost_72 : decode cX12_lost 72 = .ok (.ireturn, 1) := by decide +kernel
def f_X12_lost_21 (v1 : Int32) : Nat → Int32 → Int32 → gSt → Option (Int32 × gSt)
  | 0, _, _, _ => none
  | n + 1, v2, v3, σ =>
    (gld σ 30 0 397 (37 + v1)).bind fun a35 =>
    (gld σ 30 0 397 (4 + a35)).bind fun a37 =>
    if a37 < v3 then
      some (v2, σ)
    else
      (f_X12_lostOn v1 v3 σ).bind fun p44 =>
      if p44.1 = (-2) then
        f_X12_lost_21 v1 n (v2 + 0) (v3 + 1) p44.2
      else
        f_X12_lost_21 v1 n (v2 + p44.1) (v3 + 1) p44.2
def f_X12_lost (v1 : Int32) (σ : gSt) : Option (Int32 × gSt) :=
  (f_X12_isRunner v1 σ).bind fun p3 =>
  (f_X12_unless p3.1 p3.2).bind fun p6 =>
  (f_X12_isRefused p6.1 p6.2).bind fun p9 =>
  if p9.1 = 0 then
    f_X12_lost_21 v1 gFuel 0 0 p9.2
  else
    some ((-1), p9.2)
theorem f_X12_lost_21_ok {v1 : Int32} {r : (Int32 × gSt)}  : ∀ (n : Nat) {v2 : Int32} {v3 : Int32} {σ : gSt} {x4 : Option Value}, f_X12_lost_21 v1 n v2 v3 σ = some r → G l w 0 41 RX12 cX12_lost 5 (some .int) 8 193 (gE (some (.int r.1)) r.2) 21 [some (.ref (w.2.1 28 0)), some (.int v1), some (.int v2), some (.int v3), x4] [] σ := by
  intro n
  induction n with
  | zero => intro v2 v3 σ x4 h; rw [f_X12_lost_21] at h; cases h
  | succ n ih =>
    intro v2 v3 σ x4 h
    rw [f_X12_lost_21] at h
    refine g_iload_n dX12_lost_21 rfl ?_
    refine g_aload_n dX12_lost_22 rfl ?_
    refine gR_X12_17 ok_28 dX12_lost_23 ?_
    refine g_iconst dX12_lost_26 kc_4 ?_
    refine g_aload_n dX12_lost_27 rfl ?_
    refine gR_X12_17 ok_28 dX12_lost_28 ?_
    refine g_bipush dX12_lost_31 kb_37 ?_
    refine g_iload_n dX12_lost_33 rfl ?_
    refine g_iadd dX12_lost_34 ?_
    obtain ⟨a35, e35, h⟩ := obind h
    refine g_ldB e35 ok_30 rfl rfl (by decide) dX12_lost_35 ?_
    refine g_iadd dX12_lost_36 ?_
    obtain ⟨a37, e37, h⟩ := obind h
    refine g_ldB e37 ok_30 rfl rfl (by decide) dX12_lost_37 ?_
    refine g_icmp_gt 71 dX12_lost_38 rfl (fun q => ?_) (fun q => ?_)
    · replace h := gif_t q h
      refine g_iload_n dX12_lost_71 rfl ?_
      cases h
      exact g_iret dX12_lost_72 rfl ⟨rfl, rfl⟩
    · replace h := gif_f q h
      refine g_aload_n dX12_lost_41 rfl ?_
      refine g_iload_n dX12_lost_42 rfl ?_
      refine g_iload_n dX12_lost_43 rfl ?_
      obtain ⟨p44, e44, h⟩ := obind h
      refine g_vP2 mv_X12_282 dX12_lost_44 ok_28 ⟨by decide, by decide⟩ (Nat.le_of_ble_eq_true rfl) (f_X12_lostOn_ok e44) ?_
      refine g_istore4 dX12_lost_47 ?_
      refine g_iload_n dX12_lost_49 rfl ?_
      refine g_iload dX12_lost_50 rfl ?_
      refine g_bipush dX12_lost_52 kb_m2 ?_
      refine g_icmp_ne 61 dX12_lost_54 rfl (fun q => ?_) (fun q => ?_)
      · replace h := gif_f q h
        refine g_iload dX12_lost_61 rfl ?_
        refine g_iadd dX12_lost_63 ?_
        refine g_istore2 dX12_lost_64 ?_
        refine g_inc3 kc_1 dX12_lost_65 ?_
        refine g_goto 21 dX12_lost_68 rfl ?_
        exact ih h
      · replace h := gif_t q h
        refine g_iconst dX12_lost_57 kc_0 ?_
        refine g_goto 63 dX12_lost_58 rfl ?_
        refine g_iadd dX12_lost_63 ?_
        refine g_istore2 dX12_lost_64 ?_
        refine g_inc3 kc_1 dX12_lost_65 ?_
        refine g_goto 21 dX12_lost_68 rfl ?_
        exact ih h
theorem f_X12_lost_ok {v1 : Int32}  {σ : gSt} {r : (Int32 × gSt)} (h : f_X12_lost v1 σ = some r) : Mt l w 0 41 yX12_lost cX12_lost 5 (some .int) 8 193 [.ref (w.2.1 28 0), .int v1] σ (gE (some (.int r.1)) r.2) := by
  unfold f_X12_lost at h
  refine g_start pn_X12 rfl rfl (Nat.le_of_ble_eq_true rfl) ?_
  show G l w 0 41 RX12 cX12_lost 5 (some .int) 8 193 (gE (some (.int r.1)) r.2) 0 [some (.ref (w.2.1 28 0)), some (.int v1), none, none, none] [] σ
  refine g_aload_n dX12_lost_0 rfl ?_
  refine g_aload_n dX12_lost_1 rfl ?_
  refine g_iload_n dX12_lost_2 rfl ?_
  obtain ⟨p3, e3, h⟩ := obind h
  refine g_vP1 mv_X12_187 dX12_lost_3 ok_28 ⟨by decide, by decide⟩ (Nat.le_of_ble_eq_true rfl) (f_X12_isRunner_ok e3) ?_
  obtain ⟨p6, e6, h⟩ := obind h
  refine g_sP1 ms_X12_234 dX12_lost_6 ⟨by decide, by decide⟩ (Nat.le_of_ble_eq_true rfl) (f_X12_unless_ok e6) ?_
  obtain ⟨p9, e9, h⟩ := obind h
  refine g_vP1 mv_X12_161 dX12_lost_9 ok_28 ⟨by decide, by decide⟩ (Nat.le_of_ble_eq_true rfl) (f_X12_isRefused_ok e9) ?_
  refine g_if_eq 17 dX12_lost_12 rfl (fun q => ?_) (fun q => ?_)
  · replace h := gif_t q h
    refine g_iconst dX12_lost_17 kc_0 ?_
    refine g_istore2 dX12_lost_18 ?_
    refine g_iconst dX12_lost_19 kc_0 ?_
    refine g_istore3 dX12_lost_20 ?_
    exact f_X12_lost_21_ok gFuel h
  · replace h := gif_f q h
    refine g_iconst dX12_lost_15 kc_m1 ?_
    cases h
    exact g_iret dX12_lost_16 rfl ⟨rfl, rfl⟩
theorem dX12_worst_0 : decode cX12_worst 0 = .ok (.aload_n 0, 1) := by decide +kernel
theorem dX12_worst_1 : decode cX12_worst 1 = .ok (.aload_n 0, 1) := by decide +kernel
theorem dX12_worst_2 : decode cX12_worst 2 = .ok (.iload_n 1, 1) := by decide +kernel
theorem dX12_worst_3 : decode cX12_worst 3 = .ok (.invokevirtual 187, 3) := by decide +kernel
theorem dX12_worst_6 : decode cX12_worst 6 = .ok (.invokestatic 234, 3) := by decide +kernel
theorem dX12_worst_9 : decode cX12_worst 9 = .ok (.invokevirtual 161, 3) := by decide +kernel
theorem dX12_worst_12 : decode cX12_worst 12 = .ok (.ifCond .eq 5, 3) := by decide +kernel
theorem dX12_worst_15 : decode cX12_worst 15 = .ok (.iconst (-1), 1) := by decide +kernel
theorem dX12_worst_16 : decode cX12_worst 16 = .ok (.ireturn, 1) := by decide +kernel
theorem dX12_worst_17 : decode cX12_worst 17 = .ok (.bipush (-2), 2) := by decide +kernel
theorem dX12_worst_19 : decode cX12_worst 19 = .ok (.istore_n 2, 1) := by decide +kernel
theorem dX12_worst_20 : decode cX12_worst 20 = .ok (.iconst 0, 1) := by decide +kernel
theorem dX12_worst_21 : decode cX12_worst 21 = .ok (.istore_n 3, 1) := by decide +kernel
theorem dX12_worst_22 : decode cX12_worst 22 = .ok (.iconst 0, 1) := by decide +kernel
theorem dX12_worst_23 : decode cX12_worst 23 = .ok (.istore 4, 2) := by decide +kernel
theorem dX12_worst_25 : decode cX12_worst 25 = .ok (.iload 4, 2) := by decide +kernel
theorem dX12_worst_27 : decode cX12_worst 27 = .ok (.aload_n 0, 1) := by decide +kernel
theorem dX12_worst_28 : decode cX12_worst 28 = .ok (.getfield 17, 3) := by decide +kernel
theorem dX12_worst_31 : decode cX12_worst 31 = .ok (.iconst 4, 1) := by decide +kernel
theorem dX12_worst_32 : decode cX12_worst 32 = .ok (.aload_n 0, 1) := by decide +kernel
theorem dX12_worst_33 : decode cX12_worst 33 = .ok (.getfield 17, 3) := by decide +kernel
theorem dX12_worst_36 : decode cX12_worst 36 = .ok (.bipush 37, 2) := by decide +kernel
theorem dX12_worst_38 : decode cX12_worst 38 = .ok (.iload_n 1, 1) := by decide +kernel
theorem dX12_worst_39 : decode cX12_worst 39 = .ok (.iadd, 1) := by decide +kernel
theorem dX12_worst_40 : decode cX12_worst 40 = .ok (.iaload, 1) := by decide +kernel
theorem dX12_worst_41 : decode cX12_worst 41 = .ok (.iadd, 1) := by decide +kernel
theorem dX12_worst_42 : decode cX12_worst 42 = .ok (.iaload, 1) := by decide +kernel
theorem dX12_worst_43 : decode cX12_worst 43 = .ok (.if_icmp .gt 43, 3) := by decide +kernel
theorem dX12_worst_46 : decode cX12_worst 46 = .ok (.aload_n 0, 1) := by decide +kernel
theorem dX12_worst_47 : decode cX12_worst 47 = .ok (.iload_n 1, 1) := by decide +kernel
theorem dX12_worst_48 : decode cX12_worst 48 = .ok (.iload 4, 2) := by decide +kernel
theorem dX12_worst_50 : decode cX12_worst 50 = .ok (.invokevirtual 282, 3) := by decide +kernel
theorem dX12_worst_53 : decode cX12_worst 53 = .ok (.istore 5, 2) := by decide +kernel
theorem dX12_worst_55 : decode cX12_worst 55 = .ok (.iload 5, 2) := by decide +kernel
theorem dX12_worst_57 : decode cX12_worst 57 = .ok (.bipush (-2), 2) := by decide +kernel
theorem dX12_worst_59 : decode cX12_worst 59 = .ok (.if_icmp .eq 21, 3) := by decide +kernel
theorem dX12_worst_62 : decode cX12_worst 62 = .ok (.iload_n 2, 1) := by decide +kernel
theorem dX12_worst_63 : decode cX12_worst 63 = .ok (.bipush (-2), 2) := by decide +kernel
theorem dX12_worst_65 : decode cX12_worst 65 = .ok (.if_icmp .eq 9, 3) := by decide +kernel
theorem dX12_worst_68 : decode cX12_worst 68 = .ok (.iload 5, 2) := by decide +kernel
theorem dX12_worst_70 : decode cX12_worst 70 = .ok (.iload_n 3, 1) := by decide +kernel
theorem dX12_worst_71 : decode cX12_worst 71 = .ok (.if_icmp .le 9, 3) := by decide +kernel
theorem dX12_worst_74 : decode cX12_worst 74 = .ok (.iload 4, 2) := by decide +kernel
theorem dX12_worst_76 : decode cX12_worst 76 = .ok (.istore_n 2, 1) := by decide +kernel
theorem dX12_worst_77 : decode cX12_worst 77 = .ok (.iload 5, 2) := by decide +kernel
theorem dX12_worst_79 : decode cX12_worst 79 = .ok (.istore_n 3, 1) := by decide +kernel
theorem dX12_worst_80 : decode cX12_worst 80 = .ok (.iinc 4 1, 3) := by decide +kernel
theorem dX12_worst_83 : decode cX12_worst 83 = .ok (.goto (-58), 3) := by decide +kernel
theorem dX12_worst_86 : decode cX12_worst 86 = .ok (.iload_n 2, 1) := by decide +kernel
theorem dX12_worst_87 : decode cX12_worst 87 = .ok (.ireturn, 1) := by decide +kernel
def f_X12_worst_25 (v1 : Int32) : Nat → Int32 → Int32 → Int32 → gSt → Option (Int32 × gSt)
  | 0, _, _, _, _ => none
  | n + 1, v2, v3, v4, σ =>
    (gld σ 30 0 397 (37 + v1)).bind fun a40 =>
    (gld σ 30 0 397 (4 + a40)).bind fun a42 =>
    if a42 < v4 then
      some (v2, σ)
    else
      (f_X12_lostOn v1 v4 σ).bind fun p50 =>
      if p50.1 = (-2) then
        f_X12_worst_25 v1 n v2 v3 (v4 + 1) p50.2
      else
        if v2 = (-2) then
          f_X12_worst_25 v1 n v4 p50.1 (v4 + 1) p50.2
        else
          if p50.1 ≤ v3 then
            f_X12_worst_25 v1 n v2 v3 (v4 + 1) p50.2
          else
            f_X12_worst_25 v1 n v4 p50.1 (v4 + 1) p50.2
def f_X12_worst (v1 : Int32) (σ : gSt) : Option (Int32 × gSt) :=
  (f_X12_isRunner v1 σ).bind fun p3 =>
  (f_X12_unless p3.1 p3.2).bind fun p6 =>
  (f_X12_isRefused p6.1 p6.2).bind fun p9 =>
  if p9.1 = 0 then
    f_X12_worst_25 v1 gFuel (-2) 0 0 p9.2
  else
    some ((-1), p9.2)
theorem f_X12_worst_25_ok {v1 : Int32} {r : (Int32 × gSt)}  : ∀ (n : Nat) {v2 : Int32} {v3 : Int32} {v4 : Int32} {σ : gSt} {x5 : Option Value}, f_X12_worst_25 v1 n v2 v3 v4 σ = some r → G l w 0 41 RX12 cX12_worst 6 (some .int) 8 193 (gE (some (.int r.1)) r.2) 25 [some (.ref (w.2.1 28 0)), some (.int v1), some (.int v2), some (.int v3), some (.int v4), x5] [] σ := by
  intro n
  induction n with
  | zero => intro v2 v3 v4 σ x5 h; rw [f_X12_worst_25] at h; cases h
  | succ n ih =>
    intro v2 v3 v4 σ x5 h
    rw [f_X12_worst_25] at h
    refine g_iload dX12_worst_25 rfl ?_
    refine g_aload_n dX12_worst_27 rfl ?_
    refine gR_X12_17 ok_28 dX12_worst_28 ?_
    refine g_iconst dX12_worst_31 kc_4 ?_
    refine g_aload_n dX12_worst_32 rfl ?_
    refine gR_X12_17 ok_28 dX12_worst_33 ?_
    refine g_bipush dX12_worst_36 kb_37 ?_
    refine g_iload_n dX12_worst_38 rfl ?_
    refine g_iadd dX12_worst_39 ?_
    obtain ⟨a40, e40, h⟩ := obind h
    refine g_ldB e40 ok_30 rfl rfl (by decide) dX12_worst_40 ?_
    refine g_iadd dX12_worst_41 ?_
    obtain ⟨a42, e42, h⟩ := obind h
    refine g_ldB e42 ok_30 rfl rfl (by decide) dX12_worst_42 ?_
    refine g_icmp_gt 86 dX12_worst_43 rfl (fun q => ?_) (fun q => ?_)
    · replace h := gif_t q h
      refine g_iload_n dX12_worst_86 rfl ?_
      cases h
      exact g_iret dX12_worst_87 rfl ⟨rfl, rfl⟩
    · replace h := gif_f q h
      refine g_aload_n dX12_worst_46 rfl ?_
      refine g_iload_n dX12_worst_47 rfl ?_
      refine g_iload dX12_worst_48 rfl ?_
      obtain ⟨p50, e50, h⟩ := obind h
      refine g_vP2 mv_X12_282 dX12_worst_50 ok_28 ⟨by decide, by decide⟩ (Nat.le_of_ble_eq_true rfl) (f_X12_lostOn_ok e50) ?_
      refine g_istore5 dX12_worst_53 ?_
      refine g_iload dX12_worst_55 rfl ?_
      refine g_bipush dX12_worst_57 kb_m2 ?_
      refine g_icmp_eq 80 dX12_worst_59 rfl (fun q => ?_) (fun q => ?_)
      · replace h := gif_t q h
        refine g_inc4 kc_1 dX12_worst_80 ?_
        refine g_goto 25 dX12_worst_83 rfl ?_
        exact ih h
      · replace h := gif_f q h
        refine g_iload_n dX12_worst_62 rfl ?_
        refine g_bipush dX12_worst_63 kb_m2 ?_
        refine g_icmp_eq 74 dX12_worst_65 rfl (fun q => ?_) (fun q => ?_)
        · replace h := gif_t q h
          refine g_iload dX12_worst_74 rfl ?_
          refine g_istore2 dX12_worst_76 ?_
          refine g_iload dX12_worst_77 rfl ?_
          refine g_istore3 dX12_worst_79 ?_
          refine g_inc4 kc_1 dX12_worst_80 ?_
          refine g_goto 25 dX12_worst_83 rfl ?_
          exact ih h
        · replace h := gif_f q h
          refine g_iload dX12_worst_68 rfl ?_
          refine g_iload_n dX12_worst_70 rfl ?_
          refine g_icmp_le 80 dX12_worst_71 rfl (fun q => ?_) (fun q => ?_)
          · replace h := gif_t q h
            refine g_inc4 kc_1 dX12_worst_80 ?_
            refine g_goto 25 dX12_worst_83 rfl ?_
            exact ih h
          · replace h := gif_f q h
            refine g_iload dX12_worst_74 rfl ?_
            refine g_istore2 dX12_worst_76 ?_
            refine g_iload dX12_worst_77 rfl ?_
            refine g_istore3 dX12_worst_79 ?_
            refine g_inc4 kc_1 dX12_worst_80 ?_
            refine g_goto 25 dX12_worst_83 rfl ?_
            exact ih h
theorem f_X12_worst_ok {v1 : Int32}  {σ : gSt} {r : (Int32 × gSt)} (h : f_X12_worst v1 σ = some r) : Mt l w 0 41 yX12_worst cX12_worst 6 (some .int) 8 193 [.ref (w.2.1 28 0), .int v1] σ (gE (some (.int r.1)) r.2) := by
  unfold f_X12_worst at h
  refine g_start pn_X12 rfl rfl (Nat.le_of_ble_eq_true rfl) ?_
  show G l w 0 41 RX12 cX12_worst 6 (some .int) 8 193 (gE (some (.int r.1)) r.2) 0 [some (.ref (w.2.1 28 0)), some (.int v1), none, none, none, none] [] σ
  refine g_aload_n dX12_worst_0 rfl ?_
  refine g_aload_n dX12_worst_1 rfl ?_
  refine g_iload_n dX12_worst_2 rfl ?_
  obtain ⟨p3, e3, h⟩ := obind h
  refine g_vP1 mv_X12_187 dX12_worst_3 ok_28 ⟨by decide, by decide⟩ (Nat.le_of_ble_eq_true rfl) (f_X12_isRunner_ok e3) ?_
  obtain ⟨p6, e6, h⟩ := obind h
  refine g_sP1 ms_X12_234 dX12_worst_6 ⟨by decide, by decide⟩ (Nat.le_of_ble_eq_true rfl) (f_X12_unless_ok e6) ?_
  obtain ⟨p9, e9, h⟩ := obind h
  refine g_vP1 mv_X12_161 dX12_worst_9 ok_28 ⟨by decide, by decide⟩ (Nat.le_of_ble_eq_true rfl) (f_X12_isRefused_ok e9) ?_
  refine g_if_eq 17 dX12_worst_12 rfl (fun q => ?_) (fun q => ?_)
  · replace h := gif_t q h
    refine g_bipush dX12_worst_17 kb_m2 ?_
    refine g_istore2 dX12_worst_19 ?_
    refine g_iconst dX12_worst_20 kc_0 ?_
    refine g_istore3 dX12_worst_21 ?_
    refine g_iconst dX12_worst_22 kc_0 ?_
    refine g_istore4 dX12_worst_23 ?_
    exact f_X12_worst_25_ok gFuel h
  · replace h := gif_f q h
    refine g_iconst dX12_worst_15 kc_m1 ?_
    cases h
    exact g_iret dX12_worst_16 rfl ⟨rfl, rfl⟩
end MI
