section MI
variable {l : Launch} {w : gWd}
theorem dX11_code_0 : decode cX11_code 0 = .ok (.aload_n 0, 1) := by decide +kernel
theorem dX11_code_1 : decode cX11_code 1 = .ok (.getfield 32, 3) := by decide +kernel
theorem dX11_code_4 : decode cX11_code 4 = .ok (.iload_n 1, 1) := by decide +kernel
theorem dX11_code_5 : decode cX11_code 5 = .ok (.iload_n 2, 1) := by decide +kernel
theorem dX11_code_6 : decode cX11_code 6 = .ok (.invokevirtual 164, 3) := by decide +kernel
theorem dX11_code_9 : decode cX11_code 9 = .ok (.ifCond .ne 9, 3) := by decide +kernel
theorem dX11_code_12 : decode cX11_code 12 = .ok (.aload_n 0, 1) := by decide +kernel
theorem dX11_code_13 : decode cX11_code 13 = .ok (.iconst 1, 1) := by decide +kernel
theorem dX11_code_14 : decode cX11_code 14 = .ok (.invokevirtual 91, 3) := by decide +kernel
theorem dX11_code_17 : decode cX11_code 17 = .ok (.ireturn, 1) := by decide +kernel
theorem dX11_code_18 : decode cX11_code 18 = .ok (.aload_n 0, 1) := by decide +kernel
theorem dX11_code_19 : decode cX11_code 19 = .ok (.aload_n 0, 1) := by decide +kernel
theorem dX11_code_20 : decode cX11_code 20 = .ok (.getfield 32, 3) := by decide +kernel
theorem dX11_code_23 : decode cX11_code 23 = .ok (.iload_n 1, 1) := by decide +kernel
theorem dX11_code_24 : decode cX11_code 24 = .ok (.invokevirtual 143, 3) := by decide +kernel
theorem dX11_code_27 : decode cX11_code 27 = .ok (.iload_n 2, 1) := by decide +kernel
theorem dX11_code_28 : decode cX11_code 28 = .ok (.invokevirtual 168, 3) := by decide +kernel
theorem dX11_code_31 : decode cX11_code 31 = .ok (.invokevirtual 114, 3) := by decide +kernel
theorem dX11_code_34 : decode cX11_code 34 = .ok (.ireturn, 1) := by decide +kernel
def f_X11_code (v1 : Int32) (v2 : Int32) (σ : gSt) : Option (Int32 × gSt) :=
  (f_X4_hasControl 1 v1 v2 σ).bind fun p6 =>
  if p6.1 = 0 then
    (f_X11_refused 1 p6.2).bind fun p14 =>
    some (p14.1, p14.2)
  else
    (f_X4_courseAt 1 v1 p6.2).bind fun p24 =>
    (f_X1_codeAt p24.1 v2 p24.2).bind fun p28 =>
    (f_X11_answered p28.1 p28.2).bind fun p31 =>
    some (p31.1, p31.2)
theorem f_X11_code_ok {v1 : Int32} {v2 : Int32}  {σ : gSt} {r : (Int32 × gSt)} (h : f_X11_code v1 v2 σ = some r) : Mt l w 0 41 yX11_code cX11_code 3 (some .int) 2 43 [.ref (w.2.1 0 0), .int v1, .int v2] σ (gE (some (.int r.1)) r.2) := by
  unfold f_X11_code at h
  refine g_start pn_X11 rfl rfl (Nat.le_of_ble_eq_true rfl) ?_
  show G l w 0 41 RX11 cX11_code 3 (some .int) 2 43 (gE (some (.int r.1)) r.2) 0 [some (.ref (w.2.1 0 0)), some (.int v1), some (.int v2)] [] σ
  refine g_aload_n dX11_code_0 rfl ?_
  refine gR_X11_32 ok_0 dX11_code_1 ?_
  refine g_iload_n dX11_code_4 rfl ?_
  refine g_iload_n dX11_code_5 rfl ?_
  obtain ⟨p6, e6, h⟩ := obind h
  refine g_vP2 mv_X11_164 dX11_code_6 (ok_3 (by decide)) ⟨by decide, by decide⟩ (Nat.le_of_ble_eq_true rfl) (f_X4_hasControl_ok (by decide) e6) ?_
  refine g_if_ne 18 dX11_code_9 rfl (fun q => ?_) (fun q => ?_)
  · replace h := gif_f q h
    refine g_aload_n dX11_code_18 rfl ?_
    refine g_aload_n dX11_code_19 rfl ?_
    refine gR_X11_32 ok_0 dX11_code_20 ?_
    refine g_iload_n dX11_code_23 rfl ?_
    obtain ⟨p24, e24, h⟩ := obind h
    refine g_vR1 mv_X11_143 dX11_code_24 (ok_3 (by decide)) ⟨by decide, by decide⟩ (Nat.le_of_ble_eq_true rfl) (f_X4_courseAt_ok (by decide) e24) (fun b24 => ?_)
    refine g_iload_n dX11_code_27 rfl ?_
    obtain ⟨p28, e28, h⟩ := obind h
    refine g_vP1 mv_X11_168 dX11_code_28 (ok_8 b24) ⟨by decide, by decide⟩ (Nat.le_of_ble_eq_true rfl) (f_X1_codeAt_ok b24 e28) ?_
    obtain ⟨p31, e31, h⟩ := obind h
    refine g_vP1 mv_X11_114 dX11_code_31 ok_0 ⟨by decide, by decide⟩ (Nat.le_of_ble_eq_true rfl) (f_X11_answered_ok e31) ?_
    cases h
    exact g_iret dX11_code_34 rfl ⟨rfl, rfl⟩
  · replace h := gif_t q h
    refine g_aload_n dX11_code_12 rfl ?_
    refine g_iconst dX11_code_13 kc_1 ?_
    obtain ⟨p14, e14, h⟩ := obind h
    refine g_vP1 mv_X11_91 dX11_code_14 ok_0 ⟨by decide, by decide⟩ (Nat.le_of_ble_eq_true rfl) (f_X11_refused_ok e14) ?_
    cases h
    exact g_iret dX11_code_17 rfl ⟨rfl, rfl⟩
theorem dX11_runner_0 : decode cX11_runner 0 = .ok (.aload_n 0, 1) := by decide +kernel
theorem dX11_runner_1 : decode cX11_runner 1 = .ok (.getfield 32, 3) := by decide +kernel
theorem dX11_runner_4 : decode cX11_runner 4 = .ok (.iload_n 1, 1) := by decide +kernel
theorem dX11_runner_5 : decode cX11_runner 5 = .ok (.invokevirtual 171, 3) := by decide +kernel
theorem dX11_runner_8 : decode cX11_runner 8 = .ok (.ifCond .eq 13, 3) := by decide +kernel
theorem dX11_runner_11 : decode cX11_runner 11 = .ok (.iload_n 2, 1) := by decide +kernel
theorem dX11_runner_12 : decode cX11_runner 12 = .ok (.ifCond .lt 9, 3) := by decide +kernel
theorem dX11_runner_15 : decode cX11_runner 15 = .ok (.iload_n 2, 1) := by decide +kernel
theorem dX11_runner_16 : decode cX11_runner 16 = .ok (.bipush 9, 2) := by decide +kernel
theorem dX11_runner_18 : decode cX11_runner 18 = .ok (.if_icmp .le 9, 3) := by decide +kernel
theorem dX11_runner_21 : decode cX11_runner 21 = .ok (.aload_n 0, 1) := by decide +kernel
theorem dX11_runner_22 : decode cX11_runner 22 = .ok (.iconst 1, 1) := by decide +kernel
theorem dX11_runner_23 : decode cX11_runner 23 = .ok (.invokevirtual 91, 3) := by decide +kernel
theorem dX11_runner_26 : decode cX11_runner 26 = .ok (.ireturn, 1) := by decide +kernel
theorem dX11_runner_27 : decode cX11_runner 27 = .ok (.aload_n 0, 1) := by decide +kernel
theorem dX11_runner_28 : decode cX11_runner 28 = .ok (.getfield 32, 3) := by decide +kernel
theorem dX11_runner_31 : decode cX11_runner 31 = .ok (.iload_n 1, 1) := by decide +kernel
theorem dX11_runner_32 : decode cX11_runner 32 = .ok (.invokevirtual 174, 3) := by decide +kernel
theorem dX11_runner_35 : decode cX11_runner 35 = .ok (.astore_n 3, 1) := by decide +kernel
theorem dX11_runner_36 : decode cX11_runner 36 = .ok (.iload_n 2, 1) := by decide +kernel
theorem dX11_runner_37 : decode cX11_runner 37 = .ok (.tableswitch 170 0 8 #[51, 60, 69, 78, 87, 96, 110, 124, 141], 51) := by decide +kernel
theorem dX11_runner_88 : decode cX11_runner 88 = .ok (.aload_n 0, 1) := by decide +kernel
theorem dX11_runner_89 : decode cX11_runner 89 = .ok (.aload_n 3, 1) := by decide +kernel
theorem dX11_runner_90 : decode cX11_runner 90 = .ok (.getfield 178, 3) := by decide +kernel
theorem dX11_runner_93 : decode cX11_runner 93 = .ok (.invokevirtual 114, 3) := by decide +kernel
theorem dX11_runner_96 : decode cX11_runner 96 = .ok (.ireturn, 1) := by decide +kernel
theorem dX11_runner_97 : decode cX11_runner 97 = .ok (.aload_n 0, 1) := by decide +kernel
theorem dX11_runner_98 : decode cX11_runner 98 = .ok (.aload_n 3, 1) := by decide +kernel
theorem dX11_runner_99 : decode cX11_runner 99 = .ok (.getfield 183, 3) := by decide +kernel
theorem dX11_runner_102 : decode cX11_runner 102 = .ok (.invokevirtual 114, 3) := by decide +kernel
theorem dX11_runner_105 : decode cX11_runner 105 = .ok (.ireturn, 1) := by decide +kernel
theorem dX11_runner_106 : decode cX11_runner 106 = .ok (.aload_n 0, 1) := by decide +kernel
theorem dX11_runner_107 : decode cX11_runner 107 = .ok (.aload_n 3, 1) := by decide +kernel
theorem dX11_runner_108 : decode cX11_runner 108 = .ok (.getfield 186, 3) := by decide +kernel
theorem dX11_runner_111 : decode cX11_runner 111 = .ok (.invokevirtual 114, 3) := by decide +kernel
theorem dX11_runner_114 : decode cX11_runner 114 = .ok (.ireturn, 1) := by decide +kernel
theorem dX11_runner_115 : decode cX11_runner 115 = .ok (.aload_n 0, 1) := by decide +kernel
theorem dX11_runner_116 : decode cX11_runner 116 = .ok (.aload_n 3, 1) := by decide +kernel
theorem dX11_runner_117 : decode cX11_runner 117 = .ok (.invokevirtual 189, 3) := by decide +kernel
theorem dX11_runner_120 : decode cX11_runner 120 = .ok (.invokevirtual 114, 3) := by decide +kernel
theorem dX11_runner_123 : decode cX11_runner 123 = .ok (.ireturn, 1) := by decide +kernel
theorem dX11_runner_124 : decode cX11_runner 124 = .ok (.aload_n 0, 1) := by decide +kernel
theorem dX11_runner_125 : decode cX11_runner 125 = .ok (.aload_n 3, 1) := by decide +kernel
theorem dX11_runner_126 : decode cX11_runner 126 = .ok (.getfield 192, 3) := by decide +kernel
theorem dX11_runner_129 : decode cX11_runner 129 = .ok (.invokevirtual 114, 3) := by decide +kernel
theorem dX11_runner_132 : decode cX11_runner 132 = .ok (.ireturn, 1) := by decide +kernel
theorem dX11_runner_133 : decode cX11_runner 133 = .ok (.aload_n 0, 1) := by decide +kernel
theorem dX11_runner_134 : decode cX11_runner 134 = .ok (.aload_n 3, 1) := by decide +kernel
theorem dX11_runner_135 : decode cX11_runner 135 = .ok (.getfield 195, 3) := by decide +kernel
theorem dX11_runner_138 : decode cX11_runner 138 = .ok (.aload_n 3, 1) := by decide +kernel
theorem dX11_runner_139 : decode cX11_runner 139 = .ok (.getfield 196, 3) := by decide +kernel
theorem dX11_runner_142 : decode cX11_runner 142 = .ok (.isub, 1) := by decide +kernel
theorem dX11_runner_143 : decode cX11_runner 143 = .ok (.invokevirtual 114, 3) := by decide +kernel
theorem dX11_runner_146 : decode cX11_runner 146 = .ok (.ireturn, 1) := by decide +kernel
theorem dX11_runner_147 : decode cX11_runner 147 = .ok (.aload_n 0, 1) := by decide +kernel
theorem dX11_runner_148 : decode cX11_runner 148 = .ok (.aload_n 3, 1) := by decide +kernel
theorem dX11_runner_149 : decode cX11_runner 149 = .ok (.getfield 192, 3) := by decide +kernel
theorem dX11_runner_152 : decode cX11_runner 152 = .ok (.aload_n 3, 1) := by decide +kernel
theorem dX11_runner_153 : decode cX11_runner 153 = .ok (.getfield 196, 3) := by decide +kernel
theorem dX11_runner_156 : decode cX11_runner 156 = .ok (.isub, 1) := by decide +kernel
theorem dX11_runner_157 : decode cX11_runner 157 = .ok (.invokevirtual 114, 3) := by decide +kernel
theorem dX11_runner_160 : decode cX11_runner 160 = .ok (.ireturn, 1) := by decide +kernel
theorem dX11_runner_161 : decode cX11_runner 161 = .ok (.aload_n 0, 1) := by decide +kernel
theorem dX11_runner_162 : decode cX11_runner 162 = .ok (.aload_n 3, 1) := by decide +kernel
theorem dX11_runner_163 : decode cX11_runner 163 = .ok (.invokevirtual 199, 3) := by decide +kernel
theorem dX11_runner_166 : decode cX11_runner 166 = .ok (.ifCond .eq 7, 3) := by decide +kernel
theorem dX11_runner_169 : decode cX11_runner 169 = .ok (.iconst 1, 1) := by decide +kernel
theorem dX11_runner_170 : decode cX11_runner 170 = .ok (.goto 4, 3) := by decide +kernel
theorem dX11_runner_173 : decode cX11_runner 173 = .ok (.iconst 0, 1) := by decide +kernel
theorem dX11_runner_174 : decode cX11_runner 174 = .ok (.invokevirtual 114, 3) := by decide +kernel
theorem dX11_runner_177 : decode cX11_runner 177 = .ok (.ireturn, 1) := by decide +kernel
theorem dX11_runner_178 : decode cX11_runner 178 = .ok (.aload_n 0, 1) := by decide +kernel
theorem dX11_runner_179 : decode cX11_runner 179 = .ok (.aload_n 3, 1) := by decide +kernel
theorem dX11_runner_180 : decode cX11_runner 180 = .ok (.invokevirtual 199, 3) := by decide +kernel
theorem dX11_runner_183 : decode cX11_runner 183 = .ok (.ifCond .eq 18, 3) := by decide +kernel
theorem dX11_runner_186 : decode cX11_runner 186 = .ok (.aload_n 0, 1) := by decide +kernel
theorem dX11_runner_187 : decode cX11_runner 187 = .ok (.getfield 40, 3) := by decide +kernel
theorem dX11_runner_190 : decode cX11_runner 190 = .ok (.aload_n 3, 1) := by decide +kernel
theorem dX11_runner_191 : decode cX11_runner 191 = .ok (.aload_n 3, 1) := by decide +kernel
theorem dX11_runner_192 : decode cX11_runner 192 = .ok (.invokevirtual 189, 3) := by decide +kernel
theorem dX11_runner_195 : decode cX11_runner 195 = .ok (.invokevirtual 202, 3) := by decide +kernel
theorem dX11_runner_198 : decode cX11_runner 198 = .ok (.goto 5, 3) := by decide +kernel
theorem dX11_runner_201 : decode cX11_runner 201 = .ok (.bipush (-2), 2) := by decide +kernel
theorem dX11_runner_203 : decode cX11_runner 203 = .ok (.invokevirtual 114, 3) := by decide +kernel
theorem dX11_runner_206 : decode cX11_runner 206 = .ok (.ireturn, 1) := by decide +kernel
theorem dX11_runner_207 : decode cX11_runner 207 = .ok (.aload_n 0, 1) := by decide +kernel
theorem dX11_runner_208 : decode cX11_runner 208 = .ok (.aload_n 3, 1) := by decide +kernel
theorem dX11_runner_209 : decode cX11_runner 209 = .ok (.invokevirtual 199, 3) := by decide +kernel
theorem dX11_runner_212 : decode cX11_runner 212 = .ok (.ifCond .eq 22, 3) := by decide +kernel
theorem dX11_runner_215 : decode cX11_runner 215 = .ok (.aload_n 3, 1) := by decide +kernel
theorem dX11_runner_216 : decode cX11_runner 216 = .ok (.invokevirtual 189, 3) := by decide +kernel
theorem dX11_runner_219 : decode cX11_runner 219 = .ok (.aload_n 0, 1) := by decide +kernel
theorem dX11_runner_220 : decode cX11_runner 220 = .ok (.getfield 32, 3) := by decide +kernel
theorem dX11_runner_223 : decode cX11_runner 223 = .ok (.aload_n 3, 1) := by decide +kernel
theorem dX11_runner_224 : decode cX11_runner 224 = .ok (.getfield 178, 3) := by decide +kernel
theorem dX11_runner_227 : decode cX11_runner 227 = .ok (.invokevirtual 161, 3) := by decide +kernel
theorem dX11_runner_230 : decode cX11_runner 230 = .ok (.isub, 1) := by decide +kernel
theorem dX11_runner_231 : decode cX11_runner 231 = .ok (.goto 5, 3) := by decide +kernel
theorem dX11_runner_234 : decode cX11_runner 234 = .ok (.bipush (-2), 2) := by decide +kernel
theorem dX11_runner_236 : decode cX11_runner 236 = .ok (.invokevirtual 114, 3) := by decide +kernel
theorem dX11_runner_239 : decode cX11_runner 239 = .ok (.ireturn, 1) := by decide +kernel
def f_X11_runner (v1 : Int32) (v2 : Int32) (σ : gSt) : Option (Int32 × gSt) :=
  (f_X4_hasRunner 1 v1 σ).bind fun p5 =>
  if p5.1 = 0 then
    (f_X11_refused 1 p5.2).bind fun p23 =>
    some (p23.1, p23.2)
  else
    if v2 < 0 then
      (f_X11_refused 1 p5.2).bind fun p23 =>
      some (p23.1, p23.2)
    else
      if v2 ≤ 9 then
        (f_X4_runnerAt 1 v1 p5.2).bind fun p32 =>
        if v2 = 0 then
          (f_X11_answered (p32.2 10 p32.1 5) p32.2).bind fun p93 =>
          some (p93.1, p93.2)
        else
        if v2 = 1 then
          (f_X11_answered (p32.2 10 p32.1 6) p32.2).bind fun p102 =>
          some (p102.1, p102.2)
        else
        if v2 = 2 then
          (f_X11_answered (p32.2 10 p32.1 7) p32.2).bind fun p111 =>
          some (p111.1, p111.2)
        else
        if v2 = 3 then
          (f_X9_total p32.1 p32.2).bind fun p117 =>
          (f_X11_answered p117.1 p117.2).bind fun p120 =>
          some (p120.1, p120.2)
        else
        if v2 = 4 then
          (f_X11_answered (p32.2 10 p32.1 8) p32.2).bind fun p129 =>
          some (p129.1, p129.2)
        else
        if v2 = 5 then
          (f_X11_answered ((p32.2 10 p32.1 9) - (p32.2 10 p32.1 10)) p32.2).bind fun p143 =>
          some (p143.1, p143.2)
        else
        if v2 = 6 then
          (f_X11_answered ((p32.2 10 p32.1 8) - (p32.2 10 p32.1 10)) p32.2).bind fun p157 =>
          some (p157.1, p157.2)
        else
        if v2 = 7 then
          (f_X9_isValid p32.1 p32.2).bind fun p163 =>
          if p163.1 = 0 then
            (f_X11_answered 0 p163.2).bind fun p174 =>
            some (p174.1, p174.2)
          else
            (f_X11_answered 1 p163.2).bind fun p174 =>
            some (p174.1, p174.2)
        else
        if v2 = 8 then
          (f_X9_isValid p32.1 p32.2).bind fun p180 =>
          if p180.1 = 0 then
            (f_X11_answered (-2) p180.2).bind fun p203 =>
            some (p203.1, p203.2)
          else
            (f_X9_total p32.1 p180.2).bind fun p192 =>
            (f_X2_placeByTotal p32.1 p192.1 p192.2).bind fun p195 =>
            (f_X11_answered p195.1 p195.2).bind fun p203 =>
            some (p203.1, p203.2)
        else
        (f_X9_isValid p32.1 p32.2).bind fun p209 =>
        if p209.1 = 0 then
          (f_X11_answered (-2) p209.2).bind fun p236 =>
          some (p236.1, p236.2)
        else
          (f_X9_total p32.1 p209.2).bind fun p216 =>
          (f_X4_leastTotal 1 (p216.2 10 p32.1 5) p216.2).bind fun p227 =>
          (f_X11_answered (p216.1 - p227.1) p227.2).bind fun p236 =>
          some (p236.1, p236.2)
      else
        (f_X11_refused 1 p5.2).bind fun p23 =>
        some (p23.1, p23.2)
theorem f_X11_runner_ok {v1 : Int32} {v2 : Int32}  {σ : gSt} {r : (Int32 × gSt)} (h : f_X11_runner v1 v2 σ = some r) : Mt l w 0 41 yX11_runner cX11_runner 4 (some .int) 4 89 [.ref (w.2.1 0 0), .int v1, .int v2] σ (gE (some (.int r.1)) r.2) := by
  unfold f_X11_runner at h
  refine g_start pn_X11 rfl rfl (Nat.le_of_ble_eq_true rfl) ?_
  show G l w 0 41 RX11 cX11_runner 4 (some .int) 4 89 (gE (some (.int r.1)) r.2) 0 [some (.ref (w.2.1 0 0)), some (.int v1), some (.int v2), none] [] σ
  refine g_aload_n dX11_runner_0 rfl ?_
  refine gR_X11_32 ok_0 dX11_runner_1 ?_
  refine g_iload_n dX11_runner_4 rfl ?_
  obtain ⟨p5, e5, h⟩ := obind h
  refine g_vP1 mv_X11_171 dX11_runner_5 (ok_3 (by decide)) ⟨by decide, by decide⟩ (Nat.le_of_ble_eq_true rfl) (f_X4_hasRunner_ok (by decide) e5) ?_
  refine g_if_eq 21 dX11_runner_8 rfl (fun q => ?_) (fun q => ?_)
  · replace h := gif_t q h
    refine g_aload_n dX11_runner_21 rfl ?_
    refine g_iconst dX11_runner_22 kc_1 ?_
    obtain ⟨p23, e23, h⟩ := obind h
    refine g_vP1 mv_X11_91 dX11_runner_23 ok_0 ⟨by decide, by decide⟩ (Nat.le_of_ble_eq_true rfl) (f_X11_refused_ok e23) ?_
    cases h
    exact g_iret dX11_runner_26 rfl ⟨rfl, rfl⟩
  · replace h := gif_f q h
    refine g_iload_n dX11_runner_11 rfl ?_
    refine g_if_lt 21 dX11_runner_12 rfl (fun q => ?_) (fun q => ?_)
    · replace h := gif_t q h
      refine g_aload_n dX11_runner_21 rfl ?_
      refine g_iconst dX11_runner_22 kc_1 ?_
      obtain ⟨p23, e23, h⟩ := obind h
      refine g_vP1 mv_X11_91 dX11_runner_23 ok_0 ⟨by decide, by decide⟩ (Nat.le_of_ble_eq_true rfl) (f_X11_refused_ok e23) ?_
      cases h
      exact g_iret dX11_runner_26 rfl ⟨rfl, rfl⟩
    · replace h := gif_f q h
      refine g_iload_n dX11_runner_15 rfl ?_
      refine g_bipush dX11_runner_16 kb_9 ?_
      refine g_icmp_le 27 dX11_runner_18 rfl (fun q => ?_) (fun q => ?_)
      · replace h := gif_t q h
        refine g_aload_n dX11_runner_27 rfl ?_
        refine gR_X11_32 ok_0 dX11_runner_28 ?_
        refine g_iload_n dX11_runner_31 rfl ?_
        obtain ⟨p32, e32, h⟩ := obind h
        refine g_vR1 mv_X11_174 dX11_runner_32 (ok_3 (by decide)) ⟨by decide, by decide⟩ (Nat.le_of_ble_eq_true rfl) (f_X4_runnerAt_ok (by decide) e32) (fun b32 => ?_)
        refine g_astore3 dX11_runner_35 ?_
        refine g_iload_n dX11_runner_36 rfl ?_
        by_cases q0 : v2 = 0
        · replace h := gif_t q0 h
          refine g_tableIn (off := 51) 88 dX11_runner_37 (by rw [q0]; decide) (by rw [q0]; decide) (by rw [q0]; rfl) rfl ?_
          refine g_aload_n dX11_runner_88 rfl ?_
          refine g_aload_n dX11_runner_89 rfl ?_
          refine gI_X11_178 (ok_10 b32) dX11_runner_90 ?_
          obtain ⟨p93, e93, h⟩ := obind h
          refine g_vP1 mv_X11_114 dX11_runner_93 ok_0 ⟨by decide, by decide⟩ (Nat.le_of_ble_eq_true rfl) (f_X11_answered_ok e93) ?_
          cases h
          exact g_iret dX11_runner_96 rfl ⟨rfl, rfl⟩
        replace h := gif_f q0 h
        by_cases q1 : v2 = 1
        · replace h := gif_t q1 h
          refine g_tableIn (off := 60) 97 dX11_runner_37 (by rw [q1]; decide) (by rw [q1]; decide) (by rw [q1]; rfl) rfl ?_
          refine g_aload_n dX11_runner_97 rfl ?_
          refine g_aload_n dX11_runner_98 rfl ?_
          refine gI_X11_183 (ok_10 b32) dX11_runner_99 ?_
          obtain ⟨p102, e102, h⟩ := obind h
          refine g_vP1 mv_X11_114 dX11_runner_102 ok_0 ⟨by decide, by decide⟩ (Nat.le_of_ble_eq_true rfl) (f_X11_answered_ok e102) ?_
          cases h
          exact g_iret dX11_runner_105 rfl ⟨rfl, rfl⟩
        replace h := gif_f q1 h
        by_cases q2 : v2 = 2
        · replace h := gif_t q2 h
          refine g_tableIn (off := 69) 106 dX11_runner_37 (by rw [q2]; decide) (by rw [q2]; decide) (by rw [q2]; rfl) rfl ?_
          refine g_aload_n dX11_runner_106 rfl ?_
          refine g_aload_n dX11_runner_107 rfl ?_
          refine gI_X11_186 (ok_10 b32) dX11_runner_108 ?_
          obtain ⟨p111, e111, h⟩ := obind h
          refine g_vP1 mv_X11_114 dX11_runner_111 ok_0 ⟨by decide, by decide⟩ (Nat.le_of_ble_eq_true rfl) (f_X11_answered_ok e111) ?_
          cases h
          exact g_iret dX11_runner_114 rfl ⟨rfl, rfl⟩
        replace h := gif_f q2 h
        by_cases q3 : v2 = 3
        · replace h := gif_t q3 h
          refine g_tableIn (off := 78) 115 dX11_runner_37 (by rw [q3]; decide) (by rw [q3]; decide) (by rw [q3]; rfl) rfl ?_
          refine g_aload_n dX11_runner_115 rfl ?_
          refine g_aload_n dX11_runner_116 rfl ?_
          obtain ⟨p117, e117, h⟩ := obind h
          refine g_vP0 mv_X11_189 dX11_runner_117 (ok_10 b32) ⟨by decide, by decide⟩ (Nat.le_of_ble_eq_true rfl) (f_X9_total_ok b32 e117) ?_
          obtain ⟨p120, e120, h⟩ := obind h
          refine g_vP1 mv_X11_114 dX11_runner_120 ok_0 ⟨by decide, by decide⟩ (Nat.le_of_ble_eq_true rfl) (f_X11_answered_ok e120) ?_
          cases h
          exact g_iret dX11_runner_123 rfl ⟨rfl, rfl⟩
        replace h := gif_f q3 h
        by_cases q4 : v2 = 4
        · replace h := gif_t q4 h
          refine g_tableIn (off := 87) 124 dX11_runner_37 (by rw [q4]; decide) (by rw [q4]; decide) (by rw [q4]; rfl) rfl ?_
          refine g_aload_n dX11_runner_124 rfl ?_
          refine g_aload_n dX11_runner_125 rfl ?_
          refine gI_X11_192 (ok_10 b32) dX11_runner_126 ?_
          obtain ⟨p129, e129, h⟩ := obind h
          refine g_vP1 mv_X11_114 dX11_runner_129 ok_0 ⟨by decide, by decide⟩ (Nat.le_of_ble_eq_true rfl) (f_X11_answered_ok e129) ?_
          cases h
          exact g_iret dX11_runner_132 rfl ⟨rfl, rfl⟩
        replace h := gif_f q4 h
        by_cases q5 : v2 = 5
        · replace h := gif_t q5 h
          refine g_tableIn (off := 96) 133 dX11_runner_37 (by rw [q5]; decide) (by rw [q5]; decide) (by rw [q5]; rfl) rfl ?_
          refine g_aload_n dX11_runner_133 rfl ?_
          refine g_aload_n dX11_runner_134 rfl ?_
          refine gI_X11_195 (ok_10 b32) dX11_runner_135 ?_
          refine g_aload_n dX11_runner_138 rfl ?_
          refine gI_X11_196 (ok_10 b32) dX11_runner_139 ?_
          refine g_isub dX11_runner_142 ?_
          obtain ⟨p143, e143, h⟩ := obind h
          refine g_vP1 mv_X11_114 dX11_runner_143 ok_0 ⟨by decide, by decide⟩ (Nat.le_of_ble_eq_true rfl) (f_X11_answered_ok e143) ?_
          cases h
          exact g_iret dX11_runner_146 rfl ⟨rfl, rfl⟩
        replace h := gif_f q5 h
        by_cases q6 : v2 = 6
        · replace h := gif_t q6 h
          refine g_tableIn (off := 110) 147 dX11_runner_37 (by rw [q6]; decide) (by rw [q6]; decide) (by rw [q6]; rfl) rfl ?_
          refine g_aload_n dX11_runner_147 rfl ?_
          refine g_aload_n dX11_runner_148 rfl ?_
          refine gI_X11_192 (ok_10 b32) dX11_runner_149 ?_
          refine g_aload_n dX11_runner_152 rfl ?_
          refine gI_X11_196 (ok_10 b32) dX11_runner_153 ?_
          refine g_isub dX11_runner_156 ?_
          obtain ⟨p157, e157, h⟩ := obind h
          refine g_vP1 mv_X11_114 dX11_runner_157 ok_0 ⟨by decide, by decide⟩ (Nat.le_of_ble_eq_true rfl) (f_X11_answered_ok e157) ?_
          cases h
          exact g_iret dX11_runner_160 rfl ⟨rfl, rfl⟩
        replace h := gif_f q6 h
        by_cases q7 : v2 = 7
        · replace h := gif_t q7 h
          refine g_tableIn (off := 124) 161 dX11_runner_37 (by rw [q7]; decide) (by rw [q7]; decide) (by rw [q7]; rfl) rfl ?_
          refine g_aload_n dX11_runner_161 rfl ?_
          refine g_aload_n dX11_runner_162 rfl ?_
          obtain ⟨p163, e163, h⟩ := obind h
          refine g_vP0 mv_X11_199 dX11_runner_163 (ok_10 b32) ⟨by decide, by decide⟩ (Nat.le_of_ble_eq_true rfl) (f_X9_isValid_ok b32 e163) ?_
          refine g_if_eq 173 dX11_runner_166 rfl (fun q => ?_) (fun q => ?_)
          · replace h := gif_t q h
            refine g_iconst dX11_runner_173 kc_0 ?_
            obtain ⟨p174, e174, h⟩ := obind h
            refine g_vP1 mv_X11_114 dX11_runner_174 ok_0 ⟨by decide, by decide⟩ (Nat.le_of_ble_eq_true rfl) (f_X11_answered_ok e174) ?_
            cases h
            exact g_iret dX11_runner_177 rfl ⟨rfl, rfl⟩
          · replace h := gif_f q h
            refine g_iconst dX11_runner_169 kc_1 ?_
            refine g_goto 174 dX11_runner_170 rfl ?_
            obtain ⟨p174, e174, h⟩ := obind h
            refine g_vP1 mv_X11_114 dX11_runner_174 ok_0 ⟨by decide, by decide⟩ (Nat.le_of_ble_eq_true rfl) (f_X11_answered_ok e174) ?_
            cases h
            exact g_iret dX11_runner_177 rfl ⟨rfl, rfl⟩
        replace h := gif_f q7 h
        by_cases q8 : v2 = 8
        · replace h := gif_t q8 h
          refine g_tableIn (off := 141) 178 dX11_runner_37 (by rw [q8]; decide) (by rw [q8]; decide) (by rw [q8]; rfl) rfl ?_
          refine g_aload_n dX11_runner_178 rfl ?_
          refine g_aload_n dX11_runner_179 rfl ?_
          obtain ⟨p180, e180, h⟩ := obind h
          refine g_vP0 mv_X11_199 dX11_runner_180 (ok_10 b32) ⟨by decide, by decide⟩ (Nat.le_of_ble_eq_true rfl) (f_X9_isValid_ok b32 e180) ?_
          refine g_if_eq 201 dX11_runner_183 rfl (fun q => ?_) (fun q => ?_)
          · replace h := gif_t q h
            refine g_bipush dX11_runner_201 kb_m2 ?_
            obtain ⟨p203, e203, h⟩ := obind h
            refine g_vP1 mv_X11_114 dX11_runner_203 ok_0 ⟨by decide, by decide⟩ (Nat.le_of_ble_eq_true rfl) (f_X11_answered_ok e203) ?_
            cases h
            exact g_iret dX11_runner_206 rfl ⟨rfl, rfl⟩
          · replace h := gif_f q h
            refine g_aload_n dX11_runner_186 rfl ?_
            refine gR_X11_40 ok_0 dX11_runner_187 ?_
            refine g_aload_n dX11_runner_190 rfl ?_
            refine g_aload_n dX11_runner_191 rfl ?_
            obtain ⟨p192, e192, h⟩ := obind h
            refine g_vP0 mv_X11_189 dX11_runner_192 (ok_10 b32) ⟨by decide, by decide⟩ (Nat.le_of_ble_eq_true rfl) (f_X9_total_ok b32 e192) ?_
            obtain ⟨p195, e195, h⟩ := obind h
            refine g_vP2 mv_X11_202 dX11_runner_195 ok_16 ⟨by decide, by decide⟩ (Nat.le_of_ble_eq_true rfl) (f_X2_placeByTotal_ok b32 e195) ?_
            refine g_goto 203 dX11_runner_198 rfl ?_
            obtain ⟨p203, e203, h⟩ := obind h
            refine g_vP1 mv_X11_114 dX11_runner_203 ok_0 ⟨by decide, by decide⟩ (Nat.le_of_ble_eq_true rfl) (f_X11_answered_ok e203) ?_
            cases h
            exact g_iret dX11_runner_206 rfl ⟨rfl, rfl⟩
        replace h := gif_f q8 h
        refine g_tableOut 207 dX11_runner_37 (tabOut (b := 8) (by decide) (fun j hj => by rcases (show j = 0 ∨ j = 1 ∨ j = 2 ∨ j = 3 ∨ j = 4 ∨ j = 5 ∨ j = 6 ∨ j = 7 ∨ j = 8 by omega) with rfl | rfl | rfl | rfl | rfl | rfl | rfl | rfl | rfl <;> assumption)) rfl ?_
        refine g_aload_n dX11_runner_207 rfl ?_
        refine g_aload_n dX11_runner_208 rfl ?_
        obtain ⟨p209, e209, h⟩ := obind h
        refine g_vP0 mv_X11_199 dX11_runner_209 (ok_10 b32) ⟨by decide, by decide⟩ (Nat.le_of_ble_eq_true rfl) (f_X9_isValid_ok b32 e209) ?_
        refine g_if_eq 234 dX11_runner_212 rfl (fun q => ?_) (fun q => ?_)
        · replace h := gif_t q h
          refine g_bipush dX11_runner_234 kb_m2 ?_
          obtain ⟨p236, e236, h⟩ := obind h
          refine g_vP1 mv_X11_114 dX11_runner_236 ok_0 ⟨by decide, by decide⟩ (Nat.le_of_ble_eq_true rfl) (f_X11_answered_ok e236) ?_
          cases h
          exact g_iret dX11_runner_239 rfl ⟨rfl, rfl⟩
        · replace h := gif_f q h
          refine g_aload_n dX11_runner_215 rfl ?_
          obtain ⟨p216, e216, h⟩ := obind h
          refine g_vP0 mv_X11_189 dX11_runner_216 (ok_10 b32) ⟨by decide, by decide⟩ (Nat.le_of_ble_eq_true rfl) (f_X9_total_ok b32 e216) ?_
          refine g_aload_n dX11_runner_219 rfl ?_
          refine gR_X11_32 ok_0 dX11_runner_220 ?_
          refine g_aload_n dX11_runner_223 rfl ?_
          refine gI_X11_178 (ok_10 b32) dX11_runner_224 ?_
          obtain ⟨p227, e227, h⟩ := obind h
          refine g_vP1 mv_X11_161 dX11_runner_227 (ok_3 (by decide)) ⟨by decide, by decide⟩ (Nat.le_of_ble_eq_true rfl) (f_X4_leastTotal_ok (by decide) e227) ?_
          refine g_isub dX11_runner_230 ?_
          refine g_goto 236 dX11_runner_231 rfl ?_
          obtain ⟨p236, e236, h⟩ := obind h
          refine g_vP1 mv_X11_114 dX11_runner_236 ok_0 ⟨by decide, by decide⟩ (Nat.le_of_ble_eq_true rfl) (f_X11_answered_ok e236) ?_
          cases h
          exact g_iret dX11_runner_239 rfl ⟨rfl, rfl⟩
      · replace h := gif_f q h
        refine g_aload_n dX11_runner_21 rfl ?_
        refine g_iconst dX11_runner_22 kc_1 ?_
        obtain ⟨p23, e23, h⟩ := obind h
        refine g_vP1 mv_X11_91 dX11_runner_23 ok_0 ⟨by decide, by decide⟩ (Nat.le_of_ble_eq_true rfl) (f_X11_refused_ok e23) ?_
        cases h
        exact g_iret dX11_runner_26 rfl ⟨rfl, rfl⟩
theorem dX11_punch_0 : decode cX11_punch 0 = .ok (.aload_n 0, 1) := by decide +kernel
theorem dX11_punch_1 : decode cX11_punch 1 = .ok (.getfield 32, 3) := by decide +kernel
theorem dX11_punch_4 : decode cX11_punch 4 = .ok (.iload_n 1, 1) := by decide +kernel
theorem dX11_punch_5 : decode cX11_punch 5 = .ok (.iload_n 2, 1) := by decide +kernel
theorem dX11_punch_6 : decode cX11_punch 6 = .ok (.invokevirtual 206, 3) := by decide +kernel
theorem dX11_punch_9 : decode cX11_punch 9 = .ok (.ifCond .eq 12, 3) := by decide +kernel
theorem dX11_punch_12 : decode cX11_punch 12 = .ok (.iload_n 3, 1) := by decide +kernel
theorem dX11_punch_13 : decode cX11_punch 13 = .ok (.ifCond .lt 8, 3) := by decide +kernel
theorem dX11_punch_16 : decode cX11_punch 16 = .ok (.iload_n 3, 1) := by decide +kernel
theorem dX11_punch_17 : decode cX11_punch 17 = .ok (.iconst 2, 1) := by decide +kernel
theorem dX11_punch_18 : decode cX11_punch 18 = .ok (.if_icmp .le 9, 3) := by decide +kernel
theorem dX11_punch_21 : decode cX11_punch 21 = .ok (.aload_n 0, 1) := by decide +kernel
theorem dX11_punch_22 : decode cX11_punch 22 = .ok (.iconst 1, 1) := by decide +kernel
theorem dX11_punch_23 : decode cX11_punch 23 = .ok (.invokevirtual 91, 3) := by decide +kernel
theorem dX11_punch_26 : decode cX11_punch 26 = .ok (.ireturn, 1) := by decide +kernel
theorem dX11_punch_27 : decode cX11_punch 27 = .ok (.aload_n 0, 1) := by decide +kernel
theorem dX11_punch_28 : decode cX11_punch 28 = .ok (.getfield 32, 3) := by decide +kernel
theorem dX11_punch_31 : decode cX11_punch 31 = .ok (.iload_n 1, 1) := by decide +kernel
theorem dX11_punch_32 : decode cX11_punch 32 = .ok (.invokevirtual 174, 3) := by decide +kernel
theorem dX11_punch_35 : decode cX11_punch 35 = .ok (.astore 4, 2) := by decide +kernel
theorem dX11_punch_37 : decode cX11_punch 37 = .ok (.iload_n 3, 1) := by decide +kernel
theorem dX11_punch_38 : decode cX11_punch 38 = .ok (.lookupswitch 48 #[(0, 26), (1, 37)], 26) := by decide +kernel
theorem dX11_punch_64 : decode cX11_punch 64 = .ok (.aload_n 0, 1) := by decide +kernel
theorem dX11_punch_65 : decode cX11_punch 65 = .ok (.aload 4, 2) := by decide +kernel
theorem dX11_punch_67 : decode cX11_punch 67 = .ok (.iload_n 2, 1) := by decide +kernel
theorem dX11_punch_68 : decode cX11_punch 68 = .ok (.invokevirtual 209, 3) := by decide +kernel
theorem dX11_punch_71 : decode cX11_punch 71 = .ok (.invokevirtual 114, 3) := by decide +kernel
theorem dX11_punch_74 : decode cX11_punch 74 = .ok (.ireturn, 1) := by decide +kernel
theorem dX11_punch_75 : decode cX11_punch 75 = .ok (.aload_n 0, 1) := by decide +kernel
theorem dX11_punch_76 : decode cX11_punch 76 = .ok (.aload 4, 2) := by decide +kernel
theorem dX11_punch_78 : decode cX11_punch 78 = .ok (.iload_n 2, 1) := by decide +kernel
theorem dX11_punch_79 : decode cX11_punch 79 = .ok (.invokevirtual 212, 3) := by decide +kernel
theorem dX11_punch_82 : decode cX11_punch 82 = .ok (.invokevirtual 114, 3) := by decide +kernel
theorem dX11_punch_85 : decode cX11_punch 85 = .ok (.ireturn, 1) := by decide +kernel
theorem dX11_punch_86 : decode cX11_punch 86 = .ok (.aload_n 0, 1) := by decide +kernel
theorem dX11_punch_87 : decode cX11_punch 87 = .ok (.aload 4, 2) := by decide +kernel
theorem dX11_punch_89 : decode cX11_punch 89 = .ok (.iload_n 2, 1) := by decide +kernel
theorem dX11_punch_90 : decode cX11_punch 90 = .ok (.invokevirtual 215, 3) := by decide +kernel
theorem dX11_punch_93 : decode cX11_punch 93 = .ok (.iconst (-1), 1) := by decide +kernel
theorem dX11_punch_94 : decode cX11_punch 94 = .ok (.if_icmp .ne 8, 3) := by decide +kernel
theorem dX11_punch_97 : decode cX11_punch 97 = .ok (.bipush (-2), 2) := by decide +kernel
theorem dX11_punch_99 : decode cX11_punch 99 = .ok (.goto 9, 3) := by decide +kernel
theorem dX11_punch_102 : decode cX11_punch 102 = .ok (.aload 4, 2) := by decide +kernel
theorem dX11_punch_104 : decode cX11_punch 104 = .ok (.iload_n 2, 1) := by decide +kernel
theorem dX11_punch_105 : decode cX11_punch 105 = .ok (.invokevirtual 215, 3) := by decide +kernel
theorem dX11_punch_108 : decode cX11_punch 108 = .ok (.invokevirtual 114, 3) := by decide +kernel
theorem dX11_punch_111 : decode cX11_punch 111 = .ok (.ireturn, 1) := by decide +kernel
def f_X11_punch (v1 : Int32) (v2 : Int32) (v3 : Int32) (σ : gSt) : Option (Int32 × gSt) :=
  (f_X4_hasPunch 1 v1 v2 σ).bind fun p6 =>
  if p6.1 = 0 then
    (f_X11_refused 1 p6.2).bind fun p23 =>
    some (p23.1, p23.2)
  else
    if v3 < 0 then
      (f_X11_refused 1 p6.2).bind fun p23 =>
      some (p23.1, p23.2)
    else
      if v3 ≤ 2 then
        (f_X4_runnerAt 1 v1 p6.2).bind fun p32 =>
        if v3 = 0 then
          (f_X9_codeOf p32.1 v2 p32.2).bind fun p68 =>
          (f_X11_answered p68.1 p68.2).bind fun p71 =>
          some (p71.1, p71.2)
        else
        if v3 = 1 then
          (f_X9_timeOf p32.1 v2 p32.2).bind fun p79 =>
          (f_X11_answered p79.1 p79.2).bind fun p82 =>
          some (p82.1, p82.2)
        else
        (f_X9_controlOf p32.1 v2 p32.2).bind fun p90 =>
        if p90.1 = (-1) then
          (f_X11_answered (-2) p90.2).bind fun p108 =>
          some (p108.1, p108.2)
        else
          (f_X9_controlOf p32.1 v2 p90.2).bind fun p105 =>
          (f_X11_answered p105.1 p105.2).bind fun p108 =>
          some (p108.1, p108.2)
      else
        (f_X11_refused 1 p6.2).bind fun p23 =>
        some (p23.1, p23.2)
theorem f_X11_punch_ok {v1 : Int32} {v2 : Int32} {v3 : Int32}  {σ : gSt} {r : (Int32 × gSt)} (h : f_X11_punch v1 v2 v3 σ = some r) : Mt l w 0 41 yX11_punch cX11_punch 5 (some .int) 2 43 [.ref (w.2.1 0 0), .int v1, .int v2, .int v3] σ (gE (some (.int r.1)) r.2) := by
  unfold f_X11_punch at h
  refine g_start pn_X11 rfl rfl (Nat.le_of_ble_eq_true rfl) ?_
  show G l w 0 41 RX11 cX11_punch 5 (some .int) 2 43 (gE (some (.int r.1)) r.2) 0 [some (.ref (w.2.1 0 0)), some (.int v1), some (.int v2), some (.int v3), none] [] σ
  refine g_aload_n dX11_punch_0 rfl ?_
  refine gR_X11_32 ok_0 dX11_punch_1 ?_
  refine g_iload_n dX11_punch_4 rfl ?_
  refine g_iload_n dX11_punch_5 rfl ?_
  obtain ⟨p6, e6, h⟩ := obind h
  refine g_vP2 mv_X11_206 dX11_punch_6 (ok_3 (by decide)) ⟨by decide, by decide⟩ (Nat.le_of_ble_eq_true rfl) (f_X4_hasPunch_ok (by decide) e6) ?_
  refine g_if_eq 21 dX11_punch_9 rfl (fun q => ?_) (fun q => ?_)
  · replace h := gif_t q h
    refine g_aload_n dX11_punch_21 rfl ?_
    refine g_iconst dX11_punch_22 kc_1 ?_
    obtain ⟨p23, e23, h⟩ := obind h
    refine g_vP1 mv_X11_91 dX11_punch_23 ok_0 ⟨by decide, by decide⟩ (Nat.le_of_ble_eq_true rfl) (f_X11_refused_ok e23) ?_
    cases h
    exact g_iret dX11_punch_26 rfl ⟨rfl, rfl⟩
  · replace h := gif_f q h
    refine g_iload_n dX11_punch_12 rfl ?_
    refine g_if_lt 21 dX11_punch_13 rfl (fun q => ?_) (fun q => ?_)
    · replace h := gif_t q h
      refine g_aload_n dX11_punch_21 rfl ?_
      refine g_iconst dX11_punch_22 kc_1 ?_
      obtain ⟨p23, e23, h⟩ := obind h
      refine g_vP1 mv_X11_91 dX11_punch_23 ok_0 ⟨by decide, by decide⟩ (Nat.le_of_ble_eq_true rfl) (f_X11_refused_ok e23) ?_
      cases h
      exact g_iret dX11_punch_26 rfl ⟨rfl, rfl⟩
    · replace h := gif_f q h
      refine g_iload_n dX11_punch_16 rfl ?_
      refine g_iconst dX11_punch_17 kc_2 ?_
      refine g_icmp_le 27 dX11_punch_18 rfl (fun q => ?_) (fun q => ?_)
      · replace h := gif_t q h
        refine g_aload_n dX11_punch_27 rfl ?_
        refine gR_X11_32 ok_0 dX11_punch_28 ?_
        refine g_iload_n dX11_punch_31 rfl ?_
        obtain ⟨p32, e32, h⟩ := obind h
        refine g_vR1 mv_X11_174 dX11_punch_32 (ok_3 (by decide)) ⟨by decide, by decide⟩ (Nat.le_of_ble_eq_true rfl) (f_X4_runnerAt_ok (by decide) e32) (fun b32 => ?_)
        refine g_astore4 dX11_punch_35 ?_
        refine g_iload_n dX11_punch_37 rfl ?_
        by_cases q0 : v3 = 0
        · replace h := gif_t q0 h
          refine g_lookup (off := 26) 64 dX11_punch_38 rfl (by rw [q0]; decide) rfl ?_
          refine g_aload_n dX11_punch_64 rfl ?_
          refine g_aload dX11_punch_65 rfl ?_
          refine g_iload_n dX11_punch_67 rfl ?_
          obtain ⟨p68, e68, h⟩ := obind h
          refine g_vP1 mv_X11_209 dX11_punch_68 (ok_10 b32) ⟨by decide, by decide⟩ (Nat.le_of_ble_eq_true rfl) (f_X9_codeOf_ok b32 e68) ?_
          obtain ⟨p71, e71, h⟩ := obind h
          refine g_vP1 mv_X11_114 dX11_punch_71 ok_0 ⟨by decide, by decide⟩ (Nat.le_of_ble_eq_true rfl) (f_X11_answered_ok e71) ?_
          cases h
          exact g_iret dX11_punch_74 rfl ⟨rfl, rfl⟩
        replace h := gif_f q0 h
        by_cases q1 : v3 = 1
        · replace h := gif_t q1 h
          refine g_lookup (off := 37) 75 dX11_punch_38 rfl (by rw [q1]; decide) rfl ?_
          refine g_aload_n dX11_punch_75 rfl ?_
          refine g_aload dX11_punch_76 rfl ?_
          refine g_iload_n dX11_punch_78 rfl ?_
          obtain ⟨p79, e79, h⟩ := obind h
          refine g_vP1 mv_X11_212 dX11_punch_79 (ok_10 b32) ⟨by decide, by decide⟩ (Nat.le_of_ble_eq_true rfl) (f_X9_timeOf_ok b32 e79) ?_
          obtain ⟨p82, e82, h⟩ := obind h
          refine g_vP1 mv_X11_114 dX11_punch_82 ok_0 ⟨by decide, by decide⟩ (Nat.le_of_ble_eq_true rfl) (f_X11_answered_ok e82) ?_
          cases h
          exact g_iret dX11_punch_85 rfl ⟨rfl, rfl⟩
        replace h := gif_f q1 h
        refine g_lookup (off := 48) 86 dX11_punch_38 rfl (lookOut2 q0 q1) rfl ?_
        refine g_aload_n dX11_punch_86 rfl ?_
        refine g_aload dX11_punch_87 rfl ?_
        refine g_iload_n dX11_punch_89 rfl ?_
        obtain ⟨p90, e90, h⟩ := obind h
        refine g_vP1 mv_X11_215 dX11_punch_90 (ok_10 b32) ⟨by decide, by decide⟩ (Nat.le_of_ble_eq_true rfl) (f_X9_controlOf_ok b32 e90) ?_
        refine g_iconst dX11_punch_93 kc_m1 ?_
        refine g_icmp_ne 102 dX11_punch_94 rfl (fun q => ?_) (fun q => ?_)
        · replace h := gif_f q h
          refine g_aload dX11_punch_102 rfl ?_
          refine g_iload_n dX11_punch_104 rfl ?_
          obtain ⟨p105, e105, h⟩ := obind h
          refine g_vP1 mv_X11_215 dX11_punch_105 (ok_10 b32) ⟨by decide, by decide⟩ (Nat.le_of_ble_eq_true rfl) (f_X9_controlOf_ok b32 e105) ?_
          obtain ⟨p108, e108, h⟩ := obind h
          refine g_vP1 mv_X11_114 dX11_punch_108 ok_0 ⟨by decide, by decide⟩ (Nat.le_of_ble_eq_true rfl) (f_X11_answered_ok e108) ?_
          cases h
          exact g_iret dX11_punch_111 rfl ⟨rfl, rfl⟩
        · replace h := gif_t q h
          refine g_bipush dX11_punch_97 kb_m2 ?_
          refine g_goto 108 dX11_punch_99 rfl ?_
          obtain ⟨p108, e108, h⟩ := obind h
          refine g_vP1 mv_X11_114 dX11_punch_108 ok_0 ⟨by decide, by decide⟩ (Nat.le_of_ble_eq_true rfl) (f_X11_answered_ok e108) ?_
          cases h
          exact g_iret dX11_punch_111 rfl ⟨rfl, rfl⟩
      · replace h := gif_f q h
        refine g_aload_n dX11_punch_21 rfl ?_
        refine g_iconst dX11_punch_22 kc_1 ?_
        obtain ⟨p23, e23, h⟩ := obind h
        refine g_vP1 mv_X11_91 dX11_punch_23 ok_0 ⟨by decide, by decide⟩ (Nat.le_of_ble_eq_true rfl) (f_X11_refused_ok e23) ?_
        cases h
        exact g_iret dX11_punch_26 rfl ⟨rfl, rfl⟩
theorem dX11_misses_0 : decode cX11_misses 0 = .ok (.aload_n 0, 1) := by decide +kernel
theorem dX11_misses_1 : decode cX11_misses 1 = .ok (.getfield 32, 3) := by decide +kernel
theorem dX11_misses_4 : decode cX11_misses 4 = .ok (.iload_n 1, 1) := by decide +kernel
theorem dX11_misses_5 : decode cX11_misses 5 = .ok (.invokevirtual 171, 3) := by decide +kernel
theorem dX11_misses_8 : decode cX11_misses 8 = .ok (.ifCond .eq 14, 3) := by decide +kernel
theorem dX11_misses_11 : decode cX11_misses 11 = .ok (.aload_n 0, 1) := by decide +kernel
theorem dX11_misses_12 : decode cX11_misses 12 = .ok (.getfield 32, 3) := by decide +kernel
theorem dX11_misses_15 : decode cX11_misses 15 = .ok (.iload_n 2, 1) := by decide +kernel
theorem dX11_misses_16 : decode cX11_misses 16 = .ok (.invokevirtual 140, 3) := by decide +kernel
theorem dX11_misses_19 : decode cX11_misses 19 = .ok (.ifCond .ne 9, 3) := by decide +kernel
theorem dX11_misses_22 : decode cX11_misses 22 = .ok (.aload_n 0, 1) := by decide +kernel
theorem dX11_misses_23 : decode cX11_misses 23 = .ok (.iconst 1, 1) := by decide +kernel
theorem dX11_misses_24 : decode cX11_misses 24 = .ok (.invokevirtual 91, 3) := by decide +kernel
theorem dX11_misses_27 : decode cX11_misses 27 = .ok (.ireturn, 1) := by decide +kernel
theorem dX11_misses_28 : decode cX11_misses 28 = .ok (.aload_n 0, 1) := by decide +kernel
theorem dX11_misses_29 : decode cX11_misses 29 = .ok (.aload_n 0, 1) := by decide +kernel
theorem dX11_misses_30 : decode cX11_misses 30 = .ok (.getfield 32, 3) := by decide +kernel
theorem dX11_misses_33 : decode cX11_misses 33 = .ok (.aload_n 0, 1) := by decide +kernel
theorem dX11_misses_34 : decode cX11_misses 34 = .ok (.getfield 32, 3) := by decide +kernel
theorem dX11_misses_37 : decode cX11_misses 37 = .ok (.iload_n 1, 1) := by decide +kernel
theorem dX11_misses_38 : decode cX11_misses 38 = .ok (.invokevirtual 174, 3) := by decide +kernel
theorem dX11_misses_41 : decode cX11_misses 41 = .ok (.iload_n 2, 1) := by decide +kernel
theorem dX11_misses_42 : decode cX11_misses 42 = .ok (.invokevirtual 218, 3) := by decide +kernel
theorem dX11_misses_45 : decode cX11_misses 45 = .ok (.invokevirtual 114, 3) := by decide +kernel
theorem dX11_misses_48 : decode cX11_misses 48 = .ok (.ireturn, 1) := by decide +kernel
def f_X11_misses (v1 : Int32) (v2 : Int32) (σ : gSt) : Option (Int32 × gSt) :=
  (f_X4_hasRunner 1 v1 σ).bind fun p5 =>
  if p5.1 = 0 then
    (f_X11_refused 1 p5.2).bind fun p24 =>
    some (p24.1, p24.2)
  else
    (f_X4_hasCourse 1 v2 p5.2).bind fun p16 =>
    if p16.1 = 0 then
      (f_X11_refused 1 p16.2).bind fun p24 =>
      some (p24.1, p24.2)
    else
      (f_X4_runnerAt 1 v1 p16.2).bind fun p38 =>
      (f_X4_missesOn 1 p38.1 v2 p38.2).bind fun p42 =>
      (f_X11_answered p42.1 p42.2).bind fun p45 =>
      some (p45.1, p45.2)
theorem f_X11_misses_ok {v1 : Int32} {v2 : Int32}  {σ : gSt} {r : (Int32 × gSt)} (h : f_X11_misses v1 v2 σ = some r) : Mt l w 0 41 yX11_misses cX11_misses 3 (some .int) 3 70 [.ref (w.2.1 0 0), .int v1, .int v2] σ (gE (some (.int r.1)) r.2) := by
  unfold f_X11_misses at h
  refine g_start pn_X11 rfl rfl (Nat.le_of_ble_eq_true rfl) ?_
  show G l w 0 41 RX11 cX11_misses 3 (some .int) 3 70 (gE (some (.int r.1)) r.2) 0 [some (.ref (w.2.1 0 0)), some (.int v1), some (.int v2)] [] σ
  refine g_aload_n dX11_misses_0 rfl ?_
  refine gR_X11_32 ok_0 dX11_misses_1 ?_
  refine g_iload_n dX11_misses_4 rfl ?_
  obtain ⟨p5, e5, h⟩ := obind h
  refine g_vP1 mv_X11_171 dX11_misses_5 (ok_3 (by decide)) ⟨by decide, by decide⟩ (Nat.le_of_ble_eq_true rfl) (f_X4_hasRunner_ok (by decide) e5) ?_
  refine g_if_eq 22 dX11_misses_8 rfl (fun q => ?_) (fun q => ?_)
  · replace h := gif_t q h
    refine g_aload_n dX11_misses_22 rfl ?_
    refine g_iconst dX11_misses_23 kc_1 ?_
    obtain ⟨p24, e24, h⟩ := obind h
    refine g_vP1 mv_X11_91 dX11_misses_24 ok_0 ⟨by decide, by decide⟩ (Nat.le_of_ble_eq_true rfl) (f_X11_refused_ok e24) ?_
    cases h
    exact g_iret dX11_misses_27 rfl ⟨rfl, rfl⟩
  · replace h := gif_f q h
    refine g_aload_n dX11_misses_11 rfl ?_
    refine gR_X11_32 ok_0 dX11_misses_12 ?_
    refine g_iload_n dX11_misses_15 rfl ?_
    obtain ⟨p16, e16, h⟩ := obind h
    refine g_vP1 mv_X11_140 dX11_misses_16 (ok_3 (by decide)) ⟨by decide, by decide⟩ (Nat.le_of_ble_eq_true rfl) (f_X4_hasCourse_ok (by decide) e16) ?_
    refine g_if_ne 28 dX11_misses_19 rfl (fun q => ?_) (fun q => ?_)
    · replace h := gif_f q h
      refine g_aload_n dX11_misses_28 rfl ?_
      refine g_aload_n dX11_misses_29 rfl ?_
      refine gR_X11_32 ok_0 dX11_misses_30 ?_
      refine g_aload_n dX11_misses_33 rfl ?_
      refine gR_X11_32 ok_0 dX11_misses_34 ?_
      refine g_iload_n dX11_misses_37 rfl ?_
      obtain ⟨p38, e38, h⟩ := obind h
      refine g_vR1 mv_X11_174 dX11_misses_38 (ok_3 (by decide)) ⟨by decide, by decide⟩ (Nat.le_of_ble_eq_true rfl) (f_X4_runnerAt_ok (by decide) e38) (fun b38 => ?_)
      refine g_iload_n dX11_misses_41 rfl ?_
      obtain ⟨p42, e42, h⟩ := obind h
      refine g_vP2 mv_X11_218 dX11_misses_42 (ok_3 (by decide)) ⟨by decide, by decide⟩ (Nat.le_of_ble_eq_true rfl) (f_X4_missesOn_ok (by decide) b38 e42) ?_
      obtain ⟨p45, e45, h⟩ := obind h
      refine g_vP1 mv_X11_114 dX11_misses_45 ok_0 ⟨by decide, by decide⟩ (Nat.le_of_ble_eq_true rfl) (f_X11_answered_ok e45) ?_
      cases h
      exact g_iret dX11_misses_48 rfl ⟨rfl, rfl⟩
    · replace h := gif_t q h
      refine g_aload_n dX11_misses_22 rfl ?_
      refine g_iconst dX11_misses_23 kc_1 ?_
      obtain ⟨p24, e24, h⟩ := obind h
      refine g_vP1 mv_X11_91 dX11_misses_24 ok_0 ⟨by decide, by decide⟩ (Nat.le_of_ble_eq_true rfl) (f_X11_refused_ok e24) ?_
      cases h
      exact g_iret dX11_misses_27 rfl ⟨rfl, rfl⟩
theorem dX11_fits_0 : decode cX11_fits 0 = .ok (.aload_n 0, 1) := by decide +kernel
theorem dX11_fits_1 : decode cX11_fits 1 = .ok (.getfield 32, 3) := by decide +kernel
theorem dX11_fits_4 : decode cX11_fits 4 = .ok (.iload_n 1, 1) := by decide +kernel
theorem dX11_fits_5 : decode cX11_fits 5 = .ok (.invokevirtual 171, 3) := by decide +kernel
theorem dX11_fits_8 : decode cX11_fits 8 = .ok (.ifCond .ne 9, 3) := by decide +kernel
theorem dX11_fits_11 : decode cX11_fits 11 = .ok (.aload_n 0, 1) := by decide +kernel
theorem dX11_fits_12 : decode cX11_fits 12 = .ok (.iconst 1, 1) := by decide +kernel
theorem dX11_fits_13 : decode cX11_fits 13 = .ok (.invokevirtual 91, 3) := by decide +kernel
theorem dX11_fits_16 : decode cX11_fits 16 = .ok (.ireturn, 1) := by decide +kernel
theorem dX11_fits_17 : decode cX11_fits 17 = .ok (.aload_n 0, 1) := by decide +kernel
theorem dX11_fits_18 : decode cX11_fits 18 = .ok (.aload_n 0, 1) := by decide +kernel
theorem dX11_fits_19 : decode cX11_fits 19 = .ok (.getfield 32, 3) := by decide +kernel
theorem dX11_fits_22 : decode cX11_fits 22 = .ok (.aload_n 0, 1) := by decide +kernel
theorem dX11_fits_23 : decode cX11_fits 23 = .ok (.getfield 32, 3) := by decide +kernel
theorem dX11_fits_26 : decode cX11_fits 26 = .ok (.iload_n 1, 1) := by decide +kernel
theorem dX11_fits_27 : decode cX11_fits 27 = .ok (.invokevirtual 174, 3) := by decide +kernel
theorem dX11_fits_30 : decode cX11_fits 30 = .ok (.invokevirtual 221, 3) := by decide +kernel
theorem dX11_fits_33 : decode cX11_fits 33 = .ok (.invokevirtual 114, 3) := by decide +kernel
theorem dX11_fits_36 : decode cX11_fits 36 = .ok (.ireturn, 1) := by decide +kernel
def f_X11_fits (v1 : Int32) (σ : gSt) : Option (Int32 × gSt) :=
  (f_X4_hasRunner 1 v1 σ).bind fun p5 =>
  if p5.1 = 0 then
    (f_X11_refused 1 p5.2).bind fun p13 =>
    some (p13.1, p13.2)
  else
    (f_X4_runnerAt 1 v1 p5.2).bind fun p27 =>
    (f_X4_fittest 1 p27.1 p27.2).bind fun p30 =>
    (f_X11_answered p30.1 p30.2).bind fun p33 =>
    some (p33.1, p33.2)
theorem f_X11_fits_ok {v1 : Int32}  {σ : gSt} {r : (Int32 × gSt)} (h : f_X11_fits v1 σ = some r) : Mt l w 0 41 yX11_fits cX11_fits 2 (some .int) 4 96 [.ref (w.2.1 0 0), .int v1] σ (gE (some (.int r.1)) r.2) := by
  unfold f_X11_fits at h
  refine g_start pn_X11 rfl rfl (Nat.le_of_ble_eq_true rfl) ?_
  show G l w 0 41 RX11 cX11_fits 2 (some .int) 4 96 (gE (some (.int r.1)) r.2) 0 [some (.ref (w.2.1 0 0)), some (.int v1)] [] σ
  refine g_aload_n dX11_fits_0 rfl ?_
  refine gR_X11_32 ok_0 dX11_fits_1 ?_
  refine g_iload_n dX11_fits_4 rfl ?_
  obtain ⟨p5, e5, h⟩ := obind h
  refine g_vP1 mv_X11_171 dX11_fits_5 (ok_3 (by decide)) ⟨by decide, by decide⟩ (Nat.le_of_ble_eq_true rfl) (f_X4_hasRunner_ok (by decide) e5) ?_
  refine g_if_ne 17 dX11_fits_8 rfl (fun q => ?_) (fun q => ?_)
  · replace h := gif_f q h
    refine g_aload_n dX11_fits_17 rfl ?_
    refine g_aload_n dX11_fits_18 rfl ?_
    refine gR_X11_32 ok_0 dX11_fits_19 ?_
    refine g_aload_n dX11_fits_22 rfl ?_
    refine gR_X11_32 ok_0 dX11_fits_23 ?_
    refine g_iload_n dX11_fits_26 rfl ?_
    obtain ⟨p27, e27, h⟩ := obind h
    refine g_vR1 mv_X11_174 dX11_fits_27 (ok_3 (by decide)) ⟨by decide, by decide⟩ (Nat.le_of_ble_eq_true rfl) (f_X4_runnerAt_ok (by decide) e27) (fun b27 => ?_)
    obtain ⟨p30, e30, h⟩ := obind h
    refine g_vP1 mv_X11_221 dX11_fits_30 (ok_3 (by decide)) ⟨by decide, by decide⟩ (Nat.le_of_ble_eq_true rfl) (f_X4_fittest_ok (by decide) b27 e30) ?_
    obtain ⟨p33, e33, h⟩ := obind h
    refine g_vP1 mv_X11_114 dX11_fits_33 ok_0 ⟨by decide, by decide⟩ (Nat.le_of_ble_eq_true rfl) (f_X11_answered_ok e33) ?_
    cases h
    exact g_iret dX11_fits_36 rfl ⟨rfl, rfl⟩
  · replace h := gif_t q h
    refine g_aload_n dX11_fits_11 rfl ?_
    refine g_iconst dX11_fits_12 kc_1 ?_
    obtain ⟨p13, e13, h⟩ := obind h
    refine g_vP1 mv_X11_91 dX11_fits_13 ok_0 ⟨by decide, by decide⟩ (Nat.le_of_ble_eq_true rfl) (f_X11_refused_ok e13) ?_
    cases h
    exact g_iret dX11_fits_16 rfl ⟨rfl, rfl⟩
theorem dX11_missed_0 : decode cX11_missed 0 = .ok (.aload_n 0, 1) := by decide +kernel
theorem dX11_missed_1 : decode cX11_missed 1 = .ok (.getfield 32, 3) := by decide +kernel
theorem dX11_missed_4 : decode cX11_missed 4 = .ok (.iload_n 1, 1) := by decide +kernel
theorem dX11_missed_5 : decode cX11_missed 5 = .ok (.invokevirtual 171, 3) := by decide +kernel
theorem dX11_missed_8 : decode cX11_missed 8 = .ok (.ifCond .ne 9, 3) := by decide +kernel
theorem dX11_missed_11 : decode cX11_missed 11 = .ok (.aload_n 0, 1) := by decide +kernel
theorem dX11_missed_12 : decode cX11_missed 12 = .ok (.iconst 1, 1) := by decide +kernel
theorem dX11_missed_13 : decode cX11_missed 13 = .ok (.invokevirtual 91, 3) := by decide +kernel
theorem dX11_missed_16 : decode cX11_missed 16 = .ok (.ireturn, 1) := by decide +kernel
theorem dX11_missed_17 : decode cX11_missed 17 = .ok (.aload_n 0, 1) := by decide +kernel
theorem dX11_missed_18 : decode cX11_missed 18 = .ok (.aload_n 0, 1) := by decide +kernel
theorem dX11_missed_19 : decode cX11_missed 19 = .ok (.getfield 32, 3) := by decide +kernel
theorem dX11_missed_22 : decode cX11_missed 22 = .ok (.iload_n 1, 1) := by decide +kernel
theorem dX11_missed_23 : decode cX11_missed 23 = .ok (.invokevirtual 174, 3) := by decide +kernel
theorem dX11_missed_26 : decode cX11_missed 26 = .ok (.invokevirtual 225, 3) := by decide +kernel
theorem dX11_missed_29 : decode cX11_missed 29 = .ok (.invokevirtual 114, 3) := by decide +kernel
theorem dX11_missed_32 : decode cX11_missed 32 = .ok (.ireturn, 1) := by decide +kernel
def f_X11_missed (v1 : Int32) (σ : gSt) : Option (Int32 × gSt) :=
  (f_X4_hasRunner 1 v1 σ).bind fun p5 =>
  if p5.1 = 0 then
    (f_X11_refused 1 p5.2).bind fun p13 =>
    some (p13.1, p13.2)
  else
    (f_X4_runnerAt 1 v1 p5.2).bind fun p23 =>
    (f_X9_missedBits p23.1 p23.2).bind fun p26 =>
    (f_X11_answered p26.1 p26.2).bind fun p29 =>
    some (p29.1, p29.2)
theorem f_X11_missed_ok {v1 : Int32}  {σ : gSt} {r : (Int32 × gSt)} (h : f_X11_missed v1 σ = some r) : Mt l w 0 41 yX11_missed cX11_missed 2 (some .int) 2 43 [.ref (w.2.1 0 0), .int v1] σ (gE (some (.int r.1)) r.2) := by
  unfold f_X11_missed at h
  refine g_start pn_X11 rfl rfl (Nat.le_of_ble_eq_true rfl) ?_
  show G l w 0 41 RX11 cX11_missed 2 (some .int) 2 43 (gE (some (.int r.1)) r.2) 0 [some (.ref (w.2.1 0 0)), some (.int v1)] [] σ
  refine g_aload_n dX11_missed_0 rfl ?_
  refine gR_X11_32 ok_0 dX11_missed_1 ?_
  refine g_iload_n dX11_missed_4 rfl ?_
  obtain ⟨p5, e5, h⟩ := obind h
  refine g_vP1 mv_X11_171 dX11_missed_5 (ok_3 (by decide)) ⟨by decide, by decide⟩ (Nat.le_of_ble_eq_true rfl) (f_X4_hasRunner_ok (by decide) e5) ?_
  refine g_if_ne 17 dX11_missed_8 rfl (fun q => ?_) (fun q => ?_)
  · replace h := gif_f q h
    refine g_aload_n dX11_missed_17 rfl ?_
    refine g_aload_n dX11_missed_18 rfl ?_
    refine gR_X11_32 ok_0 dX11_missed_19 ?_
    refine g_iload_n dX11_missed_22 rfl ?_
    obtain ⟨p23, e23, h⟩ := obind h
    refine g_vR1 mv_X11_174 dX11_missed_23 (ok_3 (by decide)) ⟨by decide, by decide⟩ (Nat.le_of_ble_eq_true rfl) (f_X4_runnerAt_ok (by decide) e23) (fun b23 => ?_)
    obtain ⟨p26, e26, h⟩ := obind h
    refine g_vP0 mv_X11_225 dX11_missed_26 (ok_10 b23) ⟨by decide, by decide⟩ (Nat.le_of_ble_eq_true rfl) (f_X9_missedBits_ok b23 e26) ?_
    obtain ⟨p29, e29, h⟩ := obind h
    refine g_vP1 mv_X11_114 dX11_missed_29 ok_0 ⟨by decide, by decide⟩ (Nat.le_of_ble_eq_true rfl) (f_X11_answered_ok e29) ?_
    cases h
    exact g_iret dX11_missed_32 rfl ⟨rfl, rfl⟩
  · replace h := gif_t q h
    refine g_aload_n dX11_missed_11 rfl ?_
    refine g_iconst dX11_missed_12 kc_1 ?_
    obtain ⟨p13, e13, h⟩ := obind h
    refine g_vP1 mv_X11_91 dX11_missed_13 ok_0 ⟨by decide, by decide⟩ (Nat.le_of_ble_eq_true rfl) (f_X11_refused_ok e13) ?_
    cases h
    exact g_iret dX11_missed_16 rfl ⟨rfl, rfl⟩
theorem dX11_split_0 : decode cX11_split 0 = .ok (.aload_n 0, 1) := by decide +kernel
theorem dX11_split_1 : decode cX11_split 1 = .ok (.getfield 32, 3) := by decide +kernel
theorem dX11_split_4 : decode cX11_split 4 = .ok (.iload_n 1, 1) := by decide +kernel
theorem dX11_split_5 : decode cX11_split 5 = .ok (.iload_n 2, 1) := by decide +kernel
theorem dX11_split_6 : decode cX11_split 6 = .ok (.invokevirtual 228, 3) := by decide +kernel
theorem dX11_split_9 : decode cX11_split 9 = .ok (.ifCond .eq 12, 3) := by decide +kernel
theorem dX11_split_12 : decode cX11_split 12 = .ok (.iload_n 3, 1) := by decide +kernel
theorem dX11_split_13 : decode cX11_split 13 = .ok (.ifCond .lt 8, 3) := by decide +kernel
theorem dX11_split_16 : decode cX11_split 16 = .ok (.iload_n 3, 1) := by decide +kernel
theorem dX11_split_17 : decode cX11_split 17 = .ok (.iconst 2, 1) := by decide +kernel
theorem dX11_split_18 : decode cX11_split 18 = .ok (.if_icmp .le 9, 3) := by decide +kernel
theorem dX11_split_21 : decode cX11_split 21 = .ok (.aload_n 0, 1) := by decide +kernel
theorem dX11_split_22 : decode cX11_split 22 = .ok (.iconst 1, 1) := by decide +kernel
theorem dX11_split_23 : decode cX11_split 23 = .ok (.invokevirtual 91, 3) := by decide +kernel
theorem dX11_split_26 : decode cX11_split 26 = .ok (.ireturn, 1) := by decide +kernel
theorem dX11_split_27 : decode cX11_split 27 = .ok (.aload_n 0, 1) := by decide +kernel
theorem dX11_split_28 : decode cX11_split 28 = .ok (.getfield 32, 3) := by decide +kernel
theorem dX11_split_31 : decode cX11_split 31 = .ok (.iload_n 1, 1) := by decide +kernel
theorem dX11_split_32 : decode cX11_split 32 = .ok (.invokevirtual 174, 3) := by decide +kernel
theorem dX11_split_35 : decode cX11_split 35 = .ok (.astore 4, 2) := by decide +kernel
theorem dX11_split_37 : decode cX11_split 37 = .ok (.aload 4, 2) := by decide +kernel
theorem dX11_split_39 : decode cX11_split 39 = .ok (.iload_n 2, 1) := by decide +kernel
theorem dX11_split_40 : decode cX11_split 40 = .ok (.invokevirtual 231, 3) := by decide +kernel
theorem dX11_split_43 : decode cX11_split 43 = .ok (.iconst (-1), 1) := by decide +kernel
theorem dX11_split_44 : decode cX11_split 44 = .ok (.if_icmp .ne 10, 3) := by decide +kernel
theorem dX11_split_47 : decode cX11_split 47 = .ok (.aload_n 0, 1) := by decide +kernel
theorem dX11_split_48 : decode cX11_split 48 = .ok (.bipush (-2), 2) := by decide +kernel
theorem dX11_split_50 : decode cX11_split 50 = .ok (.invokevirtual 114, 3) := by decide +kernel
theorem dX11_split_53 : decode cX11_split 53 = .ok (.ireturn, 1) := by decide +kernel
theorem dX11_split_54 : decode cX11_split 54 = .ok (.iload_n 3, 1) := by decide +kernel
theorem dX11_split_55 : decode cX11_split 55 = .ok (.lookupswitch 51 #[(0, 25), (1, 36)], 25) := by decide +kernel
theorem dX11_split_80 : decode cX11_split 80 = .ok (.aload_n 0, 1) := by decide +kernel
theorem dX11_split_81 : decode cX11_split 81 = .ok (.aload 4, 2) := by decide +kernel
theorem dX11_split_83 : decode cX11_split 83 = .ok (.iload_n 2, 1) := by decide +kernel
theorem dX11_split_84 : decode cX11_split 84 = .ok (.invokevirtual 234, 3) := by decide +kernel
theorem dX11_split_87 : decode cX11_split 87 = .ok (.invokevirtual 114, 3) := by decide +kernel
theorem dX11_split_90 : decode cX11_split 90 = .ok (.ireturn, 1) := by decide +kernel
theorem dX11_split_91 : decode cX11_split 91 = .ok (.aload_n 0, 1) := by decide +kernel
theorem dX11_split_92 : decode cX11_split 92 = .ok (.aload_n 0, 1) := by decide +kernel
theorem dX11_split_93 : decode cX11_split 93 = .ok (.getfield 40, 3) := by decide +kernel
theorem dX11_split_96 : decode cX11_split 96 = .ok (.aload 4, 2) := by decide +kernel
theorem dX11_split_98 : decode cX11_split 98 = .ok (.iload_n 2, 1) := by decide +kernel
theorem dX11_split_99 : decode cX11_split 99 = .ok (.invokevirtual 237, 3) := by decide +kernel
theorem dX11_split_102 : decode cX11_split 102 = .ok (.invokevirtual 114, 3) := by decide +kernel
theorem dX11_split_105 : decode cX11_split 105 = .ok (.ireturn, 1) := by decide +kernel
theorem dX11_split_106 : decode cX11_split 106 = .ok (.aload_n 0, 1) := by decide +kernel
theorem dX11_split_107 : decode cX11_split 107 = .ok (.aload 4, 2) := by decide +kernel
theorem dX11_split_109 : decode cX11_split 109 = .ok (.iload_n 2, 1) := by decide +kernel
theorem dX11_split_110 : decode cX11_split 110 = .ok (.invokevirtual 234, 3) := by decide +kernel
theorem dX11_split_113 : decode cX11_split 113 = .ok (.aload_n 0, 1) := by decide +kernel
theorem dX11_split_114 : decode cX11_split 114 = .ok (.getfield 40, 3) := by decide +kernel
theorem dX11_split_117 : decode cX11_split 117 = .ok (.aload 4, 2) := by decide +kernel
theorem dX11_split_119 : decode cX11_split 119 = .ok (.getfield 178, 3) := by decide +kernel
theorem dX11_split_122 : decode cX11_split 122 = .ok (.iload_n 2, 1) := by decide +kernel
theorem dX11_split_123 : decode cX11_split 123 = .ok (.invokevirtual 240, 3) := by decide +kernel
theorem dX11_split_126 : decode cX11_split 126 = .ok (.isub, 1) := by decide +kernel
theorem dX11_split_127 : decode cX11_split 127 = .ok (.invokevirtual 114, 3) := by decide +kernel
theorem dX11_split_130 : decode cX11_split 130 = .ok (.ireturn, 1) := by decide +kernel
def f_X11_split (v1 : Int32) (v2 : Int32) (v3 : Int32) (σ : gSt) : Option (Int32 × gSt) :=
  (f_X4_hasRunnerPoint 1 v1 v2 σ).bind fun p6 =>
  if p6.1 = 0 then
    (f_X11_refused 1 p6.2).bind fun p23 =>
    some (p23.1, p23.2)
  else
    if v3 < 0 then
      (f_X11_refused 1 p6.2).bind fun p23 =>
      some (p23.1, p23.2)
    else
      if v3 ≤ 2 then
        (f_X4_runnerAt 1 v1 p6.2).bind fun p32 =>
        (f_X9_timeAt p32.1 v2 p32.2).bind fun p40 =>
        if p40.1 = (-1) then
          (f_X11_answered (-2) p40.2).bind fun p50 =>
          some (p50.1, p50.2)
        else
          if v3 = 0 then
            (f_X9_splitAt p32.1 v2 p40.2).bind fun p84 =>
            (f_X11_answered p84.1 p84.2).bind fun p87 =>
            some (p87.1, p87.2)
          else
          if v3 = 1 then
            (f_X2_placeAtPoint p32.1 v2 p40.2).bind fun p99 =>
            (f_X11_answered p99.1 p99.2).bind fun p102 =>
            some (p102.1, p102.2)
          else
          (f_X9_splitAt p32.1 v2 p40.2).bind fun p110 =>
          (f_X2_leastSplit (p110.2 10 p32.1 5) v2 p110.2).bind fun p123 =>
          (f_X11_answered (p110.1 - p123.1) p123.2).bind fun p127 =>
          some (p127.1, p127.2)
      else
        (f_X11_refused 1 p6.2).bind fun p23 =>
        some (p23.1, p23.2)
theorem f_X11_split_ok {v1 : Int32} {v2 : Int32} {v3 : Int32}  {σ : gSt} {r : (Int32 × gSt)} (h : f_X11_split v1 v2 v3 σ = some r) : Mt l w 0 41 yX11_split cX11_split 5 (some .int) 3 68 [.ref (w.2.1 0 0), .int v1, .int v2, .int v3] σ (gE (some (.int r.1)) r.2) := by
  unfold f_X11_split at h
  refine g_start pn_X11 rfl rfl (Nat.le_of_ble_eq_true rfl) ?_
  show G l w 0 41 RX11 cX11_split 5 (some .int) 3 68 (gE (some (.int r.1)) r.2) 0 [some (.ref (w.2.1 0 0)), some (.int v1), some (.int v2), some (.int v3), none] [] σ
  refine g_aload_n dX11_split_0 rfl ?_
  refine gR_X11_32 ok_0 dX11_split_1 ?_
  refine g_iload_n dX11_split_4 rfl ?_
  refine g_iload_n dX11_split_5 rfl ?_
  obtain ⟨p6, e6, h⟩ := obind h
  refine g_vP2 mv_X11_228 dX11_split_6 (ok_3 (by decide)) ⟨by decide, by decide⟩ (Nat.le_of_ble_eq_true rfl) (f_X4_hasRunnerPoint_ok (by decide) e6) ?_
  refine g_if_eq 21 dX11_split_9 rfl (fun q => ?_) (fun q => ?_)
  · replace h := gif_t q h
    refine g_aload_n dX11_split_21 rfl ?_
    refine g_iconst dX11_split_22 kc_1 ?_
    obtain ⟨p23, e23, h⟩ := obind h
    refine g_vP1 mv_X11_91 dX11_split_23 ok_0 ⟨by decide, by decide⟩ (Nat.le_of_ble_eq_true rfl) (f_X11_refused_ok e23) ?_
    cases h
    exact g_iret dX11_split_26 rfl ⟨rfl, rfl⟩
  · replace h := gif_f q h
    refine g_iload_n dX11_split_12 rfl ?_
    refine g_if_lt 21 dX11_split_13 rfl (fun q => ?_) (fun q => ?_)
    · replace h := gif_t q h
      refine g_aload_n dX11_split_21 rfl ?_
      refine g_iconst dX11_split_22 kc_1 ?_
      obtain ⟨p23, e23, h⟩ := obind h
      refine g_vP1 mv_X11_91 dX11_split_23 ok_0 ⟨by decide, by decide⟩ (Nat.le_of_ble_eq_true rfl) (f_X11_refused_ok e23) ?_
      cases h
      exact g_iret dX11_split_26 rfl ⟨rfl, rfl⟩
    · replace h := gif_f q h
      refine g_iload_n dX11_split_16 rfl ?_
      refine g_iconst dX11_split_17 kc_2 ?_
      refine g_icmp_le 27 dX11_split_18 rfl (fun q => ?_) (fun q => ?_)
      · replace h := gif_t q h
        refine g_aload_n dX11_split_27 rfl ?_
        refine gR_X11_32 ok_0 dX11_split_28 ?_
        refine g_iload_n dX11_split_31 rfl ?_
        obtain ⟨p32, e32, h⟩ := obind h
        refine g_vR1 mv_X11_174 dX11_split_32 (ok_3 (by decide)) ⟨by decide, by decide⟩ (Nat.le_of_ble_eq_true rfl) (f_X4_runnerAt_ok (by decide) e32) (fun b32 => ?_)
        refine g_astore4 dX11_split_35 ?_
        refine g_aload dX11_split_37 rfl ?_
        refine g_iload_n dX11_split_39 rfl ?_
        obtain ⟨p40, e40, h⟩ := obind h
        refine g_vP1 mv_X11_231 dX11_split_40 (ok_10 b32) ⟨by decide, by decide⟩ (Nat.le_of_ble_eq_true rfl) (f_X9_timeAt_ok b32 e40) ?_
        refine g_iconst dX11_split_43 kc_m1 ?_
        refine g_icmp_ne 54 dX11_split_44 rfl (fun q => ?_) (fun q => ?_)
        · replace h := gif_f q h
          refine g_iload_n dX11_split_54 rfl ?_
          by_cases q0 : v3 = 0
          · replace h := gif_t q0 h
            refine g_lookup (off := 25) 80 dX11_split_55 rfl (by rw [q0]; decide) rfl ?_
            refine g_aload_n dX11_split_80 rfl ?_
            refine g_aload dX11_split_81 rfl ?_
            refine g_iload_n dX11_split_83 rfl ?_
            obtain ⟨p84, e84, h⟩ := obind h
            refine g_vP1 mv_X11_234 dX11_split_84 (ok_10 b32) ⟨by decide, by decide⟩ (Nat.le_of_ble_eq_true rfl) (f_X9_splitAt_ok b32 e84) ?_
            obtain ⟨p87, e87, h⟩ := obind h
            refine g_vP1 mv_X11_114 dX11_split_87 ok_0 ⟨by decide, by decide⟩ (Nat.le_of_ble_eq_true rfl) (f_X11_answered_ok e87) ?_
            cases h
            exact g_iret dX11_split_90 rfl ⟨rfl, rfl⟩
          replace h := gif_f q0 h
          by_cases q1 : v3 = 1
          · replace h := gif_t q1 h
            refine g_lookup (off := 36) 91 dX11_split_55 rfl (by rw [q1]; decide) rfl ?_
            refine g_aload_n dX11_split_91 rfl ?_
            refine g_aload_n dX11_split_92 rfl ?_
            refine gR_X11_40 ok_0 dX11_split_93 ?_
            refine g_aload dX11_split_96 rfl ?_
            refine g_iload_n dX11_split_98 rfl ?_
            obtain ⟨p99, e99, h⟩ := obind h
            refine g_vP2 mv_X11_237 dX11_split_99 ok_16 ⟨by decide, by decide⟩ (Nat.le_of_ble_eq_true rfl) (f_X2_placeAtPoint_ok b32 e99) ?_
            obtain ⟨p102, e102, h⟩ := obind h
            refine g_vP1 mv_X11_114 dX11_split_102 ok_0 ⟨by decide, by decide⟩ (Nat.le_of_ble_eq_true rfl) (f_X11_answered_ok e102) ?_
            cases h
            exact g_iret dX11_split_105 rfl ⟨rfl, rfl⟩
          replace h := gif_f q1 h
          refine g_lookup (off := 51) 106 dX11_split_55 rfl (lookOut2 q0 q1) rfl ?_
          refine g_aload_n dX11_split_106 rfl ?_
          refine g_aload dX11_split_107 rfl ?_
          refine g_iload_n dX11_split_109 rfl ?_
          obtain ⟨p110, e110, h⟩ := obind h
          refine g_vP1 mv_X11_234 dX11_split_110 (ok_10 b32) ⟨by decide, by decide⟩ (Nat.le_of_ble_eq_true rfl) (f_X9_splitAt_ok b32 e110) ?_
          refine g_aload_n dX11_split_113 rfl ?_
          refine gR_X11_40 ok_0 dX11_split_114 ?_
          refine g_aload dX11_split_117 rfl ?_
          refine gI_X11_178 (ok_10 b32) dX11_split_119 ?_
          refine g_iload_n dX11_split_122 rfl ?_
          obtain ⟨p123, e123, h⟩ := obind h
          refine g_vP2 mv_X11_240 dX11_split_123 ok_16 ⟨by decide, by decide⟩ (Nat.le_of_ble_eq_true rfl) (f_X2_leastSplit_ok e123) ?_
          refine g_isub dX11_split_126 ?_
          obtain ⟨p127, e127, h⟩ := obind h
          refine g_vP1 mv_X11_114 dX11_split_127 ok_0 ⟨by decide, by decide⟩ (Nat.le_of_ble_eq_true rfl) (f_X11_answered_ok e127) ?_
          cases h
          exact g_iret dX11_split_130 rfl ⟨rfl, rfl⟩
        · replace h := gif_t q h
          refine g_aload_n dX11_split_47 rfl ?_
          refine g_bipush dX11_split_48 kb_m2 ?_
          obtain ⟨p50, e50, h⟩ := obind h
          refine g_vP1 mv_X11_114 dX11_split_50 ok_0 ⟨by decide, by decide⟩ (Nat.le_of_ble_eq_true rfl) (f_X11_answered_ok e50) ?_
          cases h
          exact g_iret dX11_split_53 rfl ⟨rfl, rfl⟩
      · replace h := gif_f q h
        refine g_aload_n dX11_split_21 rfl ?_
        refine g_iconst dX11_split_22 kc_1 ?_
        obtain ⟨p23, e23, h⟩ := obind h
        refine g_vP1 mv_X11_91 dX11_split_23 ok_0 ⟨by decide, by decide⟩ (Nat.le_of_ble_eq_true rfl) (f_X11_refused_ok e23) ?_
        cases h
        exact g_iret dX11_split_26 rfl ⟨rfl, rfl⟩
theorem dX11_leg_0 : decode cX11_leg 0 = .ok (.aload_n 0, 1) := by decide +kernel
theorem dX11_leg_1 : decode cX11_leg 1 = .ok (.getfield 32, 3) := by decide +kernel
theorem dX11_leg_4 : decode cX11_leg 4 = .ok (.iload_n 1, 1) := by decide +kernel
theorem dX11_leg_5 : decode cX11_leg 5 = .ok (.iload_n 2, 1) := by decide +kernel
theorem dX11_leg_6 : decode cX11_leg 6 = .ok (.invokevirtual 228, 3) := by decide +kernel
theorem dX11_leg_9 : decode cX11_leg 9 = .ok (.ifCond .eq 12, 3) := by decide +kernel
theorem dX11_leg_12 : decode cX11_leg 12 = .ok (.iload_n 3, 1) := by decide +kernel
theorem dX11_leg_13 : decode cX11_leg 13 = .ok (.ifCond .lt 8, 3) := by decide +kernel
theorem dX11_leg_16 : decode cX11_leg 16 = .ok (.iload_n 3, 1) := by decide +kernel
theorem dX11_leg_17 : decode cX11_leg 17 = .ok (.iconst 3, 1) := by decide +kernel
theorem dX11_leg_18 : decode cX11_leg 18 = .ok (.if_icmp .le 9, 3) := by decide +kernel
theorem dX11_leg_21 : decode cX11_leg 21 = .ok (.aload_n 0, 1) := by decide +kernel
theorem dX11_leg_22 : decode cX11_leg 22 = .ok (.iconst 1, 1) := by decide +kernel
theorem dX11_leg_23 : decode cX11_leg 23 = .ok (.invokevirtual 91, 3) := by decide +kernel
theorem dX11_leg_26 : decode cX11_leg 26 = .ok (.ireturn, 1) := by decide +kernel
theorem dX11_leg_27 : decode cX11_leg 27 = .ok (.aload_n 0, 1) := by decide +kernel
theorem dX11_leg_28 : decode cX11_leg 28 = .ok (.getfield 32, 3) := by decide +kernel
theorem dX11_leg_31 : decode cX11_leg 31 = .ok (.iload_n 1, 1) := by decide +kernel
theorem dX11_leg_32 : decode cX11_leg 32 = .ok (.invokevirtual 174, 3) := by decide +kernel
theorem dX11_leg_35 : decode cX11_leg 35 = .ok (.astore 4, 2) := by decide +kernel
theorem dX11_leg_37 : decode cX11_leg 37 = .ok (.aload 4, 2) := by decide +kernel
theorem dX11_leg_39 : decode cX11_leg 39 = .ok (.iload_n 2, 1) := by decide +kernel
theorem dX11_leg_40 : decode cX11_leg 40 = .ok (.invokevirtual 244, 3) := by decide +kernel
theorem dX11_leg_43 : decode cX11_leg 43 = .ok (.iconst (-1), 1) := by decide +kernel
theorem dX11_leg_44 : decode cX11_leg 44 = .ok (.if_icmp .ne 10, 3) := by decide +kernel
theorem dX11_leg_47 : decode cX11_leg 47 = .ok (.aload_n 0, 1) := by decide +kernel
theorem dX11_leg_48 : decode cX11_leg 48 = .ok (.bipush (-2), 2) := by decide +kernel
theorem dX11_leg_50 : decode cX11_leg 50 = .ok (.invokevirtual 114, 3) := by decide +kernel
theorem dX11_leg_53 : decode cX11_leg 53 = .ok (.ireturn, 1) := by decide +kernel
theorem dX11_leg_54 : decode cX11_leg 54 = .ok (.iload_n 3, 1) := by decide +kernel
theorem dX11_leg_55 : decode cX11_leg 55 = .ok (.tableswitch 66 0 2 #[25, 36, 51], 25) := by decide +kernel
theorem dX11_leg_80 : decode cX11_leg 80 = .ok (.aload_n 0, 1) := by decide +kernel
theorem dX11_leg_81 : decode cX11_leg 81 = .ok (.aload 4, 2) := by decide +kernel
theorem dX11_leg_83 : decode cX11_leg 83 = .ok (.iload_n 2, 1) := by decide +kernel
theorem dX11_leg_84 : decode cX11_leg 84 = .ok (.invokevirtual 244, 3) := by decide +kernel
theorem dX11_leg_87 : decode cX11_leg 87 = .ok (.invokevirtual 114, 3) := by decide +kernel
theorem dX11_leg_90 : decode cX11_leg 90 = .ok (.ireturn, 1) := by decide +kernel
theorem dX11_leg_91 : decode cX11_leg 91 = .ok (.aload_n 0, 1) := by decide +kernel
theorem dX11_leg_92 : decode cX11_leg 92 = .ok (.aload_n 0, 1) := by decide +kernel
theorem dX11_leg_93 : decode cX11_leg 93 = .ok (.getfield 40, 3) := by decide +kernel
theorem dX11_leg_96 : decode cX11_leg 96 = .ok (.aload 4, 2) := by decide +kernel
theorem dX11_leg_98 : decode cX11_leg 98 = .ok (.iload_n 2, 1) := by decide +kernel
theorem dX11_leg_99 : decode cX11_leg 99 = .ok (.invokevirtual 247, 3) := by decide +kernel
theorem dX11_leg_102 : decode cX11_leg 102 = .ok (.invokevirtual 114, 3) := by decide +kernel
theorem dX11_leg_105 : decode cX11_leg 105 = .ok (.ireturn, 1) := by decide +kernel
theorem dX11_leg_106 : decode cX11_leg 106 = .ok (.aload_n 0, 1) := by decide +kernel
theorem dX11_leg_107 : decode cX11_leg 107 = .ok (.aload_n 0, 1) := by decide +kernel
theorem dX11_leg_108 : decode cX11_leg 108 = .ok (.getfield 40, 3) := by decide +kernel
theorem dX11_leg_111 : decode cX11_leg 111 = .ok (.aload 4, 2) := by decide +kernel
theorem dX11_leg_113 : decode cX11_leg 113 = .ok (.iload_n 2, 1) := by decide +kernel
theorem dX11_leg_114 : decode cX11_leg 114 = .ok (.invokevirtual 250, 3) := by decide +kernel
theorem dX11_leg_117 : decode cX11_leg 117 = .ok (.invokevirtual 114, 3) := by decide +kernel
theorem dX11_leg_120 : decode cX11_leg 120 = .ok (.ireturn, 1) := by decide +kernel
theorem dX11_leg_121 : decode cX11_leg 121 = .ok (.aload_n 0, 1) := by decide +kernel
theorem dX11_leg_122 : decode cX11_leg 122 = .ok (.getfield 49, 3) := by decide +kernel
theorem dX11_leg_125 : decode cX11_leg 125 = .ok (.aload 4, 2) := by decide +kernel
theorem dX11_leg_127 : decode cX11_leg 127 = .ok (.invokevirtual 253, 3) := by decide +kernel
theorem dX11_leg_130 : decode cX11_leg 130 = .ok (.pop, 1) := by decide +kernel
theorem dX11_leg_131 : decode cX11_leg 131 = .ok (.aload_n 0, 1) := by decide +kernel
theorem dX11_leg_132 : decode cX11_leg 132 = .ok (.aload_n 0, 1) := by decide +kernel
theorem dX11_leg_133 : decode cX11_leg 133 = .ok (.getfield 49, 3) := by decide +kernel
theorem dX11_leg_136 : decode cX11_leg 136 = .ok (.iload_n 2, 1) := by decide +kernel
theorem dX11_leg_137 : decode cX11_leg 137 = .ok (.invokevirtual 257, 3) := by decide +kernel
theorem dX11_leg_140 : decode cX11_leg 140 = .ok (.ifCond .eq 14, 3) := by decide +kernel
theorem dX11_leg_143 : decode cX11_leg 143 = .ok (.aload_n 0, 1) := by decide +kernel
theorem dX11_leg_144 : decode cX11_leg 144 = .ok (.getfield 49, 3) := by decide +kernel
theorem dX11_leg_147 : decode cX11_leg 147 = .ok (.iload_n 2, 1) := by decide +kernel
theorem dX11_leg_148 : decode cX11_leg 148 = .ok (.invokevirtual 260, 3) := by decide +kernel
theorem dX11_leg_151 : decode cX11_leg 151 = .ok (.goto 5, 3) := by decide +kernel
theorem dX11_leg_154 : decode cX11_leg 154 = .ok (.bipush (-2), 2) := by decide +kernel
theorem dX11_leg_156 : decode cX11_leg 156 = .ok (.invokevirtual 114, 3) := by decide +kernel
theorem dX11_leg_159 : decode cX11_leg 159 = .ok (.ireturn, 1) := by decide +kernel
def f_X11_leg (v1 : Int32) (v2 : Int32) (v3 : Int32) (σ : gSt) : Option (Int32 × gSt) :=
  (f_X4_hasRunnerPoint 1 v1 v2 σ).bind fun p6 =>
  if p6.1 = 0 then
    (f_X11_refused 1 p6.2).bind fun p23 =>
    some (p23.1, p23.2)
  else
    if v3 < 0 then
      (f_X11_refused 1 p6.2).bind fun p23 =>
      some (p23.1, p23.2)
    else
      if v3 ≤ 3 then
        (f_X4_runnerAt 1 v1 p6.2).bind fun p32 =>
        (f_X9_legTime p32.1 v2 p32.2).bind fun p40 =>
        if p40.1 = (-1) then
          (f_X11_answered (-2) p40.2).bind fun p50 =>
          some (p50.1, p50.2)
        else
          if v3 = 0 then
            (f_X9_legTime p32.1 v2 p40.2).bind fun p84 =>
            (f_X11_answered p84.1 p84.2).bind fun p87 =>
            some (p87.1, p87.2)
          else
          if v3 = 1 then
            (f_X2_placeOnLeg p32.1 v2 p40.2).bind fun p99 =>
            (f_X11_answered p99.1 p99.2).bind fun p102 =>
            some (p102.1, p102.2)
          else
          if v3 = 2 then
            (f_X2_lostOn p32.1 v2 p40.2).bind fun p114 =>
            (f_X11_answered p114.1 p114.2).bind fun p117 =>
            some (p117.1, p117.2)
          else
          (f_X5_reckon p32.1 p40.2).bind fun p127 =>
          (f_X5_isPaced v2 p127.2).bind fun p137 =>
          if p137.1 = 0 then
            (f_X11_answered (-2) p137.2).bind fun p156 =>
            some (p156.1, p156.2)
          else
            (f_X5_mistakeOn v2 p137.2).bind fun p148 =>
            (f_X11_answered p148.1 p148.2).bind fun p156 =>
            some (p156.1, p156.2)
      else
        (f_X11_refused 1 p6.2).bind fun p23 =>
        some (p23.1, p23.2)
theorem f_X11_leg_ok {v1 : Int32} {v2 : Int32} {v3 : Int32}  {σ : gSt} {r : (Int32 × gSt)} (h : f_X11_leg v1 v2 v3 σ = some r) : Mt l w 0 41 yX11_leg cX11_leg 5 (some .int) 4 93 [.ref (w.2.1 0 0), .int v1, .int v2, .int v3] σ (gE (some (.int r.1)) r.2) := by
  unfold f_X11_leg at h
  refine g_start pn_X11 rfl rfl (Nat.le_of_ble_eq_true rfl) ?_
  show G l w 0 41 RX11 cX11_leg 5 (some .int) 4 93 (gE (some (.int r.1)) r.2) 0 [some (.ref (w.2.1 0 0)), some (.int v1), some (.int v2), some (.int v3), none] [] σ
  refine g_aload_n dX11_leg_0 rfl ?_
  refine gR_X11_32 ok_0 dX11_leg_1 ?_
  refine g_iload_n dX11_leg_4 rfl ?_
  refine g_iload_n dX11_leg_5 rfl ?_
  obtain ⟨p6, e6, h⟩ := obind h
  refine g_vP2 mv_X11_228 dX11_leg_6 (ok_3 (by decide)) ⟨by decide, by decide⟩ (Nat.le_of_ble_eq_true rfl) (f_X4_hasRunnerPoint_ok (by decide) e6) ?_
  refine g_if_eq 21 dX11_leg_9 rfl (fun q => ?_) (fun q => ?_)
  · replace h := gif_t q h
    refine g_aload_n dX11_leg_21 rfl ?_
    refine g_iconst dX11_leg_22 kc_1 ?_
    obtain ⟨p23, e23, h⟩ := obind h
    refine g_vP1 mv_X11_91 dX11_leg_23 ok_0 ⟨by decide, by decide⟩ (Nat.le_of_ble_eq_true rfl) (f_X11_refused_ok e23) ?_
    cases h
    exact g_iret dX11_leg_26 rfl ⟨rfl, rfl⟩
  · replace h := gif_f q h
    refine g_iload_n dX11_leg_12 rfl ?_
    refine g_if_lt 21 dX11_leg_13 rfl (fun q => ?_) (fun q => ?_)
    · replace h := gif_t q h
      refine g_aload_n dX11_leg_21 rfl ?_
      refine g_iconst dX11_leg_22 kc_1 ?_
      obtain ⟨p23, e23, h⟩ := obind h
      refine g_vP1 mv_X11_91 dX11_leg_23 ok_0 ⟨by decide, by decide⟩ (Nat.le_of_ble_eq_true rfl) (f_X11_refused_ok e23) ?_
      cases h
      exact g_iret dX11_leg_26 rfl ⟨rfl, rfl⟩
    · replace h := gif_f q h
      refine g_iload_n dX11_leg_16 rfl ?_
      refine g_iconst dX11_leg_17 kc_3 ?_
      refine g_icmp_le 27 dX11_leg_18 rfl (fun q => ?_) (fun q => ?_)
      · replace h := gif_t q h
        refine g_aload_n dX11_leg_27 rfl ?_
        refine gR_X11_32 ok_0 dX11_leg_28 ?_
        refine g_iload_n dX11_leg_31 rfl ?_
        obtain ⟨p32, e32, h⟩ := obind h
        refine g_vR1 mv_X11_174 dX11_leg_32 (ok_3 (by decide)) ⟨by decide, by decide⟩ (Nat.le_of_ble_eq_true rfl) (f_X4_runnerAt_ok (by decide) e32) (fun b32 => ?_)
        refine g_astore4 dX11_leg_35 ?_
        refine g_aload dX11_leg_37 rfl ?_
        refine g_iload_n dX11_leg_39 rfl ?_
        obtain ⟨p40, e40, h⟩ := obind h
        refine g_vP1 mv_X11_244 dX11_leg_40 (ok_10 b32) ⟨by decide, by decide⟩ (Nat.le_of_ble_eq_true rfl) (f_X9_legTime_ok b32 e40) ?_
        refine g_iconst dX11_leg_43 kc_m1 ?_
        refine g_icmp_ne 54 dX11_leg_44 rfl (fun q => ?_) (fun q => ?_)
        · replace h := gif_f q h
          refine g_iload_n dX11_leg_54 rfl ?_
          by_cases q0 : v3 = 0
          · replace h := gif_t q0 h
            refine g_tableIn (off := 25) 80 dX11_leg_55 (by rw [q0]; decide) (by rw [q0]; decide) (by rw [q0]; rfl) rfl ?_
            refine g_aload_n dX11_leg_80 rfl ?_
            refine g_aload dX11_leg_81 rfl ?_
            refine g_iload_n dX11_leg_83 rfl ?_
            obtain ⟨p84, e84, h⟩ := obind h
            refine g_vP1 mv_X11_244 dX11_leg_84 (ok_10 b32) ⟨by decide, by decide⟩ (Nat.le_of_ble_eq_true rfl) (f_X9_legTime_ok b32 e84) ?_
            obtain ⟨p87, e87, h⟩ := obind h
            refine g_vP1 mv_X11_114 dX11_leg_87 ok_0 ⟨by decide, by decide⟩ (Nat.le_of_ble_eq_true rfl) (f_X11_answered_ok e87) ?_
            cases h
            exact g_iret dX11_leg_90 rfl ⟨rfl, rfl⟩
          replace h := gif_f q0 h
          by_cases q1 : v3 = 1
          · replace h := gif_t q1 h
            refine g_tableIn (off := 36) 91 dX11_leg_55 (by rw [q1]; decide) (by rw [q1]; decide) (by rw [q1]; rfl) rfl ?_
            refine g_aload_n dX11_leg_91 rfl ?_
            refine g_aload_n dX11_leg_92 rfl ?_
            refine gR_X11_40 ok_0 dX11_leg_93 ?_
            refine g_aload dX11_leg_96 rfl ?_
            refine g_iload_n dX11_leg_98 rfl ?_
            obtain ⟨p99, e99, h⟩ := obind h
            refine g_vP2 mv_X11_247 dX11_leg_99 ok_16 ⟨by decide, by decide⟩ (Nat.le_of_ble_eq_true rfl) (f_X2_placeOnLeg_ok b32 e99) ?_
            obtain ⟨p102, e102, h⟩ := obind h
            refine g_vP1 mv_X11_114 dX11_leg_102 ok_0 ⟨by decide, by decide⟩ (Nat.le_of_ble_eq_true rfl) (f_X11_answered_ok e102) ?_
            cases h
            exact g_iret dX11_leg_105 rfl ⟨rfl, rfl⟩
          replace h := gif_f q1 h
          by_cases q2 : v3 = 2
          · replace h := gif_t q2 h
            refine g_tableIn (off := 51) 106 dX11_leg_55 (by rw [q2]; decide) (by rw [q2]; decide) (by rw [q2]; rfl) rfl ?_
            refine g_aload_n dX11_leg_106 rfl ?_
            refine g_aload_n dX11_leg_107 rfl ?_
            refine gR_X11_40 ok_0 dX11_leg_108 ?_
            refine g_aload dX11_leg_111 rfl ?_
            refine g_iload_n dX11_leg_113 rfl ?_
            obtain ⟨p114, e114, h⟩ := obind h
            refine g_vP2 mv_X11_250 dX11_leg_114 ok_16 ⟨by decide, by decide⟩ (Nat.le_of_ble_eq_true rfl) (f_X2_lostOn_ok b32 e114) ?_
            obtain ⟨p117, e117, h⟩ := obind h
            refine g_vP1 mv_X11_114 dX11_leg_117 ok_0 ⟨by decide, by decide⟩ (Nat.le_of_ble_eq_true rfl) (f_X11_answered_ok e117) ?_
            cases h
            exact g_iret dX11_leg_120 rfl ⟨rfl, rfl⟩
          replace h := gif_f q2 h
          refine g_tableOut 121 dX11_leg_55 (tabOut (b := 2) (by decide) (fun j hj => by rcases (show j = 0 ∨ j = 1 ∨ j = 2 by omega) with rfl | rfl | rfl <;> assumption)) rfl ?_
          refine g_aload_n dX11_leg_121 rfl ?_
          refine gR_X11_49 ok_0 dX11_leg_122 ?_
          refine g_aload dX11_leg_125 rfl ?_
          obtain ⟨p127, e127, h⟩ := obind h
          refine g_vP1 mv_X11_253 dX11_leg_127 ok_17 ⟨by decide, by decide⟩ (Nat.le_of_ble_eq_true rfl) (f_X5_reckon_ok b32 e127) ?_
          refine g_pop dX11_leg_130 rfl ?_
          refine g_aload_n dX11_leg_131 rfl ?_
          refine g_aload_n dX11_leg_132 rfl ?_
          refine gR_X11_49 ok_0 dX11_leg_133 ?_
          refine g_iload_n dX11_leg_136 rfl ?_
          obtain ⟨p137, e137, h⟩ := obind h
          refine g_vP1 mv_X11_257 dX11_leg_137 ok_17 ⟨by decide, by decide⟩ (Nat.le_of_ble_eq_true rfl) (f_X5_isPaced_ok e137) ?_
          refine g_if_eq 154 dX11_leg_140 rfl (fun q => ?_) (fun q => ?_)
          · replace h := gif_t q h
            refine g_bipush dX11_leg_154 kb_m2 ?_
            obtain ⟨p156, e156, h⟩ := obind h
            refine g_vP1 mv_X11_114 dX11_leg_156 ok_0 ⟨by decide, by decide⟩ (Nat.le_of_ble_eq_true rfl) (f_X11_answered_ok e156) ?_
            cases h
            exact g_iret dX11_leg_159 rfl ⟨rfl, rfl⟩
          · replace h := gif_f q h
            refine g_aload_n dX11_leg_143 rfl ?_
            refine gR_X11_49 ok_0 dX11_leg_144 ?_
            refine g_iload_n dX11_leg_147 rfl ?_
            obtain ⟨p148, e148, h⟩ := obind h
            refine g_vP1 mv_X11_260 dX11_leg_148 ok_17 ⟨by decide, by decide⟩ (Nat.le_of_ble_eq_true rfl) (f_X5_mistakeOn_ok e148) ?_
            refine g_goto 156 dX11_leg_151 rfl ?_
            obtain ⟨p156, e156, h⟩ := obind h
            refine g_vP1 mv_X11_114 dX11_leg_156 ok_0 ⟨by decide, by decide⟩ (Nat.le_of_ble_eq_true rfl) (f_X11_answered_ok e156) ?_
            cases h
            exact g_iret dX11_leg_159 rfl ⟨rfl, rfl⟩
        · replace h := gif_t q h
          refine g_aload_n dX11_leg_47 rfl ?_
          refine g_bipush dX11_leg_48 kb_m2 ?_
          obtain ⟨p50, e50, h⟩ := obind h
          refine g_vP1 mv_X11_114 dX11_leg_50 ok_0 ⟨by decide, by decide⟩ (Nat.le_of_ble_eq_true rfl) (f_X11_answered_ok e50) ?_
          cases h
          exact g_iret dX11_leg_53 rfl ⟨rfl, rfl⟩
      · replace h := gif_f q h
        refine g_aload_n dX11_leg_21 rfl ?_
        refine g_iconst dX11_leg_22 kc_1 ?_
        obtain ⟨p23, e23, h⟩ := obind h
        refine g_vP1 mv_X11_91 dX11_leg_23 ok_0 ⟨by decide, by decide⟩ (Nat.le_of_ble_eq_true rfl) (f_X11_refused_ok e23) ?_
        cases h
        exact g_iret dX11_leg_26 rfl ⟨rfl, rfl⟩
theorem dX11_best_0 : decode cX11_best 0 = .ok (.aload_n 0, 1) := by decide +kernel
theorem dX11_best_1 : decode cX11_best 1 = .ok (.getfield 32, 3) := by decide +kernel
theorem dX11_best_4 : decode cX11_best 4 = .ok (.iload_n 1, 1) := by decide +kernel
theorem dX11_best_5 : decode cX11_best 5 = .ok (.iload_n 2, 1) := by decide +kernel
theorem dX11_best_6 : decode cX11_best 6 = .ok (.invokevirtual 263, 3) := by decide +kernel
theorem dX11_best_9 : decode cX11_best 9 = .ok (.ifCond .eq 12, 3) := by decide +kernel
theorem dX11_best_12 : decode cX11_best 12 = .ok (.iload_n 3, 1) := by decide +kernel
theorem dX11_best_13 : decode cX11_best 13 = .ok (.ifCond .lt 8, 3) := by decide +kernel
theorem dX11_best_16 : decode cX11_best 16 = .ok (.iload_n 3, 1) := by decide +kernel
theorem dX11_best_17 : decode cX11_best 17 = .ok (.iconst 1, 1) := by decide +kernel
theorem dX11_best_18 : decode cX11_best 18 = .ok (.if_icmp .le 9, 3) := by decide +kernel
theorem dX11_best_21 : decode cX11_best 21 = .ok (.aload_n 0, 1) := by decide +kernel
theorem dX11_best_22 : decode cX11_best 22 = .ok (.iconst 1, 1) := by decide +kernel
theorem dX11_best_23 : decode cX11_best 23 = .ok (.invokevirtual 91, 3) := by decide +kernel
theorem dX11_best_26 : decode cX11_best 26 = .ok (.ireturn, 1) := by decide +kernel
theorem dX11_best_27 : decode cX11_best 27 = .ok (.aload_n 0, 1) := by decide +kernel
theorem dX11_best_28 : decode cX11_best 28 = .ok (.getfield 40, 3) := by decide +kernel
theorem dX11_best_31 : decode cX11_best 31 = .ok (.iload_n 1, 1) := by decide +kernel
theorem dX11_best_32 : decode cX11_best 32 = .ok (.iload_n 2, 1) := by decide +kernel
theorem dX11_best_33 : decode cX11_best 33 = .ok (.invokevirtual 266, 3) := by decide +kernel
theorem dX11_best_36 : decode cX11_best 36 = .ok (.istore 4, 2) := by decide +kernel
theorem dX11_best_38 : decode cX11_best 38 = .ok (.iload 4, 2) := by decide +kernel
theorem dX11_best_40 : decode cX11_best 40 = .ok (.iconst (-1), 1) := by decide +kernel
theorem dX11_best_41 : decode cX11_best 41 = .ok (.if_icmp .ne 10, 3) := by decide +kernel
theorem dX11_best_44 : decode cX11_best 44 = .ok (.aload_n 0, 1) := by decide +kernel
theorem dX11_best_45 : decode cX11_best 45 = .ok (.bipush (-2), 2) := by decide +kernel
theorem dX11_best_47 : decode cX11_best 47 = .ok (.invokevirtual 114, 3) := by decide +kernel
theorem dX11_best_50 : decode cX11_best 50 = .ok (.ireturn, 1) := by decide +kernel
theorem dX11_best_51 : decode cX11_best 51 = .ok (.aload_n 0, 1) := by decide +kernel
theorem dX11_best_52 : decode cX11_best 52 = .ok (.iload_n 3, 1) := by decide +kernel
theorem dX11_best_53 : decode cX11_best 53 = .ok (.ifCond .ne 15, 3) := by decide +kernel
theorem dX11_best_56 : decode cX11_best 56 = .ok (.aload_n 0, 1) := by decide +kernel
theorem dX11_best_57 : decode cX11_best 57 = .ok (.getfield 40, 3) := by decide +kernel
theorem dX11_best_60 : decode cX11_best 60 = .ok (.iload_n 1, 1) := by decide +kernel
theorem dX11_best_61 : decode cX11_best 61 = .ok (.iload_n 2, 1) := by decide +kernel
theorem dX11_best_62 : decode cX11_best 62 = .ok (.invokevirtual 269, 3) := by decide +kernel
theorem dX11_best_65 : decode cX11_best 65 = .ok (.goto 5, 3) := by decide +kernel
theorem dX11_best_68 : decode cX11_best 68 = .ok (.iload 4, 2) := by decide +kernel
theorem dX11_best_70 : decode cX11_best 70 = .ok (.invokevirtual 114, 3) := by decide +kernel
theorem dX11_best_73 : decode cX11_best 73 = .ok (.ireturn, 1) := by decide +kernel
def f_X11_best (v1 : Int32) (v2 : Int32) (v3 : Int32) (σ : gSt) : Option (Int32 × gSt) :=
  (f_X4_hasPoint 1 v1 v2 σ).bind fun p6 =>
  if p6.1 = 0 then
    (f_X11_refused 1 p6.2).bind fun p23 =>
    some (p23.1, p23.2)
  else
    if v3 < 0 then
      (f_X11_refused 1 p6.2).bind fun p23 =>
      some (p23.1, p23.2)
    else
      if v3 ≤ 1 then
        (f_X2_bestRunner v1 v2 p6.2).bind fun p33 =>
        if p33.1 = (-1) then
          (f_X11_answered (-2) p33.2).bind fun p47 =>
          some (p47.1, p47.2)
        else
          if v3 = 0 then
            (f_X2_bestTime v1 v2 p33.2).bind fun p62 =>
            (f_X11_answered p62.1 p62.2).bind fun p70 =>
            some (p70.1, p70.2)
          else
            (f_X11_answered p33.1 p33.2).bind fun p70 =>
            some (p70.1, p70.2)
      else
        (f_X11_refused 1 p6.2).bind fun p23 =>
        some (p23.1, p23.2)
theorem f_X11_best_ok {v1 : Int32} {v2 : Int32} {v3 : Int32}  {σ : gSt} {r : (Int32 × gSt)} (h : f_X11_best v1 v2 v3 σ = some r) : Mt l w 0 41 yX11_best cX11_best 5 (some .int) 4 93 [.ref (w.2.1 0 0), .int v1, .int v2, .int v3] σ (gE (some (.int r.1)) r.2) := by
  unfold f_X11_best at h
  refine g_start pn_X11 rfl rfl (Nat.le_of_ble_eq_true rfl) ?_
  show G l w 0 41 RX11 cX11_best 5 (some .int) 4 93 (gE (some (.int r.1)) r.2) 0 [some (.ref (w.2.1 0 0)), some (.int v1), some (.int v2), some (.int v3), none] [] σ
  refine g_aload_n dX11_best_0 rfl ?_
  refine gR_X11_32 ok_0 dX11_best_1 ?_
  refine g_iload_n dX11_best_4 rfl ?_
  refine g_iload_n dX11_best_5 rfl ?_
  obtain ⟨p6, e6, h⟩ := obind h
  refine g_vP2 mv_X11_263 dX11_best_6 (ok_3 (by decide)) ⟨by decide, by decide⟩ (Nat.le_of_ble_eq_true rfl) (f_X4_hasPoint_ok (by decide) e6) ?_
  refine g_if_eq 21 dX11_best_9 rfl (fun q => ?_) (fun q => ?_)
  · replace h := gif_t q h
    refine g_aload_n dX11_best_21 rfl ?_
    refine g_iconst dX11_best_22 kc_1 ?_
    obtain ⟨p23, e23, h⟩ := obind h
    refine g_vP1 mv_X11_91 dX11_best_23 ok_0 ⟨by decide, by decide⟩ (Nat.le_of_ble_eq_true rfl) (f_X11_refused_ok e23) ?_
    cases h
    exact g_iret dX11_best_26 rfl ⟨rfl, rfl⟩
  · replace h := gif_f q h
    refine g_iload_n dX11_best_12 rfl ?_
    refine g_if_lt 21 dX11_best_13 rfl (fun q => ?_) (fun q => ?_)
    · replace h := gif_t q h
      refine g_aload_n dX11_best_21 rfl ?_
      refine g_iconst dX11_best_22 kc_1 ?_
      obtain ⟨p23, e23, h⟩ := obind h
      refine g_vP1 mv_X11_91 dX11_best_23 ok_0 ⟨by decide, by decide⟩ (Nat.le_of_ble_eq_true rfl) (f_X11_refused_ok e23) ?_
      cases h
      exact g_iret dX11_best_26 rfl ⟨rfl, rfl⟩
    · replace h := gif_f q h
      refine g_iload_n dX11_best_16 rfl ?_
      refine g_iconst dX11_best_17 kc_1 ?_
      refine g_icmp_le 27 dX11_best_18 rfl (fun q => ?_) (fun q => ?_)
      · replace h := gif_t q h
        refine g_aload_n dX11_best_27 rfl ?_
        refine gR_X11_40 ok_0 dX11_best_28 ?_
        refine g_iload_n dX11_best_31 rfl ?_
        refine g_iload_n dX11_best_32 rfl ?_
        obtain ⟨p33, e33, h⟩ := obind h
        refine g_vP2 mv_X11_266 dX11_best_33 ok_16 ⟨by decide, by decide⟩ (Nat.le_of_ble_eq_true rfl) (f_X2_bestRunner_ok e33) ?_
        refine g_istore4 dX11_best_36 ?_
        refine g_iload dX11_best_38 rfl ?_
        refine g_iconst dX11_best_40 kc_m1 ?_
        refine g_icmp_ne 51 dX11_best_41 rfl (fun q => ?_) (fun q => ?_)
        · replace h := gif_f q h
          refine g_aload_n dX11_best_51 rfl ?_
          refine g_iload_n dX11_best_52 rfl ?_
          refine g_if_ne 68 dX11_best_53 rfl (fun q => ?_) (fun q => ?_)
          · replace h := gif_f q h
            refine g_iload dX11_best_68 rfl ?_
            obtain ⟨p70, e70, h⟩ := obind h
            refine g_vP1 mv_X11_114 dX11_best_70 ok_0 ⟨by decide, by decide⟩ (Nat.le_of_ble_eq_true rfl) (f_X11_answered_ok e70) ?_
            cases h
            exact g_iret dX11_best_73 rfl ⟨rfl, rfl⟩
          · replace h := gif_t q h
            refine g_aload_n dX11_best_56 rfl ?_
            refine gR_X11_40 ok_0 dX11_best_57 ?_
            refine g_iload_n dX11_best_60 rfl ?_
            refine g_iload_n dX11_best_61 rfl ?_
            obtain ⟨p62, e62, h⟩ := obind h
            refine g_vP2 mv_X11_269 dX11_best_62 ok_16 ⟨by decide, by decide⟩ (Nat.le_of_ble_eq_true rfl) (f_X2_bestTime_ok e62) ?_
            refine g_goto 70 dX11_best_65 rfl ?_
            obtain ⟨p70, e70, h⟩ := obind h
            refine g_vP1 mv_X11_114 dX11_best_70 ok_0 ⟨by decide, by decide⟩ (Nat.le_of_ble_eq_true rfl) (f_X11_answered_ok e70) ?_
            cases h
            exact g_iret dX11_best_73 rfl ⟨rfl, rfl⟩
        · replace h := gif_t q h
          refine g_aload_n dX11_best_44 rfl ?_
          refine g_bipush dX11_best_45 kb_m2 ?_
          obtain ⟨p47, e47, h⟩ := obind h
          refine g_vP1 mv_X11_114 dX11_best_47 ok_0 ⟨by decide, by decide⟩ (Nat.le_of_ble_eq_true rfl) (f_X11_answered_ok e47) ?_
          cases h
          exact g_iret dX11_best_50 rfl ⟨rfl, rfl⟩
      · replace h := gif_f q h
        refine g_aload_n dX11_best_21 rfl ?_
        refine g_iconst dX11_best_22 kc_1 ?_
        obtain ⟨p23, e23, h⟩ := obind h
        refine g_vP1 mv_X11_91 dX11_best_23 ok_0 ⟨by decide, by decide⟩ (Nat.le_of_ble_eq_true rfl) (f_X11_refused_ok e23) ?_
        cases h
        exact g_iret dX11_best_26 rfl ⟨rfl, rfl⟩
theorem dX11_leads_0 : decode cX11_leads 0 = .ok (.aload_n 0, 1) := by decide +kernel
theorem dX11_leads_1 : decode cX11_leads 1 = .ok (.getfield 32, 3) := by decide +kernel
theorem dX11_leads_4 : decode cX11_leads 4 = .ok (.iload_n 1, 1) := by decide +kernel
theorem dX11_leads_5 : decode cX11_leads 5 = .ok (.iload_n 2, 1) := by decide +kernel
theorem dX11_leads_6 : decode cX11_leads 6 = .ok (.invokevirtual 263, 3) := by decide +kernel
theorem dX11_leads_9 : decode cX11_leads 9 = .ok (.ifCond .ne 9, 3) := by decide +kernel
theorem dX11_leads_12 : decode cX11_leads 12 = .ok (.aload_n 0, 1) := by decide +kernel
theorem dX11_leads_13 : decode cX11_leads 13 = .ok (.iconst 1, 1) := by decide +kernel
theorem dX11_leads_14 : decode cX11_leads 14 = .ok (.invokevirtual 91, 3) := by decide +kernel
theorem dX11_leads_17 : decode cX11_leads 17 = .ok (.ireturn, 1) := by decide +kernel
theorem dX11_leads_18 : decode cX11_leads 18 = .ok (.aload_n 0, 1) := by decide +kernel
theorem dX11_leads_19 : decode cX11_leads 19 = .ok (.getfield 40, 3) := by decide +kernel
theorem dX11_leads_22 : decode cX11_leads 22 = .ok (.iload_n 1, 1) := by decide +kernel
theorem dX11_leads_23 : decode cX11_leads 23 = .ok (.iload_n 2, 1) := by decide +kernel
theorem dX11_leads_24 : decode cX11_leads 24 = .ok (.invokevirtual 272, 3) := by decide +kernel
theorem dX11_leads_27 : decode cX11_leads 27 = .ok (.istore_n 3, 1) := by decide +kernel
theorem dX11_leads_28 : decode cX11_leads 28 = .ok (.aload_n 0, 1) := by decide +kernel
theorem dX11_leads_29 : decode cX11_leads 29 = .ok (.iload_n 3, 1) := by decide +kernel
theorem dX11_leads_30 : decode cX11_leads 30 = .ok (.iconst (-1), 1) := by decide +kernel
theorem dX11_leads_31 : decode cX11_leads 31 = .ok (.if_icmp .ne 8, 3) := by decide +kernel
theorem dX11_leads_34 : decode cX11_leads 34 = .ok (.bipush (-2), 2) := by decide +kernel
theorem dX11_leads_36 : decode cX11_leads 36 = .ok (.goto 4, 3) := by decide +kernel
theorem dX11_leads_39 : decode cX11_leads 39 = .ok (.iload_n 3, 1) := by decide +kernel
theorem dX11_leads_40 : decode cX11_leads 40 = .ok (.invokevirtual 114, 3) := by decide +kernel
theorem dX11_leads_43 : decode cX11_leads 43 = .ok (.ireturn, 1) := by decide +kernel
def f_X11_leads (v1 : Int32) (v2 : Int32) (σ : gSt) : Option (Int32 × gSt) :=
  (f_X4_hasPoint 1 v1 v2 σ).bind fun p6 =>
  if p6.1 = 0 then
    (f_X11_refused 1 p6.2).bind fun p14 =>
    some (p14.1, p14.2)
  else
    (f_X2_leader v1 v2 p6.2).bind fun p24 =>
    if p24.1 = (-1) then
      (f_X11_answered (-2) p24.2).bind fun p40 =>
      some (p40.1, p40.2)
    else
      (f_X11_answered p24.1 p24.2).bind fun p40 =>
      some (p40.1, p40.2)
theorem f_X11_leads_ok {v1 : Int32} {v2 : Int32}  {σ : gSt} {r : (Int32 × gSt)} (h : f_X11_leads v1 v2 σ = some r) : Mt l w 0 41 yX11_leads cX11_leads 4 (some .int) 4 92 [.ref (w.2.1 0 0), .int v1, .int v2] σ (gE (some (.int r.1)) r.2) := by
  unfold f_X11_leads at h
  refine g_start pn_X11 rfl rfl (Nat.le_of_ble_eq_true rfl) ?_
  show G l w 0 41 RX11 cX11_leads 4 (some .int) 4 92 (gE (some (.int r.1)) r.2) 0 [some (.ref (w.2.1 0 0)), some (.int v1), some (.int v2), none] [] σ
  refine g_aload_n dX11_leads_0 rfl ?_
  refine gR_X11_32 ok_0 dX11_leads_1 ?_
  refine g_iload_n dX11_leads_4 rfl ?_
  refine g_iload_n dX11_leads_5 rfl ?_
  obtain ⟨p6, e6, h⟩ := obind h
  refine g_vP2 mv_X11_263 dX11_leads_6 (ok_3 (by decide)) ⟨by decide, by decide⟩ (Nat.le_of_ble_eq_true rfl) (f_X4_hasPoint_ok (by decide) e6) ?_
  refine g_if_ne 18 dX11_leads_9 rfl (fun q => ?_) (fun q => ?_)
  · replace h := gif_f q h
    refine g_aload_n dX11_leads_18 rfl ?_
    refine gR_X11_40 ok_0 dX11_leads_19 ?_
    refine g_iload_n dX11_leads_22 rfl ?_
    refine g_iload_n dX11_leads_23 rfl ?_
    obtain ⟨p24, e24, h⟩ := obind h
    refine g_vP2 mv_X11_272 dX11_leads_24 ok_16 ⟨by decide, by decide⟩ (Nat.le_of_ble_eq_true rfl) (f_X2_leader_ok e24) ?_
    refine g_istore3 dX11_leads_27 ?_
    refine g_aload_n dX11_leads_28 rfl ?_
    refine g_iload_n dX11_leads_29 rfl ?_
    refine g_iconst dX11_leads_30 kc_m1 ?_
    refine g_icmp_ne 39 dX11_leads_31 rfl (fun q => ?_) (fun q => ?_)
    · replace h := gif_f q h
      refine g_iload_n dX11_leads_39 rfl ?_
      obtain ⟨p40, e40, h⟩ := obind h
      refine g_vP1 mv_X11_114 dX11_leads_40 ok_0 ⟨by decide, by decide⟩ (Nat.le_of_ble_eq_true rfl) (f_X11_answered_ok e40) ?_
      cases h
      exact g_iret dX11_leads_43 rfl ⟨rfl, rfl⟩
    · replace h := gif_t q h
      refine g_bipush dX11_leads_34 kb_m2 ?_
      refine g_goto 40 dX11_leads_36 rfl ?_
      obtain ⟨p40, e40, h⟩ := obind h
      refine g_vP1 mv_X11_114 dX11_leads_40 ok_0 ⟨by decide, by decide⟩ (Nat.le_of_ble_eq_true rfl) (f_X11_answered_ok e40) ?_
      cases h
      exact g_iret dX11_leads_43 rfl ⟨rfl, rfl⟩
  · replace h := gif_t q h
    refine g_aload_n dX11_leads_12 rfl ?_
    refine g_iconst dX11_leads_13 kc_1 ?_
    obtain ⟨p14, e14, h⟩ := obind h
    refine g_vP1 mv_X11_91 dX11_leads_14 ok_0 ⟨by decide, by decide⟩ (Nat.le_of_ble_eq_true rfl) (f_X11_refused_ok e14) ?_
    cases h
    exact g_iret dX11_leads_17 rfl ⟨rfl, rfl⟩
theorem dX11_changes_0 : decode cX11_changes 0 = .ok (.aload_n 0, 1) := by decide +kernel
theorem dX11_changes_1 : decode cX11_changes 1 = .ok (.getfield 32, 3) := by decide +kernel
theorem dX11_changes_4 : decode cX11_changes 4 = .ok (.iload_n 1, 1) := by decide +kernel
theorem dX11_changes_5 : decode cX11_changes 5 = .ok (.invokevirtual 140, 3) := by decide +kernel
theorem dX11_changes_8 : decode cX11_changes 8 = .ok (.ifCond .ne 9, 3) := by decide +kernel
theorem dX11_changes_11 : decode cX11_changes 11 = .ok (.aload_n 0, 1) := by decide +kernel
theorem dX11_changes_12 : decode cX11_changes 12 = .ok (.iconst 1, 1) := by decide +kernel
theorem dX11_changes_13 : decode cX11_changes 13 = .ok (.invokevirtual 91, 3) := by decide +kernel
theorem dX11_changes_16 : decode cX11_changes 16 = .ok (.ireturn, 1) := by decide +kernel
theorem dX11_changes_17 : decode cX11_changes 17 = .ok (.aload_n 0, 1) := by decide +kernel
theorem dX11_changes_18 : decode cX11_changes 18 = .ok (.aload_n 0, 1) := by decide +kernel
theorem dX11_changes_19 : decode cX11_changes 19 = .ok (.getfield 40, 3) := by decide +kernel
theorem dX11_changes_22 : decode cX11_changes 22 = .ok (.iload_n 1, 1) := by decide +kernel
theorem dX11_changes_23 : decode cX11_changes 23 = .ok (.invokevirtual 275, 3) := by decide +kernel
theorem dX11_changes_26 : decode cX11_changes 26 = .ok (.invokevirtual 114, 3) := by decide +kernel
theorem dX11_changes_29 : decode cX11_changes 29 = .ok (.ireturn, 1) := by decide +kernel
def f_X11_changes (v1 : Int32) (σ : gSt) : Option (Int32 × gSt) :=
  (f_X4_hasCourse 1 v1 σ).bind fun p5 =>
  if p5.1 = 0 then
    (f_X11_refused 1 p5.2).bind fun p13 =>
    some (p13.1, p13.2)
  else
    (f_X2_leadChanges v1 p5.2).bind fun p23 =>
    (f_X11_answered p23.1 p23.2).bind fun p26 =>
    some (p26.1, p26.2)
theorem f_X11_changes_ok {v1 : Int32}  {σ : gSt} {r : (Int32 × gSt)} (h : f_X11_changes v1 σ = some r) : Mt l w 0 41 yX11_changes cX11_changes 2 (some .int) 5 117 [.ref (w.2.1 0 0), .int v1] σ (gE (some (.int r.1)) r.2) := by
  unfold f_X11_changes at h
  refine g_start pn_X11 rfl rfl (Nat.le_of_ble_eq_true rfl) ?_
  show G l w 0 41 RX11 cX11_changes 2 (some .int) 5 117 (gE (some (.int r.1)) r.2) 0 [some (.ref (w.2.1 0 0)), some (.int v1)] [] σ
  refine g_aload_n dX11_changes_0 rfl ?_
  refine gR_X11_32 ok_0 dX11_changes_1 ?_
  refine g_iload_n dX11_changes_4 rfl ?_
  obtain ⟨p5, e5, h⟩ := obind h
  refine g_vP1 mv_X11_140 dX11_changes_5 (ok_3 (by decide)) ⟨by decide, by decide⟩ (Nat.le_of_ble_eq_true rfl) (f_X4_hasCourse_ok (by decide) e5) ?_
  refine g_if_ne 17 dX11_changes_8 rfl (fun q => ?_) (fun q => ?_)
  · replace h := gif_f q h
    refine g_aload_n dX11_changes_17 rfl ?_
    refine g_aload_n dX11_changes_18 rfl ?_
    refine gR_X11_40 ok_0 dX11_changes_19 ?_
    refine g_iload_n dX11_changes_22 rfl ?_
    obtain ⟨p23, e23, h⟩ := obind h
    refine g_vP1 mv_X11_275 dX11_changes_23 ok_16 ⟨by decide, by decide⟩ (Nat.le_of_ble_eq_true rfl) (f_X2_leadChanges_ok e23) ?_
    obtain ⟨p26, e26, h⟩ := obind h
    refine g_vP1 mv_X11_114 dX11_changes_26 ok_0 ⟨by decide, by decide⟩ (Nat.le_of_ble_eq_true rfl) (f_X11_answered_ok e26) ?_
    cases h
    exact g_iret dX11_changes_29 rfl ⟨rfl, rfl⟩
  · replace h := gif_t q h
    refine g_aload_n dX11_changes_11 rfl ?_
    refine g_iconst dX11_changes_12 kc_1 ?_
    obtain ⟨p13, e13, h⟩ := obind h
    refine g_vP1 mv_X11_91 dX11_changes_13 ok_0 ⟨by decide, by decide⟩ (Nat.le_of_ble_eq_true rfl) (f_X11_refused_ok e13) ?_
    cases h
    exact g_iret dX11_changes_16 rfl ⟨rfl, rfl⟩
theorem dX11_ranked_0 : decode cX11_ranked 0 = .ok (.aload_n 0, 1) := by decide +kernel
theorem dX11_ranked_1 : decode cX11_ranked 1 = .ok (.getfield 32, 3) := by decide +kernel
theorem dX11_ranked_4 : decode cX11_ranked 4 = .ok (.iload_n 1, 1) := by decide +kernel
theorem dX11_ranked_5 : decode cX11_ranked 5 = .ok (.invokevirtual 140, 3) := by decide +kernel
theorem dX11_ranked_8 : decode cX11_ranked 8 = .ok (.ifCond .eq 7, 3) := by decide +kernel
theorem dX11_ranked_11 : decode cX11_ranked 11 = .ok (.iload_n 2, 1) := by decide +kernel
theorem dX11_ranked_12 : decode cX11_ranked 12 = .ok (.ifCond .ge 9, 3) := by decide +kernel
theorem dX11_ranked_15 : decode cX11_ranked 15 = .ok (.aload_n 0, 1) := by decide +kernel
theorem dX11_ranked_16 : decode cX11_ranked 16 = .ok (.iconst 1, 1) := by decide +kernel
theorem dX11_ranked_17 : decode cX11_ranked 17 = .ok (.invokevirtual 91, 3) := by decide +kernel
theorem dX11_ranked_20 : decode cX11_ranked 20 = .ok (.ireturn, 1) := by decide +kernel
theorem dX11_ranked_21 : decode cX11_ranked 21 = .ok (.aload_n 0, 1) := by decide +kernel
theorem dX11_ranked_22 : decode cX11_ranked 22 = .ok (.aload_n 0, 1) := by decide +kernel
theorem dX11_ranked_23 : decode cX11_ranked 23 = .ok (.getfield 40, 3) := by decide +kernel
theorem dX11_ranked_26 : decode cX11_ranked 26 = .ok (.iload_n 1, 1) := by decide +kernel
theorem dX11_ranked_27 : decode cX11_ranked 27 = .ok (.iload_n 2, 1) := by decide +kernel
theorem dX11_ranked_28 : decode cX11_ranked 28 = .ok (.invokevirtual 278, 3) := by decide +kernel
theorem dX11_ranked_31 : decode cX11_ranked 31 = .ok (.invokevirtual 114, 3) := by decide +kernel
theorem dX11_ranked_34 : decode cX11_ranked 34 = .ok (.ireturn, 1) := by decide +kernel
def f_X11_ranked (v1 : Int32) (v2 : Int32) (σ : gSt) : Option (Int32 × gSt) :=
  (f_X4_hasCourse 1 v1 σ).bind fun p5 =>
  if p5.1 = 0 then
    (f_X11_refused 1 p5.2).bind fun p17 =>
    some (p17.1, p17.2)
  else
    if 0 ≤ v2 then
      (f_X2_rankedAs v1 v2 p5.2).bind fun p28 =>
      (f_X11_answered p28.1 p28.2).bind fun p31 =>
      some (p31.1, p31.2)
    else
      (f_X11_refused 1 p5.2).bind fun p17 =>
      some (p17.1, p17.2)
theorem f_X11_ranked_ok {v1 : Int32} {v2 : Int32}  {σ : gSt} {r : (Int32 × gSt)} (h : f_X11_ranked v1 v2 σ = some r) : Mt l w 0 41 yX11_ranked cX11_ranked 3 (some .int) 5 114 [.ref (w.2.1 0 0), .int v1, .int v2] σ (gE (some (.int r.1)) r.2) := by
  unfold f_X11_ranked at h
  refine g_start pn_X11 rfl rfl (Nat.le_of_ble_eq_true rfl) ?_
  show G l w 0 41 RX11 cX11_ranked 3 (some .int) 5 114 (gE (some (.int r.1)) r.2) 0 [some (.ref (w.2.1 0 0)), some (.int v1), some (.int v2)] [] σ
  refine g_aload_n dX11_ranked_0 rfl ?_
  refine gR_X11_32 ok_0 dX11_ranked_1 ?_
  refine g_iload_n dX11_ranked_4 rfl ?_
  obtain ⟨p5, e5, h⟩ := obind h
  refine g_vP1 mv_X11_140 dX11_ranked_5 (ok_3 (by decide)) ⟨by decide, by decide⟩ (Nat.le_of_ble_eq_true rfl) (f_X4_hasCourse_ok (by decide) e5) ?_
  refine g_if_eq 15 dX11_ranked_8 rfl (fun q => ?_) (fun q => ?_)
  · replace h := gif_t q h
    refine g_aload_n dX11_ranked_15 rfl ?_
    refine g_iconst dX11_ranked_16 kc_1 ?_
    obtain ⟨p17, e17, h⟩ := obind h
    refine g_vP1 mv_X11_91 dX11_ranked_17 ok_0 ⟨by decide, by decide⟩ (Nat.le_of_ble_eq_true rfl) (f_X11_refused_ok e17) ?_
    cases h
    exact g_iret dX11_ranked_20 rfl ⟨rfl, rfl⟩
  · replace h := gif_f q h
    refine g_iload_n dX11_ranked_11 rfl ?_
    refine g_if_ge 21 dX11_ranked_12 rfl (fun q => ?_) (fun q => ?_)
    · replace h := gif_t q h
      refine g_aload_n dX11_ranked_21 rfl ?_
      refine g_aload_n dX11_ranked_22 rfl ?_
      refine gR_X11_40 ok_0 dX11_ranked_23 ?_
      refine g_iload_n dX11_ranked_26 rfl ?_
      refine g_iload_n dX11_ranked_27 rfl ?_
      obtain ⟨p28, e28, h⟩ := obind h
      refine g_vP2 mv_X11_278 dX11_ranked_28 ok_16 ⟨by decide, by decide⟩ (Nat.le_of_ble_eq_true rfl) (f_X2_rankedAs_ok e28) ?_
      obtain ⟨p31, e31, h⟩ := obind h
      refine g_vP1 mv_X11_114 dX11_ranked_31 ok_0 ⟨by decide, by decide⟩ (Nat.le_of_ble_eq_true rfl) (f_X11_answered_ok e31) ?_
      cases h
      exact g_iret dX11_ranked_34 rfl ⟨rfl, rfl⟩
    · replace h := gif_f q h
      refine g_aload_n dX11_ranked_15 rfl ?_
      refine g_iconst dX11_ranked_16 kc_1 ?_
      obtain ⟨p17, e17, h⟩ := obind h
      refine g_vP1 mv_X11_91 dX11_ranked_17 ok_0 ⟨by decide, by decide⟩ (Nat.le_of_ble_eq_true rfl) (f_X11_refused_ok e17) ?_
      cases h
      exact g_iret dX11_ranked_20 rfl ⟨rfl, rfl⟩
theorem dX11_lost_0 : decode cX11_lost 0 = .ok (.aload_n 0, 1) := by decide +kernel
theorem dX11_lost_1 : decode cX11_lost 1 = .ok (.getfield 32, 3) := by decide +kernel
theorem dX11_lost_4 : decode cX11_lost 4 = .ok (.iload_n 1, 1) := by decide +kernel
theorem dX11_lost_5 : decode cX11_lost 5 = .ok (.invokevirtual 171, 3) := by decide +kernel
theorem dX11_lost_8 : decode cX11_lost 8 = .ok (.ifCond .ne 9, 3) := by decide +kernel
theorem dX11_lost_11 : decode cX11_lost 11 = .ok (.aload_n 0, 1) := by decide +kernel
theorem dX11_lost_12 : decode cX11_lost 12 = .ok (.iconst 1, 1) := by decide +kernel
theorem dX11_lost_13 : decode cX11_lost 13 = .ok (.invokevirtual 91, 3) := by decide +kernel
theorem dX11_lost_16 : decode cX11_lost 16 = .ok (.ireturn, 1) := by decide +kernel
theorem dX11_lost_17 : decode cX11_lost 17 = .ok (.aload_n 0, 1) := by decide +kernel
theorem dX11_lost_18 : decode cX11_lost 18 = .ok (.aload_n 0, 1) := by decide +kernel
theorem dX11_lost_19 : decode cX11_lost 19 = .ok (.getfield 40, 3) := by decide +kernel
theorem dX11_lost_22 : decode cX11_lost 22 = .ok (.aload_n 0, 1) := by decide +kernel
theorem dX11_lost_23 : decode cX11_lost 23 = .ok (.getfield 32, 3) := by decide +kernel
theorem dX11_lost_26 : decode cX11_lost 26 = .ok (.iload_n 1, 1) := by decide +kernel
theorem dX11_lost_27 : decode cX11_lost 27 = .ok (.invokevirtual 174, 3) := by decide +kernel
theorem dX11_lost_30 : decode cX11_lost 30 = .ok (.invokevirtual 281, 3) := by decide +kernel
theorem dX11_lost_33 : decode cX11_lost 33 = .ok (.invokevirtual 114, 3) := by decide +kernel
theorem dX11_lost_36 : decode cX11_lost 36 = .ok (.ireturn, 1) := by decide +kernel
def f_X11_lost (v1 : Int32) (σ : gSt) : Option (Int32 × gSt) :=
  (f_X4_hasRunner 1 v1 σ).bind fun p5 =>
  if p5.1 = 0 then
    (f_X11_refused 1 p5.2).bind fun p13 =>
    some (p13.1, p13.2)
  else
    (f_X4_runnerAt 1 v1 p5.2).bind fun p27 =>
    (f_X2_lostInAll p27.1 p27.2).bind fun p30 =>
    (f_X11_answered p30.1 p30.2).bind fun p33 =>
    some (p33.1, p33.2)
theorem f_X11_lost_ok {v1 : Int32}  {σ : gSt} {r : (Int32 × gSt)} (h : f_X11_lost v1 σ = some r) : Mt l w 0 41 yX11_lost cX11_lost 2 (some .int) 5 115 [.ref (w.2.1 0 0), .int v1] σ (gE (some (.int r.1)) r.2) := by
  unfold f_X11_lost at h
  refine g_start pn_X11 rfl rfl (Nat.le_of_ble_eq_true rfl) ?_
  show G l w 0 41 RX11 cX11_lost 2 (some .int) 5 115 (gE (some (.int r.1)) r.2) 0 [some (.ref (w.2.1 0 0)), some (.int v1)] [] σ
  refine g_aload_n dX11_lost_0 rfl ?_
  refine gR_X11_32 ok_0 dX11_lost_1 ?_
  refine g_iload_n dX11_lost_4 rfl ?_
  obtain ⟨p5, e5, h⟩ := obind h
  refine g_vP1 mv_X11_171 dX11_lost_5 (ok_3 (by decide)) ⟨by decide, by decide⟩ (Nat.le_of_ble_eq_true rfl) (f_X4_hasRunner_ok (by decide) e5) ?_
  refine g_if_ne 17 dX11_lost_8 rfl (fun q => ?_) (fun q => ?_)
  · replace h := gif_f q h
    refine g_aload_n dX11_lost_17 rfl ?_
    refine g_aload_n dX11_lost_18 rfl ?_
    refine gR_X11_40 ok_0 dX11_lost_19 ?_
    refine g_aload_n dX11_lost_22 rfl ?_
    refine gR_X11_32 ok_0 dX11_lost_23 ?_
    refine g_iload_n dX11_lost_26 rfl ?_
    obtain ⟨p27, e27, h⟩ := obind h
    refine g_vR1 mv_X11_174 dX11_lost_27 (ok_3 (by decide)) ⟨by decide, by decide⟩ (Nat.le_of_ble_eq_true rfl) (f_X4_runnerAt_ok (by decide) e27) (fun b27 => ?_)
    obtain ⟨p30, e30, h⟩ := obind h
    refine g_vP1 mv_X11_281 dX11_lost_30 ok_16 ⟨by decide, by decide⟩ (Nat.le_of_ble_eq_true rfl) (f_X2_lostInAll_ok b27 e30) ?_
    obtain ⟨p33, e33, h⟩ := obind h
    refine g_vP1 mv_X11_114 dX11_lost_33 ok_0 ⟨by decide, by decide⟩ (Nat.le_of_ble_eq_true rfl) (f_X11_answered_ok e33) ?_
    cases h
    exact g_iret dX11_lost_36 rfl ⟨rfl, rfl⟩
  · replace h := gif_t q h
    refine g_aload_n dX11_lost_11 rfl ?_
    refine g_iconst dX11_lost_12 kc_1 ?_
    obtain ⟨p13, e13, h⟩ := obind h
    refine g_vP1 mv_X11_91 dX11_lost_13 ok_0 ⟨by decide, by decide⟩ (Nat.le_of_ble_eq_true rfl) (f_X11_refused_ok e13) ?_
    cases h
    exact g_iret dX11_lost_16 rfl ⟨rfl, rfl⟩
theorem dX11_worst_0 : decode cX11_worst 0 = .ok (.aload_n 0, 1) := by decide +kernel
theorem dX11_worst_1 : decode cX11_worst 1 = .ok (.getfield 32, 3) := by decide +kernel
theorem dX11_worst_4 : decode cX11_worst 4 = .ok (.iload_n 1, 1) := by decide +kernel
theorem dX11_worst_5 : decode cX11_worst 5 = .ok (.invokevirtual 171, 3) := by decide +kernel
theorem dX11_worst_8 : decode cX11_worst 8 = .ok (.ifCond .ne 9, 3) := by decide +kernel
theorem dX11_worst_11 : decode cX11_worst 11 = .ok (.aload_n 0, 1) := by decide +kernel
theorem dX11_worst_12 : decode cX11_worst 12 = .ok (.iconst 1, 1) := by decide +kernel
theorem dX11_worst_13 : decode cX11_worst 13 = .ok (.invokevirtual 91, 3) := by decide +kernel
theorem dX11_worst_16 : decode cX11_worst 16 = .ok (.ireturn, 1) := by decide +kernel
theorem dX11_worst_17 : decode cX11_worst 17 = .ok (.aload_n 0, 1) := by decide +kernel
theorem dX11_worst_18 : decode cX11_worst 18 = .ok (.aload_n 0, 1) := by decide +kernel
theorem dX11_worst_19 : decode cX11_worst 19 = .ok (.getfield 40, 3) := by decide +kernel
theorem dX11_worst_22 : decode cX11_worst 22 = .ok (.aload_n 0, 1) := by decide +kernel
theorem dX11_worst_23 : decode cX11_worst 23 = .ok (.getfield 32, 3) := by decide +kernel
theorem dX11_worst_26 : decode cX11_worst 26 = .ok (.iload_n 1, 1) := by decide +kernel
theorem dX11_worst_27 : decode cX11_worst 27 = .ok (.invokevirtual 174, 3) := by decide +kernel
theorem dX11_worst_30 : decode cX11_worst 30 = .ok (.invokevirtual 284, 3) := by decide +kernel
theorem dX11_worst_33 : decode cX11_worst 33 = .ok (.invokevirtual 114, 3) := by decide +kernel
theorem dX11_worst_36 : decode cX11_worst 36 = .ok (.ireturn, 1) := by decide +kernel
def f_X11_worst (v1 : Int32) (σ : gSt) : Option (Int32 × gSt) :=
  (f_X4_hasRunner 1 v1 σ).bind fun p5 =>
  if p5.1 = 0 then
    (f_X11_refused 1 p5.2).bind fun p13 =>
    some (p13.1, p13.2)
  else
    (f_X4_runnerAt 1 v1 p5.2).bind fun p27 =>
    (f_X2_worstLeg p27.1 p27.2).bind fun p30 =>
    (f_X11_answered p30.1 p30.2).bind fun p33 =>
    some (p33.1, p33.2)
theorem f_X11_worst_ok {v1 : Int32}  {σ : gSt} {r : (Int32 × gSt)} (h : f_X11_worst v1 σ = some r) : Mt l w 0 41 yX11_worst cX11_worst 2 (some .int) 5 117 [.ref (w.2.1 0 0), .int v1] σ (gE (some (.int r.1)) r.2) := by
  unfold f_X11_worst at h
  refine g_start pn_X11 rfl rfl (Nat.le_of_ble_eq_true rfl) ?_
  show G l w 0 41 RX11 cX11_worst 2 (some .int) 5 117 (gE (some (.int r.1)) r.2) 0 [some (.ref (w.2.1 0 0)), some (.int v1)] [] σ
  refine g_aload_n dX11_worst_0 rfl ?_
  refine gR_X11_32 ok_0 dX11_worst_1 ?_
  refine g_iload_n dX11_worst_4 rfl ?_
  obtain ⟨p5, e5, h⟩ := obind h
  refine g_vP1 mv_X11_171 dX11_worst_5 (ok_3 (by decide)) ⟨by decide, by decide⟩ (Nat.le_of_ble_eq_true rfl) (f_X4_hasRunner_ok (by decide) e5) ?_
  refine g_if_ne 17 dX11_worst_8 rfl (fun q => ?_) (fun q => ?_)
  · replace h := gif_f q h
    refine g_aload_n dX11_worst_17 rfl ?_
    refine g_aload_n dX11_worst_18 rfl ?_
    refine gR_X11_40 ok_0 dX11_worst_19 ?_
    refine g_aload_n dX11_worst_22 rfl ?_
    refine gR_X11_32 ok_0 dX11_worst_23 ?_
    refine g_iload_n dX11_worst_26 rfl ?_
    obtain ⟨p27, e27, h⟩ := obind h
    refine g_vR1 mv_X11_174 dX11_worst_27 (ok_3 (by decide)) ⟨by decide, by decide⟩ (Nat.le_of_ble_eq_true rfl) (f_X4_runnerAt_ok (by decide) e27) (fun b27 => ?_)
    obtain ⟨p30, e30, h⟩ := obind h
    refine g_vP1 mv_X11_284 dX11_worst_30 ok_16 ⟨by decide, by decide⟩ (Nat.le_of_ble_eq_true rfl) (f_X2_worstLeg_ok b27 e30) ?_
    obtain ⟨p33, e33, h⟩ := obind h
    refine g_vP1 mv_X11_114 dX11_worst_33 ok_0 ⟨by decide, by decide⟩ (Nat.le_of_ble_eq_true rfl) (f_X11_answered_ok e33) ?_
    cases h
    exact g_iret dX11_worst_36 rfl ⟨rfl, rfl⟩
  · replace h := gif_t q h
    refine g_aload_n dX11_worst_11 rfl ?_
    refine g_iconst dX11_worst_12 kc_1 ?_
    obtain ⟨p13, e13, h⟩ := obind h
    refine g_vP1 mv_X11_91 dX11_worst_13 ok_0 ⟨by decide, by decide⟩ (Nat.le_of_ble_eq_true rfl) (f_X11_refused_ok e13) ?_
    cases h
    exact g_iret dX11_worst_16 rfl ⟨rfl, rfl⟩
theorem dX11_pace_0 : decode cX11_pace 0 = .ok (.aload_n 0, 1) := by decide +kernel
theorem dX11_pace_1 : decode cX11_pace 1 = .ok (.getfield 32, 3) := by decide +kernel
theorem dX11_pace_4 : decode cX11_pace 4 = .ok (.iload_n 1, 1) := by decide +kernel
theorem dX11_pace_5 : decode cX11_pace 5 = .ok (.invokevirtual 171, 3) := by decide +kernel
theorem dX11_pace_8 : decode cX11_pace 8 = .ok (.ifCond .eq 12, 3) := by decide +kernel
theorem dX11_pace_11 : decode cX11_pace 11 = .ok (.iload_n 2, 1) := by decide +kernel
theorem dX11_pace_12 : decode cX11_pace 12 = .ok (.ifCond .lt 8, 3) := by decide +kernel
theorem dX11_pace_15 : decode cX11_pace 15 = .ok (.iload_n 2, 1) := by decide +kernel
theorem dX11_pace_16 : decode cX11_pace 16 = .ok (.iconst 1, 1) := by decide +kernel
theorem dX11_pace_17 : decode cX11_pace 17 = .ok (.if_icmp .le 9, 3) := by decide +kernel
theorem dX11_pace_20 : decode cX11_pace 20 = .ok (.aload_n 0, 1) := by decide +kernel
theorem dX11_pace_21 : decode cX11_pace 21 = .ok (.iconst 1, 1) := by decide +kernel
theorem dX11_pace_22 : decode cX11_pace 22 = .ok (.invokevirtual 91, 3) := by decide +kernel
theorem dX11_pace_25 : decode cX11_pace 25 = .ok (.ireturn, 1) := by decide +kernel
theorem dX11_pace_26 : decode cX11_pace 26 = .ok (.aload_n 0, 1) := by decide +kernel
theorem dX11_pace_27 : decode cX11_pace 27 = .ok (.getfield 49, 3) := by decide +kernel
theorem dX11_pace_30 : decode cX11_pace 30 = .ok (.aload_n 0, 1) := by decide +kernel
theorem dX11_pace_31 : decode cX11_pace 31 = .ok (.getfield 32, 3) := by decide +kernel
theorem dX11_pace_34 : decode cX11_pace 34 = .ok (.iload_n 1, 1) := by decide +kernel
theorem dX11_pace_35 : decode cX11_pace 35 = .ok (.invokevirtual 174, 3) := by decide +kernel
theorem dX11_pace_38 : decode cX11_pace 38 = .ok (.invokevirtual 253, 3) := by decide +kernel
theorem dX11_pace_41 : decode cX11_pace 41 = .ok (.ifCond .ne 10, 3) := by decide +kernel
theorem dX11_pace_44 : decode cX11_pace 44 = .ok (.aload_n 0, 1) := by decide +kernel
theorem dX11_pace_45 : decode cX11_pace 45 = .ok (.bipush 6, 2) := by decide +kernel
theorem dX11_pace_47 : decode cX11_pace 47 = .ok (.invokevirtual 91, 3) := by decide +kernel
theorem dX11_pace_50 : decode cX11_pace 50 = .ok (.ireturn, 1) := by decide +kernel
theorem dX11_pace_51 : decode cX11_pace 51 = .ok (.aload_n 0, 1) := by decide +kernel
theorem dX11_pace_52 : decode cX11_pace 52 = .ok (.iload_n 2, 1) := by decide +kernel
theorem dX11_pace_53 : decode cX11_pace 53 = .ok (.ifCond .ne 13, 3) := by decide +kernel
theorem dX11_pace_56 : decode cX11_pace 56 = .ok (.aload_n 0, 1) := by decide +kernel
theorem dX11_pace_57 : decode cX11_pace 57 = .ok (.getfield 49, 3) := by decide +kernel
theorem dX11_pace_60 : decode cX11_pace 60 = .ok (.getfield 287, 3) := by decide +kernel
theorem dX11_pace_63 : decode cX11_pace 63 = .ok (.goto 10, 3) := by decide +kernel
theorem dX11_pace_66 : decode cX11_pace 66 = .ok (.aload_n 0, 1) := by decide +kernel
theorem dX11_pace_67 : decode cX11_pace 67 = .ok (.getfield 49, 3) := by decide +kernel
theorem dX11_pace_70 : decode cX11_pace 70 = .ok (.getfield 290, 3) := by decide +kernel
theorem dX11_pace_73 : decode cX11_pace 73 = .ok (.invokevirtual 114, 3) := by decide +kernel
theorem dX11_pace_76 : decode cX11_pace 76 = .ok (.ireturn, 1) := by decide +kernel
def f_X11_pace (v1 : Int32) (v2 : Int32) (σ : gSt) : Option (Int32 × gSt) :=
  (f_X4_hasRunner 1 v1 σ).bind fun p5 =>
  if p5.1 = 0 then
    (f_X11_refused 1 p5.2).bind fun p22 =>
    some (p22.1, p22.2)
  else
    if v2 < 0 then
      (f_X11_refused 1 p5.2).bind fun p22 =>
      some (p22.1, p22.2)
    else
      if v2 ≤ 1 then
        (f_X4_runnerAt 1 v1 p5.2).bind fun p35 =>
        (f_X5_reckon p35.1 p35.2).bind fun p38 =>
        if p38.1 = 0 then
          (f_X11_refused 6 p38.2).bind fun p47 =>
          some (p47.1, p47.2)
        else
          if v2 = 0 then
            (f_X11_answered (p38.2 17 0 7) p38.2).bind fun p73 =>
            some (p73.1, p73.2)
          else
            (f_X11_answered (p38.2 17 0 8) p38.2).bind fun p73 =>
            some (p73.1, p73.2)
      else
        (f_X11_refused 1 p5.2).bind fun p22 =>
        some (p22.1, p22.2)
theorem f_X11_pace_ok {v1 : Int32} {v2 : Int32}  {σ : gSt} {r : (Int32 × gSt)} (h : f_X11_pace v1 v2 σ = some r) : Mt l w 0 41 yX11_pace cX11_pace 3 (some .int) 4 93 [.ref (w.2.1 0 0), .int v1, .int v2] σ (gE (some (.int r.1)) r.2) := by
  unfold f_X11_pace at h
  refine g_start pn_X11 rfl rfl (Nat.le_of_ble_eq_true rfl) ?_
  show G l w 0 41 RX11 cX11_pace 3 (some .int) 4 93 (gE (some (.int r.1)) r.2) 0 [some (.ref (w.2.1 0 0)), some (.int v1), some (.int v2)] [] σ
  refine g_aload_n dX11_pace_0 rfl ?_
  refine gR_X11_32 ok_0 dX11_pace_1 ?_
  refine g_iload_n dX11_pace_4 rfl ?_
  obtain ⟨p5, e5, h⟩ := obind h
  refine g_vP1 mv_X11_171 dX11_pace_5 (ok_3 (by decide)) ⟨by decide, by decide⟩ (Nat.le_of_ble_eq_true rfl) (f_X4_hasRunner_ok (by decide) e5) ?_
  refine g_if_eq 20 dX11_pace_8 rfl (fun q => ?_) (fun q => ?_)
  · replace h := gif_t q h
    refine g_aload_n dX11_pace_20 rfl ?_
    refine g_iconst dX11_pace_21 kc_1 ?_
    obtain ⟨p22, e22, h⟩ := obind h
    refine g_vP1 mv_X11_91 dX11_pace_22 ok_0 ⟨by decide, by decide⟩ (Nat.le_of_ble_eq_true rfl) (f_X11_refused_ok e22) ?_
    cases h
    exact g_iret dX11_pace_25 rfl ⟨rfl, rfl⟩
  · replace h := gif_f q h
    refine g_iload_n dX11_pace_11 rfl ?_
    refine g_if_lt 20 dX11_pace_12 rfl (fun q => ?_) (fun q => ?_)
    · replace h := gif_t q h
      refine g_aload_n dX11_pace_20 rfl ?_
      refine g_iconst dX11_pace_21 kc_1 ?_
      obtain ⟨p22, e22, h⟩ := obind h
      refine g_vP1 mv_X11_91 dX11_pace_22 ok_0 ⟨by decide, by decide⟩ (Nat.le_of_ble_eq_true rfl) (f_X11_refused_ok e22) ?_
      cases h
      exact g_iret dX11_pace_25 rfl ⟨rfl, rfl⟩
    · replace h := gif_f q h
      refine g_iload_n dX11_pace_15 rfl ?_
      refine g_iconst dX11_pace_16 kc_1 ?_
      refine g_icmp_le 26 dX11_pace_17 rfl (fun q => ?_) (fun q => ?_)
      · replace h := gif_t q h
        refine g_aload_n dX11_pace_26 rfl ?_
        refine gR_X11_49 ok_0 dX11_pace_27 ?_
        refine g_aload_n dX11_pace_30 rfl ?_
        refine gR_X11_32 ok_0 dX11_pace_31 ?_
        refine g_iload_n dX11_pace_34 rfl ?_
        obtain ⟨p35, e35, h⟩ := obind h
        refine g_vR1 mv_X11_174 dX11_pace_35 (ok_3 (by decide)) ⟨by decide, by decide⟩ (Nat.le_of_ble_eq_true rfl) (f_X4_runnerAt_ok (by decide) e35) (fun b35 => ?_)
        obtain ⟨p38, e38, h⟩ := obind h
        refine g_vP1 mv_X11_253 dX11_pace_38 ok_17 ⟨by decide, by decide⟩ (Nat.le_of_ble_eq_true rfl) (f_X5_reckon_ok b35 e38) ?_
        refine g_if_ne 51 dX11_pace_41 rfl (fun q => ?_) (fun q => ?_)
        · replace h := gif_f q h
          refine g_aload_n dX11_pace_51 rfl ?_
          refine g_iload_n dX11_pace_52 rfl ?_
          refine g_if_ne 66 dX11_pace_53 rfl (fun q => ?_) (fun q => ?_)
          · replace h := gif_f q h
            refine g_aload_n dX11_pace_66 rfl ?_
            refine gR_X11_49 ok_0 dX11_pace_67 ?_
            refine gI_X11_290 ok_17 dX11_pace_70 ?_
            obtain ⟨p73, e73, h⟩ := obind h
            refine g_vP1 mv_X11_114 dX11_pace_73 ok_0 ⟨by decide, by decide⟩ (Nat.le_of_ble_eq_true rfl) (f_X11_answered_ok e73) ?_
            cases h
            exact g_iret dX11_pace_76 rfl ⟨rfl, rfl⟩
          · replace h := gif_t q h
            refine g_aload_n dX11_pace_56 rfl ?_
            refine gR_X11_49 ok_0 dX11_pace_57 ?_
            refine gI_X11_287 ok_17 dX11_pace_60 ?_
            refine g_goto 73 dX11_pace_63 rfl ?_
            obtain ⟨p73, e73, h⟩ := obind h
            refine g_vP1 mv_X11_114 dX11_pace_73 ok_0 ⟨by decide, by decide⟩ (Nat.le_of_ble_eq_true rfl) (f_X11_answered_ok e73) ?_
            cases h
            exact g_iret dX11_pace_76 rfl ⟨rfl, rfl⟩
        · replace h := gif_t q h
          refine g_aload_n dX11_pace_44 rfl ?_
          refine g_bipush dX11_pace_45 kb_6 ?_
          obtain ⟨p47, e47, h⟩ := obind h
          refine g_vP1 mv_X11_91 dX11_pace_47 ok_0 ⟨by decide, by decide⟩ (Nat.le_of_ble_eq_true rfl) (f_X11_refused_ok e47) ?_
          cases h
          exact g_iret dX11_pace_50 rfl ⟨rfl, rfl⟩
      · replace h := gif_f q h
        refine g_aload_n dX11_pace_20 rfl ?_
        refine g_iconst dX11_pace_21 kc_1 ?_
        obtain ⟨p22, e22, h⟩ := obind h
        refine g_vP1 mv_X11_91 dX11_pace_22 ok_0 ⟨by decide, by decide⟩ (Nat.le_of_ble_eq_true rfl) (f_X11_refused_ok e22) ?_
        cases h
        exact g_iret dX11_pace_25 rfl ⟨rfl, rfl⟩
theorem dX11_mistakes_0 : decode cX11_mistakes 0 = .ok (.aload_n 0, 1) := by decide +kernel
theorem dX11_mistakes_1 : decode cX11_mistakes 1 = .ok (.getfield 32, 3) := by decide +kernel
theorem dX11_mistakes_4 : decode cX11_mistakes 4 = .ok (.iload_n 1, 1) := by decide +kernel
theorem dX11_mistakes_5 : decode cX11_mistakes 5 = .ok (.invokevirtual 171, 3) := by decide +kernel
theorem dX11_mistakes_8 : decode cX11_mistakes 8 = .ok (.ifCond .ne 9, 3) := by decide +kernel
theorem dX11_mistakes_11 : decode cX11_mistakes 11 = .ok (.aload_n 0, 1) := by decide +kernel
theorem dX11_mistakes_12 : decode cX11_mistakes 12 = .ok (.iconst 1, 1) := by decide +kernel
theorem dX11_mistakes_13 : decode cX11_mistakes 13 = .ok (.invokevirtual 91, 3) := by decide +kernel
theorem dX11_mistakes_16 : decode cX11_mistakes 16 = .ok (.ireturn, 1) := by decide +kernel
theorem dX11_mistakes_17 : decode cX11_mistakes 17 = .ok (.aload_n 0, 1) := by decide +kernel
theorem dX11_mistakes_18 : decode cX11_mistakes 18 = .ok (.aload_n 0, 1) := by decide +kernel
theorem dX11_mistakes_19 : decode cX11_mistakes 19 = .ok (.getfield 49, 3) := by decide +kernel
theorem dX11_mistakes_22 : decode cX11_mistakes 22 = .ok (.aload_n 0, 1) := by decide +kernel
theorem dX11_mistakes_23 : decode cX11_mistakes 23 = .ok (.getfield 32, 3) := by decide +kernel
theorem dX11_mistakes_26 : decode cX11_mistakes 26 = .ok (.iload_n 1, 1) := by decide +kernel
theorem dX11_mistakes_27 : decode cX11_mistakes 27 = .ok (.invokevirtual 174, 3) := by decide +kernel
theorem dX11_mistakes_30 : decode cX11_mistakes 30 = .ok (.invokevirtual 293, 3) := by decide +kernel
theorem dX11_mistakes_33 : decode cX11_mistakes 33 = .ok (.invokevirtual 114, 3) := by decide +kernel
theorem dX11_mistakes_36 : decode cX11_mistakes 36 = .ok (.ireturn, 1) := by decide +kernel
def f_X11_mistakes (v1 : Int32) (σ : gSt) : Option (Int32 × gSt) :=
  (f_X4_hasRunner 1 v1 σ).bind fun p5 =>
  if p5.1 = 0 then
    (f_X11_refused 1 p5.2).bind fun p13 =>
    some (p13.1, p13.2)
  else
    (f_X4_runnerAt 1 v1 p5.2).bind fun p27 =>
    (f_X5_mistakeBits p27.1 p27.2).bind fun p30 =>
    (f_X11_answered p30.1 p30.2).bind fun p33 =>
    some (p33.1, p33.2)
theorem f_X11_mistakes_ok {v1 : Int32}  {σ : gSt} {r : (Int32 × gSt)} (h : f_X11_mistakes v1 σ = some r) : Mt l w 0 41 yX11_mistakes cX11_mistakes 2 (some .int) 5 116 [.ref (w.2.1 0 0), .int v1] σ (gE (some (.int r.1)) r.2) := by
  unfold f_X11_mistakes at h
  refine g_start pn_X11 rfl rfl (Nat.le_of_ble_eq_true rfl) ?_
  show G l w 0 41 RX11 cX11_mistakes 2 (some .int) 5 116 (gE (some (.int r.1)) r.2) 0 [some (.ref (w.2.1 0 0)), some (.int v1)] [] σ
  refine g_aload_n dX11_mistakes_0 rfl ?_
  refine gR_X11_32 ok_0 dX11_mistakes_1 ?_
  refine g_iload_n dX11_mistakes_4 rfl ?_
  obtain ⟨p5, e5, h⟩ := obind h
  refine g_vP1 mv_X11_171 dX11_mistakes_5 (ok_3 (by decide)) ⟨by decide, by decide⟩ (Nat.le_of_ble_eq_true rfl) (f_X4_hasRunner_ok (by decide) e5) ?_
  refine g_if_ne 17 dX11_mistakes_8 rfl (fun q => ?_) (fun q => ?_)
  · replace h := gif_f q h
    refine g_aload_n dX11_mistakes_17 rfl ?_
    refine g_aload_n dX11_mistakes_18 rfl ?_
    refine gR_X11_49 ok_0 dX11_mistakes_19 ?_
    refine g_aload_n dX11_mistakes_22 rfl ?_
    refine gR_X11_32 ok_0 dX11_mistakes_23 ?_
    refine g_iload_n dX11_mistakes_26 rfl ?_
    obtain ⟨p27, e27, h⟩ := obind h
    refine g_vR1 mv_X11_174 dX11_mistakes_27 (ok_3 (by decide)) ⟨by decide, by decide⟩ (Nat.le_of_ble_eq_true rfl) (f_X4_runnerAt_ok (by decide) e27) (fun b27 => ?_)
    obtain ⟨p30, e30, h⟩ := obind h
    refine g_vP1 mv_X11_293 dX11_mistakes_30 ok_17 ⟨by decide, by decide⟩ (Nat.le_of_ble_eq_true rfl) (f_X5_mistakeBits_ok b27 e30) ?_
    obtain ⟨p33, e33, h⟩ := obind h
    refine g_vP1 mv_X11_114 dX11_mistakes_33 ok_0 ⟨by decide, by decide⟩ (Nat.le_of_ble_eq_true rfl) (f_X11_answered_ok e33) ?_
    cases h
    exact g_iret dX11_mistakes_36 rfl ⟨rfl, rfl⟩
  · replace h := gif_t q h
    refine g_aload_n dX11_mistakes_11 rfl ?_
    refine g_iconst dX11_mistakes_12 kc_1 ?_
    obtain ⟨p13, e13, h⟩ := obind h
    refine g_vP1 mv_X11_91 dX11_mistakes_13 ok_0 ⟨by decide, by decide⟩ (Nat.le_of_ble_eq_true rfl) (f_X11_refused_ok e13) ?_
    cases h
    exact g_iret dX11_mistakes_16 rfl ⟨rfl, rfl⟩
theorem dX11_clean_0 : decode cX11_clean 0 = .ok (.aload_n 0, 1) := by decide +kernel
theorem dX11_clean_1 : decode cX11_clean 1 = .ok (.getfield 32, 3) := by decide +kernel
theorem dX11_clean_4 : decode cX11_clean 4 = .ok (.iload_n 1, 1) := by decide +kernel
theorem dX11_clean_5 : decode cX11_clean 5 = .ok (.invokevirtual 171, 3) := by decide +kernel
theorem dX11_clean_8 : decode cX11_clean 8 = .ok (.ifCond .ne 9, 3) := by decide +kernel
theorem dX11_clean_11 : decode cX11_clean 11 = .ok (.aload_n 0, 1) := by decide +kernel
theorem dX11_clean_12 : decode cX11_clean 12 = .ok (.iconst 1, 1) := by decide +kernel
theorem dX11_clean_13 : decode cX11_clean 13 = .ok (.invokevirtual 91, 3) := by decide +kernel
theorem dX11_clean_16 : decode cX11_clean 16 = .ok (.ireturn, 1) := by decide +kernel
theorem dX11_clean_17 : decode cX11_clean 17 = .ok (.aload_n 0, 1) := by decide +kernel
theorem dX11_clean_18 : decode cX11_clean 18 = .ok (.aload_n 0, 1) := by decide +kernel
theorem dX11_clean_19 : decode cX11_clean 19 = .ok (.getfield 49, 3) := by decide +kernel
theorem dX11_clean_22 : decode cX11_clean 22 = .ok (.aload_n 0, 1) := by decide +kernel
theorem dX11_clean_23 : decode cX11_clean 23 = .ok (.getfield 32, 3) := by decide +kernel
theorem dX11_clean_26 : decode cX11_clean 26 = .ok (.iload_n 1, 1) := by decide +kernel
theorem dX11_clean_27 : decode cX11_clean 27 = .ok (.invokevirtual 174, 3) := by decide +kernel
theorem dX11_clean_30 : decode cX11_clean 30 = .ok (.invokevirtual 296, 3) := by decide +kernel
theorem dX11_clean_33 : decode cX11_clean 33 = .ok (.invokevirtual 114, 3) := by decide +kernel
theorem dX11_clean_36 : decode cX11_clean 36 = .ok (.ireturn, 1) := by decide +kernel
def f_X11_clean (v1 : Int32) (σ : gSt) : Option (Int32 × gSt) :=
  (f_X4_hasRunner 1 v1 σ).bind fun p5 =>
  if p5.1 = 0 then
    (f_X11_refused 1 p5.2).bind fun p13 =>
    some (p13.1, p13.2)
  else
    (f_X4_runnerAt 1 v1 p5.2).bind fun p27 =>
    (f_X5_cleanTime p27.1 p27.2).bind fun p30 =>
    (f_X11_answered p30.1 p30.2).bind fun p33 =>
    some (p33.1, p33.2)
theorem f_X11_clean_ok {v1 : Int32}  {σ : gSt} {r : (Int32 × gSt)} (h : f_X11_clean v1 σ = some r) : Mt l w 0 41 yX11_clean cX11_clean 2 (some .int) 5 116 [.ref (w.2.1 0 0), .int v1] σ (gE (some (.int r.1)) r.2) := by
  unfold f_X11_clean at h
  refine g_start pn_X11 rfl rfl (Nat.le_of_ble_eq_true rfl) ?_
  show G l w 0 41 RX11 cX11_clean 2 (some .int) 5 116 (gE (some (.int r.1)) r.2) 0 [some (.ref (w.2.1 0 0)), some (.int v1)] [] σ
  refine g_aload_n dX11_clean_0 rfl ?_
  refine gR_X11_32 ok_0 dX11_clean_1 ?_
  refine g_iload_n dX11_clean_4 rfl ?_
  obtain ⟨p5, e5, h⟩ := obind h
  refine g_vP1 mv_X11_171 dX11_clean_5 (ok_3 (by decide)) ⟨by decide, by decide⟩ (Nat.le_of_ble_eq_true rfl) (f_X4_hasRunner_ok (by decide) e5) ?_
  refine g_if_ne 17 dX11_clean_8 rfl (fun q => ?_) (fun q => ?_)
  · replace h := gif_f q h
    refine g_aload_n dX11_clean_17 rfl ?_
    refine g_aload_n dX11_clean_18 rfl ?_
    refine gR_X11_49 ok_0 dX11_clean_19 ?_
    refine g_aload_n dX11_clean_22 rfl ?_
    refine gR_X11_32 ok_0 dX11_clean_23 ?_
    refine g_iload_n dX11_clean_26 rfl ?_
    obtain ⟨p27, e27, h⟩ := obind h
    refine g_vR1 mv_X11_174 dX11_clean_27 (ok_3 (by decide)) ⟨by decide, by decide⟩ (Nat.le_of_ble_eq_true rfl) (f_X4_runnerAt_ok (by decide) e27) (fun b27 => ?_)
    obtain ⟨p30, e30, h⟩ := obind h
    refine g_vP1 mv_X11_296 dX11_clean_30 ok_17 ⟨by decide, by decide⟩ (Nat.le_of_ble_eq_true rfl) (f_X5_cleanTime_ok b27 e30) ?_
    obtain ⟨p33, e33, h⟩ := obind h
    refine g_vP1 mv_X11_114 dX11_clean_33 ok_0 ⟨by decide, by decide⟩ (Nat.le_of_ble_eq_true rfl) (f_X11_answered_ok e33) ?_
    cases h
    exact g_iret dX11_clean_36 rfl ⟨rfl, rfl⟩
  · replace h := gif_t q h
    refine g_aload_n dX11_clean_11 rfl ?_
    refine g_iconst dX11_clean_12 kc_1 ?_
    obtain ⟨p13, e13, h⟩ := obind h
    refine g_vP1 mv_X11_91 dX11_clean_13 ok_0 ⟨by decide, by decide⟩ (Nat.le_of_ble_eq_true rfl) (f_X11_refused_ok e13) ?_
    cases h
    exact g_iret dX11_clean_16 rfl ⟨rfl, rfl⟩
theorem dX11_cleanPlace_0 : decode cX11_cleanPlace 0 = .ok (.aload_n 0, 1) := by decide +kernel
theorem dX11_cleanPlace_1 : decode cX11_cleanPlace 1 = .ok (.getfield 32, 3) := by decide +kernel
theorem dX11_cleanPlace_4 : decode cX11_cleanPlace 4 = .ok (.iload_n 1, 1) := by decide +kernel
theorem dX11_cleanPlace_5 : decode cX11_cleanPlace 5 = .ok (.invokevirtual 171, 3) := by decide +kernel
theorem dX11_cleanPlace_8 : decode cX11_cleanPlace 8 = .ok (.ifCond .eq 12, 3) := by decide +kernel
theorem dX11_cleanPlace_11 : decode cX11_cleanPlace 11 = .ok (.iload_n 2, 1) := by decide +kernel
theorem dX11_cleanPlace_12 : decode cX11_cleanPlace 12 = .ok (.ifCond .lt 8, 3) := by decide +kernel
theorem dX11_cleanPlace_15 : decode cX11_cleanPlace 15 = .ok (.iload_n 2, 1) := by decide +kernel
theorem dX11_cleanPlace_16 : decode cX11_cleanPlace 16 = .ok (.iconst 1, 1) := by decide +kernel
theorem dX11_cleanPlace_17 : decode cX11_cleanPlace 17 = .ok (.if_icmp .le 9, 3) := by decide +kernel
theorem dX11_cleanPlace_20 : decode cX11_cleanPlace 20 = .ok (.aload_n 0, 1) := by decide +kernel
theorem dX11_cleanPlace_21 : decode cX11_cleanPlace 21 = .ok (.iconst 1, 1) := by decide +kernel
theorem dX11_cleanPlace_22 : decode cX11_cleanPlace 22 = .ok (.invokevirtual 91, 3) := by decide +kernel
theorem dX11_cleanPlace_25 : decode cX11_cleanPlace 25 = .ok (.ireturn, 1) := by decide +kernel
theorem dX11_cleanPlace_26 : decode cX11_cleanPlace 26 = .ok (.aload_n 0, 1) := by decide +kernel
theorem dX11_cleanPlace_27 : decode cX11_cleanPlace 27 = .ok (.getfield 32, 3) := by decide +kernel
theorem dX11_cleanPlace_30 : decode cX11_cleanPlace 30 = .ok (.iload_n 1, 1) := by decide +kernel
theorem dX11_cleanPlace_31 : decode cX11_cleanPlace 31 = .ok (.invokevirtual 174, 3) := by decide +kernel
theorem dX11_cleanPlace_34 : decode cX11_cleanPlace 34 = .ok (.astore_n 3, 1) := by decide +kernel
theorem dX11_cleanPlace_35 : decode cX11_cleanPlace 35 = .ok (.aload_n 3, 1) := by decide +kernel
theorem dX11_cleanPlace_36 : decode cX11_cleanPlace 36 = .ok (.invokevirtual 199, 3) := by decide +kernel
theorem dX11_cleanPlace_39 : decode cX11_cleanPlace 39 = .ok (.ifCond .ne 10, 3) := by decide +kernel
theorem dX11_cleanPlace_42 : decode cX11_cleanPlace 42 = .ok (.aload_n 0, 1) := by decide +kernel
theorem dX11_cleanPlace_43 : decode cX11_cleanPlace 43 = .ok (.bipush (-2), 2) := by decide +kernel
theorem dX11_cleanPlace_45 : decode cX11_cleanPlace 45 = .ok (.invokevirtual 114, 3) := by decide +kernel
theorem dX11_cleanPlace_48 : decode cX11_cleanPlace 48 = .ok (.ireturn, 1) := by decide +kernel
theorem dX11_cleanPlace_49 : decode cX11_cleanPlace 49 = .ok (.aload_n 0, 1) := by decide +kernel
theorem dX11_cleanPlace_50 : decode cX11_cleanPlace 50 = .ok (.getfield 49, 3) := by decide +kernel
theorem dX11_cleanPlace_53 : decode cX11_cleanPlace 53 = .ok (.aload_n 3, 1) := by decide +kernel
theorem dX11_cleanPlace_54 : decode cX11_cleanPlace 54 = .ok (.invokevirtual 296, 3) := by decide +kernel
theorem dX11_cleanPlace_57 : decode cX11_cleanPlace 57 = .ok (.istore 4, 2) := by decide +kernel
theorem dX11_cleanPlace_59 : decode cX11_cleanPlace 59 = .ok (.aload_n 0, 1) := by decide +kernel
theorem dX11_cleanPlace_60 : decode cX11_cleanPlace 60 = .ok (.iload_n 2, 1) := by decide +kernel
theorem dX11_cleanPlace_61 : decode cX11_cleanPlace 61 = .ok (.ifCond .ne 16, 3) := by decide +kernel
theorem dX11_cleanPlace_64 : decode cX11_cleanPlace 64 = .ok (.aload_n 0, 1) := by decide +kernel
theorem dX11_cleanPlace_65 : decode cX11_cleanPlace 65 = .ok (.getfield 40, 3) := by decide +kernel
theorem dX11_cleanPlace_68 : decode cX11_cleanPlace 68 = .ok (.aload_n 3, 1) := by decide +kernel
theorem dX11_cleanPlace_69 : decode cX11_cleanPlace 69 = .ok (.iload 4, 2) := by decide +kernel
theorem dX11_cleanPlace_71 : decode cX11_cleanPlace 71 = .ok (.invokevirtual 202, 3) := by decide +kernel
theorem dX11_cleanPlace_74 : decode cX11_cleanPlace 74 = .ok (.goto 13, 3) := by decide +kernel
theorem dX11_cleanPlace_77 : decode cX11_cleanPlace 77 = .ok (.aload_n 0, 1) := by decide +kernel
theorem dX11_cleanPlace_78 : decode cX11_cleanPlace 78 = .ok (.getfield 49, 3) := by decide +kernel
theorem dX11_cleanPlace_81 : decode cX11_cleanPlace 81 = .ok (.aload_n 3, 1) := by decide +kernel
theorem dX11_cleanPlace_82 : decode cX11_cleanPlace 82 = .ok (.iload 4, 2) := by decide +kernel
theorem dX11_cleanPlace_84 : decode cX11_cleanPlace 84 = .ok (.invokevirtual 299, 3) := by decide +kernel
theorem dX11_cleanPlace_87 : decode cX11_cleanPlace 87 = .ok (.invokevirtual 114, 3) := by decide +kernel
theorem dX11_cleanPlace_90 : decode cX11_cleanPlace 90 = .ok (.ireturn, 1) := by decide +kernel
def f_X11_cleanPlace (v1 : Int32) (v2 : Int32) (σ : gSt) : Option (Int32 × gSt) :=
  (f_X4_hasRunner 1 v1 σ).bind fun p5 =>
  if p5.1 = 0 then
    (f_X11_refused 1 p5.2).bind fun p22 =>
    some (p22.1, p22.2)
  else
    if v2 < 0 then
      (f_X11_refused 1 p5.2).bind fun p22 =>
      some (p22.1, p22.2)
    else
      if v2 ≤ 1 then
        (f_X4_runnerAt 1 v1 p5.2).bind fun p31 =>
        (f_X9_isValid p31.1 p31.2).bind fun p36 =>
        if p36.1 = 0 then
          (f_X11_answered (-2) p36.2).bind fun p45 =>
          some (p45.1, p45.2)
        else
          (f_X5_cleanTime p31.1 p36.2).bind fun p54 =>
          if v2 = 0 then
            (f_X2_placeByTotal p31.1 p54.1 p54.2).bind fun p71 =>
            (f_X11_answered p71.1 p71.2).bind fun p87 =>
            some (p87.1, p87.2)
          else
            (f_X5_placeByClean p31.1 p54.1 p54.2).bind fun p84 =>
            (f_X11_answered p84.1 p84.2).bind fun p87 =>
            some (p87.1, p87.2)
      else
        (f_X11_refused 1 p5.2).bind fun p22 =>
        some (p22.1, p22.2)
theorem f_X11_cleanPlace_ok {v1 : Int32} {v2 : Int32}  {σ : gSt} {r : (Int32 × gSt)} (h : f_X11_cleanPlace v1 v2 σ = some r) : Mt l w 0 41 yX11_cleanPlace cX11_cleanPlace 5 (some .int) 6 140 [.ref (w.2.1 0 0), .int v1, .int v2] σ (gE (some (.int r.1)) r.2) := by
  unfold f_X11_cleanPlace at h
  refine g_start pn_X11 rfl rfl (Nat.le_of_ble_eq_true rfl) ?_
  show G l w 0 41 RX11 cX11_cleanPlace 5 (some .int) 6 140 (gE (some (.int r.1)) r.2) 0 [some (.ref (w.2.1 0 0)), some (.int v1), some (.int v2), none, none] [] σ
  refine g_aload_n dX11_cleanPlace_0 rfl ?_
  refine gR_X11_32 ok_0 dX11_cleanPlace_1 ?_
  refine g_iload_n dX11_cleanPlace_4 rfl ?_
  obtain ⟨p5, e5, h⟩ := obind h
  refine g_vP1 mv_X11_171 dX11_cleanPlace_5 (ok_3 (by decide)) ⟨by decide, by decide⟩ (Nat.le_of_ble_eq_true rfl) (f_X4_hasRunner_ok (by decide) e5) ?_
  refine g_if_eq 20 dX11_cleanPlace_8 rfl (fun q => ?_) (fun q => ?_)
  · replace h := gif_t q h
    refine g_aload_n dX11_cleanPlace_20 rfl ?_
    refine g_iconst dX11_cleanPlace_21 kc_1 ?_
    obtain ⟨p22, e22, h⟩ := obind h
    refine g_vP1 mv_X11_91 dX11_cleanPlace_22 ok_0 ⟨by decide, by decide⟩ (Nat.le_of_ble_eq_true rfl) (f_X11_refused_ok e22) ?_
    cases h
    exact g_iret dX11_cleanPlace_25 rfl ⟨rfl, rfl⟩
  · replace h := gif_f q h
    refine g_iload_n dX11_cleanPlace_11 rfl ?_
    refine g_if_lt 20 dX11_cleanPlace_12 rfl (fun q => ?_) (fun q => ?_)
    · replace h := gif_t q h
      refine g_aload_n dX11_cleanPlace_20 rfl ?_
      refine g_iconst dX11_cleanPlace_21 kc_1 ?_
      obtain ⟨p22, e22, h⟩ := obind h
      refine g_vP1 mv_X11_91 dX11_cleanPlace_22 ok_0 ⟨by decide, by decide⟩ (Nat.le_of_ble_eq_true rfl) (f_X11_refused_ok e22) ?_
      cases h
      exact g_iret dX11_cleanPlace_25 rfl ⟨rfl, rfl⟩
    · replace h := gif_f q h
      refine g_iload_n dX11_cleanPlace_15 rfl ?_
      refine g_iconst dX11_cleanPlace_16 kc_1 ?_
      refine g_icmp_le 26 dX11_cleanPlace_17 rfl (fun q => ?_) (fun q => ?_)
      · replace h := gif_t q h
        refine g_aload_n dX11_cleanPlace_26 rfl ?_
        refine gR_X11_32 ok_0 dX11_cleanPlace_27 ?_
        refine g_iload_n dX11_cleanPlace_30 rfl ?_
        obtain ⟨p31, e31, h⟩ := obind h
        refine g_vR1 mv_X11_174 dX11_cleanPlace_31 (ok_3 (by decide)) ⟨by decide, by decide⟩ (Nat.le_of_ble_eq_true rfl) (f_X4_runnerAt_ok (by decide) e31) (fun b31 => ?_)
        refine g_astore3 dX11_cleanPlace_34 ?_
        refine g_aload_n dX11_cleanPlace_35 rfl ?_
        obtain ⟨p36, e36, h⟩ := obind h
        refine g_vP0 mv_X11_199 dX11_cleanPlace_36 (ok_10 b31) ⟨by decide, by decide⟩ (Nat.le_of_ble_eq_true rfl) (f_X9_isValid_ok b31 e36) ?_
        refine g_if_ne 49 dX11_cleanPlace_39 rfl (fun q => ?_) (fun q => ?_)
        · replace h := gif_f q h
          refine g_aload_n dX11_cleanPlace_49 rfl ?_
          refine gR_X11_49 ok_0 dX11_cleanPlace_50 ?_
          refine g_aload_n dX11_cleanPlace_53 rfl ?_
          obtain ⟨p54, e54, h⟩ := obind h
          refine g_vP1 mv_X11_296 dX11_cleanPlace_54 ok_17 ⟨by decide, by decide⟩ (Nat.le_of_ble_eq_true rfl) (f_X5_cleanTime_ok b31 e54) ?_
          refine g_istore4 dX11_cleanPlace_57 ?_
          refine g_aload_n dX11_cleanPlace_59 rfl ?_
          refine g_iload_n dX11_cleanPlace_60 rfl ?_
          refine g_if_ne 77 dX11_cleanPlace_61 rfl (fun q => ?_) (fun q => ?_)
          · replace h := gif_f q h
            refine g_aload_n dX11_cleanPlace_77 rfl ?_
            refine gR_X11_49 ok_0 dX11_cleanPlace_78 ?_
            refine g_aload_n dX11_cleanPlace_81 rfl ?_
            refine g_iload dX11_cleanPlace_82 rfl ?_
            obtain ⟨p84, e84, h⟩ := obind h
            refine g_vP2 mv_X11_299 dX11_cleanPlace_84 ok_17 ⟨by decide, by decide⟩ (Nat.le_of_ble_eq_true rfl) (f_X5_placeByClean_ok b31 e84) ?_
            obtain ⟨p87, e87, h⟩ := obind h
            refine g_vP1 mv_X11_114 dX11_cleanPlace_87 ok_0 ⟨by decide, by decide⟩ (Nat.le_of_ble_eq_true rfl) (f_X11_answered_ok e87) ?_
            cases h
            exact g_iret dX11_cleanPlace_90 rfl ⟨rfl, rfl⟩
          · replace h := gif_t q h
            refine g_aload_n dX11_cleanPlace_64 rfl ?_
            refine gR_X11_40 ok_0 dX11_cleanPlace_65 ?_
            refine g_aload_n dX11_cleanPlace_68 rfl ?_
            refine g_iload dX11_cleanPlace_69 rfl ?_
            obtain ⟨p71, e71, h⟩ := obind h
            refine g_vP2 mv_X11_202 dX11_cleanPlace_71 ok_16 ⟨by decide, by decide⟩ (Nat.le_of_ble_eq_true rfl) (f_X2_placeByTotal_ok b31 e71) ?_
            refine g_goto 87 dX11_cleanPlace_74 rfl ?_
            obtain ⟨p87, e87, h⟩ := obind h
            refine g_vP1 mv_X11_114 dX11_cleanPlace_87 ok_0 ⟨by decide, by decide⟩ (Nat.le_of_ble_eq_true rfl) (f_X11_answered_ok e87) ?_
            cases h
            exact g_iret dX11_cleanPlace_90 rfl ⟨rfl, rfl⟩
        · replace h := gif_t q h
          refine g_aload_n dX11_cleanPlace_42 rfl ?_
          refine g_bipush dX11_cleanPlace_43 kb_m2 ?_
          obtain ⟨p45, e45, h⟩ := obind h
          refine g_vP1 mv_X11_114 dX11_cleanPlace_45 ok_0 ⟨by decide, by decide⟩ (Nat.le_of_ble_eq_true rfl) (f_X11_answered_ok e45) ?_
          cases h
          exact g_iret dX11_cleanPlace_48 rfl ⟨rfl, rfl⟩
      · replace h := gif_f q h
        refine g_aload_n dX11_cleanPlace_20 rfl ?_
        refine g_iconst dX11_cleanPlace_21 kc_1 ?_
        obtain ⟨p22, e22, h⟩ := obind h
        refine g_vP1 mv_X11_91 dX11_cleanPlace_22 ok_0 ⟨by decide, by decide⟩ (Nat.le_of_ble_eq_true rfl) (f_X11_refused_ok e22) ?_
        cases h
        exact g_iret dX11_cleanPlace_25 rfl ⟨rfl, rfl⟩
theorem dX11_without_0 : decode cX11_without 0 = .ok (.aload_n 0, 1) := by decide +kernel
theorem dX11_without_1 : decode cX11_without 1 = .ok (.getfield 32, 3) := by decide +kernel
theorem dX11_without_4 : decode cX11_without 4 = .ok (.iload_n 1, 1) := by decide +kernel
theorem dX11_without_5 : decode cX11_without 5 = .ok (.iload_n 2, 1) := by decide +kernel
theorem dX11_without_6 : decode cX11_without 6 = .ok (.invokevirtual 263, 3) := by decide +kernel
theorem dX11_without_9 : decode cX11_without 9 = .ok (.ifCond .eq 12, 3) := by decide +kernel
theorem dX11_without_12 : decode cX11_without 12 = .ok (.iload_n 3, 1) := by decide +kernel
theorem dX11_without_13 : decode cX11_without 13 = .ok (.ifCond .lt 8, 3) := by decide +kernel
theorem dX11_without_16 : decode cX11_without 16 = .ok (.iload_n 3, 1) := by decide +kernel
theorem dX11_without_17 : decode cX11_without 17 = .ok (.iconst 1, 1) := by decide +kernel
theorem dX11_without_18 : decode cX11_without 18 = .ok (.if_icmp .le 9, 3) := by decide +kernel
theorem dX11_without_21 : decode cX11_without 21 = .ok (.aload_n 0, 1) := by decide +kernel
theorem dX11_without_22 : decode cX11_without 22 = .ok (.iconst 1, 1) := by decide +kernel
theorem dX11_without_23 : decode cX11_without 23 = .ok (.invokevirtual 91, 3) := by decide +kernel
theorem dX11_without_26 : decode cX11_without 26 = .ok (.ireturn, 1) := by decide +kernel
theorem dX11_without_27 : decode cX11_without 27 = .ok (.aload_n 0, 1) := by decide +kernel
theorem dX11_without_28 : decode cX11_without 28 = .ok (.getfield 40, 3) := by decide +kernel
theorem dX11_without_31 : decode cX11_without 31 = .ok (.iload_n 1, 1) := by decide +kernel
theorem dX11_without_32 : decode cX11_without 32 = .ok (.iload_n 2, 1) := by decide +kernel
theorem dX11_without_33 : decode cX11_without 33 = .ok (.invokevirtual 302, 3) := by decide +kernel
theorem dX11_without_36 : decode cX11_without 36 = .ok (.istore 4, 2) := by decide +kernel
theorem dX11_without_38 : decode cX11_without 38 = .ok (.iload 4, 2) := by decide +kernel
theorem dX11_without_40 : decode cX11_without 40 = .ok (.iconst (-1), 1) := by decide +kernel
theorem dX11_without_41 : decode cX11_without 41 = .ok (.if_icmp .ne 10, 3) := by decide +kernel
theorem dX11_without_44 : decode cX11_without 44 = .ok (.aload_n 0, 1) := by decide +kernel
theorem dX11_without_45 : decode cX11_without 45 = .ok (.bipush (-2), 2) := by decide +kernel
theorem dX11_without_47 : decode cX11_without 47 = .ok (.invokevirtual 114, 3) := by decide +kernel
theorem dX11_without_50 : decode cX11_without 50 = .ok (.ireturn, 1) := by decide +kernel
theorem dX11_without_51 : decode cX11_without 51 = .ok (.aload_n 0, 1) := by decide +kernel
theorem dX11_without_52 : decode cX11_without 52 = .ok (.iload_n 3, 1) := by decide +kernel
theorem dX11_without_53 : decode cX11_without 53 = .ok (.ifCond .ne 8, 3) := by decide +kernel
theorem dX11_without_56 : decode cX11_without 56 = .ok (.iload 4, 2) := by decide +kernel
theorem dX11_without_58 : decode cX11_without 58 = .ok (.goto 16, 3) := by decide +kernel
theorem dX11_without_61 : decode cX11_without 61 = .ok (.aload_n 0, 1) := by decide +kernel
theorem dX11_without_62 : decode cX11_without 62 = .ok (.getfield 32, 3) := by decide +kernel
theorem dX11_without_65 : decode cX11_without 65 = .ok (.iload 4, 2) := by decide +kernel
theorem dX11_without_67 : decode cX11_without 67 = .ok (.invokevirtual 174, 3) := by decide +kernel
theorem dX11_without_70 : decode cX11_without 70 = .ok (.iload_n 2, 1) := by decide +kernel
theorem dX11_without_71 : decode cX11_without 71 = .ok (.invokevirtual 305, 3) := by decide +kernel
theorem dX11_without_74 : decode cX11_without 74 = .ok (.invokevirtual 114, 3) := by decide +kernel
theorem dX11_without_77 : decode cX11_without 77 = .ok (.ireturn, 1) := by decide +kernel
def f_X11_without (v1 : Int32) (v2 : Int32) (v3 : Int32) (σ : gSt) : Option (Int32 × gSt) :=
  (f_X4_hasPoint 1 v1 v2 σ).bind fun p6 =>
  if p6.1 = 0 then
    (f_X11_refused 1 p6.2).bind fun p23 =>
    some (p23.1, p23.2)
  else
    if v3 < 0 then
      (f_X11_refused 1 p6.2).bind fun p23 =>
      some (p23.1, p23.2)
    else
      if v3 ≤ 1 then
        (f_X2_firstWithout v1 v2 p6.2).bind fun p33 =>
        if p33.1 = (-1) then
          (f_X11_answered (-2) p33.2).bind fun p47 =>
          some (p47.1, p47.2)
        else
          if v3 = 0 then
            (f_X11_answered p33.1 p33.2).bind fun p74 =>
            some (p74.1, p74.2)
          else
            (f_X4_runnerAt 1 p33.1 p33.2).bind fun p67 =>
            (f_X9_totalWithout p67.1 v2 p67.2).bind fun p71 =>
            (f_X11_answered p71.1 p71.2).bind fun p74 =>
            some (p74.1, p74.2)
      else
        (f_X11_refused 1 p6.2).bind fun p23 =>
        some (p23.1, p23.2)
theorem f_X11_without_ok {v1 : Int32} {v2 : Int32} {v3 : Int32}  {σ : gSt} {r : (Int32 × gSt)} (h : f_X11_without v1 v2 v3 σ = some r) : Mt l w 0 41 yX11_without cX11_without 5 (some .int) 4 91 [.ref (w.2.1 0 0), .int v1, .int v2, .int v3] σ (gE (some (.int r.1)) r.2) := by
  unfold f_X11_without at h
  refine g_start pn_X11 rfl rfl (Nat.le_of_ble_eq_true rfl) ?_
  show G l w 0 41 RX11 cX11_without 5 (some .int) 4 91 (gE (some (.int r.1)) r.2) 0 [some (.ref (w.2.1 0 0)), some (.int v1), some (.int v2), some (.int v3), none] [] σ
  refine g_aload_n dX11_without_0 rfl ?_
  refine gR_X11_32 ok_0 dX11_without_1 ?_
  refine g_iload_n dX11_without_4 rfl ?_
  refine g_iload_n dX11_without_5 rfl ?_
  obtain ⟨p6, e6, h⟩ := obind h
  refine g_vP2 mv_X11_263 dX11_without_6 (ok_3 (by decide)) ⟨by decide, by decide⟩ (Nat.le_of_ble_eq_true rfl) (f_X4_hasPoint_ok (by decide) e6) ?_
  refine g_if_eq 21 dX11_without_9 rfl (fun q => ?_) (fun q => ?_)
  · replace h := gif_t q h
    refine g_aload_n dX11_without_21 rfl ?_
    refine g_iconst dX11_without_22 kc_1 ?_
    obtain ⟨p23, e23, h⟩ := obind h
    refine g_vP1 mv_X11_91 dX11_without_23 ok_0 ⟨by decide, by decide⟩ (Nat.le_of_ble_eq_true rfl) (f_X11_refused_ok e23) ?_
    cases h
    exact g_iret dX11_without_26 rfl ⟨rfl, rfl⟩
  · replace h := gif_f q h
    refine g_iload_n dX11_without_12 rfl ?_
    refine g_if_lt 21 dX11_without_13 rfl (fun q => ?_) (fun q => ?_)
    · replace h := gif_t q h
      refine g_aload_n dX11_without_21 rfl ?_
      refine g_iconst dX11_without_22 kc_1 ?_
      obtain ⟨p23, e23, h⟩ := obind h
      refine g_vP1 mv_X11_91 dX11_without_23 ok_0 ⟨by decide, by decide⟩ (Nat.le_of_ble_eq_true rfl) (f_X11_refused_ok e23) ?_
      cases h
      exact g_iret dX11_without_26 rfl ⟨rfl, rfl⟩
    · replace h := gif_f q h
      refine g_iload_n dX11_without_16 rfl ?_
      refine g_iconst dX11_without_17 kc_1 ?_
      refine g_icmp_le 27 dX11_without_18 rfl (fun q => ?_) (fun q => ?_)
      · replace h := gif_t q h
        refine g_aload_n dX11_without_27 rfl ?_
        refine gR_X11_40 ok_0 dX11_without_28 ?_
        refine g_iload_n dX11_without_31 rfl ?_
        refine g_iload_n dX11_without_32 rfl ?_
        obtain ⟨p33, e33, h⟩ := obind h
        refine g_vP2 mv_X11_302 dX11_without_33 ok_16 ⟨by decide, by decide⟩ (Nat.le_of_ble_eq_true rfl) (f_X2_firstWithout_ok e33) ?_
        refine g_istore4 dX11_without_36 ?_
        refine g_iload dX11_without_38 rfl ?_
        refine g_iconst dX11_without_40 kc_m1 ?_
        refine g_icmp_ne 51 dX11_without_41 rfl (fun q => ?_) (fun q => ?_)
        · replace h := gif_f q h
          refine g_aload_n dX11_without_51 rfl ?_
          refine g_iload_n dX11_without_52 rfl ?_
          refine g_if_ne 61 dX11_without_53 rfl (fun q => ?_) (fun q => ?_)
          · replace h := gif_f q h
            refine g_aload_n dX11_without_61 rfl ?_
            refine gR_X11_32 ok_0 dX11_without_62 ?_
            refine g_iload dX11_without_65 rfl ?_
            obtain ⟨p67, e67, h⟩ := obind h
            refine g_vR1 mv_X11_174 dX11_without_67 (ok_3 (by decide)) ⟨by decide, by decide⟩ (Nat.le_of_ble_eq_true rfl) (f_X4_runnerAt_ok (by decide) e67) (fun b67 => ?_)
            refine g_iload_n dX11_without_70 rfl ?_
            obtain ⟨p71, e71, h⟩ := obind h
            refine g_vP1 mv_X11_305 dX11_without_71 (ok_10 b67) ⟨by decide, by decide⟩ (Nat.le_of_ble_eq_true rfl) (f_X9_totalWithout_ok b67 e71) ?_
            obtain ⟨p74, e74, h⟩ := obind h
            refine g_vP1 mv_X11_114 dX11_without_74 ok_0 ⟨by decide, by decide⟩ (Nat.le_of_ble_eq_true rfl) (f_X11_answered_ok e74) ?_
            cases h
            exact g_iret dX11_without_77 rfl ⟨rfl, rfl⟩
          · replace h := gif_t q h
            refine g_iload dX11_without_56 rfl ?_
            refine g_goto 74 dX11_without_58 rfl ?_
            obtain ⟨p74, e74, h⟩ := obind h
            refine g_vP1 mv_X11_114 dX11_without_74 ok_0 ⟨by decide, by decide⟩ (Nat.le_of_ble_eq_true rfl) (f_X11_answered_ok e74) ?_
            cases h
            exact g_iret dX11_without_77 rfl ⟨rfl, rfl⟩
        · replace h := gif_t q h
          refine g_aload_n dX11_without_44 rfl ?_
          refine g_bipush dX11_without_45 kb_m2 ?_
          obtain ⟨p47, e47, h⟩ := obind h
          refine g_vP1 mv_X11_114 dX11_without_47 ok_0 ⟨by decide, by decide⟩ (Nat.le_of_ble_eq_true rfl) (f_X11_answered_ok e47) ?_
          cases h
          exact g_iret dX11_without_50 rfl ⟨rfl, rfl⟩
      · replace h := gif_f q h
        refine g_aload_n dX11_without_21 rfl ?_
        refine g_iconst dX11_without_22 kc_1 ?_
        obtain ⟨p23, e23, h⟩ := obind h
        refine g_vP1 mv_X11_91 dX11_without_23 ok_0 ⟨by decide, by decide⟩ (Nat.le_of_ble_eq_true rfl) (f_X11_refused_ok e23) ?_
        cases h
        exact g_iret dX11_without_26 rfl ⟨rfl, rfl⟩
theorem dX11_hardest_0 : decode cX11_hardest 0 = .ok (.aload_n 0, 1) := by decide +kernel
theorem dX11_hardest_1 : decode cX11_hardest 1 = .ok (.getfield 32, 3) := by decide +kernel
theorem dX11_hardest_4 : decode cX11_hardest 4 = .ok (.iload_n 1, 1) := by decide +kernel
theorem dX11_hardest_5 : decode cX11_hardest 5 = .ok (.invokevirtual 140, 3) := by decide +kernel
theorem dX11_hardest_8 : decode cX11_hardest 8 = .ok (.ifCond .eq 12, 3) := by decide +kernel
theorem dX11_hardest_11 : decode cX11_hardest 11 = .ok (.iload_n 2, 1) := by decide +kernel
theorem dX11_hardest_12 : decode cX11_hardest 12 = .ok (.ifCond .lt 8, 3) := by decide +kernel
theorem dX11_hardest_15 : decode cX11_hardest 15 = .ok (.iload_n 2, 1) := by decide +kernel
theorem dX11_hardest_16 : decode cX11_hardest 16 = .ok (.iconst 1, 1) := by decide +kernel
theorem dX11_hardest_17 : decode cX11_hardest 17 = .ok (.if_icmp .le 9, 3) := by decide +kernel
theorem dX11_hardest_20 : decode cX11_hardest 20 = .ok (.aload_n 0, 1) := by decide +kernel
theorem dX11_hardest_21 : decode cX11_hardest 21 = .ok (.iconst 1, 1) := by decide +kernel
theorem dX11_hardest_22 : decode cX11_hardest 22 = .ok (.invokevirtual 91, 3) := by decide +kernel
theorem dX11_hardest_25 : decode cX11_hardest 25 = .ok (.ireturn, 1) := by decide +kernel
theorem dX11_hardest_26 : decode cX11_hardest 26 = .ok (.aload_n 0, 1) := by decide +kernel
theorem dX11_hardest_27 : decode cX11_hardest 27 = .ok (.getfield 40, 3) := by decide +kernel
theorem dX11_hardest_30 : decode cX11_hardest 30 = .ok (.iload_n 1, 1) := by decide +kernel
theorem dX11_hardest_31 : decode cX11_hardest 31 = .ok (.invokevirtual 308, 3) := by decide +kernel
theorem dX11_hardest_34 : decode cX11_hardest 34 = .ok (.istore_n 3, 1) := by decide +kernel
theorem dX11_hardest_35 : decode cX11_hardest 35 = .ok (.iload_n 3, 1) := by decide +kernel
theorem dX11_hardest_36 : decode cX11_hardest 36 = .ok (.iconst (-1), 1) := by decide +kernel
theorem dX11_hardest_37 : decode cX11_hardest 37 = .ok (.if_icmp .ne 10, 3) := by decide +kernel
theorem dX11_hardest_40 : decode cX11_hardest 40 = .ok (.aload_n 0, 1) := by decide +kernel
theorem dX11_hardest_41 : decode cX11_hardest 41 = .ok (.bipush (-2), 2) := by decide +kernel
theorem dX11_hardest_43 : decode cX11_hardest 43 = .ok (.invokevirtual 114, 3) := by decide +kernel
theorem dX11_hardest_46 : decode cX11_hardest 46 = .ok (.ireturn, 1) := by decide +kernel
theorem dX11_hardest_47 : decode cX11_hardest 47 = .ok (.aload_n 0, 1) := by decide +kernel
theorem dX11_hardest_48 : decode cX11_hardest 48 = .ok (.iload_n 2, 1) := by decide +kernel
theorem dX11_hardest_49 : decode cX11_hardest 49 = .ok (.ifCond .ne 7, 3) := by decide +kernel
theorem dX11_hardest_52 : decode cX11_hardest 52 = .ok (.iload_n 3, 1) := by decide +kernel
theorem dX11_hardest_53 : decode cX11_hardest 53 = .ok (.goto 12, 3) := by decide +kernel
theorem dX11_hardest_56 : decode cX11_hardest 56 = .ok (.aload_n 0, 1) := by decide +kernel
theorem dX11_hardest_57 : decode cX11_hardest 57 = .ok (.getfield 40, 3) := by decide +kernel
theorem dX11_hardest_60 : decode cX11_hardest 60 = .ok (.iload_n 1, 1) := by decide +kernel
theorem dX11_hardest_61 : decode cX11_hardest 61 = .ok (.iload_n 3, 1) := by decide +kernel
theorem dX11_hardest_62 : decode cX11_hardest 62 = .ok (.invokevirtual 311, 3) := by decide +kernel
theorem dX11_hardest_65 : decode cX11_hardest 65 = .ok (.invokevirtual 114, 3) := by decide +kernel
theorem dX11_hardest_68 : decode cX11_hardest 68 = .ok (.ireturn, 1) := by decide +kernel
def f_X11_hardest (v1 : Int32) (v2 : Int32) (σ : gSt) : Option (Int32 × gSt) :=
  (f_X4_hasCourse 1 v1 σ).bind fun p5 =>
  if p5.1 = 0 then
    (f_X11_refused 1 p5.2).bind fun p22 =>
    some (p22.1, p22.2)
  else
    if v2 < 0 then
      (f_X11_refused 1 p5.2).bind fun p22 =>
      some (p22.1, p22.2)
    else
      if v2 ≤ 1 then
        (f_X2_hardestLeg v1 p5.2).bind fun p31 =>
        if p31.1 = (-1) then
          (f_X11_answered (-2) p31.2).bind fun p43 =>
          some (p43.1, p43.2)
        else
          if v2 = 0 then
            (f_X11_answered p31.1 p31.2).bind fun p65 =>
            some (p65.1, p65.2)
          else
            (f_X2_lostByAll v1 p31.1 p31.2).bind fun p62 =>
            (f_X11_answered p62.1 p62.2).bind fun p65 =>
            some (p65.1, p65.2)
      else
        (f_X11_refused 1 p5.2).bind fun p22 =>
        some (p22.1, p22.2)
theorem f_X11_hardest_ok {v1 : Int32} {v2 : Int32}  {σ : gSt} {r : (Int32 × gSt)} (h : f_X11_hardest v1 v2 σ = some r) : Mt l w 0 41 yX11_hardest cX11_hardest 4 (some .int) 5 120 [.ref (w.2.1 0 0), .int v1, .int v2] σ (gE (some (.int r.1)) r.2) := by
  unfold f_X11_hardest at h
  refine g_start pn_X11 rfl rfl (Nat.le_of_ble_eq_true rfl) ?_
  show G l w 0 41 RX11 cX11_hardest 4 (some .int) 5 120 (gE (some (.int r.1)) r.2) 0 [some (.ref (w.2.1 0 0)), some (.int v1), some (.int v2), none] [] σ
  refine g_aload_n dX11_hardest_0 rfl ?_
  refine gR_X11_32 ok_0 dX11_hardest_1 ?_
  refine g_iload_n dX11_hardest_4 rfl ?_
  obtain ⟨p5, e5, h⟩ := obind h
  refine g_vP1 mv_X11_140 dX11_hardest_5 (ok_3 (by decide)) ⟨by decide, by decide⟩ (Nat.le_of_ble_eq_true rfl) (f_X4_hasCourse_ok (by decide) e5) ?_
  refine g_if_eq 20 dX11_hardest_8 rfl (fun q => ?_) (fun q => ?_)
  · replace h := gif_t q h
    refine g_aload_n dX11_hardest_20 rfl ?_
    refine g_iconst dX11_hardest_21 kc_1 ?_
    obtain ⟨p22, e22, h⟩ := obind h
    refine g_vP1 mv_X11_91 dX11_hardest_22 ok_0 ⟨by decide, by decide⟩ (Nat.le_of_ble_eq_true rfl) (f_X11_refused_ok e22) ?_
    cases h
    exact g_iret dX11_hardest_25 rfl ⟨rfl, rfl⟩
  · replace h := gif_f q h
    refine g_iload_n dX11_hardest_11 rfl ?_
    refine g_if_lt 20 dX11_hardest_12 rfl (fun q => ?_) (fun q => ?_)
    · replace h := gif_t q h
      refine g_aload_n dX11_hardest_20 rfl ?_
      refine g_iconst dX11_hardest_21 kc_1 ?_
      obtain ⟨p22, e22, h⟩ := obind h
      refine g_vP1 mv_X11_91 dX11_hardest_22 ok_0 ⟨by decide, by decide⟩ (Nat.le_of_ble_eq_true rfl) (f_X11_refused_ok e22) ?_
      cases h
      exact g_iret dX11_hardest_25 rfl ⟨rfl, rfl⟩
    · replace h := gif_f q h
      refine g_iload_n dX11_hardest_15 rfl ?_
      refine g_iconst dX11_hardest_16 kc_1 ?_
      refine g_icmp_le 26 dX11_hardest_17 rfl (fun q => ?_) (fun q => ?_)
      · replace h := gif_t q h
        refine g_aload_n dX11_hardest_26 rfl ?_
        refine gR_X11_40 ok_0 dX11_hardest_27 ?_
        refine g_iload_n dX11_hardest_30 rfl ?_
        obtain ⟨p31, e31, h⟩ := obind h
        refine g_vP1 mv_X11_308 dX11_hardest_31 ok_16 ⟨by decide, by decide⟩ (Nat.le_of_ble_eq_true rfl) (f_X2_hardestLeg_ok e31) ?_
        refine g_istore3 dX11_hardest_34 ?_
        refine g_iload_n dX11_hardest_35 rfl ?_
        refine g_iconst dX11_hardest_36 kc_m1 ?_
        refine g_icmp_ne 47 dX11_hardest_37 rfl (fun q => ?_) (fun q => ?_)
        · replace h := gif_f q h
          refine g_aload_n dX11_hardest_47 rfl ?_
          refine g_iload_n dX11_hardest_48 rfl ?_
          refine g_if_ne 56 dX11_hardest_49 rfl (fun q => ?_) (fun q => ?_)
          · replace h := gif_f q h
            refine g_aload_n dX11_hardest_56 rfl ?_
            refine gR_X11_40 ok_0 dX11_hardest_57 ?_
            refine g_iload_n dX11_hardest_60 rfl ?_
            refine g_iload_n dX11_hardest_61 rfl ?_
            obtain ⟨p62, e62, h⟩ := obind h
            refine g_vP2 mv_X11_311 dX11_hardest_62 ok_16 ⟨by decide, by decide⟩ (Nat.le_of_ble_eq_true rfl) (f_X2_lostByAll_ok e62) ?_
            obtain ⟨p65, e65, h⟩ := obind h
            refine g_vP1 mv_X11_114 dX11_hardest_65 ok_0 ⟨by decide, by decide⟩ (Nat.le_of_ble_eq_true rfl) (f_X11_answered_ok e65) ?_
            cases h
            exact g_iret dX11_hardest_68 rfl ⟨rfl, rfl⟩
          · replace h := gif_t q h
            refine g_iload_n dX11_hardest_52 rfl ?_
            refine g_goto 65 dX11_hardest_53 rfl ?_
            obtain ⟨p65, e65, h⟩ := obind h
            refine g_vP1 mv_X11_114 dX11_hardest_65 ok_0 ⟨by decide, by decide⟩ (Nat.le_of_ble_eq_true rfl) (f_X11_answered_ok e65) ?_
            cases h
            exact g_iret dX11_hardest_68 rfl ⟨rfl, rfl⟩
        · replace h := gif_t q h
          refine g_aload_n dX11_hardest_40 rfl ?_
          refine g_bipush dX11_hardest_41 kb_m2 ?_
          obtain ⟨p43, e43, h⟩ := obind h
          refine g_vP1 mv_X11_114 dX11_hardest_43 ok_0 ⟨by decide, by decide⟩ (Nat.le_of_ble_eq_true rfl) (f_X11_answered_ok e43) ?_
          cases h
          exact g_iret dX11_hardest_46 rfl ⟨rfl, rfl⟩
      · replace h := gif_f q h
        refine g_aload_n dX11_hardest_20 rfl ?_
        refine g_iconst dX11_hardest_21 kc_1 ?_
        obtain ⟨p22, e22, h⟩ := obind h
        refine g_vP1 mv_X11_91 dX11_hardest_22 ok_0 ⟨by decide, by decide⟩ (Nat.le_of_ble_eq_true rfl) (f_X11_refused_ok e22) ?_
        cases h
        exact g_iret dX11_hardest_25 rfl ⟨rfl, rfl⟩
theorem dX11_isCode_0 : decode cX11_isCode 0 = .ok (.iload_n 0, 1) := by decide +kernel
theorem dX11_isCode_1 : decode cX11_isCode 1 = .ok (.iconst 1, 1) := by decide +kernel
theorem dX11_isCode_2 : decode cX11_isCode 2 = .ok (.if_icmp .lt 13, 3) := by decide +kernel
theorem dX11_isCode_5 : decode cX11_isCode 5 = .ok (.iload_n 0, 1) := by decide +kernel
theorem dX11_isCode_6 : decode cX11_isCode 6 = .ok (.bipush 99, 2) := by decide +kernel
theorem dX11_isCode_8 : decode cX11_isCode 8 = .ok (.if_icmp .gt 7, 3) := by decide +kernel
theorem dX11_isCode_11 : decode cX11_isCode 11 = .ok (.iconst 1, 1) := by decide +kernel
theorem dX11_isCode_12 : decode cX11_isCode 12 = .ok (.goto 4, 3) := by decide +kernel
theorem dX11_isCode_15 : decode cX11_isCode 15 = .ok (.iconst 0, 1) := by decide +kernel
theorem dX11_isCode_16 : decode cX11_isCode 16 = .ok (.ireturn, 1) := by decide +kernel
def f_X11_isCode (v0 : Int32) (σ : gSt) : Option (Int32 × gSt) :=
  if v0 < 1 then
    some (0, σ)
  else
    if 99 < v0 then
      some (0, σ)
    else
      some (1, σ)
theorem f_X11_isCode_ok {v0 : Int32}  {σ : gSt} {r : (Int32 × gSt)} (h : f_X11_isCode v0 σ = some r) : Mt l w 0 41 yX11_isCode cX11_isCode 1 (some .boolean) 0 0 [.int v0] σ (gE (some (.int r.1)) r.2) := by
  unfold f_X11_isCode at h
  refine g_start pn_X11 rfl rfl (Nat.le_of_ble_eq_true rfl) ?_
  show G l w 0 41 RX11 cX11_isCode 1 (some .boolean) 0 0 (gE (some (.int r.1)) r.2) 0 [some (.int v0)] [] σ
  refine g_iload_n dX11_isCode_0 rfl ?_
  refine g_iconst dX11_isCode_1 kc_1 ?_
  refine g_icmp_lt 15 dX11_isCode_2 rfl (fun q => ?_) (fun q => ?_)
  · replace h := gif_t q h
    refine g_iconst dX11_isCode_15 kc_0 ?_
    cases h
    exact g_zret0 dX11_isCode_16 rfl
  · replace h := gif_f q h
    refine g_iload_n dX11_isCode_5 rfl ?_
    refine g_bipush dX11_isCode_6 kb_99 ?_
    refine g_icmp_gt 15 dX11_isCode_8 rfl (fun q => ?_) (fun q => ?_)
    · replace h := gif_t q h
      refine g_iconst dX11_isCode_15 kc_0 ?_
      cases h
      exact g_zret0 dX11_isCode_16 rfl
    · replace h := gif_f q h
      refine g_iconst dX11_isCode_11 kc_1 ?_
      refine g_goto 16 dX11_isCode_12 rfl ?_
      cases h
      exact g_zret1 dX11_isCode_16 rfl
theorem dX11_packs_0 : decode cX11_packs 0 = .ok (.aload_n 0, 1) := by decide +kernel
theorem dX11_packs_1 : decode cX11_packs 1 = .ok (.getfield 32, 3) := by decide +kernel
theorem dX11_packs_4 : decode cX11_packs 4 = .ok (.invokevirtual 117, 3) := by decide +kernel
theorem dX11_packs_7 : decode cX11_packs 7 = .ok (.ifCond .ne 9, 3) := by decide +kernel
theorem dX11_packs_10 : decode cX11_packs 10 = .ok (.aload_n 0, 1) := by decide +kernel
theorem dX11_packs_11 : decode cX11_packs 11 = .ok (.iconst 1, 1) := by decide +kernel
theorem dX11_packs_12 : decode cX11_packs 12 = .ok (.invokevirtual 91, 3) := by decide +kernel
theorem dX11_packs_15 : decode cX11_packs 15 = .ok (.ireturn, 1) := by decide +kernel
theorem dX11_packs_16 : decode cX11_packs 16 = .ok (.iload_n 1, 1) := by decide +kernel
theorem dX11_packs_17 : decode cX11_packs 17 = .ok (.invokestatic 314, 3) := by decide +kernel
theorem dX11_packs_20 : decode cX11_packs 20 = .ok (.ifCond .ne 9, 3) := by decide +kernel
theorem dX11_packs_23 : decode cX11_packs 23 = .ok (.aload_n 0, 1) := by decide +kernel
theorem dX11_packs_24 : decode cX11_packs 24 = .ok (.iconst 2, 1) := by decide +kernel
theorem dX11_packs_25 : decode cX11_packs 25 = .ok (.invokevirtual 91, 3) := by decide +kernel
theorem dX11_packs_28 : decode cX11_packs 28 = .ok (.ireturn, 1) := by decide +kernel
theorem dX11_packs_29 : decode cX11_packs 29 = .ok (.aload_n 0, 1) := by decide +kernel
theorem dX11_packs_30 : decode cX11_packs 30 = .ok (.getfield 56, 3) := by decide +kernel
theorem dX11_packs_33 : decode cX11_packs 33 = .ok (.iload_n 1, 1) := by decide +kernel
theorem dX11_packs_34 : decode cX11_packs 34 = .ok (.invokevirtual 317, 3) := by decide +kernel
theorem dX11_packs_37 : decode cX11_packs 37 = .ok (.aload_n 0, 1) := by decide +kernel
theorem dX11_packs_38 : decode cX11_packs 38 = .ok (.aload_n 0, 1) := by decide +kernel
theorem dX11_packs_39 : decode cX11_packs 39 = .ok (.getfield 56, 3) := by decide +kernel
theorem dX11_packs_42 : decode cX11_packs 42 = .ok (.iconst (-1), 1) := by decide +kernel
theorem dX11_packs_43 : decode cX11_packs 43 = .ok (.invokevirtual 320, 3) := by decide +kernel
theorem dX11_packs_46 : decode cX11_packs 46 = .ok (.invokevirtual 114, 3) := by decide +kernel
theorem dX11_packs_49 : decode cX11_packs 49 = .ok (.ireturn, 1) := by decide +kernel
def f_X11_packs (v1 : Int32) (σ : gSt) : Option (Int32 × gSt) :=
  (f_X4_isTold 1 σ).bind fun p4 =>
  if p4.1 = 0 then
    (f_X11_refused 1 p4.2).bind fun p12 =>
    some (p12.1, p12.2)
  else
    (f_X11_isCode v1 p4.2).bind fun p17 =>
    if p17.1 = 0 then
      (f_X11_refused 2 p17.2).bind fun p25 =>
      some (p25.1, p25.2)
    else
      (f_X6_gather v1 p17.2).bind fun z34 =>
      (f_X6_seek (-1) z34).bind fun p43 =>
      (f_X11_answered p43.1 p43.2).bind fun p46 =>
      some (p46.1, p46.2)
theorem f_X11_packs_ok {v1 : Int32}  {σ : gSt} {r : (Int32 × gSt)} (h : f_X11_packs v1 σ = some r) : Mt l w 0 41 yX11_packs cX11_packs 2 (some .int) 2 47 [.ref (w.2.1 0 0), .int v1] σ (gE (some (.int r.1)) r.2) := by
  unfold f_X11_packs at h
  refine g_start pn_X11 rfl rfl (Nat.le_of_ble_eq_true rfl) ?_
  show G l w 0 41 RX11 cX11_packs 2 (some .int) 2 47 (gE (some (.int r.1)) r.2) 0 [some (.ref (w.2.1 0 0)), some (.int v1)] [] σ
  refine g_aload_n dX11_packs_0 rfl ?_
  refine gR_X11_32 ok_0 dX11_packs_1 ?_
  obtain ⟨p4, e4, h⟩ := obind h
  refine g_vP0 mv_X11_117 dX11_packs_4 (ok_3 (by decide)) ⟨by decide, by decide⟩ (Nat.le_of_ble_eq_true rfl) (f_X4_isTold_ok (by decide) e4) ?_
  refine g_if_ne 16 dX11_packs_7 rfl (fun q => ?_) (fun q => ?_)
  · replace h := gif_f q h
    refine g_iload_n dX11_packs_16 rfl ?_
    obtain ⟨p17, e17, h⟩ := obind h
    refine g_sP1 ms_X11_314 dX11_packs_17 ⟨by decide, by decide⟩ (Nat.le_of_ble_eq_true rfl) (f_X11_isCode_ok e17) ?_
    refine g_if_ne 29 dX11_packs_20 rfl (fun q => ?_) (fun q => ?_)
    · replace h := gif_f q h
      refine g_aload_n dX11_packs_29 rfl ?_
      refine gR_X11_56 ok_0 dX11_packs_30 ?_
      refine g_iload_n dX11_packs_33 rfl ?_
      obtain ⟨z34, e34, h⟩ := obind h
      refine g_vU1 mv_X11_317 dX11_packs_34 ok_22 ⟨by decide, by decide⟩ (Nat.le_of_ble_eq_true rfl) (f_X6_gather_ok e34) ?_
      refine g_aload_n dX11_packs_37 rfl ?_
      refine g_aload_n dX11_packs_38 rfl ?_
      refine gR_X11_56 ok_0 dX11_packs_39 ?_
      refine g_iconst dX11_packs_42 kc_m1 ?_
      obtain ⟨p43, e43, h⟩ := obind h
      refine g_vP1 mv_X11_320 dX11_packs_43 ok_22 ⟨by decide, by decide⟩ (Nat.le_of_ble_eq_true rfl) (f_X6_seek_ok e43) ?_
      obtain ⟨p46, e46, h⟩ := obind h
      refine g_vP1 mv_X11_114 dX11_packs_46 ok_0 ⟨by decide, by decide⟩ (Nat.le_of_ble_eq_true rfl) (f_X11_answered_ok e46) ?_
      cases h
      exact g_iret dX11_packs_49 rfl ⟨rfl, rfl⟩
    · replace h := gif_t q h
      refine g_aload_n dX11_packs_23 rfl ?_
      refine g_iconst dX11_packs_24 kc_2 ?_
      obtain ⟨p25, e25, h⟩ := obind h
      refine g_vP1 mv_X11_91 dX11_packs_25 ok_0 ⟨by decide, by decide⟩ (Nat.le_of_ble_eq_true rfl) (f_X11_refused_ok e25) ?_
      cases h
      exact g_iret dX11_packs_28 rfl ⟨rfl, rfl⟩
  · replace h := gif_t q h
    refine g_aload_n dX11_packs_10 rfl ?_
    refine g_iconst dX11_packs_11 kc_1 ?_
    obtain ⟨p12, e12, h⟩ := obind h
    refine g_vP1 mv_X11_91 dX11_packs_12 ok_0 ⟨by decide, by decide⟩ (Nat.le_of_ble_eq_true rfl) (f_X11_refused_ok e12) ?_
    cases h
    exact g_iret dX11_packs_15 rfl ⟨rfl, rfl⟩
theorem dX11_pack_0 : decode cX11_pack 0 = .ok (.aload_n 0, 1) := by decide +kernel
theorem dX11_pack_1 : decode cX11_pack 1 = .ok (.getfield 32, 3) := by decide +kernel
theorem dX11_pack_4 : decode cX11_pack 4 = .ok (.invokevirtual 117, 3) := by decide +kernel
theorem dX11_pack_7 : decode cX11_pack 7 = .ok (.ifCond .eq 16, 3) := by decide +kernel
theorem dX11_pack_10 : decode cX11_pack 10 = .ok (.iload_n 2, 1) := by decide +kernel
theorem dX11_pack_11 : decode cX11_pack 11 = .ok (.ifCond .lt 12, 3) := by decide +kernel
theorem dX11_pack_14 : decode cX11_pack 14 = .ok (.iload_n 3, 1) := by decide +kernel
theorem dX11_pack_15 : decode cX11_pack 15 = .ok (.ifCond .lt 8, 3) := by decide +kernel
theorem dX11_pack_18 : decode cX11_pack 18 = .ok (.iload_n 3, 1) := by decide +kernel
theorem dX11_pack_19 : decode cX11_pack 19 = .ok (.iconst 3, 1) := by decide +kernel
theorem dX11_pack_20 : decode cX11_pack 20 = .ok (.if_icmp .le 9, 3) := by decide +kernel
theorem dX11_pack_23 : decode cX11_pack 23 = .ok (.aload_n 0, 1) := by decide +kernel
theorem dX11_pack_24 : decode cX11_pack 24 = .ok (.iconst 1, 1) := by decide +kernel
theorem dX11_pack_25 : decode cX11_pack 25 = .ok (.invokevirtual 91, 3) := by decide +kernel
theorem dX11_pack_28 : decode cX11_pack 28 = .ok (.ireturn, 1) := by decide +kernel
theorem dX11_pack_29 : decode cX11_pack 29 = .ok (.iload_n 1, 1) := by decide +kernel
theorem dX11_pack_30 : decode cX11_pack 30 = .ok (.invokestatic 314, 3) := by decide +kernel
theorem dX11_pack_33 : decode cX11_pack 33 = .ok (.ifCond .ne 9, 3) := by decide +kernel
theorem dX11_pack_36 : decode cX11_pack 36 = .ok (.aload_n 0, 1) := by decide +kernel
theorem dX11_pack_37 : decode cX11_pack 37 = .ok (.iconst 2, 1) := by decide +kernel
theorem dX11_pack_38 : decode cX11_pack 38 = .ok (.invokevirtual 91, 3) := by decide +kernel
theorem dX11_pack_41 : decode cX11_pack 41 = .ok (.ireturn, 1) := by decide +kernel
theorem dX11_pack_42 : decode cX11_pack 42 = .ok (.aload_n 0, 1) := by decide +kernel
theorem dX11_pack_43 : decode cX11_pack 43 = .ok (.getfield 56, 3) := by decide +kernel
theorem dX11_pack_46 : decode cX11_pack 46 = .ok (.iload_n 1, 1) := by decide +kernel
theorem dX11_pack_47 : decode cX11_pack 47 = .ok (.invokevirtual 317, 3) := by decide +kernel
theorem dX11_pack_50 : decode cX11_pack 50 = .ok (.aload_n 0, 1) := by decide +kernel
theorem dX11_pack_51 : decode cX11_pack 51 = .ok (.getfield 56, 3) := by decide +kernel
theorem dX11_pack_54 : decode cX11_pack 54 = .ok (.iload_n 2, 1) := by decide +kernel
theorem dX11_pack_55 : decode cX11_pack 55 = .ok (.invokevirtual 320, 3) := by decide +kernel
theorem dX11_pack_58 : decode cX11_pack 58 = .ok (.iload_n 2, 1) := by decide +kernel
theorem dX11_pack_59 : decode cX11_pack 59 = .ok (.if_icmp .gt 10, 3) := by decide +kernel
theorem dX11_pack_62 : decode cX11_pack 62 = .ok (.aload_n 0, 1) := by decide +kernel
theorem dX11_pack_63 : decode cX11_pack 63 = .ok (.bipush (-2), 2) := by decide +kernel
theorem dX11_pack_65 : decode cX11_pack 65 = .ok (.invokevirtual 114, 3) := by decide +kernel
theorem dX11_pack_68 : decode cX11_pack 68 = .ok (.ireturn, 1) := by decide +kernel
theorem dX11_pack_69 : decode cX11_pack 69 = .ok (.iload_n 3, 1) := by decide +kernel
theorem dX11_pack_70 : decode cX11_pack 70 = .ok (.tableswitch 79 0 2 #[26, 48, 60], 26) := by decide +kernel
theorem dX11_pack_96 : decode cX11_pack 96 = .ok (.aload_n 0, 1) := by decide +kernel
theorem dX11_pack_97 : decode cX11_pack 97 = .ok (.aload_n 0, 1) := by decide +kernel
theorem dX11_pack_98 : decode cX11_pack 98 = .ok (.getfield 56, 3) := by decide +kernel
theorem dX11_pack_101 : decode cX11_pack 101 = .ok (.getfield 323, 3) := by decide +kernel
theorem dX11_pack_104 : decode cX11_pack 104 = .ok (.aload_n 0, 1) := by decide +kernel
theorem dX11_pack_105 : decode cX11_pack 105 = .ok (.getfield 56, 3) := by decide +kernel
theorem dX11_pack_108 : decode cX11_pack 108 = .ok (.getfield 326, 3) := by decide +kernel
theorem dX11_pack_111 : decode cX11_pack 111 = .ok (.isub, 1) := by decide +kernel
theorem dX11_pack_112 : decode cX11_pack 112 = .ok (.iconst 1, 1) := by decide +kernel
theorem dX11_pack_113 : decode cX11_pack 113 = .ok (.iadd, 1) := by decide +kernel
theorem dX11_pack_114 : decode cX11_pack 114 = .ok (.invokevirtual 114, 3) := by decide +kernel
theorem dX11_pack_117 : decode cX11_pack 117 = .ok (.ireturn, 1) := by decide +kernel
theorem dX11_pack_118 : decode cX11_pack 118 = .ok (.aload_n 0, 1) := by decide +kernel
theorem dX11_pack_119 : decode cX11_pack 119 = .ok (.aload_n 0, 1) := by decide +kernel
theorem dX11_pack_120 : decode cX11_pack 120 = .ok (.getfield 56, 3) := by decide +kernel
theorem dX11_pack_123 : decode cX11_pack 123 = .ok (.invokevirtual 329, 3) := by decide +kernel
theorem dX11_pack_126 : decode cX11_pack 126 = .ok (.invokevirtual 114, 3) := by decide +kernel
theorem dX11_pack_129 : decode cX11_pack 129 = .ok (.ireturn, 1) := by decide +kernel
theorem dX11_pack_130 : decode cX11_pack 130 = .ok (.aload_n 0, 1) := by decide +kernel
theorem dX11_pack_131 : decode cX11_pack 131 = .ok (.aload_n 0, 1) := by decide +kernel
theorem dX11_pack_132 : decode cX11_pack 132 = .ok (.getfield 56, 3) := by decide +kernel
theorem dX11_pack_135 : decode cX11_pack 135 = .ok (.aload_n 0, 1) := by decide +kernel
theorem dX11_pack_136 : decode cX11_pack 136 = .ok (.getfield 56, 3) := by decide +kernel
theorem dX11_pack_139 : decode cX11_pack 139 = .ok (.getfield 326, 3) := by decide +kernel
theorem dX11_pack_142 : decode cX11_pack 142 = .ok (.invokevirtual 332, 3) := by decide +kernel
theorem dX11_pack_145 : decode cX11_pack 145 = .ok (.invokevirtual 114, 3) := by decide +kernel
theorem dX11_pack_148 : decode cX11_pack 148 = .ok (.ireturn, 1) := by decide +kernel
theorem dX11_pack_149 : decode cX11_pack 149 = .ok (.aload_n 0, 1) := by decide +kernel
theorem dX11_pack_150 : decode cX11_pack 150 = .ok (.aload_n 0, 1) := by decide +kernel
theorem dX11_pack_151 : decode cX11_pack 151 = .ok (.getfield 56, 3) := by decide +kernel
theorem dX11_pack_154 : decode cX11_pack 154 = .ok (.aload_n 0, 1) := by decide +kernel
theorem dX11_pack_155 : decode cX11_pack 155 = .ok (.getfield 56, 3) := by decide +kernel
theorem dX11_pack_158 : decode cX11_pack 158 = .ok (.getfield 323, 3) := by decide +kernel
theorem dX11_pack_161 : decode cX11_pack 161 = .ok (.invokevirtual 332, 3) := by decide +kernel
theorem dX11_pack_164 : decode cX11_pack 164 = .ok (.invokevirtual 114, 3) := by decide +kernel
theorem dX11_pack_167 : decode cX11_pack 167 = .ok (.ireturn, 1) := by decide +kernel
def f_X11_pack (v1 : Int32) (v2 : Int32) (v3 : Int32) (σ : gSt) : Option (Int32 × gSt) :=
  (f_X4_isTold 1 σ).bind fun p4 =>
  if p4.1 = 0 then
    (f_X11_refused 1 p4.2).bind fun p25 =>
    some (p25.1, p25.2)
  else
    if v2 < 0 then
      (f_X11_refused 1 p4.2).bind fun p25 =>
      some (p25.1, p25.2)
    else
      if v3 < 0 then
        (f_X11_refused 1 p4.2).bind fun p25 =>
        some (p25.1, p25.2)
      else
        if v3 ≤ 3 then
          (f_X11_isCode v1 p4.2).bind fun p30 =>
          if p30.1 = 0 then
            (f_X11_refused 2 p30.2).bind fun p38 =>
            some (p38.1, p38.2)
          else
            (f_X6_gather v1 p30.2).bind fun z47 =>
            (f_X6_seek v2 z47).bind fun p55 =>
            if v2 < p55.1 then
              if v3 = 0 then
                (f_X11_answered (((p55.2 22 0 5) - (p55.2 22 0 4)) + 1) p55.2).bind fun p114 =>
                some (p114.1, p114.2)
              else
              if v3 = 1 then
                (f_X6_runnerBits p55.2).bind fun p123 =>
                (f_X11_answered p123.1 p123.2).bind fun p126 =>
                some (p126.1, p126.2)
              else
              if v3 = 2 then
                (f_X6_timeOf (p55.2 22 0 4) p55.2).bind fun p142 =>
                (f_X11_answered p142.1 p142.2).bind fun p145 =>
                some (p145.1, p145.2)
              else
              (f_X6_timeOf (p55.2 22 0 5) p55.2).bind fun p161 =>
              (f_X11_answered p161.1 p161.2).bind fun p164 =>
              some (p164.1, p164.2)
            else
              (f_X11_answered (-2) p55.2).bind fun p65 =>
              some (p65.1, p65.2)
        else
          (f_X11_refused 1 p4.2).bind fun p25 =>
          some (p25.1, p25.2)
theorem f_X11_pack_ok {v1 : Int32} {v2 : Int32} {v3 : Int32}  {σ : gSt} {r : (Int32 × gSt)} (h : f_X11_pack v1 v2 v3 σ = some r) : Mt l w 0 41 yX11_pack cX11_pack 4 (some .int) 2 47 [.ref (w.2.1 0 0), .int v1, .int v2, .int v3] σ (gE (some (.int r.1)) r.2) := by
  unfold f_X11_pack at h
  refine g_start pn_X11 rfl rfl (Nat.le_of_ble_eq_true rfl) ?_
  show G l w 0 41 RX11 cX11_pack 4 (some .int) 2 47 (gE (some (.int r.1)) r.2) 0 [some (.ref (w.2.1 0 0)), some (.int v1), some (.int v2), some (.int v3)] [] σ
  refine g_aload_n dX11_pack_0 rfl ?_
  refine gR_X11_32 ok_0 dX11_pack_1 ?_
  obtain ⟨p4, e4, h⟩ := obind h
  refine g_vP0 mv_X11_117 dX11_pack_4 (ok_3 (by decide)) ⟨by decide, by decide⟩ (Nat.le_of_ble_eq_true rfl) (f_X4_isTold_ok (by decide) e4) ?_
  refine g_if_eq 23 dX11_pack_7 rfl (fun q => ?_) (fun q => ?_)
  · replace h := gif_t q h
    refine g_aload_n dX11_pack_23 rfl ?_
    refine g_iconst dX11_pack_24 kc_1 ?_
    obtain ⟨p25, e25, h⟩ := obind h
    refine g_vP1 mv_X11_91 dX11_pack_25 ok_0 ⟨by decide, by decide⟩ (Nat.le_of_ble_eq_true rfl) (f_X11_refused_ok e25) ?_
    cases h
    exact g_iret dX11_pack_28 rfl ⟨rfl, rfl⟩
  · replace h := gif_f q h
    refine g_iload_n dX11_pack_10 rfl ?_
    refine g_if_lt 23 dX11_pack_11 rfl (fun q => ?_) (fun q => ?_)
    · replace h := gif_t q h
      refine g_aload_n dX11_pack_23 rfl ?_
      refine g_iconst dX11_pack_24 kc_1 ?_
      obtain ⟨p25, e25, h⟩ := obind h
      refine g_vP1 mv_X11_91 dX11_pack_25 ok_0 ⟨by decide, by decide⟩ (Nat.le_of_ble_eq_true rfl) (f_X11_refused_ok e25) ?_
      cases h
      exact g_iret dX11_pack_28 rfl ⟨rfl, rfl⟩
    · replace h := gif_f q h
      refine g_iload_n dX11_pack_14 rfl ?_
      refine g_if_lt 23 dX11_pack_15 rfl (fun q => ?_) (fun q => ?_)
      · replace h := gif_t q h
        refine g_aload_n dX11_pack_23 rfl ?_
        refine g_iconst dX11_pack_24 kc_1 ?_
        obtain ⟨p25, e25, h⟩ := obind h
        refine g_vP1 mv_X11_91 dX11_pack_25 ok_0 ⟨by decide, by decide⟩ (Nat.le_of_ble_eq_true rfl) (f_X11_refused_ok e25) ?_
        cases h
        exact g_iret dX11_pack_28 rfl ⟨rfl, rfl⟩
      · replace h := gif_f q h
        refine g_iload_n dX11_pack_18 rfl ?_
        refine g_iconst dX11_pack_19 kc_3 ?_
        refine g_icmp_le 29 dX11_pack_20 rfl (fun q => ?_) (fun q => ?_)
        · replace h := gif_t q h
          refine g_iload_n dX11_pack_29 rfl ?_
          obtain ⟨p30, e30, h⟩ := obind h
          refine g_sP1 ms_X11_314 dX11_pack_30 ⟨by decide, by decide⟩ (Nat.le_of_ble_eq_true rfl) (f_X11_isCode_ok e30) ?_
          refine g_if_ne 42 dX11_pack_33 rfl (fun q => ?_) (fun q => ?_)
          · replace h := gif_f q h
            refine g_aload_n dX11_pack_42 rfl ?_
            refine gR_X11_56 ok_0 dX11_pack_43 ?_
            refine g_iload_n dX11_pack_46 rfl ?_
            obtain ⟨z47, e47, h⟩ := obind h
            refine g_vU1 mv_X11_317 dX11_pack_47 ok_22 ⟨by decide, by decide⟩ (Nat.le_of_ble_eq_true rfl) (f_X6_gather_ok e47) ?_
            refine g_aload_n dX11_pack_50 rfl ?_
            refine gR_X11_56 ok_0 dX11_pack_51 ?_
            refine g_iload_n dX11_pack_54 rfl ?_
            obtain ⟨p55, e55, h⟩ := obind h
            refine g_vP1 mv_X11_320 dX11_pack_55 ok_22 ⟨by decide, by decide⟩ (Nat.le_of_ble_eq_true rfl) (f_X6_seek_ok e55) ?_
            refine g_iload_n dX11_pack_58 rfl ?_
            refine g_icmp_gt 69 dX11_pack_59 rfl (fun q => ?_) (fun q => ?_)
            · replace h := gif_t q h
              refine g_iload_n dX11_pack_69 rfl ?_
              by_cases q0 : v3 = 0
              · replace h := gif_t q0 h
                refine g_tableIn (off := 26) 96 dX11_pack_70 (by rw [q0]; decide) (by rw [q0]; decide) (by rw [q0]; rfl) rfl ?_
                refine g_aload_n dX11_pack_96 rfl ?_
                refine g_aload_n dX11_pack_97 rfl ?_
                refine gR_X11_56 ok_0 dX11_pack_98 ?_
                refine gI_X11_323 ok_22 dX11_pack_101 ?_
                refine g_aload_n dX11_pack_104 rfl ?_
                refine gR_X11_56 ok_0 dX11_pack_105 ?_
                refine gI_X11_326 ok_22 dX11_pack_108 ?_
                refine g_isub dX11_pack_111 ?_
                refine g_iconst dX11_pack_112 kc_1 ?_
                refine g_iadd dX11_pack_113 ?_
                obtain ⟨p114, e114, h⟩ := obind h
                refine g_vP1 mv_X11_114 dX11_pack_114 ok_0 ⟨by decide, by decide⟩ (Nat.le_of_ble_eq_true rfl) (f_X11_answered_ok e114) ?_
                cases h
                exact g_iret dX11_pack_117 rfl ⟨rfl, rfl⟩
              replace h := gif_f q0 h
              by_cases q1 : v3 = 1
              · replace h := gif_t q1 h
                refine g_tableIn (off := 48) 118 dX11_pack_70 (by rw [q1]; decide) (by rw [q1]; decide) (by rw [q1]; rfl) rfl ?_
                refine g_aload_n dX11_pack_118 rfl ?_
                refine g_aload_n dX11_pack_119 rfl ?_
                refine gR_X11_56 ok_0 dX11_pack_120 ?_
                obtain ⟨p123, e123, h⟩ := obind h
                refine g_vP0 mv_X11_329 dX11_pack_123 ok_22 ⟨by decide, by decide⟩ (Nat.le_of_ble_eq_true rfl) (f_X6_runnerBits_ok e123) ?_
                obtain ⟨p126, e126, h⟩ := obind h
                refine g_vP1 mv_X11_114 dX11_pack_126 ok_0 ⟨by decide, by decide⟩ (Nat.le_of_ble_eq_true rfl) (f_X11_answered_ok e126) ?_
                cases h
                exact g_iret dX11_pack_129 rfl ⟨rfl, rfl⟩
              replace h := gif_f q1 h
              by_cases q2 : v3 = 2
              · replace h := gif_t q2 h
                refine g_tableIn (off := 60) 130 dX11_pack_70 (by rw [q2]; decide) (by rw [q2]; decide) (by rw [q2]; rfl) rfl ?_
                refine g_aload_n dX11_pack_130 rfl ?_
                refine g_aload_n dX11_pack_131 rfl ?_
                refine gR_X11_56 ok_0 dX11_pack_132 ?_
                refine g_aload_n dX11_pack_135 rfl ?_
                refine gR_X11_56 ok_0 dX11_pack_136 ?_
                refine gI_X11_326 ok_22 dX11_pack_139 ?_
                obtain ⟨p142, e142, h⟩ := obind h
                refine g_vP1 mv_X11_332 dX11_pack_142 ok_22 ⟨by decide, by decide⟩ (Nat.le_of_ble_eq_true rfl) (f_X6_timeOf_ok e142) ?_
                obtain ⟨p145, e145, h⟩ := obind h
                refine g_vP1 mv_X11_114 dX11_pack_145 ok_0 ⟨by decide, by decide⟩ (Nat.le_of_ble_eq_true rfl) (f_X11_answered_ok e145) ?_
                cases h
                exact g_iret dX11_pack_148 rfl ⟨rfl, rfl⟩
              replace h := gif_f q2 h
              refine g_tableOut 149 dX11_pack_70 (tabOut (b := 2) (by decide) (fun j hj => by rcases (show j = 0 ∨ j = 1 ∨ j = 2 by omega) with rfl | rfl | rfl <;> assumption)) rfl ?_
              refine g_aload_n dX11_pack_149 rfl ?_
              refine g_aload_n dX11_pack_150 rfl ?_
              refine gR_X11_56 ok_0 dX11_pack_151 ?_
              refine g_aload_n dX11_pack_154 rfl ?_
              refine gR_X11_56 ok_0 dX11_pack_155 ?_
              refine gI_X11_323 ok_22 dX11_pack_158 ?_
              obtain ⟨p161, e161, h⟩ := obind h
              refine g_vP1 mv_X11_332 dX11_pack_161 ok_22 ⟨by decide, by decide⟩ (Nat.le_of_ble_eq_true rfl) (f_X6_timeOf_ok e161) ?_
              obtain ⟨p164, e164, h⟩ := obind h
              refine g_vP1 mv_X11_114 dX11_pack_164 ok_0 ⟨by decide, by decide⟩ (Nat.le_of_ble_eq_true rfl) (f_X11_answered_ok e164) ?_
              cases h
              exact g_iret dX11_pack_167 rfl ⟨rfl, rfl⟩
            · replace h := gif_f q h
              refine g_aload_n dX11_pack_62 rfl ?_
              refine g_bipush dX11_pack_63 kb_m2 ?_
              obtain ⟨p65, e65, h⟩ := obind h
              refine g_vP1 mv_X11_114 dX11_pack_65 ok_0 ⟨by decide, by decide⟩ (Nat.le_of_ble_eq_true rfl) (f_X11_answered_ok e65) ?_
              cases h
              exact g_iret dX11_pack_68 rfl ⟨rfl, rfl⟩
          · replace h := gif_t q h
            refine g_aload_n dX11_pack_36 rfl ?_
            refine g_iconst dX11_pack_37 kc_2 ?_
            obtain ⟨p38, e38, h⟩ := obind h
            refine g_vP1 mv_X11_91 dX11_pack_38 ok_0 ⟨by decide, by decide⟩ (Nat.le_of_ble_eq_true rfl) (f_X11_refused_ok e38) ?_
            cases h
            exact g_iret dX11_pack_41 rfl ⟨rfl, rfl⟩
        · replace h := gif_f q h
          refine g_aload_n dX11_pack_23 rfl ?_
          refine g_iconst dX11_pack_24 kc_1 ?_
          obtain ⟨p25, e25, h⟩ := obind h
          refine g_vP1 mv_X11_91 dX11_pack_25 ok_0 ⟨by decide, by decide⟩ (Nat.le_of_ble_eq_true rfl) (f_X11_refused_ok e25) ?_
          cases h
          exact g_iret dX11_pack_28 rfl ⟨rfl, rfl⟩
theorem dX11_pairRefusal_0 : decode cX11_pairRefusal 0 = .ok (.aload_n 0, 1) := by decide +kernel
theorem dX11_pairRefusal_1 : decode cX11_pairRefusal 1 = .ok (.getfield 32, 3) := by decide +kernel
theorem dX11_pairRefusal_4 : decode cX11_pairRefusal 4 = .ok (.iload_n 1, 1) := by decide +kernel
theorem dX11_pairRefusal_5 : decode cX11_pairRefusal 5 = .ok (.invokevirtual 171, 3) := by decide +kernel
theorem dX11_pairRefusal_8 : decode cX11_pairRefusal 8 = .ok (.ifCond .eq 14, 3) := by decide +kernel
theorem dX11_pairRefusal_11 : decode cX11_pairRefusal 11 = .ok (.aload_n 0, 1) := by decide +kernel
theorem dX11_pairRefusal_12 : decode cX11_pairRefusal 12 = .ok (.getfield 32, 3) := by decide +kernel
theorem dX11_pairRefusal_15 : decode cX11_pairRefusal 15 = .ok (.iload_n 2, 1) := by decide +kernel
theorem dX11_pairRefusal_16 : decode cX11_pairRefusal 16 = .ok (.invokevirtual 171, 3) := by decide +kernel
theorem dX11_pairRefusal_19 : decode cX11_pairRefusal 19 = .ok (.ifCond .ne 5, 3) := by decide +kernel
theorem dX11_pairRefusal_22 : decode cX11_pairRefusal 22 = .ok (.iconst 1, 1) := by decide +kernel
theorem dX11_pairRefusal_23 : decode cX11_pairRefusal 23 = .ok (.ireturn, 1) := by decide +kernel
theorem dX11_pairRefusal_24 : decode cX11_pairRefusal 24 = .ok (.iload_n 1, 1) := by decide +kernel
theorem dX11_pairRefusal_25 : decode cX11_pairRefusal 25 = .ok (.iload_n 2, 1) := by decide +kernel
theorem dX11_pairRefusal_26 : decode cX11_pairRefusal 26 = .ok (.if_icmp .eq 28, 3) := by decide +kernel
theorem dX11_pairRefusal_29 : decode cX11_pairRefusal 29 = .ok (.aload_n 0, 1) := by decide +kernel
theorem dX11_pairRefusal_30 : decode cX11_pairRefusal 30 = .ok (.getfield 32, 3) := by decide +kernel
theorem dX11_pairRefusal_33 : decode cX11_pairRefusal 33 = .ok (.iload_n 1, 1) := by decide +kernel
theorem dX11_pairRefusal_34 : decode cX11_pairRefusal 34 = .ok (.invokevirtual 174, 3) := by decide +kernel
theorem dX11_pairRefusal_37 : decode cX11_pairRefusal 37 = .ok (.getfield 178, 3) := by decide +kernel
theorem dX11_pairRefusal_40 : decode cX11_pairRefusal 40 = .ok (.aload_n 0, 1) := by decide +kernel
theorem dX11_pairRefusal_41 : decode cX11_pairRefusal 41 = .ok (.getfield 32, 3) := by decide +kernel
theorem dX11_pairRefusal_44 : decode cX11_pairRefusal 44 = .ok (.iload_n 2, 1) := by decide +kernel
theorem dX11_pairRefusal_45 : decode cX11_pairRefusal 45 = .ok (.invokevirtual 174, 3) := by decide +kernel
theorem dX11_pairRefusal_48 : decode cX11_pairRefusal 48 = .ok (.getfield 178, 3) := by decide +kernel
theorem dX11_pairRefusal_51 : decode cX11_pairRefusal 51 = .ok (.if_icmp .eq 7, 3) := by decide +kernel
theorem dX11_pairRefusal_54 : decode cX11_pairRefusal 54 = .ok (.iconst 5, 1) := by decide +kernel
theorem dX11_pairRefusal_55 : decode cX11_pairRefusal 55 = .ok (.goto 4, 3) := by decide +kernel
theorem dX11_pairRefusal_58 : decode cX11_pairRefusal 58 = .ok (.iconst 0, 1) := by decide +kernel
theorem dX11_pairRefusal_59 : decode cX11_pairRefusal 59 = .ok (.ireturn, 1) := by decide +kernel
def f_X11_pairRefusal (v1 : Int32) (v2 : Int32) (σ : gSt) : Option (Int32 × gSt) :=
  (f_X4_hasRunner 1 v1 σ).bind fun p5 =>
  if p5.1 = 0 then
    some (1, p5.2)
  else
    (f_X4_hasRunner 1 v2 p5.2).bind fun p16 =>
    if p16.1 = 0 then
      some (1, p16.2)
    else
      if v1 = v2 then
        some (5, p16.2)
      else
        (f_X4_runnerAt 1 v1 p16.2).bind fun p34 =>
        (f_X4_runnerAt 1 v2 p34.2).bind fun p45 =>
        if (p34.2 10 p34.1 5) = (p45.2 10 p45.1 5) then
          some (0, p45.2)
        else
          some (5, p45.2)
theorem f_X11_pairRefusal_ok {v1 : Int32} {v2 : Int32}  {σ : gSt} {r : (Int32 × gSt)} (h : f_X11_pairRefusal v1 v2 σ = some r) : Mt l w 0 41 yX11_pairRefusal cX11_pairRefusal 3 (some .int) 1 21 [.ref (w.2.1 0 0), .int v1, .int v2] σ (gE (some (.int r.1)) r.2) := by
  unfold f_X11_pairRefusal at h
  refine g_start pn_X11 rfl rfl (Nat.le_of_ble_eq_true rfl) ?_
  show G l w 0 41 RX11 cX11_pairRefusal 3 (some .int) 1 21 (gE (some (.int r.1)) r.2) 0 [some (.ref (w.2.1 0 0)), some (.int v1), some (.int v2)] [] σ
  refine g_aload_n dX11_pairRefusal_0 rfl ?_
  refine gR_X11_32 ok_0 dX11_pairRefusal_1 ?_
  refine g_iload_n dX11_pairRefusal_4 rfl ?_
  obtain ⟨p5, e5, h⟩ := obind h
  refine g_vP1 mv_X11_171 dX11_pairRefusal_5 (ok_3 (by decide)) ⟨by decide, by decide⟩ (Nat.le_of_ble_eq_true rfl) (f_X4_hasRunner_ok (by decide) e5) ?_
  refine g_if_eq 22 dX11_pairRefusal_8 rfl (fun q => ?_) (fun q => ?_)
  · replace h := gif_t q h
    refine g_iconst dX11_pairRefusal_22 kc_1 ?_
    cases h
    exact g_iret dX11_pairRefusal_23 rfl ⟨rfl, rfl⟩
  · replace h := gif_f q h
    refine g_aload_n dX11_pairRefusal_11 rfl ?_
    refine gR_X11_32 ok_0 dX11_pairRefusal_12 ?_
    refine g_iload_n dX11_pairRefusal_15 rfl ?_
    obtain ⟨p16, e16, h⟩ := obind h
    refine g_vP1 mv_X11_171 dX11_pairRefusal_16 (ok_3 (by decide)) ⟨by decide, by decide⟩ (Nat.le_of_ble_eq_true rfl) (f_X4_hasRunner_ok (by decide) e16) ?_
    refine g_if_ne 24 dX11_pairRefusal_19 rfl (fun q => ?_) (fun q => ?_)
    · replace h := gif_f q h
      refine g_iload_n dX11_pairRefusal_24 rfl ?_
      refine g_iload_n dX11_pairRefusal_25 rfl ?_
      refine g_icmp_eq 54 dX11_pairRefusal_26 rfl (fun q => ?_) (fun q => ?_)
      · replace h := gif_t q h
        refine g_iconst dX11_pairRefusal_54 kc_5 ?_
        refine g_goto 59 dX11_pairRefusal_55 rfl ?_
        cases h
        exact g_iret dX11_pairRefusal_59 rfl ⟨rfl, rfl⟩
      · replace h := gif_f q h
        refine g_aload_n dX11_pairRefusal_29 rfl ?_
        refine gR_X11_32 ok_0 dX11_pairRefusal_30 ?_
        refine g_iload_n dX11_pairRefusal_33 rfl ?_
        obtain ⟨p34, e34, h⟩ := obind h
        refine g_vR1 mv_X11_174 dX11_pairRefusal_34 (ok_3 (by decide)) ⟨by decide, by decide⟩ (Nat.le_of_ble_eq_true rfl) (f_X4_runnerAt_ok (by decide) e34) (fun b34 => ?_)
        refine gI_X11_178 (ok_10 b34) dX11_pairRefusal_37 ?_
        refine g_aload_n dX11_pairRefusal_40 rfl ?_
        refine gR_X11_32 ok_0 dX11_pairRefusal_41 ?_
        refine g_iload_n dX11_pairRefusal_44 rfl ?_
        obtain ⟨p45, e45, h⟩ := obind h
        refine g_vR1 mv_X11_174 dX11_pairRefusal_45 (ok_3 (by decide)) ⟨by decide, by decide⟩ (Nat.le_of_ble_eq_true rfl) (f_X4_runnerAt_ok (by decide) e45) (fun b45 => ?_)
        refine gI_X11_178 (ok_10 b45) dX11_pairRefusal_48 ?_
        refine g_icmp_eq 58 dX11_pairRefusal_51 rfl (fun q => ?_) (fun q => ?_)
        · replace h := gif_t q h
          refine g_iconst dX11_pairRefusal_58 kc_0 ?_
          cases h
          exact g_iret dX11_pairRefusal_59 rfl ⟨rfl, rfl⟩
        · replace h := gif_f q h
          refine g_iconst dX11_pairRefusal_54 kc_5 ?_
          refine g_goto 59 dX11_pairRefusal_55 rfl ?_
          cases h
          exact g_iret dX11_pairRefusal_59 rfl ⟨rfl, rfl⟩
    · replace h := gif_t q h
      refine g_iconst dX11_pairRefusal_22 kc_1 ?_
      cases h
      exact g_iret dX11_pairRefusal_23 rfl ⟨rfl, rfl⟩
theorem dX11_together_0 : decode cX11_together 0 = .ok (.aload_n 0, 1) := by decide +kernel
theorem dX11_together_1 : decode cX11_together 1 = .ok (.iload_n 1, 1) := by decide +kernel
theorem dX11_together_2 : decode cX11_together 2 = .ok (.iload_n 2, 1) := by decide +kernel
theorem dX11_together_3 : decode cX11_together 3 = .ok (.invokevirtual 333, 3) := by decide +kernel
theorem dX11_together_6 : decode cX11_together 6 = .ok (.istore_n 3, 1) := by decide +kernel
theorem dX11_together_7 : decode cX11_together 7 = .ok (.iload_n 3, 1) := by decide +kernel
theorem dX11_together_8 : decode cX11_together 8 = .ok (.ifCond .eq 9, 3) := by decide +kernel
theorem dX11_together_11 : decode cX11_together 11 = .ok (.aload_n 0, 1) := by decide +kernel
theorem dX11_together_12 : decode cX11_together 12 = .ok (.iload_n 3, 1) := by decide +kernel
theorem dX11_together_13 : decode cX11_together 13 = .ok (.invokevirtual 91, 3) := by decide +kernel
theorem dX11_together_16 : decode cX11_together 16 = .ok (.ireturn, 1) := by decide +kernel
theorem dX11_together_17 : decode cX11_together 17 = .ok (.aload_n 0, 1) := by decide +kernel
theorem dX11_together_18 : decode cX11_together 18 = .ok (.aload_n 0, 1) := by decide +kernel
theorem dX11_together_19 : decode cX11_together 19 = .ok (.getfield 63, 3) := by decide +kernel
theorem dX11_together_22 : decode cX11_together 22 = .ok (.aload_n 0, 1) := by decide +kernel
theorem dX11_together_23 : decode cX11_together 23 = .ok (.getfield 32, 3) := by decide +kernel
theorem dX11_together_26 : decode cX11_together 26 = .ok (.iload_n 1, 1) := by decide +kernel
theorem dX11_together_27 : decode cX11_together 27 = .ok (.invokevirtual 174, 3) := by decide +kernel
theorem dX11_together_30 : decode cX11_together 30 = .ok (.aload_n 0, 1) := by decide +kernel
theorem dX11_together_31 : decode cX11_together 31 = .ok (.getfield 32, 3) := by decide +kernel
theorem dX11_together_34 : decode cX11_together 34 = .ok (.iload_n 2, 1) := by decide +kernel
theorem dX11_together_35 : decode cX11_together 35 = .ok (.invokevirtual 174, 3) := by decide +kernel
theorem dX11_together_38 : decode cX11_together 38 = .ok (.invokevirtual 336, 3) := by decide +kernel
theorem dX11_together_41 : decode cX11_together 41 = .ok (.invokevirtual 114, 3) := by decide +kernel
theorem dX11_together_44 : decode cX11_together 44 = .ok (.ireturn, 1) := by decide +kernel
def f_X11_together (v1 : Int32) (v2 : Int32) (σ : gSt) : Option (Int32 × gSt) :=
  (f_X11_pairRefusal v1 v2 σ).bind fun p3 =>
  if p3.1 = 0 then
    (f_X4_runnerAt 1 v1 p3.2).bind fun p27 =>
    (f_X4_runnerAt 1 v2 p27.2).bind fun p35 =>
    (f_X7_nearBits p27.1 p35.1 p35.2).bind fun p38 =>
    (f_X11_answered p38.1 p38.2).bind fun p41 =>
    some (p41.1, p41.2)
  else
    (f_X11_refused p3.1 p3.2).bind fun p13 =>
    some (p13.1, p13.2)
theorem f_X11_together_ok {v1 : Int32} {v2 : Int32}  {σ : gSt} {r : (Int32 × gSt)} (h : f_X11_together v1 v2 σ = some r) : Mt l w 0 41 yX11_together cX11_together 4 (some .int) 4 91 [.ref (w.2.1 0 0), .int v1, .int v2] σ (gE (some (.int r.1)) r.2) := by
  unfold f_X11_together at h
  refine g_start pn_X11 rfl rfl (Nat.le_of_ble_eq_true rfl) ?_
  show G l w 0 41 RX11 cX11_together 4 (some .int) 4 91 (gE (some (.int r.1)) r.2) 0 [some (.ref (w.2.1 0 0)), some (.int v1), some (.int v2), none] [] σ
  refine g_aload_n dX11_together_0 rfl ?_
  refine g_iload_n dX11_together_1 rfl ?_
  refine g_iload_n dX11_together_2 rfl ?_
  obtain ⟨p3, e3, h⟩ := obind h
  refine g_vP2 mv_X11_333 dX11_together_3 ok_0 ⟨by decide, by decide⟩ (Nat.le_of_ble_eq_true rfl) (f_X11_pairRefusal_ok e3) ?_
  refine g_istore3 dX11_together_6 ?_
  refine g_iload_n dX11_together_7 rfl ?_
  refine g_if_eq 17 dX11_together_8 rfl (fun q => ?_) (fun q => ?_)
  · replace h := gif_t q h
    refine g_aload_n dX11_together_17 rfl ?_
    refine g_aload_n dX11_together_18 rfl ?_
    refine gR_X11_63 ok_0 dX11_together_19 ?_
    refine g_aload_n dX11_together_22 rfl ?_
    refine gR_X11_32 ok_0 dX11_together_23 ?_
    refine g_iload_n dX11_together_26 rfl ?_
    obtain ⟨p27, e27, h⟩ := obind h
    refine g_vR1 mv_X11_174 dX11_together_27 (ok_3 (by decide)) ⟨by decide, by decide⟩ (Nat.le_of_ble_eq_true rfl) (f_X4_runnerAt_ok (by decide) e27) (fun b27 => ?_)
    refine g_aload_n dX11_together_30 rfl ?_
    refine gR_X11_32 ok_0 dX11_together_31 ?_
    refine g_iload_n dX11_together_34 rfl ?_
    obtain ⟨p35, e35, h⟩ := obind h
    refine g_vR1 mv_X11_174 dX11_together_35 (ok_3 (by decide)) ⟨by decide, by decide⟩ (Nat.le_of_ble_eq_true rfl) (f_X4_runnerAt_ok (by decide) e35) (fun b35 => ?_)
    obtain ⟨p38, e38, h⟩ := obind h
    refine g_vP2 mv_X11_336 dX11_together_38 ok_25 ⟨by decide, by decide⟩ (Nat.le_of_ble_eq_true rfl) (f_X7_nearBits_ok b27 b35 e38) ?_
    obtain ⟨p41, e41, h⟩ := obind h
    refine g_vP1 mv_X11_114 dX11_together_41 ok_0 ⟨by decide, by decide⟩ (Nat.le_of_ble_eq_true rfl) (f_X11_answered_ok e41) ?_
    cases h
    exact g_iret dX11_together_44 rfl ⟨rfl, rfl⟩
  · replace h := gif_f q h
    refine g_aload_n dX11_together_11 rfl ?_
    refine g_iload_n dX11_together_12 rfl ?_
    obtain ⟨p13, e13, h⟩ := obind h
    refine g_vP1 mv_X11_91 dX11_together_13 ok_0 ⟨by decide, by decide⟩ (Nat.le_of_ble_eq_true rfl) (f_X11_refused_ok e13) ?_
    cases h
    exact g_iret dX11_together_16 rfl ⟨rfl, rfl⟩
theorem dX11_alone_0 : decode cX11_alone 0 = .ok (.aload_n 0, 1) := by decide +kernel
theorem dX11_alone_1 : decode cX11_alone 1 = .ok (.getfield 32, 3) := by decide +kernel
theorem dX11_alone_4 : decode cX11_alone 4 = .ok (.iload_n 1, 1) := by decide +kernel
theorem dX11_alone_5 : decode cX11_alone 5 = .ok (.invokevirtual 171, 3) := by decide +kernel
theorem dX11_alone_8 : decode cX11_alone 8 = .ok (.ifCond .ne 9, 3) := by decide +kernel
theorem dX11_alone_11 : decode cX11_alone 11 = .ok (.aload_n 0, 1) := by decide +kernel
theorem dX11_alone_12 : decode cX11_alone 12 = .ok (.iconst 1, 1) := by decide +kernel
theorem dX11_alone_13 : decode cX11_alone 13 = .ok (.invokevirtual 91, 3) := by decide +kernel
theorem dX11_alone_16 : decode cX11_alone 16 = .ok (.ireturn, 1) := by decide +kernel
theorem dX11_alone_17 : decode cX11_alone 17 = .ok (.aload_n 0, 1) := by decide +kernel
theorem dX11_alone_18 : decode cX11_alone 18 = .ok (.aload_n 0, 1) := by decide +kernel
theorem dX11_alone_19 : decode cX11_alone 19 = .ok (.getfield 63, 3) := by decide +kernel
theorem dX11_alone_22 : decode cX11_alone 22 = .ok (.iload_n 1, 1) := by decide +kernel
theorem dX11_alone_23 : decode cX11_alone 23 = .ok (.invokevirtual 340, 3) := by decide +kernel
theorem dX11_alone_26 : decode cX11_alone 26 = .ok (.invokevirtual 114, 3) := by decide +kernel
theorem dX11_alone_29 : decode cX11_alone 29 = .ok (.ireturn, 1) := by decide +kernel
def f_X11_alone (v1 : Int32) (σ : gSt) : Option (Int32 × gSt) :=
  (f_X4_hasRunner 1 v1 σ).bind fun p5 =>
  if p5.1 = 0 then
    (f_X11_refused 1 p5.2).bind fun p13 =>
    some (p13.1, p13.2)
  else
    (f_X7_aloneBits v1 p5.2).bind fun p23 =>
    (f_X11_answered p23.1 p23.2).bind fun p26 =>
    some (p26.1, p26.2)
theorem f_X11_alone_ok {v1 : Int32}  {σ : gSt} {r : (Int32 × gSt)} (h : f_X11_alone v1 σ = some r) : Mt l w 0 41 yX11_alone cX11_alone 2 (some .int) 5 115 [.ref (w.2.1 0 0), .int v1] σ (gE (some (.int r.1)) r.2) := by
  unfold f_X11_alone at h
  refine g_start pn_X11 rfl rfl (Nat.le_of_ble_eq_true rfl) ?_
  show G l w 0 41 RX11 cX11_alone 2 (some .int) 5 115 (gE (some (.int r.1)) r.2) 0 [some (.ref (w.2.1 0 0)), some (.int v1)] [] σ
  refine g_aload_n dX11_alone_0 rfl ?_
  refine gR_X11_32 ok_0 dX11_alone_1 ?_
  refine g_iload_n dX11_alone_4 rfl ?_
  obtain ⟨p5, e5, h⟩ := obind h
  refine g_vP1 mv_X11_171 dX11_alone_5 (ok_3 (by decide)) ⟨by decide, by decide⟩ (Nat.le_of_ble_eq_true rfl) (f_X4_hasRunner_ok (by decide) e5) ?_
  refine g_if_ne 17 dX11_alone_8 rfl (fun q => ?_) (fun q => ?_)
  · replace h := gif_f q h
    refine g_aload_n dX11_alone_17 rfl ?_
    refine g_aload_n dX11_alone_18 rfl ?_
    refine gR_X11_63 ok_0 dX11_alone_19 ?_
    refine g_iload_n dX11_alone_22 rfl ?_
    obtain ⟨p23, e23, h⟩ := obind h
    refine g_vP1 mv_X11_340 dX11_alone_23 ok_25 ⟨by decide, by decide⟩ (Nat.le_of_ble_eq_true rfl) (f_X7_aloneBits_ok e23) ?_
    obtain ⟨p26, e26, h⟩ := obind h
    refine g_vP1 mv_X11_114 dX11_alone_26 ok_0 ⟨by decide, by decide⟩ (Nat.le_of_ble_eq_true rfl) (f_X11_answered_ok e26) ?_
    cases h
    exact g_iret dX11_alone_29 rfl ⟨rfl, rfl⟩
  · replace h := gif_t q h
    refine g_aload_n dX11_alone_11 rfl ?_
    refine g_iconst dX11_alone_12 kc_1 ?_
    obtain ⟨p13, e13, h⟩ := obind h
    refine g_vP1 mv_X11_91 dX11_alone_13 ok_0 ⟨by decide, by decide⟩ (Nat.le_of_ble_eq_true rfl) (f_X11_refused_ok e13) ?_
    cases h
    exact g_iret dX11_alone_16 rfl ⟨rfl, rfl⟩
theorem dX11_chase_0 : decode cX11_chase 0 = .ok (.iload_n 3, 1) := by decide +kernel
theorem dX11_chase_1 : decode cX11_chase 1 = .ok (.ifCond .lt 8, 3) := by decide +kernel
theorem dX11_chase_4 : decode cX11_chase 4 = .ok (.iload_n 3, 1) := by decide +kernel
theorem dX11_chase_5 : decode cX11_chase 5 = .ok (.iconst 2, 1) := by decide +kernel
theorem dX11_chase_6 : decode cX11_chase 6 = .ok (.if_icmp .le 7, 3) := by decide +kernel
theorem dX11_chase_9 : decode cX11_chase 9 = .ok (.iconst 1, 1) := by decide +kernel
theorem dX11_chase_10 : decode cX11_chase 10 = .ok (.goto 9, 3) := by decide +kernel
theorem dX11_chase_13 : decode cX11_chase 13 = .ok (.aload_n 0, 1) := by decide +kernel
theorem dX11_chase_14 : decode cX11_chase 14 = .ok (.iload_n 1, 1) := by decide +kernel
theorem dX11_chase_15 : decode cX11_chase 15 = .ok (.iload_n 2, 1) := by decide +kernel
theorem dX11_chase_16 : decode cX11_chase 16 = .ok (.invokevirtual 333, 3) := by decide +kernel
theorem dX11_chase_19 : decode cX11_chase 19 = .ok (.istore 4, 2) := by decide +kernel
theorem dX11_chase_21 : decode cX11_chase 21 = .ok (.iload 4, 2) := by decide +kernel
theorem dX11_chase_23 : decode cX11_chase 23 = .ok (.ifCond .eq 10, 3) := by decide +kernel
theorem dX11_chase_26 : decode cX11_chase 26 = .ok (.aload_n 0, 1) := by decide +kernel
theorem dX11_chase_27 : decode cX11_chase 27 = .ok (.iload 4, 2) := by decide +kernel
theorem dX11_chase_29 : decode cX11_chase 29 = .ok (.invokevirtual 91, 3) := by decide +kernel
theorem dX11_chase_32 : decode cX11_chase 32 = .ok (.ireturn, 1) := by decide +kernel
theorem dX11_chase_33 : decode cX11_chase 33 = .ok (.aload_n 0, 1) := by decide +kernel
theorem dX11_chase_34 : decode cX11_chase 34 = .ok (.getfield 63, 3) := by decide +kernel
theorem dX11_chase_37 : decode cX11_chase 37 = .ok (.aload_n 0, 1) := by decide +kernel
theorem dX11_chase_38 : decode cX11_chase 38 = .ok (.getfield 32, 3) := by decide +kernel
theorem dX11_chase_41 : decode cX11_chase 41 = .ok (.iload_n 1, 1) := by decide +kernel
theorem dX11_chase_42 : decode cX11_chase 42 = .ok (.invokevirtual 174, 3) := by decide +kernel
theorem dX11_chase_45 : decode cX11_chase 45 = .ok (.aload_n 0, 1) := by decide +kernel
theorem dX11_chase_46 : decode cX11_chase 46 = .ok (.getfield 32, 3) := by decide +kernel
theorem dX11_chase_49 : decode cX11_chase 49 = .ok (.iload_n 2, 1) := by decide +kernel
theorem dX11_chase_50 : decode cX11_chase 50 = .ok (.invokevirtual 174, 3) := by decide +kernel
theorem dX11_chase_53 : decode cX11_chase 53 = .ok (.invokevirtual 343, 3) := by decide +kernel
theorem dX11_chase_56 : decode cX11_chase 56 = .ok (.aload_n 0, 1) := by decide +kernel
theorem dX11_chase_57 : decode cX11_chase 57 = .ok (.getfield 63, 3) := by decide +kernel
theorem dX11_chase_60 : decode cX11_chase 60 = .ok (.getfield 347, 3) := by decide +kernel
theorem dX11_chase_63 : decode cX11_chase 63 = .ok (.ifCond .ne 10, 3) := by decide +kernel
theorem dX11_chase_66 : decode cX11_chase 66 = .ok (.aload_n 0, 1) := by decide +kernel
theorem dX11_chase_67 : decode cX11_chase 67 = .ok (.bipush (-2), 2) := by decide +kernel
theorem dX11_chase_69 : decode cX11_chase 69 = .ok (.invokevirtual 114, 3) := by decide +kernel
theorem dX11_chase_72 : decode cX11_chase 72 = .ok (.ireturn, 1) := by decide +kernel
theorem dX11_chase_73 : decode cX11_chase 73 = .ok (.iload_n 3, 1) := by decide +kernel
theorem dX11_chase_74 : decode cX11_chase 74 = .ok (.lookupswitch 50 #[(0, 26), (1, 38)], 26) := by decide +kernel
theorem dX11_chase_100 : decode cX11_chase 100 = .ok (.aload_n 0, 1) := by decide +kernel
theorem dX11_chase_101 : decode cX11_chase 101 = .ok (.aload_n 0, 1) := by decide +kernel
theorem dX11_chase_102 : decode cX11_chase 102 = .ok (.getfield 63, 3) := by decide +kernel
theorem dX11_chase_105 : decode cX11_chase 105 = .ok (.getfield 347, 3) := by decide +kernel
theorem dX11_chase_108 : decode cX11_chase 108 = .ok (.invokevirtual 114, 3) := by decide +kernel
theorem dX11_chase_111 : decode cX11_chase 111 = .ok (.ireturn, 1) := by decide +kernel
theorem dX11_chase_112 : decode cX11_chase 112 = .ok (.aload_n 0, 1) := by decide +kernel
theorem dX11_chase_113 : decode cX11_chase 113 = .ok (.aload_n 0, 1) := by decide +kernel
theorem dX11_chase_114 : decode cX11_chase 114 = .ok (.getfield 63, 3) := by decide +kernel
theorem dX11_chase_117 : decode cX11_chase 117 = .ok (.getfield 350, 3) := by decide +kernel
theorem dX11_chase_120 : decode cX11_chase 120 = .ok (.invokevirtual 114, 3) := by decide +kernel
theorem dX11_chase_123 : decode cX11_chase 123 = .ok (.ireturn, 1) := by decide +kernel
theorem dX11_chase_124 : decode cX11_chase 124 = .ok (.aload_n 0, 1) := by decide +kernel
theorem dX11_chase_125 : decode cX11_chase 125 = .ok (.aload_n 0, 1) := by decide +kernel
theorem dX11_chase_126 : decode cX11_chase 126 = .ok (.getfield 63, 3) := by decide +kernel
theorem dX11_chase_129 : decode cX11_chase 129 = .ok (.iload_n 1, 1) := by decide +kernel
theorem dX11_chase_130 : decode cX11_chase 130 = .ok (.iload_n 2, 1) := by decide +kernel
theorem dX11_chase_131 : decode cX11_chase 131 = .ok (.aload_n 0, 1) := by decide +kernel
theorem dX11_chase_132 : decode cX11_chase 132 = .ok (.getfield 63, 3) := by decide +kernel
theorem dX11_chase_135 : decode cX11_chase 135 = .ok (.getfield 350, 3) := by decide +kernel
theorem dX11_chase_138 : decode cX11_chase 138 = .ok (.aload_n 0, 1) := by decide +kernel
theorem dX11_chase_139 : decode cX11_chase 139 = .ok (.getfield 63, 3) := by decide +kernel
theorem dX11_chase_142 : decode cX11_chase 142 = .ok (.getfield 347, 3) := by decide +kernel
theorem dX11_chase_145 : decode cX11_chase 145 = .ok (.iadd, 1) := by decide +kernel
theorem dX11_chase_146 : decode cX11_chase 146 = .ok (.iconst 1, 1) := by decide +kernel
theorem dX11_chase_147 : decode cX11_chase 147 = .ok (.isub, 1) := by decide +kernel
theorem dX11_chase_148 : decode cX11_chase 148 = .ok (.invokevirtual 353, 3) := by decide +kernel
theorem dX11_chase_151 : decode cX11_chase 151 = .ok (.invokevirtual 114, 3) := by decide +kernel
theorem dX11_chase_154 : decode cX11_chase 154 = .ok (.ireturn, 1) := by decide +kernel
def f_X11_chase_19 (v1 : Int32) (v2 : Int32) (v3 : Int32) (vs0 : Int32) (σ : gSt) : Option (Int32 × gSt) :=
  if vs0 = 0 then
    (f_X4_runnerAt 1 v1 σ).bind fun p42 =>
    (f_X4_runnerAt 1 v2 p42.2).bind fun p50 =>
    (f_X7_findChase p42.1 p50.1 p50.2).bind fun z53 =>
    if (z53 25 0 2) = 0 then
      (f_X11_answered (-2) z53).bind fun p69 =>
      some (p69.1, p69.2)
    else
      if v3 = 0 then
        (f_X11_answered (z53 25 0 2) z53).bind fun p108 =>
        some (p108.1, p108.2)
      else
      if v3 = 1 then
        (f_X11_answered (z53 25 0 1) z53).bind fun p120 =>
        some (p120.1, p120.2)
      else
      (f_X7_aheadAt v1 v2 (((z53 25 0 1) + (z53 25 0 2)) - 1) z53).bind fun p148 =>
      (f_X11_answered p148.1 p148.2).bind fun p151 =>
      some (p151.1, p151.2)
  else
    (f_X11_refused vs0 σ).bind fun p29 =>
    some (p29.1, p29.2)
def f_X11_chase_9 (v1 : Int32) (v2 : Int32) (v3 : Int32) (σ : gSt) : Option (Int32 × gSt) :=
  f_X11_chase_19 v1 v2 v3 1 σ
def f_X11_chase (v1 : Int32) (v2 : Int32) (v3 : Int32) (σ : gSt) : Option (Int32 × gSt) :=
  if v3 < 0 then
    f_X11_chase_9 v1 v2 v3 σ
  else
    if v3 ≤ 2 then
      (f_X11_pairRefusal v1 v2 σ).bind fun p16 =>
      f_X11_chase_19 v1 v2 v3 p16.1 p16.2
    else
      f_X11_chase_9 v1 v2 v3 σ
theorem f_X11_chase_19_ok {v1 : Int32} {v2 : Int32} {v3 : Int32} {vs0 : Int32} {r : (Int32 × gSt)}  {σ : gSt} {x4 : Option Value} (h : f_X11_chase_19 v1 v2 v3 vs0 σ = some r) : G l w 0 41 RX11 cX11_chase 5 (some .int) 4 91 (gE (some (.int r.1)) r.2) 19 [some (.ref (w.2.1 0 0)), some (.int v1), some (.int v2), some (.int v3), x4] [.int vs0] σ := by
  unfold f_X11_chase_19 at h
  refine g_istore4 dX11_chase_19 ?_
  refine g_iload dX11_chase_21 rfl ?_
  refine g_if_eq 33 dX11_chase_23 rfl (fun q => ?_) (fun q => ?_)
  · replace h := gif_t q h
    refine g_aload_n dX11_chase_33 rfl ?_
    refine gR_X11_63 ok_0 dX11_chase_34 ?_
    refine g_aload_n dX11_chase_37 rfl ?_
    refine gR_X11_32 ok_0 dX11_chase_38 ?_
    refine g_iload_n dX11_chase_41 rfl ?_
    obtain ⟨p42, e42, h⟩ := obind h
    refine g_vR1 mv_X11_174 dX11_chase_42 (ok_3 (by decide)) ⟨by decide, by decide⟩ (Nat.le_of_ble_eq_true rfl) (f_X4_runnerAt_ok (by decide) e42) (fun b42 => ?_)
    refine g_aload_n dX11_chase_45 rfl ?_
    refine gR_X11_32 ok_0 dX11_chase_46 ?_
    refine g_iload_n dX11_chase_49 rfl ?_
    obtain ⟨p50, e50, h⟩ := obind h
    refine g_vR1 mv_X11_174 dX11_chase_50 (ok_3 (by decide)) ⟨by decide, by decide⟩ (Nat.le_of_ble_eq_true rfl) (f_X4_runnerAt_ok (by decide) e50) (fun b50 => ?_)
    obtain ⟨z53, e53, h⟩ := obind h
    refine g_vU2 mv_X11_343 dX11_chase_53 ok_25 ⟨by decide, by decide⟩ (Nat.le_of_ble_eq_true rfl) (f_X7_findChase_ok b42 b50 e53) ?_
    refine g_aload_n dX11_chase_56 rfl ?_
    refine gR_X11_63 ok_0 dX11_chase_57 ?_
    refine gI_X11_347 ok_25 dX11_chase_60 ?_
    refine g_if_ne 73 dX11_chase_63 rfl (fun q => ?_) (fun q => ?_)
    · replace h := gif_f q h
      refine g_iload_n dX11_chase_73 rfl ?_
      by_cases q0 : v3 = 0
      · replace h := gif_t q0 h
        refine g_lookup (off := 26) 100 dX11_chase_74 rfl (by rw [q0]; decide) rfl ?_
        refine g_aload_n dX11_chase_100 rfl ?_
        refine g_aload_n dX11_chase_101 rfl ?_
        refine gR_X11_63 ok_0 dX11_chase_102 ?_
        refine gI_X11_347 ok_25 dX11_chase_105 ?_
        obtain ⟨p108, e108, h⟩ := obind h
        refine g_vP1 mv_X11_114 dX11_chase_108 ok_0 ⟨by decide, by decide⟩ (Nat.le_of_ble_eq_true rfl) (f_X11_answered_ok e108) ?_
        cases h
        exact g_iret dX11_chase_111 rfl ⟨rfl, rfl⟩
      replace h := gif_f q0 h
      by_cases q1 : v3 = 1
      · replace h := gif_t q1 h
        refine g_lookup (off := 38) 112 dX11_chase_74 rfl (by rw [q1]; decide) rfl ?_
        refine g_aload_n dX11_chase_112 rfl ?_
        refine g_aload_n dX11_chase_113 rfl ?_
        refine gR_X11_63 ok_0 dX11_chase_114 ?_
        refine gI_X11_350 ok_25 dX11_chase_117 ?_
        obtain ⟨p120, e120, h⟩ := obind h
        refine g_vP1 mv_X11_114 dX11_chase_120 ok_0 ⟨by decide, by decide⟩ (Nat.le_of_ble_eq_true rfl) (f_X11_answered_ok e120) ?_
        cases h
        exact g_iret dX11_chase_123 rfl ⟨rfl, rfl⟩
      replace h := gif_f q1 h
      refine g_lookup (off := 50) 124 dX11_chase_74 rfl (lookOut2 q0 q1) rfl ?_
      refine g_aload_n dX11_chase_124 rfl ?_
      refine g_aload_n dX11_chase_125 rfl ?_
      refine gR_X11_63 ok_0 dX11_chase_126 ?_
      refine g_iload_n dX11_chase_129 rfl ?_
      refine g_iload_n dX11_chase_130 rfl ?_
      refine g_aload_n dX11_chase_131 rfl ?_
      refine gR_X11_63 ok_0 dX11_chase_132 ?_
      refine gI_X11_350 ok_25 dX11_chase_135 ?_
      refine g_aload_n dX11_chase_138 rfl ?_
      refine gR_X11_63 ok_0 dX11_chase_139 ?_
      refine gI_X11_347 ok_25 dX11_chase_142 ?_
      refine g_iadd dX11_chase_145 ?_
      refine g_iconst dX11_chase_146 kc_1 ?_
      refine g_isub dX11_chase_147 ?_
      obtain ⟨p148, e148, h⟩ := obind h
      refine g_vP3 mv_X11_353 dX11_chase_148 ok_25 ⟨by decide, by decide⟩ (Nat.le_of_ble_eq_true rfl) (f_X7_aheadAt_ok e148) ?_
      obtain ⟨p151, e151, h⟩ := obind h
      refine g_vP1 mv_X11_114 dX11_chase_151 ok_0 ⟨by decide, by decide⟩ (Nat.le_of_ble_eq_true rfl) (f_X11_answered_ok e151) ?_
      cases h
      exact g_iret dX11_chase_154 rfl ⟨rfl, rfl⟩
    · replace h := gif_t q h
      refine g_aload_n dX11_chase_66 rfl ?_
      refine g_bipush dX11_chase_67 kb_m2 ?_
      obtain ⟨p69, e69, h⟩ := obind h
      refine g_vP1 mv_X11_114 dX11_chase_69 ok_0 ⟨by decide, by decide⟩ (Nat.le_of_ble_eq_true rfl) (f_X11_answered_ok e69) ?_
      cases h
      exact g_iret dX11_chase_72 rfl ⟨rfl, rfl⟩
  · replace h := gif_f q h
    refine g_aload_n dX11_chase_26 rfl ?_
    refine g_iload dX11_chase_27 rfl ?_
    obtain ⟨p29, e29, h⟩ := obind h
    refine g_vP1 mv_X11_91 dX11_chase_29 ok_0 ⟨by decide, by decide⟩ (Nat.le_of_ble_eq_true rfl) (f_X11_refused_ok e29) ?_
    cases h
    exact g_iret dX11_chase_32 rfl ⟨rfl, rfl⟩
theorem f_X11_chase_9_ok {v1 : Int32} {v2 : Int32} {v3 : Int32} {r : (Int32 × gSt)}  {σ : gSt} {x4 : Option Value} (h : f_X11_chase_9 v1 v2 v3 σ = some r) : G l w 0 41 RX11 cX11_chase 5 (some .int) 4 91 (gE (some (.int r.1)) r.2) 9 [some (.ref (w.2.1 0 0)), some (.int v1), some (.int v2), some (.int v3), x4] [] σ := by
  unfold f_X11_chase_9 at h
  refine g_iconst dX11_chase_9 kc_1 ?_
  refine g_goto 19 dX11_chase_10 rfl ?_
  exact f_X11_chase_19_ok h
theorem f_X11_chase_ok {v1 : Int32} {v2 : Int32} {v3 : Int32}  {σ : gSt} {r : (Int32 × gSt)} (h : f_X11_chase v1 v2 v3 σ = some r) : Mt l w 0 41 yX11_chase cX11_chase 5 (some .int) 4 91 [.ref (w.2.1 0 0), .int v1, .int v2, .int v3] σ (gE (some (.int r.1)) r.2) := by
  unfold f_X11_chase at h
  refine g_start pn_X11 rfl rfl (Nat.le_of_ble_eq_true rfl) ?_
  show G l w 0 41 RX11 cX11_chase 5 (some .int) 4 91 (gE (some (.int r.1)) r.2) 0 [some (.ref (w.2.1 0 0)), some (.int v1), some (.int v2), some (.int v3), none] [] σ
  refine g_iload_n dX11_chase_0 rfl ?_
  refine g_if_lt 9 dX11_chase_1 rfl (fun q => ?_) (fun q => ?_)
  · replace h := gif_t q h
    exact f_X11_chase_9_ok h
  · replace h := gif_f q h
    refine g_iload_n dX11_chase_4 rfl ?_
    refine g_iconst dX11_chase_5 kc_2 ?_
    refine g_icmp_le 13 dX11_chase_6 rfl (fun q => ?_) (fun q => ?_)
    · replace h := gif_t q h
      refine g_aload_n dX11_chase_13 rfl ?_
      refine g_iload_n dX11_chase_14 rfl ?_
      refine g_iload_n dX11_chase_15 rfl ?_
      obtain ⟨p16, e16, h⟩ := obind h
      refine g_vP2 mv_X11_333 dX11_chase_16 ok_0 ⟨by decide, by decide⟩ (Nat.le_of_ble_eq_true rfl) (f_X11_pairRefusal_ok e16) ?_
      exact f_X11_chase_19_ok h
    · replace h := gif_f q h
      exact f_X11_chase_9_ok h
theorem dX11_team_0 : decode cX11_team 0 = .ok (.aload_n 0, 1) := by decide +kernel
theorem dX11_team_1 : decode cX11_team 1 = .ok (.iload_n 1, 1) := by decide +kernel
theorem dX11_team_2 : decode cX11_team 2 = .ok (.iload_n 2, 1) := by decide +kernel
theorem dX11_team_3 : decode cX11_team 3 = .ok (.invokevirtual 333, 3) := by decide +kernel
theorem dX11_team_6 : decode cX11_team 6 = .ok (.istore_n 3, 1) := by decide +kernel
theorem dX11_team_7 : decode cX11_team 7 = .ok (.iload_n 3, 1) := by decide +kernel
theorem dX11_team_8 : decode cX11_team 8 = .ok (.ifCond .eq 9, 3) := by decide +kernel
theorem dX11_team_11 : decode cX11_team 11 = .ok (.aload_n 0, 1) := by decide +kernel
theorem dX11_team_12 : decode cX11_team 12 = .ok (.iload_n 3, 1) := by decide +kernel
theorem dX11_team_13 : decode cX11_team 13 = .ok (.invokevirtual 91, 3) := by decide +kernel
theorem dX11_team_16 : decode cX11_team 16 = .ok (.ireturn, 1) := by decide +kernel
theorem dX11_team_17 : decode cX11_team 17 = .ok (.aload_n 0, 1) := by decide +kernel
theorem dX11_team_18 : decode cX11_team 18 = .ok (.getfield 63, 3) := by decide +kernel
theorem dX11_team_21 : decode cX11_team 21 = .ok (.aload_n 0, 1) := by decide +kernel
theorem dX11_team_22 : decode cX11_team 22 = .ok (.getfield 32, 3) := by decide +kernel
theorem dX11_team_25 : decode cX11_team 25 = .ok (.iload_n 1, 1) := by decide +kernel
theorem dX11_team_26 : decode cX11_team 26 = .ok (.invokevirtual 174, 3) := by decide +kernel
theorem dX11_team_29 : decode cX11_team 29 = .ok (.aload_n 0, 1) := by decide +kernel
theorem dX11_team_30 : decode cX11_team 30 = .ok (.getfield 32, 3) := by decide +kernel
theorem dX11_team_33 : decode cX11_team 33 = .ok (.iload_n 2, 1) := by decide +kernel
theorem dX11_team_34 : decode cX11_team 34 = .ok (.invokevirtual 174, 3) := by decide +kernel
theorem dX11_team_37 : decode cX11_team 37 = .ok (.invokevirtual 357, 3) := by decide +kernel
theorem dX11_team_40 : decode cX11_team 40 = .ok (.istore 4, 2) := by decide +kernel
theorem dX11_team_42 : decode cX11_team 42 = .ok (.aload_n 0, 1) := by decide +kernel
theorem dX11_team_43 : decode cX11_team 43 = .ok (.iload 4, 2) := by decide +kernel
theorem dX11_team_45 : decode cX11_team 45 = .ok (.iconst (-1), 1) := by decide +kernel
theorem dX11_team_46 : decode cX11_team 46 = .ok (.if_icmp .ne 8, 3) := by decide +kernel
theorem dX11_team_49 : decode cX11_team 49 = .ok (.bipush (-2), 2) := by decide +kernel
theorem dX11_team_51 : decode cX11_team 51 = .ok (.goto 5, 3) := by decide +kernel
theorem dX11_team_54 : decode cX11_team 54 = .ok (.iload 4, 2) := by decide +kernel
theorem dX11_team_56 : decode cX11_team 56 = .ok (.invokevirtual 114, 3) := by decide +kernel
theorem dX11_team_59 : decode cX11_team 59 = .ok (.ireturn, 1) := by decide +kernel
def f_X11_team (v1 : Int32) (v2 : Int32) (σ : gSt) : Option (Int32 × gSt) :=
  (f_X11_pairRefusal v1 v2 σ).bind fun p3 =>
  if p3.1 = 0 then
    (f_X4_runnerAt 1 v1 p3.2).bind fun p26 =>
    (f_X4_runnerAt 1 v2 p26.2).bind fun p34 =>
    (f_X7_teamTime p26.1 p34.1 p34.2).bind fun p37 =>
    if p37.1 = (-1) then
      (f_X11_answered (-2) p37.2).bind fun p56 =>
      some (p56.1, p56.2)
    else
      (f_X11_answered p37.1 p37.2).bind fun p56 =>
      some (p56.1, p56.2)
  else
    (f_X11_refused p3.1 p3.2).bind fun p13 =>
    some (p13.1, p13.2)
theorem f_X11_team_ok {v1 : Int32} {v2 : Int32}  {σ : gSt} {r : (Int32 × gSt)} (h : f_X11_team v1 v2 σ = some r) : Mt l w 0 41 yX11_team cX11_team 5 (some .int) 3 70 [.ref (w.2.1 0 0), .int v1, .int v2] σ (gE (some (.int r.1)) r.2) := by
  unfold f_X11_team at h
  refine g_start pn_X11 rfl rfl (Nat.le_of_ble_eq_true rfl) ?_
  show G l w 0 41 RX11 cX11_team 5 (some .int) 3 70 (gE (some (.int r.1)) r.2) 0 [some (.ref (w.2.1 0 0)), some (.int v1), some (.int v2), none, none] [] σ
  refine g_aload_n dX11_team_0 rfl ?_
  refine g_iload_n dX11_team_1 rfl ?_
  refine g_iload_n dX11_team_2 rfl ?_
  obtain ⟨p3, e3, h⟩ := obind h
  refine g_vP2 mv_X11_333 dX11_team_3 ok_0 ⟨by decide, by decide⟩ (Nat.le_of_ble_eq_true rfl) (f_X11_pairRefusal_ok e3) ?_
  refine g_istore3 dX11_team_6 ?_
  refine g_iload_n dX11_team_7 rfl ?_
  refine g_if_eq 17 dX11_team_8 rfl (fun q => ?_) (fun q => ?_)
  · replace h := gif_t q h
    refine g_aload_n dX11_team_17 rfl ?_
    refine gR_X11_63 ok_0 dX11_team_18 ?_
    refine g_aload_n dX11_team_21 rfl ?_
    refine gR_X11_32 ok_0 dX11_team_22 ?_
    refine g_iload_n dX11_team_25 rfl ?_
    obtain ⟨p26, e26, h⟩ := obind h
    refine g_vR1 mv_X11_174 dX11_team_26 (ok_3 (by decide)) ⟨by decide, by decide⟩ (Nat.le_of_ble_eq_true rfl) (f_X4_runnerAt_ok (by decide) e26) (fun b26 => ?_)
    refine g_aload_n dX11_team_29 rfl ?_
    refine gR_X11_32 ok_0 dX11_team_30 ?_
    refine g_iload_n dX11_team_33 rfl ?_
    obtain ⟨p34, e34, h⟩ := obind h
    refine g_vR1 mv_X11_174 dX11_team_34 (ok_3 (by decide)) ⟨by decide, by decide⟩ (Nat.le_of_ble_eq_true rfl) (f_X4_runnerAt_ok (by decide) e34) (fun b34 => ?_)
    obtain ⟨p37, e37, h⟩ := obind h
    refine g_vP2 mv_X11_357 dX11_team_37 ok_25 ⟨by decide, by decide⟩ (Nat.le_of_ble_eq_true rfl) (f_X7_teamTime_ok b26 b34 e37) ?_
    refine g_istore4 dX11_team_40 ?_
    refine g_aload_n dX11_team_42 rfl ?_
    refine g_iload dX11_team_43 rfl ?_
    refine g_iconst dX11_team_45 kc_m1 ?_
    refine g_icmp_ne 54 dX11_team_46 rfl (fun q => ?_) (fun q => ?_)
    · replace h := gif_f q h
      refine g_iload dX11_team_54 rfl ?_
      obtain ⟨p56, e56, h⟩ := obind h
      refine g_vP1 mv_X11_114 dX11_team_56 ok_0 ⟨by decide, by decide⟩ (Nat.le_of_ble_eq_true rfl) (f_X11_answered_ok e56) ?_
      cases h
      exact g_iret dX11_team_59 rfl ⟨rfl, rfl⟩
    · replace h := gif_t q h
      refine g_bipush dX11_team_49 kb_m2 ?_
      refine g_goto 56 dX11_team_51 rfl ?_
      obtain ⟨p56, e56, h⟩ := obind h
      refine g_vP1 mv_X11_114 dX11_team_56 ok_0 ⟨by decide, by decide⟩ (Nat.le_of_ble_eq_true rfl) (f_X11_answered_ok e56) ?_
      cases h
      exact g_iret dX11_team_59 rfl ⟨rfl, rfl⟩
  · replace h := gif_f q h
    refine g_aload_n dX11_team_11 rfl ?_
    refine g_iload_n dX11_team_12 rfl ?_
    obtain ⟨p13, e13, h⟩ := obind h
    refine g_vP1 mv_X11_91 dX11_team_13 ok_0 ⟨by decide, by decide⟩ (Nat.le_of_ble_eq_true rfl) (f_X11_refused_ok e13) ?_
    cases h
    exact g_iret dX11_team_16 rfl ⟨rfl, rfl⟩
theorem dX11_mate_0 : decode cX11_mate 0 = .ok (.aload_n 0, 1) := by decide +kernel
theorem dX11_mate_1 : decode cX11_mate 1 = .ok (.getfield 32, 3) := by decide +kernel
theorem dX11_mate_4 : decode cX11_mate 4 = .ok (.iload_n 1, 1) := by decide +kernel
theorem dX11_mate_5 : decode cX11_mate 5 = .ok (.invokevirtual 171, 3) := by decide +kernel
theorem dX11_mate_8 : decode cX11_mate 8 = .ok (.ifCond .ne 9, 3) := by decide +kernel
theorem dX11_mate_11 : decode cX11_mate 11 = .ok (.aload_n 0, 1) := by decide +kernel
theorem dX11_mate_12 : decode cX11_mate 12 = .ok (.iconst 1, 1) := by decide +kernel
theorem dX11_mate_13 : decode cX11_mate 13 = .ok (.invokevirtual 91, 3) := by decide +kernel
theorem dX11_mate_16 : decode cX11_mate 16 = .ok (.ireturn, 1) := by decide +kernel
theorem dX11_mate_17 : decode cX11_mate 17 = .ok (.aload_n 0, 1) := by decide +kernel
theorem dX11_mate_18 : decode cX11_mate 18 = .ok (.getfield 63, 3) := by decide +kernel
theorem dX11_mate_21 : decode cX11_mate 21 = .ok (.iload_n 1, 1) := by decide +kernel
theorem dX11_mate_22 : decode cX11_mate 22 = .ok (.invokevirtual 360, 3) := by decide +kernel
theorem dX11_mate_25 : decode cX11_mate 25 = .ok (.istore_n 2, 1) := by decide +kernel
theorem dX11_mate_26 : decode cX11_mate 26 = .ok (.aload_n 0, 1) := by decide +kernel
theorem dX11_mate_27 : decode cX11_mate 27 = .ok (.iload_n 2, 1) := by decide +kernel
theorem dX11_mate_28 : decode cX11_mate 28 = .ok (.iconst (-1), 1) := by decide +kernel
theorem dX11_mate_29 : decode cX11_mate 29 = .ok (.if_icmp .ne 8, 3) := by decide +kernel
theorem dX11_mate_32 : decode cX11_mate 32 = .ok (.bipush (-2), 2) := by decide +kernel
theorem dX11_mate_34 : decode cX11_mate 34 = .ok (.goto 4, 3) := by decide +kernel
theorem dX11_mate_37 : decode cX11_mate 37 = .ok (.iload_n 2, 1) := by decide +kernel
theorem dX11_mate_38 : decode cX11_mate 38 = .ok (.invokevirtual 114, 3) := by decide +kernel
theorem dX11_mate_41 : decode cX11_mate 41 = .ok (.ireturn, 1) := by decide +kernel
def f_X11_mate (v1 : Int32) (σ : gSt) : Option (Int32 × gSt) :=
  (f_X4_hasRunner 1 v1 σ).bind fun p5 =>
  if p5.1 = 0 then
    (f_X11_refused 1 p5.2).bind fun p13 =>
    some (p13.1, p13.2)
  else
    (f_X7_bestMate v1 p5.2).bind fun p22 =>
    if p22.1 = (-1) then
      (f_X11_answered (-2) p22.2).bind fun p38 =>
      some (p38.1, p38.2)
    else
      (f_X11_answered p22.1 p22.2).bind fun p38 =>
      some (p38.1, p38.2)
theorem f_X11_mate_ok {v1 : Int32}  {σ : gSt} {r : (Int32 × gSt)} (h : f_X11_mate v1 σ = some r) : Mt l w 0 41 yX11_mate cX11_mate 3 (some .int) 4 96 [.ref (w.2.1 0 0), .int v1] σ (gE (some (.int r.1)) r.2) := by
  unfold f_X11_mate at h
  refine g_start pn_X11 rfl rfl (Nat.le_of_ble_eq_true rfl) ?_
  show G l w 0 41 RX11 cX11_mate 3 (some .int) 4 96 (gE (some (.int r.1)) r.2) 0 [some (.ref (w.2.1 0 0)), some (.int v1), none] [] σ
  refine g_aload_n dX11_mate_0 rfl ?_
  refine gR_X11_32 ok_0 dX11_mate_1 ?_
  refine g_iload_n dX11_mate_4 rfl ?_
  obtain ⟨p5, e5, h⟩ := obind h
  refine g_vP1 mv_X11_171 dX11_mate_5 (ok_3 (by decide)) ⟨by decide, by decide⟩ (Nat.le_of_ble_eq_true rfl) (f_X4_hasRunner_ok (by decide) e5) ?_
  refine g_if_ne 17 dX11_mate_8 rfl (fun q => ?_) (fun q => ?_)
  · replace h := gif_f q h
    refine g_aload_n dX11_mate_17 rfl ?_
    refine gR_X11_63 ok_0 dX11_mate_18 ?_
    refine g_iload_n dX11_mate_21 rfl ?_
    obtain ⟨p22, e22, h⟩ := obind h
    refine g_vP1 mv_X11_360 dX11_mate_22 ok_25 ⟨by decide, by decide⟩ (Nat.le_of_ble_eq_true rfl) (f_X7_bestMate_ok e22) ?_
    refine g_istore2 dX11_mate_25 ?_
    refine g_aload_n dX11_mate_26 rfl ?_
    refine g_iload_n dX11_mate_27 rfl ?_
    refine g_iconst dX11_mate_28 kc_m1 ?_
    refine g_icmp_ne 37 dX11_mate_29 rfl (fun q => ?_) (fun q => ?_)
    · replace h := gif_f q h
      refine g_iload_n dX11_mate_37 rfl ?_
      obtain ⟨p38, e38, h⟩ := obind h
      refine g_vP1 mv_X11_114 dX11_mate_38 ok_0 ⟨by decide, by decide⟩ (Nat.le_of_ble_eq_true rfl) (f_X11_answered_ok e38) ?_
      cases h
      exact g_iret dX11_mate_41 rfl ⟨rfl, rfl⟩
    · replace h := gif_t q h
      refine g_bipush dX11_mate_32 kb_m2 ?_
      refine g_goto 38 dX11_mate_34 rfl ?_
      obtain ⟨p38, e38, h⟩ := obind h
      refine g_vP1 mv_X11_114 dX11_mate_38 ok_0 ⟨by decide, by decide⟩ (Nat.le_of_ble_eq_true rfl) (f_X11_answered_ok e38) ?_
      cases h
      exact g_iret dX11_mate_41 rfl ⟨rfl, rfl⟩
  · replace h := gif_t q h
    refine g_aload_n dX11_mate_11 rfl ?_
    refine g_iconst dX11_mate_12 kc_1 ?_
    obtain ⟨p13, e13, h⟩ := obind h
    refine g_vP1 mv_X11_91 dX11_mate_13 ok_0 ⟨by decide, by decide⟩ (Nat.le_of_ble_eq_true rfl) (f_X11_refused_ok e13) ?_
    cases h
    exact g_iret dX11_mate_16 rfl ⟨rfl, rfl⟩
theorem dX11_passes_0 : decode cX11_passes 0 = .ok (.aload_n 0, 1) := by decide +kernel
theorem dX11_passes_1 : decode cX11_passes 1 = .ok (.iload_n 1, 1) := by decide +kernel
theorem dX11_passes_2 : decode cX11_passes 2 = .ok (.iload_n 2, 1) := by decide +kernel
theorem dX11_passes_3 : decode cX11_passes 3 = .ok (.invokevirtual 333, 3) := by decide +kernel
theorem dX11_passes_6 : decode cX11_passes 6 = .ok (.istore_n 3, 1) := by decide +kernel
theorem dX11_passes_7 : decode cX11_passes 7 = .ok (.iload_n 3, 1) := by decide +kernel
theorem dX11_passes_8 : decode cX11_passes 8 = .ok (.ifCond .eq 9, 3) := by decide +kernel
theorem dX11_passes_11 : decode cX11_passes 11 = .ok (.aload_n 0, 1) := by decide +kernel
theorem dX11_passes_12 : decode cX11_passes 12 = .ok (.iload_n 3, 1) := by decide +kernel
theorem dX11_passes_13 : decode cX11_passes 13 = .ok (.invokevirtual 91, 3) := by decide +kernel
theorem dX11_passes_16 : decode cX11_passes 16 = .ok (.ireturn, 1) := by decide +kernel
theorem dX11_passes_17 : decode cX11_passes 17 = .ok (.aload_n 0, 1) := by decide +kernel
theorem dX11_passes_18 : decode cX11_passes 18 = .ok (.aload_n 0, 1) := by decide +kernel
theorem dX11_passes_19 : decode cX11_passes 19 = .ok (.getfield 63, 3) := by decide +kernel
theorem dX11_passes_22 : decode cX11_passes 22 = .ok (.aload_n 0, 1) := by decide +kernel
theorem dX11_passes_23 : decode cX11_passes 23 = .ok (.getfield 32, 3) := by decide +kernel
theorem dX11_passes_26 : decode cX11_passes 26 = .ok (.iload_n 1, 1) := by decide +kernel
theorem dX11_passes_27 : decode cX11_passes 27 = .ok (.invokevirtual 174, 3) := by decide +kernel
theorem dX11_passes_30 : decode cX11_passes 30 = .ok (.aload_n 0, 1) := by decide +kernel
theorem dX11_passes_31 : decode cX11_passes 31 = .ok (.getfield 32, 3) := by decide +kernel
theorem dX11_passes_34 : decode cX11_passes 34 = .ok (.iload_n 2, 1) := by decide +kernel
theorem dX11_passes_35 : decode cX11_passes 35 = .ok (.invokevirtual 174, 3) := by decide +kernel
theorem dX11_passes_38 : decode cX11_passes 38 = .ok (.invokevirtual 363, 3) := by decide +kernel
theorem dX11_passes_41 : decode cX11_passes 41 = .ok (.invokevirtual 114, 3) := by decide +kernel
theorem dX11_passes_44 : decode cX11_passes 44 = .ok (.ireturn, 1) := by decide +kernel
def f_X11_passes (v1 : Int32) (v2 : Int32) (σ : gSt) : Option (Int32 × gSt) :=
  (f_X11_pairRefusal v1 v2 σ).bind fun p3 =>
  if p3.1 = 0 then
    (f_X4_runnerAt 1 v1 p3.2).bind fun p27 =>
    (f_X4_runnerAt 1 v2 p27.2).bind fun p35 =>
    (f_X7_passings p27.1 p35.1 p35.2).bind fun p38 =>
    (f_X11_answered p38.1 p38.2).bind fun p41 =>
    some (p41.1, p41.2)
  else
    (f_X11_refused p3.1 p3.2).bind fun p13 =>
    some (p13.1, p13.2)
theorem f_X11_passes_ok {v1 : Int32} {v2 : Int32}  {σ : gSt} {r : (Int32 × gSt)} (h : f_X11_passes v1 v2 σ = some r) : Mt l w 0 41 yX11_passes cX11_passes 4 (some .int) 3 71 [.ref (w.2.1 0 0), .int v1, .int v2] σ (gE (some (.int r.1)) r.2) := by
  unfold f_X11_passes at h
  refine g_start pn_X11 rfl rfl (Nat.le_of_ble_eq_true rfl) ?_
  show G l w 0 41 RX11 cX11_passes 4 (some .int) 3 71 (gE (some (.int r.1)) r.2) 0 [some (.ref (w.2.1 0 0)), some (.int v1), some (.int v2), none] [] σ
  refine g_aload_n dX11_passes_0 rfl ?_
  refine g_iload_n dX11_passes_1 rfl ?_
  refine g_iload_n dX11_passes_2 rfl ?_
  obtain ⟨p3, e3, h⟩ := obind h
  refine g_vP2 mv_X11_333 dX11_passes_3 ok_0 ⟨by decide, by decide⟩ (Nat.le_of_ble_eq_true rfl) (f_X11_pairRefusal_ok e3) ?_
  refine g_istore3 dX11_passes_6 ?_
  refine g_iload_n dX11_passes_7 rfl ?_
  refine g_if_eq 17 dX11_passes_8 rfl (fun q => ?_) (fun q => ?_)
  · replace h := gif_t q h
    refine g_aload_n dX11_passes_17 rfl ?_
    refine g_aload_n dX11_passes_18 rfl ?_
    refine gR_X11_63 ok_0 dX11_passes_19 ?_
    refine g_aload_n dX11_passes_22 rfl ?_
    refine gR_X11_32 ok_0 dX11_passes_23 ?_
    refine g_iload_n dX11_passes_26 rfl ?_
    obtain ⟨p27, e27, h⟩ := obind h
    refine g_vR1 mv_X11_174 dX11_passes_27 (ok_3 (by decide)) ⟨by decide, by decide⟩ (Nat.le_of_ble_eq_true rfl) (f_X4_runnerAt_ok (by decide) e27) (fun b27 => ?_)
    refine g_aload_n dX11_passes_30 rfl ?_
    refine gR_X11_32 ok_0 dX11_passes_31 ?_
    refine g_iload_n dX11_passes_34 rfl ?_
    obtain ⟨p35, e35, h⟩ := obind h
    refine g_vR1 mv_X11_174 dX11_passes_35 (ok_3 (by decide)) ⟨by decide, by decide⟩ (Nat.le_of_ble_eq_true rfl) (f_X4_runnerAt_ok (by decide) e35) (fun b35 => ?_)
    obtain ⟨p38, e38, h⟩ := obind h
    refine g_vP2 mv_X11_363 dX11_passes_38 ok_25 ⟨by decide, by decide⟩ (Nat.le_of_ble_eq_true rfl) (f_X7_passings_ok b27 b35 e38) ?_
    obtain ⟨p41, e41, h⟩ := obind h
    refine g_vP1 mv_X11_114 dX11_passes_41 ok_0 ⟨by decide, by decide⟩ (Nat.le_of_ble_eq_true rfl) (f_X11_answered_ok e41) ?_
    cases h
    exact g_iret dX11_passes_44 rfl ⟨rfl, rfl⟩
  · replace h := gif_f q h
    refine g_aload_n dX11_passes_11 rfl ?_
    refine g_iload_n dX11_passes_12 rfl ?_
    obtain ⟨p13, e13, h⟩ := obind h
    refine g_vP1 mv_X11_91 dX11_passes_13 ok_0 ⟨by decide, by decide⟩ (Nat.le_of_ble_eq_true rfl) (f_X11_refused_ok e13) ?_
    cases h
    exact g_iret dX11_passes_16 rfl ⟨rfl, rfl⟩
theorem dX11_crowd_0 : decode cX11_crowd 0 = .ok (.aload_n 0, 1) := by decide +kernel
theorem dX11_crowd_1 : decode cX11_crowd 1 = .ok (.getfield 32, 3) := by decide +kernel
theorem dX11_crowd_4 : decode cX11_crowd 4 = .ok (.invokevirtual 117, 3) := by decide +kernel
theorem dX11_crowd_7 : decode cX11_crowd 7 = .ok (.ifCond .eq 12, 3) := by decide +kernel
theorem dX11_crowd_10 : decode cX11_crowd 10 = .ok (.iload_n 1, 1) := by decide +kernel
theorem dX11_crowd_11 : decode cX11_crowd 11 = .ok (.ifCond .lt 8, 3) := by decide +kernel
theorem dX11_crowd_14 : decode cX11_crowd 14 = .ok (.iload_n 1, 1) := by decide +kernel
theorem dX11_crowd_15 : decode cX11_crowd 15 = .ok (.iconst 1, 1) := by decide +kernel
theorem dX11_crowd_16 : decode cX11_crowd 16 = .ok (.if_icmp .le 9, 3) := by decide +kernel
theorem dX11_crowd_19 : decode cX11_crowd 19 = .ok (.aload_n 0, 1) := by decide +kernel
theorem dX11_crowd_20 : decode cX11_crowd 20 = .ok (.iconst 1, 1) := by decide +kernel
theorem dX11_crowd_21 : decode cX11_crowd 21 = .ok (.invokevirtual 91, 3) := by decide +kernel
theorem dX11_crowd_24 : decode cX11_crowd 24 = .ok (.ireturn, 1) := by decide +kernel
theorem dX11_crowd_25 : decode cX11_crowd 25 = .ok (.aload_n 0, 1) := by decide +kernel
theorem dX11_crowd_26 : decode cX11_crowd 26 = .ok (.getfield 32, 3) := by decide +kernel
theorem dX11_crowd_29 : decode cX11_crowd 29 = .ok (.getfield 111, 3) := by decide +kernel
theorem dX11_crowd_32 : decode cX11_crowd 32 = .ok (.ifCond .ne 10, 3) := by decide +kernel
theorem dX11_crowd_35 : decode cX11_crowd 35 = .ok (.aload_n 0, 1) := by decide +kernel
theorem dX11_crowd_36 : decode cX11_crowd 36 = .ok (.bipush 6, 2) := by decide +kernel
theorem dX11_crowd_38 : decode cX11_crowd 38 = .ok (.invokevirtual 91, 3) := by decide +kernel
theorem dX11_crowd_41 : decode cX11_crowd 41 = .ok (.ireturn, 1) := by decide +kernel
theorem dX11_crowd_42 : decode cX11_crowd 42 = .ok (.aload_n 0, 1) := by decide +kernel
theorem dX11_crowd_43 : decode cX11_crowd 43 = .ok (.getfield 32, 3) := by decide +kernel
theorem dX11_crowd_46 : decode cX11_crowd 46 = .ok (.invokevirtual 366, 3) := by decide +kernel
theorem dX11_crowd_49 : decode cX11_crowd 49 = .ok (.istore_n 2, 1) := by decide +kernel
theorem dX11_crowd_50 : decode cX11_crowd 50 = .ok (.aload_n 0, 1) := by decide +kernel
theorem dX11_crowd_51 : decode cX11_crowd 51 = .ok (.iload_n 1, 1) := by decide +kernel
theorem dX11_crowd_52 : decode cX11_crowd 52 = .ok (.ifCond .ne 14, 3) := by decide +kernel
theorem dX11_crowd_55 : decode cX11_crowd 55 = .ok (.aload_n 0, 1) := by decide +kernel
theorem dX11_crowd_56 : decode cX11_crowd 56 = .ok (.getfield 32, 3) := by decide +kernel
theorem dX11_crowd_59 : decode cX11_crowd 59 = .ok (.iload_n 2, 1) := by decide +kernel
theorem dX11_crowd_60 : decode cX11_crowd 60 = .ok (.invokevirtual 369, 3) := by decide +kernel
theorem dX11_crowd_63 : decode cX11_crowd 63 = .ok (.goto 4, 3) := by decide +kernel
theorem dX11_crowd_66 : decode cX11_crowd 66 = .ok (.iload_n 2, 1) := by decide +kernel
theorem dX11_crowd_67 : decode cX11_crowd 67 = .ok (.invokevirtual 114, 3) := by decide +kernel
theorem dX11_crowd_70 : decode cX11_crowd 70 = .ok (.ireturn, 1) := by decide +kernel
def f_X11_crowd (v1 : Int32) (σ : gSt) : Option (Int32 × gSt) :=
  (f_X4_isTold 1 σ).bind fun p4 =>
  if p4.1 = 0 then
    (f_X11_refused 1 p4.2).bind fun p21 =>
    some (p21.1, p21.2)
  else
    if v1 < 0 then
      (f_X11_refused 1 p4.2).bind fun p21 =>
      some (p21.1, p21.2)
    else
      if v1 ≤ 1 then
        if (p4.2 3 1 4) = 0 then
          (f_X11_refused 6 p4.2).bind fun p38 =>
          some (p38.1, p38.2)
        else
          (f_X4_fullestTime 1 p4.2).bind fun p46 =>
          if v1 = 0 then
            (f_X4_inForest 1 p46.1 p46.2).bind fun p60 =>
            (f_X11_answered p60.1 p60.2).bind fun p67 =>
            some (p67.1, p67.2)
          else
            (f_X11_answered p46.1 p46.2).bind fun p67 =>
            some (p67.1, p67.2)
      else
        (f_X11_refused 1 p4.2).bind fun p21 =>
        some (p21.1, p21.2)
theorem f_X11_crowd_ok {v1 : Int32}  {σ : gSt} {r : (Int32 × gSt)} (h : f_X11_crowd v1 σ = some r) : Mt l w 0 41 yX11_crowd cX11_crowd 3 (some .int) 3 68 [.ref (w.2.1 0 0), .int v1] σ (gE (some (.int r.1)) r.2) := by
  unfold f_X11_crowd at h
  refine g_start pn_X11 rfl rfl (Nat.le_of_ble_eq_true rfl) ?_
  show G l w 0 41 RX11 cX11_crowd 3 (some .int) 3 68 (gE (some (.int r.1)) r.2) 0 [some (.ref (w.2.1 0 0)), some (.int v1), none] [] σ
  refine g_aload_n dX11_crowd_0 rfl ?_
  refine gR_X11_32 ok_0 dX11_crowd_1 ?_
  obtain ⟨p4, e4, h⟩ := obind h
  refine g_vP0 mv_X11_117 dX11_crowd_4 (ok_3 (by decide)) ⟨by decide, by decide⟩ (Nat.le_of_ble_eq_true rfl) (f_X4_isTold_ok (by decide) e4) ?_
  refine g_if_eq 19 dX11_crowd_7 rfl (fun q => ?_) (fun q => ?_)
  · replace h := gif_t q h
    refine g_aload_n dX11_crowd_19 rfl ?_
    refine g_iconst dX11_crowd_20 kc_1 ?_
    obtain ⟨p21, e21, h⟩ := obind h
    refine g_vP1 mv_X11_91 dX11_crowd_21 ok_0 ⟨by decide, by decide⟩ (Nat.le_of_ble_eq_true rfl) (f_X11_refused_ok e21) ?_
    cases h
    exact g_iret dX11_crowd_24 rfl ⟨rfl, rfl⟩
  · replace h := gif_f q h
    refine g_iload_n dX11_crowd_10 rfl ?_
    refine g_if_lt 19 dX11_crowd_11 rfl (fun q => ?_) (fun q => ?_)
    · replace h := gif_t q h
      refine g_aload_n dX11_crowd_19 rfl ?_
      refine g_iconst dX11_crowd_20 kc_1 ?_
      obtain ⟨p21, e21, h⟩ := obind h
      refine g_vP1 mv_X11_91 dX11_crowd_21 ok_0 ⟨by decide, by decide⟩ (Nat.le_of_ble_eq_true rfl) (f_X11_refused_ok e21) ?_
      cases h
      exact g_iret dX11_crowd_24 rfl ⟨rfl, rfl⟩
    · replace h := gif_f q h
      refine g_iload_n dX11_crowd_14 rfl ?_
      refine g_iconst dX11_crowd_15 kc_1 ?_
      refine g_icmp_le 25 dX11_crowd_16 rfl (fun q => ?_) (fun q => ?_)
      · replace h := gif_t q h
        refine g_aload_n dX11_crowd_25 rfl ?_
        refine gR_X11_32 ok_0 dX11_crowd_26 ?_
        refine gI_X11_111 (ok_3 (by decide)) dX11_crowd_29 ?_
        refine g_if_ne 42 dX11_crowd_32 rfl (fun q => ?_) (fun q => ?_)
        · replace h := gif_f q h
          refine g_aload_n dX11_crowd_42 rfl ?_
          refine gR_X11_32 ok_0 dX11_crowd_43 ?_
          obtain ⟨p46, e46, h⟩ := obind h
          refine g_vP0 mv_X11_366 dX11_crowd_46 (ok_3 (by decide)) ⟨by decide, by decide⟩ (Nat.le_of_ble_eq_true rfl) (f_X4_fullestTime_ok (by decide) e46) ?_
          refine g_istore2 dX11_crowd_49 ?_
          refine g_aload_n dX11_crowd_50 rfl ?_
          refine g_iload_n dX11_crowd_51 rfl ?_
          refine g_if_ne 66 dX11_crowd_52 rfl (fun q => ?_) (fun q => ?_)
          · replace h := gif_f q h
            refine g_iload_n dX11_crowd_66 rfl ?_
            obtain ⟨p67, e67, h⟩ := obind h
            refine g_vP1 mv_X11_114 dX11_crowd_67 ok_0 ⟨by decide, by decide⟩ (Nat.le_of_ble_eq_true rfl) (f_X11_answered_ok e67) ?_
            cases h
            exact g_iret dX11_crowd_70 rfl ⟨rfl, rfl⟩
          · replace h := gif_t q h
            refine g_aload_n dX11_crowd_55 rfl ?_
            refine gR_X11_32 ok_0 dX11_crowd_56 ?_
            refine g_iload_n dX11_crowd_59 rfl ?_
            obtain ⟨p60, e60, h⟩ := obind h
            refine g_vP1 mv_X11_369 dX11_crowd_60 (ok_3 (by decide)) ⟨by decide, by decide⟩ (Nat.le_of_ble_eq_true rfl) (f_X4_inForest_ok (by decide) e60) ?_
            refine g_goto 67 dX11_crowd_63 rfl ?_
            obtain ⟨p67, e67, h⟩ := obind h
            refine g_vP1 mv_X11_114 dX11_crowd_67 ok_0 ⟨by decide, by decide⟩ (Nat.le_of_ble_eq_true rfl) (f_X11_answered_ok e67) ?_
            cases h
            exact g_iret dX11_crowd_70 rfl ⟨rfl, rfl⟩
        · replace h := gif_t q h
          refine g_aload_n dX11_crowd_35 rfl ?_
          refine g_bipush dX11_crowd_36 kb_6 ?_
          obtain ⟨p38, e38, h⟩ := obind h
          refine g_vP1 mv_X11_91 dX11_crowd_38 ok_0 ⟨by decide, by decide⟩ (Nat.le_of_ble_eq_true rfl) (f_X11_refused_ok e38) ?_
          cases h
          exact g_iret dX11_crowd_41 rfl ⟨rfl, rfl⟩
      · replace h := gif_f q h
        refine g_aload_n dX11_crowd_19 rfl ?_
        refine g_iconst dX11_crowd_20 kc_1 ?_
        obtain ⟨p21, e21, h⟩ := obind h
        refine g_vP1 mv_X11_91 dX11_crowd_21 ok_0 ⟨by decide, by decide⟩ (Nat.le_of_ble_eq_true rfl) (f_X11_refused_ok e21) ?_
        cases h
        exact g_iret dX11_crowd_24 rfl ⟨rfl, rfl⟩
theorem dX11_over_0 : decode cX11_over 0 = .ok (.aload_n 0, 1) := by decide +kernel
theorem dX11_over_1 : decode cX11_over 1 = .ok (.getfield 32, 3) := by decide +kernel
theorem dX11_over_4 : decode cX11_over 4 = .ok (.invokevirtual 117, 3) := by decide +kernel
theorem dX11_over_7 : decode cX11_over 7 = .ok (.ifCond .eq 12, 3) := by decide +kernel
theorem dX11_over_10 : decode cX11_over 10 = .ok (.iload_n 3, 1) := by decide +kernel
theorem dX11_over_11 : decode cX11_over 11 = .ok (.ifCond .lt 8, 3) := by decide +kernel
theorem dX11_over_14 : decode cX11_over 14 = .ok (.iload_n 3, 1) := by decide +kernel
theorem dX11_over_15 : decode cX11_over 15 = .ok (.iconst 1, 1) := by decide +kernel
theorem dX11_over_16 : decode cX11_over 16 = .ok (.if_icmp .le 9, 3) := by decide +kernel
theorem dX11_over_19 : decode cX11_over 19 = .ok (.aload_n 0, 1) := by decide +kernel
theorem dX11_over_20 : decode cX11_over 20 = .ok (.iconst 1, 1) := by decide +kernel
theorem dX11_over_21 : decode cX11_over 21 = .ok (.invokevirtual 91, 3) := by decide +kernel
theorem dX11_over_24 : decode cX11_over 24 = .ok (.ireturn, 1) := by decide +kernel
theorem dX11_over_25 : decode cX11_over 25 = .ok (.iload_n 1, 1) := by decide +kernel
theorem dX11_over_26 : decode cX11_over 26 = .ok (.invokestatic 314, 3) := by decide +kernel
theorem dX11_over_29 : decode cX11_over 29 = .ok (.ifCond .eq 10, 3) := by decide +kernel
theorem dX11_over_32 : decode cX11_over 32 = .ok (.iload_n 2, 1) := by decide +kernel
theorem dX11_over_33 : decode cX11_over 33 = .ok (.invokestatic 314, 3) := by decide +kernel
theorem dX11_over_36 : decode cX11_over 36 = .ok (.ifCond .ne 9, 3) := by decide +kernel
theorem dX11_over_39 : decode cX11_over 39 = .ok (.aload_n 0, 1) := by decide +kernel
theorem dX11_over_40 : decode cX11_over 40 = .ok (.iconst 2, 1) := by decide +kernel
theorem dX11_over_41 : decode cX11_over 41 = .ok (.invokevirtual 91, 3) := by decide +kernel
theorem dX11_over_44 : decode cX11_over 44 = .ok (.ireturn, 1) := by decide +kernel
theorem dX11_over_45 : decode cX11_over 45 = .ok (.aload_n 0, 1) := by decide +kernel
theorem dX11_over_46 : decode cX11_over 46 = .ok (.getfield 40, 3) := by decide +kernel
theorem dX11_over_49 : decode cX11_over 49 = .ok (.iload_n 1, 1) := by decide +kernel
theorem dX11_over_50 : decode cX11_over 50 = .ok (.iload_n 2, 1) := by decide +kernel
theorem dX11_over_51 : decode cX11_over 51 = .ok (.invokevirtual 372, 3) := by decide +kernel
theorem dX11_over_54 : decode cX11_over 54 = .ok (.istore 4, 2) := by decide +kernel
theorem dX11_over_56 : decode cX11_over 56 = .ok (.iload 4, 2) := by decide +kernel
theorem dX11_over_58 : decode cX11_over 58 = .ok (.iconst (-1), 1) := by decide +kernel
theorem dX11_over_59 : decode cX11_over 59 = .ok (.if_icmp .ne 10, 3) := by decide +kernel
theorem dX11_over_62 : decode cX11_over 62 = .ok (.aload_n 0, 1) := by decide +kernel
theorem dX11_over_63 : decode cX11_over 63 = .ok (.bipush (-2), 2) := by decide +kernel
theorem dX11_over_65 : decode cX11_over 65 = .ok (.invokevirtual 114, 3) := by decide +kernel
theorem dX11_over_68 : decode cX11_over 68 = .ok (.ireturn, 1) := by decide +kernel
theorem dX11_over_69 : decode cX11_over 69 = .ok (.aload_n 0, 1) := by decide +kernel
theorem dX11_over_70 : decode cX11_over 70 = .ok (.iload_n 3, 1) := by decide +kernel
theorem dX11_over_71 : decode cX11_over 71 = .ok (.ifCond .ne 24, 3) := by decide +kernel
theorem dX11_over_74 : decode cX11_over 74 = .ok (.aload_n 0, 1) := by decide +kernel
theorem dX11_over_75 : decode cX11_over 75 = .ok (.getfield 40, 3) := by decide +kernel
theorem dX11_over_78 : decode cX11_over 78 = .ok (.aload_n 0, 1) := by decide +kernel
theorem dX11_over_79 : decode cX11_over 79 = .ok (.getfield 32, 3) := by decide +kernel
theorem dX11_over_82 : decode cX11_over 82 = .ok (.iload 4, 2) := by decide +kernel
theorem dX11_over_84 : decode cX11_over 84 = .ok (.invokevirtual 174, 3) := by decide +kernel
theorem dX11_over_87 : decode cX11_over 87 = .ok (.iload_n 1, 1) := by decide +kernel
theorem dX11_over_88 : decode cX11_over 88 = .ok (.iload_n 2, 1) := by decide +kernel
theorem dX11_over_89 : decode cX11_over 89 = .ok (.invokevirtual 375, 3) := by decide +kernel
theorem dX11_over_92 : decode cX11_over 92 = .ok (.goto 5, 3) := by decide +kernel
theorem dX11_over_95 : decode cX11_over 95 = .ok (.iload 4, 2) := by decide +kernel
theorem dX11_over_97 : decode cX11_over 97 = .ok (.invokevirtual 114, 3) := by decide +kernel
theorem dX11_over_100 : decode cX11_over 100 = .ok (.ireturn, 1) := by decide +kernel
def f_X11_over (v1 : Int32) (v2 : Int32) (v3 : Int32) (σ : gSt) : Option (Int32 × gSt) :=
  (f_X4_isTold 1 σ).bind fun p4 =>
  if p4.1 = 0 then
    (f_X11_refused 1 p4.2).bind fun p21 =>
    some (p21.1, p21.2)
  else
    if v3 < 0 then
      (f_X11_refused 1 p4.2).bind fun p21 =>
      some (p21.1, p21.2)
    else
      if v3 ≤ 1 then
        (f_X11_isCode v1 p4.2).bind fun p26 =>
        if p26.1 = 0 then
          (f_X11_refused 2 p26.2).bind fun p41 =>
          some (p41.1, p41.2)
        else
          (f_X11_isCode v2 p26.2).bind fun p33 =>
          if p33.1 = 0 then
            (f_X11_refused 2 p33.2).bind fun p41 =>
            some (p41.1, p41.2)
          else
            (f_X2_fastestOver v1 v2 p33.2).bind fun p51 =>
            if p51.1 = (-1) then
              (f_X11_answered (-2) p51.2).bind fun p65 =>
              some (p65.1, p65.2)
            else
              if v3 = 0 then
                (f_X4_runnerAt 1 p51.1 p51.2).bind fun p84 =>
                (f_X2_timeOver p84.1 v1 v2 p84.2).bind fun p89 =>
                (f_X11_answered p89.1 p89.2).bind fun p97 =>
                some (p97.1, p97.2)
              else
                (f_X11_answered p51.1 p51.2).bind fun p97 =>
                some (p97.1, p97.2)
      else
        (f_X11_refused 1 p4.2).bind fun p21 =>
        some (p21.1, p21.2)
theorem f_X11_over_ok {v1 : Int32} {v2 : Int32} {v3 : Int32}  {σ : gSt} {r : (Int32 × gSt)} (h : f_X11_over v1 v2 v3 σ = some r) : Mt l w 0 41 yX11_over cX11_over 5 (some .int) 4 97 [.ref (w.2.1 0 0), .int v1, .int v2, .int v3] σ (gE (some (.int r.1)) r.2) := by
  unfold f_X11_over at h
  refine g_start pn_X11 rfl rfl (Nat.le_of_ble_eq_true rfl) ?_
  show G l w 0 41 RX11 cX11_over 5 (some .int) 4 97 (gE (some (.int r.1)) r.2) 0 [some (.ref (w.2.1 0 0)), some (.int v1), some (.int v2), some (.int v3), none] [] σ
  refine g_aload_n dX11_over_0 rfl ?_
  refine gR_X11_32 ok_0 dX11_over_1 ?_
  obtain ⟨p4, e4, h⟩ := obind h
  refine g_vP0 mv_X11_117 dX11_over_4 (ok_3 (by decide)) ⟨by decide, by decide⟩ (Nat.le_of_ble_eq_true rfl) (f_X4_isTold_ok (by decide) e4) ?_
  refine g_if_eq 19 dX11_over_7 rfl (fun q => ?_) (fun q => ?_)
  · replace h := gif_t q h
    refine g_aload_n dX11_over_19 rfl ?_
    refine g_iconst dX11_over_20 kc_1 ?_
    obtain ⟨p21, e21, h⟩ := obind h
    refine g_vP1 mv_X11_91 dX11_over_21 ok_0 ⟨by decide, by decide⟩ (Nat.le_of_ble_eq_true rfl) (f_X11_refused_ok e21) ?_
    cases h
    exact g_iret dX11_over_24 rfl ⟨rfl, rfl⟩
  · replace h := gif_f q h
    refine g_iload_n dX11_over_10 rfl ?_
    refine g_if_lt 19 dX11_over_11 rfl (fun q => ?_) (fun q => ?_)
    · replace h := gif_t q h
      refine g_aload_n dX11_over_19 rfl ?_
      refine g_iconst dX11_over_20 kc_1 ?_
      obtain ⟨p21, e21, h⟩ := obind h
      refine g_vP1 mv_X11_91 dX11_over_21 ok_0 ⟨by decide, by decide⟩ (Nat.le_of_ble_eq_true rfl) (f_X11_refused_ok e21) ?_
      cases h
      exact g_iret dX11_over_24 rfl ⟨rfl, rfl⟩
    · replace h := gif_f q h
      refine g_iload_n dX11_over_14 rfl ?_
      refine g_iconst dX11_over_15 kc_1 ?_
      refine g_icmp_le 25 dX11_over_16 rfl (fun q => ?_) (fun q => ?_)
      · replace h := gif_t q h
        refine g_iload_n dX11_over_25 rfl ?_
        obtain ⟨p26, e26, h⟩ := obind h
        refine g_sP1 ms_X11_314 dX11_over_26 ⟨by decide, by decide⟩ (Nat.le_of_ble_eq_true rfl) (f_X11_isCode_ok e26) ?_
        refine g_if_eq 39 dX11_over_29 rfl (fun q => ?_) (fun q => ?_)
        · replace h := gif_t q h
          refine g_aload_n dX11_over_39 rfl ?_
          refine g_iconst dX11_over_40 kc_2 ?_
          obtain ⟨p41, e41, h⟩ := obind h
          refine g_vP1 mv_X11_91 dX11_over_41 ok_0 ⟨by decide, by decide⟩ (Nat.le_of_ble_eq_true rfl) (f_X11_refused_ok e41) ?_
          cases h
          exact g_iret dX11_over_44 rfl ⟨rfl, rfl⟩
        · replace h := gif_f q h
          refine g_iload_n dX11_over_32 rfl ?_
          obtain ⟨p33, e33, h⟩ := obind h
          refine g_sP1 ms_X11_314 dX11_over_33 ⟨by decide, by decide⟩ (Nat.le_of_ble_eq_true rfl) (f_X11_isCode_ok e33) ?_
          refine g_if_ne 45 dX11_over_36 rfl (fun q => ?_) (fun q => ?_)
          · replace h := gif_f q h
            refine g_aload_n dX11_over_45 rfl ?_
            refine gR_X11_40 ok_0 dX11_over_46 ?_
            refine g_iload_n dX11_over_49 rfl ?_
            refine g_iload_n dX11_over_50 rfl ?_
            obtain ⟨p51, e51, h⟩ := obind h
            refine g_vP2 mv_X11_372 dX11_over_51 ok_16 ⟨by decide, by decide⟩ (Nat.le_of_ble_eq_true rfl) (f_X2_fastestOver_ok e51) ?_
            refine g_istore4 dX11_over_54 ?_
            refine g_iload dX11_over_56 rfl ?_
            refine g_iconst dX11_over_58 kc_m1 ?_
            refine g_icmp_ne 69 dX11_over_59 rfl (fun q => ?_) (fun q => ?_)
            · replace h := gif_f q h
              refine g_aload_n dX11_over_69 rfl ?_
              refine g_iload_n dX11_over_70 rfl ?_
              refine g_if_ne 95 dX11_over_71 rfl (fun q => ?_) (fun q => ?_)
              · replace h := gif_f q h
                refine g_iload dX11_over_95 rfl ?_
                obtain ⟨p97, e97, h⟩ := obind h
                refine g_vP1 mv_X11_114 dX11_over_97 ok_0 ⟨by decide, by decide⟩ (Nat.le_of_ble_eq_true rfl) (f_X11_answered_ok e97) ?_
                cases h
                exact g_iret dX11_over_100 rfl ⟨rfl, rfl⟩
              · replace h := gif_t q h
                refine g_aload_n dX11_over_74 rfl ?_
                refine gR_X11_40 ok_0 dX11_over_75 ?_
                refine g_aload_n dX11_over_78 rfl ?_
                refine gR_X11_32 ok_0 dX11_over_79 ?_
                refine g_iload dX11_over_82 rfl ?_
                obtain ⟨p84, e84, h⟩ := obind h
                refine g_vR1 mv_X11_174 dX11_over_84 (ok_3 (by decide)) ⟨by decide, by decide⟩ (Nat.le_of_ble_eq_true rfl) (f_X4_runnerAt_ok (by decide) e84) (fun b84 => ?_)
                refine g_iload_n dX11_over_87 rfl ?_
                refine g_iload_n dX11_over_88 rfl ?_
                obtain ⟨p89, e89, h⟩ := obind h
                refine g_vP3 mv_X11_375 dX11_over_89 ok_16 ⟨by decide, by decide⟩ (Nat.le_of_ble_eq_true rfl) (f_X2_timeOver_ok b84 e89) ?_
                refine g_goto 97 dX11_over_92 rfl ?_
                obtain ⟨p97, e97, h⟩ := obind h
                refine g_vP1 mv_X11_114 dX11_over_97 ok_0 ⟨by decide, by decide⟩ (Nat.le_of_ble_eq_true rfl) (f_X11_answered_ok e97) ?_
                cases h
                exact g_iret dX11_over_100 rfl ⟨rfl, rfl⟩
            · replace h := gif_t q h
              refine g_aload_n dX11_over_62 rfl ?_
              refine g_bipush dX11_over_63 kb_m2 ?_
              obtain ⟨p65, e65, h⟩ := obind h
              refine g_vP1 mv_X11_114 dX11_over_65 ok_0 ⟨by decide, by decide⟩ (Nat.le_of_ble_eq_true rfl) (f_X11_answered_ok e65) ?_
              cases h
              exact g_iret dX11_over_68 rfl ⟨rfl, rfl⟩
          · replace h := gif_t q h
            refine g_aload_n dX11_over_39 rfl ?_
            refine g_iconst dX11_over_40 kc_2 ?_
            obtain ⟨p41, e41, h⟩ := obind h
            refine g_vP1 mv_X11_91 dX11_over_41 ok_0 ⟨by decide, by decide⟩ (Nat.le_of_ble_eq_true rfl) (f_X11_refused_ok e41) ?_
            cases h
            exact g_iret dX11_over_44 rfl ⟨rfl, rfl⟩
      · replace h := gif_f q h
        refine g_aload_n dX11_over_19 rfl ?_
        refine g_iconst dX11_over_20 kc_1 ?_
        obtain ⟨p21, e21, h⟩ := obind h
        refine g_vP1 mv_X11_91 dX11_over_21 ok_0 ⟨by decide, by decide⟩ (Nat.le_of_ble_eq_true rfl) (f_X11_refused_ok e21) ?_
        cases h
        exact g_iret dX11_over_24 rfl ⟨rfl, rfl⟩
theorem dX11_common_0 : decode cX11_common 0 = .ok (.aload_n 0, 1) := by decide +kernel
theorem dX11_common_1 : decode cX11_common 1 = .ok (.getfield 32, 3) := by decide +kernel
theorem dX11_common_4 : decode cX11_common 4 = .ok (.iload_n 1, 1) := by decide +kernel
theorem dX11_common_5 : decode cX11_common 5 = .ok (.invokevirtual 140, 3) := by decide +kernel
theorem dX11_common_8 : decode cX11_common 8 = .ok (.ifCond .eq 14, 3) := by decide +kernel
theorem dX11_common_11 : decode cX11_common 11 = .ok (.aload_n 0, 1) := by decide +kernel
theorem dX11_common_12 : decode cX11_common 12 = .ok (.getfield 32, 3) := by decide +kernel
theorem dX11_common_15 : decode cX11_common 15 = .ok (.iload_n 2, 1) := by decide +kernel
theorem dX11_common_16 : decode cX11_common 16 = .ok (.invokevirtual 140, 3) := by decide +kernel
theorem dX11_common_19 : decode cX11_common 19 = .ok (.ifCond .ne 9, 3) := by decide +kernel
theorem dX11_common_22 : decode cX11_common 22 = .ok (.aload_n 0, 1) := by decide +kernel
theorem dX11_common_23 : decode cX11_common 23 = .ok (.iconst 1, 1) := by decide +kernel
theorem dX11_common_24 : decode cX11_common 24 = .ok (.invokevirtual 91, 3) := by decide +kernel
theorem dX11_common_27 : decode cX11_common 27 = .ok (.ireturn, 1) := by decide +kernel
theorem dX11_common_28 : decode cX11_common 28 = .ok (.aload_n 0, 1) := by decide +kernel
theorem dX11_common_29 : decode cX11_common 29 = .ok (.aload_n 0, 1) := by decide +kernel
theorem dX11_common_30 : decode cX11_common 30 = .ok (.getfield 32, 3) := by decide +kernel
theorem dX11_common_33 : decode cX11_common 33 = .ok (.iload_n 1, 1) := by decide +kernel
theorem dX11_common_34 : decode cX11_common 34 = .ok (.invokevirtual 143, 3) := by decide +kernel
theorem dX11_common_37 : decode cX11_common 37 = .ok (.aload_n 0, 1) := by decide +kernel
theorem dX11_common_38 : decode cX11_common 38 = .ok (.getfield 32, 3) := by decide +kernel
theorem dX11_common_41 : decode cX11_common 41 = .ok (.iload_n 2, 1) := by decide +kernel
theorem dX11_common_42 : decode cX11_common 42 = .ok (.invokevirtual 143, 3) := by decide +kernel
theorem dX11_common_45 : decode cX11_common 45 = .ok (.invokevirtual 379, 3) := by decide +kernel
theorem dX11_common_48 : decode cX11_common 48 = .ok (.invokevirtual 114, 3) := by decide +kernel
theorem dX11_common_51 : decode cX11_common 51 = .ok (.ireturn, 1) := by decide +kernel
def f_X11_common (v1 : Int32) (v2 : Int32) (σ : gSt) : Option (Int32 × gSt) :=
  (f_X4_hasCourse 1 v1 σ).bind fun p5 =>
  if p5.1 = 0 then
    (f_X11_refused 1 p5.2).bind fun p24 =>
    some (p24.1, p24.2)
  else
    (f_X4_hasCourse 1 v2 p5.2).bind fun p16 =>
    if p16.1 = 0 then
      (f_X11_refused 1 p16.2).bind fun p24 =>
      some (p24.1, p24.2)
    else
      (f_X4_courseAt 1 v1 p16.2).bind fun p34 =>
      (f_X4_courseAt 1 v2 p34.2).bind fun p42 =>
      (f_X1_pairsAlsoIn p34.1 p42.1 p42.2).bind fun p45 =>
      (f_X11_answered p45.1 p45.2).bind fun p48 =>
      some (p48.1, p48.2)
theorem f_X11_common_ok {v1 : Int32} {v2 : Int32}  {σ : gSt} {r : (Int32 × gSt)} (h : f_X11_common v1 v2 σ = some r) : Mt l w 0 41 yX11_common cX11_common 3 (some .int) 4 92 [.ref (w.2.1 0 0), .int v1, .int v2] σ (gE (some (.int r.1)) r.2) := by
  unfold f_X11_common at h
  refine g_start pn_X11 rfl rfl (Nat.le_of_ble_eq_true rfl) ?_
  show G l w 0 41 RX11 cX11_common 3 (some .int) 4 92 (gE (some (.int r.1)) r.2) 0 [some (.ref (w.2.1 0 0)), some (.int v1), some (.int v2)] [] σ
  refine g_aload_n dX11_common_0 rfl ?_
  refine gR_X11_32 ok_0 dX11_common_1 ?_
  refine g_iload_n dX11_common_4 rfl ?_
  obtain ⟨p5, e5, h⟩ := obind h
  refine g_vP1 mv_X11_140 dX11_common_5 (ok_3 (by decide)) ⟨by decide, by decide⟩ (Nat.le_of_ble_eq_true rfl) (f_X4_hasCourse_ok (by decide) e5) ?_
  refine g_if_eq 22 dX11_common_8 rfl (fun q => ?_) (fun q => ?_)
  · replace h := gif_t q h
    refine g_aload_n dX11_common_22 rfl ?_
    refine g_iconst dX11_common_23 kc_1 ?_
    obtain ⟨p24, e24, h⟩ := obind h
    refine g_vP1 mv_X11_91 dX11_common_24 ok_0 ⟨by decide, by decide⟩ (Nat.le_of_ble_eq_true rfl) (f_X11_refused_ok e24) ?_
    cases h
    exact g_iret dX11_common_27 rfl ⟨rfl, rfl⟩
  · replace h := gif_f q h
    refine g_aload_n dX11_common_11 rfl ?_
    refine gR_X11_32 ok_0 dX11_common_12 ?_
    refine g_iload_n dX11_common_15 rfl ?_
    obtain ⟨p16, e16, h⟩ := obind h
    refine g_vP1 mv_X11_140 dX11_common_16 (ok_3 (by decide)) ⟨by decide, by decide⟩ (Nat.le_of_ble_eq_true rfl) (f_X4_hasCourse_ok (by decide) e16) ?_
    refine g_if_ne 28 dX11_common_19 rfl (fun q => ?_) (fun q => ?_)
    · replace h := gif_f q h
      refine g_aload_n dX11_common_28 rfl ?_
      refine g_aload_n dX11_common_29 rfl ?_
      refine gR_X11_32 ok_0 dX11_common_30 ?_
      refine g_iload_n dX11_common_33 rfl ?_
      obtain ⟨p34, e34, h⟩ := obind h
      refine g_vR1 mv_X11_143 dX11_common_34 (ok_3 (by decide)) ⟨by decide, by decide⟩ (Nat.le_of_ble_eq_true rfl) (f_X4_courseAt_ok (by decide) e34) (fun b34 => ?_)
      refine g_aload_n dX11_common_37 rfl ?_
      refine gR_X11_32 ok_0 dX11_common_38 ?_
      refine g_iload_n dX11_common_41 rfl ?_
      obtain ⟨p42, e42, h⟩ := obind h
      refine g_vR1 mv_X11_143 dX11_common_42 (ok_3 (by decide)) ⟨by decide, by decide⟩ (Nat.le_of_ble_eq_true rfl) (f_X4_courseAt_ok (by decide) e42) (fun b42 => ?_)
      obtain ⟨p45, e45, h⟩ := obind h
      refine g_vP1 mv_X11_379 dX11_common_45 (ok_8 b34) ⟨by decide, by decide⟩ (Nat.le_of_ble_eq_true rfl) (f_X1_pairsAlsoIn_ok b34 b42 e45) ?_
      obtain ⟨p48, e48, h⟩ := obind h
      refine g_vP1 mv_X11_114 dX11_common_48 ok_0 ⟨by decide, by decide⟩ (Nat.le_of_ble_eq_true rfl) (f_X11_answered_ok e48) ?_
      cases h
      exact g_iret dX11_common_51 rfl ⟨rfl, rfl⟩
    · replace h := gif_t q h
      refine g_aload_n dX11_common_22 rfl ?_
      refine g_iconst dX11_common_23 kc_1 ?_
      obtain ⟨p24, e24, h⟩ := obind h
      refine g_vP1 mv_X11_91 dX11_common_24 ok_0 ⟨by decide, by decide⟩ (Nat.le_of_ble_eq_true rfl) (f_X11_refused_ok e24) ?_
      cases h
      exact g_iret dX11_common_27 rfl ⟨rfl, rfl⟩
theorem dX11_add_0 : decode cX11_add 0 = .ok (.aload_n 0, 1) := by decide +kernel
theorem dX11_add_1 : decode cX11_add 1 = .ok (.getfield 32, 3) := by decide +kernel
theorem dX11_add_4 : decode cX11_add 4 = .ok (.iload_n 1, 1) := by decide +kernel
theorem dX11_add_5 : decode cX11_add 5 = .ok (.invokevirtual 171, 3) := by decide +kernel
theorem dX11_add_8 : decode cX11_add 8 = .ok (.ifCond .ne 9, 3) := by decide +kernel
theorem dX11_add_11 : decode cX11_add 11 = .ok (.aload_n 0, 1) := by decide +kernel
theorem dX11_add_12 : decode cX11_add 12 = .ok (.iconst 1, 1) := by decide +kernel
theorem dX11_add_13 : decode cX11_add 13 = .ok (.invokevirtual 91, 3) := by decide +kernel
theorem dX11_add_16 : decode cX11_add 16 = .ok (.ireturn, 1) := by decide +kernel
theorem dX11_add_17 : decode cX11_add 17 = .ok (.aload_n 0, 1) := by decide +kernel
theorem dX11_add_18 : decode cX11_add 18 = .ok (.getfield 32, 3) := by decide +kernel
theorem dX11_add_21 : decode cX11_add 21 = .ok (.iload_n 1, 1) := by decide +kernel
theorem dX11_add_22 : decode cX11_add 22 = .ok (.invokevirtual 174, 3) := by decide +kernel
theorem dX11_add_25 : decode cX11_add 25 = .ok (.astore 4, 2) := by decide +kernel
theorem dX11_add_27 : decode cX11_add 27 = .ok (.iload_n 2, 1) := by decide +kernel
theorem dX11_add_28 : decode cX11_add 28 = .ok (.invokestatic 314, 3) := by decide +kernel
theorem dX11_add_31 : decode cX11_add 31 = .ok (.ifCond .eq 21, 3) := by decide +kernel
theorem dX11_add_34 : decode cX11_add 34 = .ok (.iload_n 3, 1) := by decide +kernel
theorem dX11_add_35 : decode cX11_add 35 = .ok (.aload 4, 2) := by decide +kernel
theorem dX11_add_37 : decode cX11_add 37 = .ok (.getfield 183, 3) := by decide +kernel
theorem dX11_add_40 : decode cX11_add 40 = .ok (.if_icmp .lt 12, 3) := by decide +kernel
theorem dX11_add_43 : decode cX11_add 43 = .ok (.iload_n 3, 1) := by decide +kernel
theorem dX11_add_44 : decode cX11_add 44 = .ok (.aload 4, 2) := by decide +kernel
theorem dX11_add_46 : decode cX11_add 46 = .ok (.getfield 186, 3) := by decide +kernel
theorem dX11_add_49 : decode cX11_add 49 = .ok (.if_icmp .le 9, 3) := by decide +kernel
theorem dX11_add_52 : decode cX11_add 52 = .ok (.aload_n 0, 1) := by decide +kernel
theorem dX11_add_53 : decode cX11_add 53 = .ok (.iconst 2, 1) := by decide +kernel
theorem dX11_add_54 : decode cX11_add 54 = .ok (.invokevirtual 91, 3) := by decide +kernel
theorem dX11_add_57 : decode cX11_add 57 = .ok (.ireturn, 1) := by decide +kernel
theorem dX11_add_58 : decode cX11_add 58 = .ok (.aload 4, 2) := by decide +kernel
theorem dX11_add_60 : decode cX11_add 60 = .ok (.getfield 192, 3) := by decide +kernel
theorem dX11_add_63 : decode cX11_add 63 = .ok (.bipush 16, 2) := by decide +kernel
theorem dX11_add_65 : decode cX11_add 65 = .ok (.if_icmp .lt 9, 3) := by decide +kernel
theorem dX11_add_68 : decode cX11_add 68 = .ok (.aload_n 0, 1) := by decide +kernel
theorem dX11_add_69 : decode cX11_add 69 = .ok (.iconst 3, 1) := by decide +kernel
theorem dX11_add_70 : decode cX11_add 70 = .ok (.invokevirtual 91, 3) := by decide +kernel
theorem dX11_add_73 : decode cX11_add 73 = .ok (.ireturn, 1) := by decide +kernel
theorem dX11_add_74 : decode cX11_add 74 = .ok (.aload 4, 2) := by decide +kernel
theorem dX11_add_76 : decode cX11_add 76 = .ok (.iload_n 3, 1) := by decide +kernel
theorem dX11_add_77 : decode cX11_add 77 = .ok (.invokevirtual 383, 3) := by decide +kernel
theorem dX11_add_80 : decode cX11_add 80 = .ok (.istore 5, 2) := by decide +kernel
theorem dX11_add_82 : decode cX11_add 82 = .ok (.aload_n 0, 1) := by decide +kernel
theorem dX11_add_83 : decode cX11_add 83 = .ok (.getfield 32, 3) := by decide +kernel
theorem dX11_add_86 : decode cX11_add 86 = .ok (.iload_n 1, 1) := by decide +kernel
theorem dX11_add_87 : decode cX11_add 87 = .ok (.iload 5, 2) := by decide +kernel
theorem dX11_add_89 : decode cX11_add 89 = .ok (.iload_n 2, 1) := by decide +kernel
theorem dX11_add_90 : decode cX11_add 90 = .ok (.iload_n 3, 1) := by decide +kernel
theorem dX11_add_91 : decode cX11_add 91 = .ok (.invokevirtual 386, 3) := by decide +kernel
theorem dX11_add_94 : decode cX11_add 94 = .ok (.aload_n 0, 1) := by decide +kernel
theorem dX11_add_95 : decode cX11_add 95 = .ok (.getfield 70, 3) := by decide +kernel
theorem dX11_add_98 : decode cX11_add 98 = .ok (.iconst 0, 1) := by decide +kernel
theorem dX11_add_99 : decode cX11_add 99 = .ok (.iload_n 1, 1) := by decide +kernel
theorem dX11_add_100 : decode cX11_add 100 = .ok (.iload 5, 2) := by decide +kernel
theorem dX11_add_102 : decode cX11_add 102 = .ok (.iconst 0, 1) := by decide +kernel
theorem dX11_add_103 : decode cX11_add 103 = .ok (.iconst 0, 1) := by decide +kernel
theorem dX11_add_104 : decode cX11_add 104 = .ok (.invokevirtual 390, 3) := by decide +kernel
theorem dX11_add_107 : decode cX11_add 107 = .ok (.aload_n 0, 1) := by decide +kernel
theorem dX11_add_108 : decode cX11_add 108 = .ok (.iload 5, 2) := by decide +kernel
theorem dX11_add_110 : decode cX11_add 110 = .ok (.invokevirtual 114, 3) := by decide +kernel
theorem dX11_add_113 : decode cX11_add 113 = .ok (.ireturn, 1) := by decide +kernel
def f_X11_add (v1 : Int32) (v2 : Int32) (v3 : Int32) (σ : gSt) : Option (Int32 × gSt) :=
  (f_X4_hasRunner 1 v1 σ).bind fun p5 =>
  if p5.1 = 0 then
    (f_X11_refused 1 p5.2).bind fun p13 =>
    some (p13.1, p13.2)
  else
    (f_X4_runnerAt 1 v1 p5.2).bind fun p22 =>
    (f_X11_isCode v2 p22.2).bind fun p28 =>
    if p28.1 = 0 then
      (f_X11_refused 2 p28.2).bind fun p54 =>
      some (p54.1, p54.2)
    else
      if v3 < (p28.2 10 p22.1 6) then
        (f_X11_refused 2 p28.2).bind fun p54 =>
        some (p54.1, p54.2)
      else
        if v3 ≤ (p28.2 10 p22.1 7) then
          if (p28.2 10 p22.1 8) < 16 then
            (f_X9_placeFor p22.1 v3 p28.2).bind fun p77 =>
            (f_X4_insertPunch 1 v1 p77.1 v2 v3 p77.2).bind fun z91 =>
            (f_X0_keep 0 v1 p77.1 0 0 z91).bind fun z104 =>
            (f_X11_answered p77.1 z104).bind fun p110 =>
            some (p110.1, p110.2)
          else
            (f_X11_refused 3 p28.2).bind fun p70 =>
            some (p70.1, p70.2)
        else
          (f_X11_refused 2 p28.2).bind fun p54 =>
          some (p54.1, p54.2)
theorem f_X11_add_ok {v1 : Int32} {v2 : Int32} {v3 : Int32}  {σ : gSt} {r : (Int32 × gSt)} (h : f_X11_add v1 v2 v3 σ = some r) : Mt l w 0 41 yX11_add cX11_add 6 (some .int) 5 118 [.ref (w.2.1 0 0), .int v1, .int v2, .int v3] σ (gE (some (.int r.1)) r.2) := by
  unfold f_X11_add at h
  refine g_start pn_X11 rfl rfl (Nat.le_of_ble_eq_true rfl) ?_
  show G l w 0 41 RX11 cX11_add 6 (some .int) 5 118 (gE (some (.int r.1)) r.2) 0 [some (.ref (w.2.1 0 0)), some (.int v1), some (.int v2), some (.int v3), none, none] [] σ
  refine g_aload_n dX11_add_0 rfl ?_
  refine gR_X11_32 ok_0 dX11_add_1 ?_
  refine g_iload_n dX11_add_4 rfl ?_
  obtain ⟨p5, e5, h⟩ := obind h
  refine g_vP1 mv_X11_171 dX11_add_5 (ok_3 (by decide)) ⟨by decide, by decide⟩ (Nat.le_of_ble_eq_true rfl) (f_X4_hasRunner_ok (by decide) e5) ?_
  refine g_if_ne 17 dX11_add_8 rfl (fun q => ?_) (fun q => ?_)
  · replace h := gif_f q h
    refine g_aload_n dX11_add_17 rfl ?_
    refine gR_X11_32 ok_0 dX11_add_18 ?_
    refine g_iload_n dX11_add_21 rfl ?_
    obtain ⟨p22, e22, h⟩ := obind h
    refine g_vR1 mv_X11_174 dX11_add_22 (ok_3 (by decide)) ⟨by decide, by decide⟩ (Nat.le_of_ble_eq_true rfl) (f_X4_runnerAt_ok (by decide) e22) (fun b22 => ?_)
    refine g_astore4 dX11_add_25 ?_
    refine g_iload_n dX11_add_27 rfl ?_
    obtain ⟨p28, e28, h⟩ := obind h
    refine g_sP1 ms_X11_314 dX11_add_28 ⟨by decide, by decide⟩ (Nat.le_of_ble_eq_true rfl) (f_X11_isCode_ok e28) ?_
    refine g_if_eq 52 dX11_add_31 rfl (fun q => ?_) (fun q => ?_)
    · replace h := gif_t q h
      refine g_aload_n dX11_add_52 rfl ?_
      refine g_iconst dX11_add_53 kc_2 ?_
      obtain ⟨p54, e54, h⟩ := obind h
      refine g_vP1 mv_X11_91 dX11_add_54 ok_0 ⟨by decide, by decide⟩ (Nat.le_of_ble_eq_true rfl) (f_X11_refused_ok e54) ?_
      cases h
      exact g_iret dX11_add_57 rfl ⟨rfl, rfl⟩
    · replace h := gif_f q h
      refine g_iload_n dX11_add_34 rfl ?_
      refine g_aload dX11_add_35 rfl ?_
      refine gI_X11_183 (ok_10 b22) dX11_add_37 ?_
      refine g_icmp_lt 52 dX11_add_40 rfl (fun q => ?_) (fun q => ?_)
      · replace h := gif_t q h
        refine g_aload_n dX11_add_52 rfl ?_
        refine g_iconst dX11_add_53 kc_2 ?_
        obtain ⟨p54, e54, h⟩ := obind h
        refine g_vP1 mv_X11_91 dX11_add_54 ok_0 ⟨by decide, by decide⟩ (Nat.le_of_ble_eq_true rfl) (f_X11_refused_ok e54) ?_
        cases h
        exact g_iret dX11_add_57 rfl ⟨rfl, rfl⟩
      · replace h := gif_f q h
        refine g_iload_n dX11_add_43 rfl ?_
        refine g_aload dX11_add_44 rfl ?_
        refine gI_X11_186 (ok_10 b22) dX11_add_46 ?_
        refine g_icmp_le 58 dX11_add_49 rfl (fun q => ?_) (fun q => ?_)
        · replace h := gif_t q h
          refine g_aload dX11_add_58 rfl ?_
          refine gI_X11_192 (ok_10 b22) dX11_add_60 ?_
          refine g_bipush dX11_add_63 kb_16 ?_
          refine g_icmp_lt 74 dX11_add_65 rfl (fun q => ?_) (fun q => ?_)
          · replace h := gif_t q h
            refine g_aload dX11_add_74 rfl ?_
            refine g_iload_n dX11_add_76 rfl ?_
            obtain ⟨p77, e77, h⟩ := obind h
            refine g_vP1 mv_X11_383 dX11_add_77 (ok_10 b22) ⟨by decide, by decide⟩ (Nat.le_of_ble_eq_true rfl) (f_X9_placeFor_ok b22 e77) ?_
            refine g_istore5 dX11_add_80 ?_
            refine g_aload_n dX11_add_82 rfl ?_
            refine gR_X11_32 ok_0 dX11_add_83 ?_
            refine g_iload_n dX11_add_86 rfl ?_
            refine g_iload dX11_add_87 rfl ?_
            refine g_iload_n dX11_add_89 rfl ?_
            refine g_iload_n dX11_add_90 rfl ?_
            obtain ⟨z91, e91, h⟩ := obind h
            refine g_vU4 mv_X11_386 dX11_add_91 (ok_3 (by decide)) ⟨by decide, by decide⟩ (Nat.le_of_ble_eq_true rfl) (f_X4_insertPunch_ok (by decide) e91) ?_
            refine g_aload_n dX11_add_94 rfl ?_
            refine gR_X11_70 ok_0 dX11_add_95 ?_
            refine g_iconst dX11_add_98 kc_0 ?_
            refine g_iload_n dX11_add_99 rfl ?_
            refine g_iload dX11_add_100 rfl ?_
            refine g_iconst dX11_add_102 kc_0 ?_
            refine g_iconst dX11_add_103 kc_0 ?_
            obtain ⟨z104, e104, h⟩ := obind h
            refine g_vU5 mv_X11_390 dX11_add_104 ok_26 ⟨by decide, by decide⟩ (Nat.le_of_ble_eq_true rfl) (f_X0_keep_ok e104) ?_
            refine g_aload_n dX11_add_107 rfl ?_
            refine g_iload dX11_add_108 rfl ?_
            obtain ⟨p110, e110, h⟩ := obind h
            refine g_vP1 mv_X11_114 dX11_add_110 ok_0 ⟨by decide, by decide⟩ (Nat.le_of_ble_eq_true rfl) (f_X11_answered_ok e110) ?_
            cases h
            exact g_iret dX11_add_113 rfl ⟨rfl, rfl⟩
          · replace h := gif_f q h
            refine g_aload_n dX11_add_68 rfl ?_
            refine g_iconst dX11_add_69 kc_3 ?_
            obtain ⟨p70, e70, h⟩ := obind h
            refine g_vP1 mv_X11_91 dX11_add_70 ok_0 ⟨by decide, by decide⟩ (Nat.le_of_ble_eq_true rfl) (f_X11_refused_ok e70) ?_
            cases h
            exact g_iret dX11_add_73 rfl ⟨rfl, rfl⟩
        · replace h := gif_f q h
          refine g_aload_n dX11_add_52 rfl ?_
          refine g_iconst dX11_add_53 kc_2 ?_
          obtain ⟨p54, e54, h⟩ := obind h
          refine g_vP1 mv_X11_91 dX11_add_54 ok_0 ⟨by decide, by decide⟩ (Nat.le_of_ble_eq_true rfl) (f_X11_refused_ok e54) ?_
          cases h
          exact g_iret dX11_add_57 rfl ⟨rfl, rfl⟩
  · replace h := gif_t q h
    refine g_aload_n dX11_add_11 rfl ?_
    refine g_iconst dX11_add_12 kc_1 ?_
    obtain ⟨p13, e13, h⟩ := obind h
    refine g_vP1 mv_X11_91 dX11_add_13 ok_0 ⟨by decide, by decide⟩ (Nat.le_of_ble_eq_true rfl) (f_X11_refused_ok e13) ?_
    cases h
    exact g_iret dX11_add_16 rfl ⟨rfl, rfl⟩
theorem dX11_drop_0 : decode cX11_drop 0 = .ok (.aload_n 0, 1) := by decide +kernel
theorem dX11_drop_1 : decode cX11_drop 1 = .ok (.getfield 32, 3) := by decide +kernel
theorem dX11_drop_4 : decode cX11_drop 4 = .ok (.iload_n 1, 1) := by decide +kernel
theorem dX11_drop_5 : decode cX11_drop 5 = .ok (.iload_n 2, 1) := by decide +kernel
theorem dX11_drop_6 : decode cX11_drop 6 = .ok (.invokevirtual 206, 3) := by decide +kernel
theorem dX11_drop_9 : decode cX11_drop 9 = .ok (.ifCond .ne 9, 3) := by decide +kernel
theorem dX11_drop_12 : decode cX11_drop 12 = .ok (.aload_n 0, 1) := by decide +kernel
theorem dX11_drop_13 : decode cX11_drop 13 = .ok (.iconst 1, 1) := by decide +kernel
theorem dX11_drop_14 : decode cX11_drop 14 = .ok (.invokevirtual 91, 3) := by decide +kernel
theorem dX11_drop_17 : decode cX11_drop 17 = .ok (.ireturn, 1) := by decide +kernel
theorem dX11_drop_18 : decode cX11_drop 18 = .ok (.aload_n 0, 1) := by decide +kernel
theorem dX11_drop_19 : decode cX11_drop 19 = .ok (.getfield 32, 3) := by decide +kernel
theorem dX11_drop_22 : decode cX11_drop 22 = .ok (.iload_n 1, 1) := by decide +kernel
theorem dX11_drop_23 : decode cX11_drop 23 = .ok (.invokevirtual 174, 3) := by decide +kernel
theorem dX11_drop_26 : decode cX11_drop 26 = .ok (.astore_n 3, 1) := by decide +kernel
theorem dX11_drop_27 : decode cX11_drop 27 = .ok (.aload_n 3, 1) := by decide +kernel
theorem dX11_drop_28 : decode cX11_drop 28 = .ok (.iload_n 2, 1) := by decide +kernel
theorem dX11_drop_29 : decode cX11_drop 29 = .ok (.invokevirtual 209, 3) := by decide +kernel
theorem dX11_drop_32 : decode cX11_drop 32 = .ok (.istore 4, 2) := by decide +kernel
theorem dX11_drop_34 : decode cX11_drop 34 = .ok (.aload_n 0, 1) := by decide +kernel
theorem dX11_drop_35 : decode cX11_drop 35 = .ok (.getfield 70, 3) := by decide +kernel
theorem dX11_drop_38 : decode cX11_drop 38 = .ok (.iconst 1, 1) := by decide +kernel
theorem dX11_drop_39 : decode cX11_drop 39 = .ok (.iload_n 1, 1) := by decide +kernel
theorem dX11_drop_40 : decode cX11_drop 40 = .ok (.iload_n 2, 1) := by decide +kernel
theorem dX11_drop_41 : decode cX11_drop 41 = .ok (.iload 4, 2) := by decide +kernel
theorem dX11_drop_43 : decode cX11_drop 43 = .ok (.aload_n 3, 1) := by decide +kernel
theorem dX11_drop_44 : decode cX11_drop 44 = .ok (.iload_n 2, 1) := by decide +kernel
theorem dX11_drop_45 : decode cX11_drop 45 = .ok (.invokevirtual 212, 3) := by decide +kernel
theorem dX11_drop_48 : decode cX11_drop 48 = .ok (.invokevirtual 390, 3) := by decide +kernel
theorem dX11_drop_51 : decode cX11_drop 51 = .ok (.aload_n 0, 1) := by decide +kernel
theorem dX11_drop_52 : decode cX11_drop 52 = .ok (.getfield 32, 3) := by decide +kernel
theorem dX11_drop_55 : decode cX11_drop 55 = .ok (.iload_n 1, 1) := by decide +kernel
theorem dX11_drop_56 : decode cX11_drop 56 = .ok (.iload_n 2, 1) := by decide +kernel
theorem dX11_drop_57 : decode cX11_drop 57 = .ok (.invokevirtual 394, 3) := by decide +kernel
theorem dX11_drop_60 : decode cX11_drop 60 = .ok (.aload_n 0, 1) := by decide +kernel
theorem dX11_drop_61 : decode cX11_drop 61 = .ok (.iload 4, 2) := by decide +kernel
theorem dX11_drop_63 : decode cX11_drop 63 = .ok (.invokevirtual 114, 3) := by decide +kernel
theorem dX11_drop_66 : decode cX11_drop 66 = .ok (.ireturn, 1) := by decide +kernel
def f_X11_drop (v1 : Int32) (v2 : Int32) (σ : gSt) : Option (Int32 × gSt) :=
  (f_X4_hasPunch 1 v1 v2 σ).bind fun p6 =>
  if p6.1 = 0 then
    (f_X11_refused 1 p6.2).bind fun p14 =>
    some (p14.1, p14.2)
  else
    (f_X4_runnerAt 1 v1 p6.2).bind fun p23 =>
    (f_X9_codeOf p23.1 v2 p23.2).bind fun p29 =>
    (f_X9_timeOf p23.1 v2 p29.2).bind fun p45 =>
    (f_X0_keep 1 v1 v2 p29.1 p45.1 p45.2).bind fun z48 =>
    (f_X4_removePunch 1 v1 v2 z48).bind fun z57 =>
    (f_X11_answered p29.1 z57).bind fun p63 =>
    some (p63.1, p63.2)
theorem f_X11_drop_ok {v1 : Int32} {v2 : Int32}  {σ : gSt} {r : (Int32 × gSt)} (h : f_X11_drop v1 v2 σ = some r) : Mt l w 0 41 yX11_drop cX11_drop 5 (some .int) 5 116 [.ref (w.2.1 0 0), .int v1, .int v2] σ (gE (some (.int r.1)) r.2) := by
  unfold f_X11_drop at h
  refine g_start pn_X11 rfl rfl (Nat.le_of_ble_eq_true rfl) ?_
  show G l w 0 41 RX11 cX11_drop 5 (some .int) 5 116 (gE (some (.int r.1)) r.2) 0 [some (.ref (w.2.1 0 0)), some (.int v1), some (.int v2), none, none] [] σ
  refine g_aload_n dX11_drop_0 rfl ?_
  refine gR_X11_32 ok_0 dX11_drop_1 ?_
  refine g_iload_n dX11_drop_4 rfl ?_
  refine g_iload_n dX11_drop_5 rfl ?_
  obtain ⟨p6, e6, h⟩ := obind h
  refine g_vP2 mv_X11_206 dX11_drop_6 (ok_3 (by decide)) ⟨by decide, by decide⟩ (Nat.le_of_ble_eq_true rfl) (f_X4_hasPunch_ok (by decide) e6) ?_
  refine g_if_ne 18 dX11_drop_9 rfl (fun q => ?_) (fun q => ?_)
  · replace h := gif_f q h
    refine g_aload_n dX11_drop_18 rfl ?_
    refine gR_X11_32 ok_0 dX11_drop_19 ?_
    refine g_iload_n dX11_drop_22 rfl ?_
    obtain ⟨p23, e23, h⟩ := obind h
    refine g_vR1 mv_X11_174 dX11_drop_23 (ok_3 (by decide)) ⟨by decide, by decide⟩ (Nat.le_of_ble_eq_true rfl) (f_X4_runnerAt_ok (by decide) e23) (fun b23 => ?_)
    refine g_astore3 dX11_drop_26 ?_
    refine g_aload_n dX11_drop_27 rfl ?_
    refine g_iload_n dX11_drop_28 rfl ?_
    obtain ⟨p29, e29, h⟩ := obind h
    refine g_vP1 mv_X11_209 dX11_drop_29 (ok_10 b23) ⟨by decide, by decide⟩ (Nat.le_of_ble_eq_true rfl) (f_X9_codeOf_ok b23 e29) ?_
    refine g_istore4 dX11_drop_32 ?_
    refine g_aload_n dX11_drop_34 rfl ?_
    refine gR_X11_70 ok_0 dX11_drop_35 ?_
    refine g_iconst dX11_drop_38 kc_1 ?_
    refine g_iload_n dX11_drop_39 rfl ?_
    refine g_iload_n dX11_drop_40 rfl ?_
    refine g_iload dX11_drop_41 rfl ?_
    refine g_aload_n dX11_drop_43 rfl ?_
    refine g_iload_n dX11_drop_44 rfl ?_
    obtain ⟨p45, e45, h⟩ := obind h
    refine g_vP1 mv_X11_212 dX11_drop_45 (ok_10 b23) ⟨by decide, by decide⟩ (Nat.le_of_ble_eq_true rfl) (f_X9_timeOf_ok b23 e45) ?_
    obtain ⟨z48, e48, h⟩ := obind h
    refine g_vU5 mv_X11_390 dX11_drop_48 ok_26 ⟨by decide, by decide⟩ (Nat.le_of_ble_eq_true rfl) (f_X0_keep_ok e48) ?_
    refine g_aload_n dX11_drop_51 rfl ?_
    refine gR_X11_32 ok_0 dX11_drop_52 ?_
    refine g_iload_n dX11_drop_55 rfl ?_
    refine g_iload_n dX11_drop_56 rfl ?_
    obtain ⟨z57, e57, h⟩ := obind h
    refine g_vU2 mv_X11_394 dX11_drop_57 (ok_3 (by decide)) ⟨by decide, by decide⟩ (Nat.le_of_ble_eq_true rfl) (f_X4_removePunch_ok (by decide) e57) ?_
    refine g_aload_n dX11_drop_60 rfl ?_
    refine g_iload dX11_drop_61 rfl ?_
    obtain ⟨p63, e63, h⟩ := obind h
    refine g_vP1 mv_X11_114 dX11_drop_63 ok_0 ⟨by decide, by decide⟩ (Nat.le_of_ble_eq_true rfl) (f_X11_answered_ok e63) ?_
    cases h
    exact g_iret dX11_drop_66 rfl ⟨rfl, rfl⟩
  · replace h := gif_t q h
    refine g_aload_n dX11_drop_12 rfl ?_
    refine g_iconst dX11_drop_13 kc_1 ?_
    obtain ⟨p14, e14, h⟩ := obind h
    refine g_vP1 mv_X11_91 dX11_drop_14 ok_0 ⟨by decide, by decide⟩ (Nat.le_of_ble_eq_true rfl) (f_X11_refused_ok e14) ?_
    cases h
    exact g_iret dX11_drop_17 rfl ⟨rfl, rfl⟩
theorem dX11_start_0 : decode cX11_start 0 = .ok (.aload_n 0, 1) := by decide +kernel
theorem dX11_start_1 : decode cX11_start 1 = .ok (.getfield 32, 3) := by decide +kernel
theorem dX11_start_4 : decode cX11_start 4 = .ok (.iload_n 1, 1) := by decide +kernel
theorem dX11_start_5 : decode cX11_start 5 = .ok (.invokevirtual 171, 3) := by decide +kernel
theorem dX11_start_8 : decode cX11_start 8 = .ok (.ifCond .ne 9, 3) := by decide +kernel
theorem dX11_start_11 : decode cX11_start 11 = .ok (.aload_n 0, 1) := by decide +kernel
theorem dX11_start_12 : decode cX11_start 12 = .ok (.iconst 1, 1) := by decide +kernel
theorem dX11_start_13 : decode cX11_start 13 = .ok (.invokevirtual 91, 3) := by decide +kernel
theorem dX11_start_16 : decode cX11_start 16 = .ok (.ireturn, 1) := by decide +kernel
theorem dX11_start_17 : decode cX11_start 17 = .ok (.aload_n 0, 1) := by decide +kernel
theorem dX11_start_18 : decode cX11_start 18 = .ok (.getfield 32, 3) := by decide +kernel
theorem dX11_start_21 : decode cX11_start 21 = .ok (.iload_n 1, 1) := by decide +kernel
theorem dX11_start_22 : decode cX11_start 22 = .ok (.invokevirtual 174, 3) := by decide +kernel
theorem dX11_start_25 : decode cX11_start 25 = .ok (.astore_n 3, 1) := by decide +kernel
theorem dX11_start_26 : decode cX11_start 26 = .ok (.iload_n 2, 1) := by decide +kernel
theorem dX11_start_27 : decode cX11_start 27 = .ok (.ifCond .lt 11, 3) := by decide +kernel
theorem dX11_start_30 : decode cX11_start 30 = .ok (.iload_n 2, 1) := by decide +kernel
theorem dX11_start_31 : decode cX11_start 31 = .ok (.aload_n 3, 1) := by decide +kernel
theorem dX11_start_32 : decode cX11_start 32 = .ok (.getfield 186, 3) := by decide +kernel
theorem dX11_start_35 : decode cX11_start 35 = .ok (.if_icmp .lt 9, 3) := by decide +kernel
theorem dX11_start_38 : decode cX11_start 38 = .ok (.aload_n 0, 1) := by decide +kernel
theorem dX11_start_39 : decode cX11_start 39 = .ok (.iconst 2, 1) := by decide +kernel
theorem dX11_start_40 : decode cX11_start 40 = .ok (.invokevirtual 91, 3) := by decide +kernel
theorem dX11_start_43 : decode cX11_start 43 = .ok (.ireturn, 1) := by decide +kernel
theorem dX11_start_44 : decode cX11_start 44 = .ok (.aload_n 3, 1) := by decide +kernel
theorem dX11_start_45 : decode cX11_start 45 = .ok (.getfield 192, 3) := by decide +kernel
theorem dX11_start_48 : decode cX11_start 48 = .ok (.ifCond .le 18, 3) := by decide +kernel
theorem dX11_start_51 : decode cX11_start 51 = .ok (.aload_n 3, 1) := by decide +kernel
theorem dX11_start_52 : decode cX11_start 52 = .ok (.iconst 0, 1) := by decide +kernel
theorem dX11_start_53 : decode cX11_start 53 = .ok (.invokevirtual 212, 3) := by decide +kernel
theorem dX11_start_56 : decode cX11_start 56 = .ok (.iload_n 2, 1) := by decide +kernel
theorem dX11_start_57 : decode cX11_start 57 = .ok (.if_icmp .ge 9, 3) := by decide +kernel
theorem dX11_start_60 : decode cX11_start 60 = .ok (.aload_n 0, 1) := by decide +kernel
theorem dX11_start_61 : decode cX11_start 61 = .ok (.iconst 5, 1) := by decide +kernel
theorem dX11_start_62 : decode cX11_start 62 = .ok (.invokevirtual 91, 3) := by decide +kernel
theorem dX11_start_65 : decode cX11_start 65 = .ok (.ireturn, 1) := by decide +kernel
theorem dX11_start_66 : decode cX11_start 66 = .ok (.aload_n 3, 1) := by decide +kernel
theorem dX11_start_67 : decode cX11_start 67 = .ok (.getfield 183, 3) := by decide +kernel
theorem dX11_start_70 : decode cX11_start 70 = .ok (.istore 4, 2) := by decide +kernel
theorem dX11_start_72 : decode cX11_start 72 = .ok (.aload_n 3, 1) := by decide +kernel
theorem dX11_start_73 : decode cX11_start 73 = .ok (.iload_n 2, 1) := by decide +kernel
theorem dX11_start_74 : decode cX11_start 74 = .ok (.putfield 183, 3) := by decide +kernel
theorem dX11_start_77 : decode cX11_start 77 = .ok (.aload_n 0, 1) := by decide +kernel
theorem dX11_start_78 : decode cX11_start 78 = .ok (.getfield 70, 3) := by decide +kernel
theorem dX11_start_81 : decode cX11_start 81 = .ok (.iconst 2, 1) := by decide +kernel
theorem dX11_start_82 : decode cX11_start 82 = .ok (.iload_n 1, 1) := by decide +kernel
theorem dX11_start_83 : decode cX11_start 83 = .ok (.iload 4, 2) := by decide +kernel
theorem dX11_start_85 : decode cX11_start 85 = .ok (.iconst 0, 1) := by decide +kernel
theorem dX11_start_86 : decode cX11_start 86 = .ok (.iconst 0, 1) := by decide +kernel
theorem dX11_start_87 : decode cX11_start 87 = .ok (.invokevirtual 390, 3) := by decide +kernel
theorem dX11_start_90 : decode cX11_start 90 = .ok (.aload_n 0, 1) := by decide +kernel
theorem dX11_start_91 : decode cX11_start 91 = .ok (.iload 4, 2) := by decide +kernel
theorem dX11_start_93 : decode cX11_start 93 = .ok (.invokevirtual 114, 3) := by decide +kernel
theorem dX11_start_96 : decode cX11_start 96 = .ok (.ireturn, 1) := by decide +kernel
def f_X11_start_66 (v1 : Int32) (v2 : Int32) (i3 : Nat) (σ : gSt) : Option (Int32 × gSt) :=
  (f_X0_keep 2 v1 (σ 10 i3 6) 0 0 (gup σ 10 i3 6 v2)).bind fun z87 =>
  (f_X11_answered (σ 10 i3 6) z87).bind fun p93 =>
  some (p93.1, p93.2)
def f_X11_start (v1 : Int32) (v2 : Int32) (σ : gSt) : Option (Int32 × gSt) :=
  (f_X4_hasRunner 1 v1 σ).bind fun p5 =>
  if p5.1 = 0 then
    (f_X11_refused 1 p5.2).bind fun p13 =>
    some (p13.1, p13.2)
  else
    (f_X4_runnerAt 1 v1 p5.2).bind fun p22 =>
    if v2 < 0 then
      (f_X11_refused 2 p22.2).bind fun p40 =>
      some (p40.1, p40.2)
    else
      if v2 < (p22.2 10 p22.1 7) then
        if (p22.2 10 p22.1 8) ≤ 0 then
          f_X11_start_66 v1 v2 p22.1 p22.2
        else
          (f_X9_timeOf p22.1 0 p22.2).bind fun p53 =>
          if v2 ≤ p53.1 then
            f_X11_start_66 v1 v2 p22.1 p53.2
          else
            (f_X11_refused 5 p53.2).bind fun p62 =>
            some (p62.1, p62.2)
      else
        (f_X11_refused 2 p22.2).bind fun p40 =>
        some (p40.1, p40.2)
theorem f_X11_start_66_ok {v1 : Int32} {v2 : Int32} {i3 : Nat} {r : (Int32 × gSt)} (hi3 : i3 < 20) {σ : gSt} {x4 : Option Value} (h : f_X11_start_66 v1 v2 i3 σ = some r) : G l w 0 41 RX11 cX11_start 5 (some .int) 2 85 (gE (some (.int r.1)) r.2) 66 [some (.ref (w.2.1 0 0)), some (.int v1), some (.int v2), some (.ref (w.2.1 10 i3)), x4] [] σ := by
  unfold f_X11_start_66 at h
  refine g_aload_n dX11_start_66 rfl ?_
  refine gI_X11_183 (ok_10 hi3) dX11_start_67 ?_
  refine g_istore4 dX11_start_70 ?_
  refine g_aload_n dX11_start_72 rfl ?_
  refine g_iload_n dX11_start_73 rfl ?_
  refine gP_X11_183 (ok_10 hi3) dX11_start_74 ?_
  refine g_aload_n dX11_start_77 rfl ?_
  refine gR_X11_70 ok_0 dX11_start_78 ?_
  refine g_iconst dX11_start_81 kc_2 ?_
  refine g_iload_n dX11_start_82 rfl ?_
  refine g_iload dX11_start_83 rfl ?_
  refine g_iconst dX11_start_85 kc_0 ?_
  refine g_iconst dX11_start_86 kc_0 ?_
  obtain ⟨z87, e87, h⟩ := obind h
  refine g_vU5 mv_X11_390 dX11_start_87 ok_26 ⟨by decide, by decide⟩ (Nat.le_of_ble_eq_true rfl) (f_X0_keep_ok e87) ?_
  refine g_aload_n dX11_start_90 rfl ?_
  refine g_iload dX11_start_91 rfl ?_
  obtain ⟨p93, e93, h⟩ := obind h
  refine g_vP1 mv_X11_114 dX11_start_93 ok_0 ⟨by decide, by decide⟩ (Nat.le_of_ble_eq_true rfl) (f_X11_answered_ok e93) ?_
  cases h
  exact g_iret dX11_start_96 rfl ⟨rfl, rfl⟩
theorem f_X11_start_ok {v1 : Int32} {v2 : Int32}  {σ : gSt} {r : (Int32 × gSt)} (h : f_X11_start v1 v2 σ = some r) : Mt l w 0 41 yX11_start cX11_start 5 (some .int) 2 85 [.ref (w.2.1 0 0), .int v1, .int v2] σ (gE (some (.int r.1)) r.2) := by
  unfold f_X11_start at h
  refine g_start pn_X11 rfl rfl (Nat.le_of_ble_eq_true rfl) ?_
  show G l w 0 41 RX11 cX11_start 5 (some .int) 2 85 (gE (some (.int r.1)) r.2) 0 [some (.ref (w.2.1 0 0)), some (.int v1), some (.int v2), none, none] [] σ
  refine g_aload_n dX11_start_0 rfl ?_
  refine gR_X11_32 ok_0 dX11_start_1 ?_
  refine g_iload_n dX11_start_4 rfl ?_
  obtain ⟨p5, e5, h⟩ := obind h
  refine g_vP1 mv_X11_171 dX11_start_5 (ok_3 (by decide)) ⟨by decide, by decide⟩ (Nat.le_of_ble_eq_true rfl) (f_X4_hasRunner_ok (by decide) e5) ?_
  refine g_if_ne 17 dX11_start_8 rfl (fun q => ?_) (fun q => ?_)
  · replace h := gif_f q h
    refine g_aload_n dX11_start_17 rfl ?_
    refine gR_X11_32 ok_0 dX11_start_18 ?_
    refine g_iload_n dX11_start_21 rfl ?_
    obtain ⟨p22, e22, h⟩ := obind h
    refine g_vR1 mv_X11_174 dX11_start_22 (ok_3 (by decide)) ⟨by decide, by decide⟩ (Nat.le_of_ble_eq_true rfl) (f_X4_runnerAt_ok (by decide) e22) (fun b22 => ?_)
    refine g_astore3 dX11_start_25 ?_
    refine g_iload_n dX11_start_26 rfl ?_
    refine g_if_lt 38 dX11_start_27 rfl (fun q => ?_) (fun q => ?_)
    · replace h := gif_t q h
      refine g_aload_n dX11_start_38 rfl ?_
      refine g_iconst dX11_start_39 kc_2 ?_
      obtain ⟨p40, e40, h⟩ := obind h
      refine g_vP1 mv_X11_91 dX11_start_40 ok_0 ⟨by decide, by decide⟩ (Nat.le_of_ble_eq_true rfl) (f_X11_refused_ok e40) ?_
      cases h
      exact g_iret dX11_start_43 rfl ⟨rfl, rfl⟩
    · replace h := gif_f q h
      refine g_iload_n dX11_start_30 rfl ?_
      refine g_aload_n dX11_start_31 rfl ?_
      refine gI_X11_186 (ok_10 b22) dX11_start_32 ?_
      refine g_icmp_lt 44 dX11_start_35 rfl (fun q => ?_) (fun q => ?_)
      · replace h := gif_t q h
        refine g_aload_n dX11_start_44 rfl ?_
        refine gI_X11_192 (ok_10 b22) dX11_start_45 ?_
        refine g_if_le 66 dX11_start_48 rfl (fun q => ?_) (fun q => ?_)
        · replace h := gif_t q h
          exact f_X11_start_66_ok b22 h
        · replace h := gif_f q h
          refine g_aload_n dX11_start_51 rfl ?_
          refine g_iconst dX11_start_52 kc_0 ?_
          obtain ⟨p53, e53, h⟩ := obind h
          refine g_vP1 mv_X11_212 dX11_start_53 (ok_10 b22) ⟨by decide, by decide⟩ (Nat.le_of_ble_eq_true rfl) (f_X9_timeOf_ok b22 e53) ?_
          refine g_iload_n dX11_start_56 rfl ?_
          refine g_icmp_ge 66 dX11_start_57 rfl (fun q => ?_) (fun q => ?_)
          · replace h := gif_t q h
            exact f_X11_start_66_ok b22 h
          · replace h := gif_f q h
            refine g_aload_n dX11_start_60 rfl ?_
            refine g_iconst dX11_start_61 kc_5 ?_
            obtain ⟨p62, e62, h⟩ := obind h
            refine g_vP1 mv_X11_91 dX11_start_62 ok_0 ⟨by decide, by decide⟩ (Nat.le_of_ble_eq_true rfl) (f_X11_refused_ok e62) ?_
            cases h
            exact g_iret dX11_start_65 rfl ⟨rfl, rfl⟩
      · replace h := gif_f q h
        refine g_aload_n dX11_start_38 rfl ?_
        refine g_iconst dX11_start_39 kc_2 ?_
        obtain ⟨p40, e40, h⟩ := obind h
        refine g_vP1 mv_X11_91 dX11_start_40 ok_0 ⟨by decide, by decide⟩ (Nat.le_of_ble_eq_true rfl) (f_X11_refused_ok e40) ?_
        cases h
        exact g_iret dX11_start_43 rfl ⟨rfl, rfl⟩
  · replace h := gif_t q h
    refine g_aload_n dX11_start_11 rfl ?_
    refine g_iconst dX11_start_12 kc_1 ?_
    obtain ⟨p13, e13, h⟩ := obind h
    refine g_vP1 mv_X11_91 dX11_start_13 ok_0 ⟨by decide, by decide⟩ (Nat.le_of_ble_eq_true rfl) (f_X11_refused_ok e13) ?_
    cases h
    exact g_iret dX11_start_16 rfl ⟨rfl, rfl⟩
theorem dX11_finish_0 : decode cX11_finish 0 = .ok (.aload_n 0, 1) := by decide +kernel
theorem dX11_finish_1 : decode cX11_finish 1 = .ok (.getfield 32, 3) := by decide +kernel
theorem dX11_finish_4 : decode cX11_finish 4 = .ok (.iload_n 1, 1) := by decide +kernel
theorem dX11_finish_5 : decode cX11_finish 5 = .ok (.invokevirtual 171, 3) := by decide +kernel
theorem dX11_finish_8 : decode cX11_finish 8 = .ok (.ifCond .ne 9, 3) := by decide +kernel
theorem dX11_finish_11 : decode cX11_finish 11 = .ok (.aload_n 0, 1) := by decide +kernel
theorem dX11_finish_12 : decode cX11_finish 12 = .ok (.iconst 1, 1) := by decide +kernel
theorem dX11_finish_13 : decode cX11_finish 13 = .ok (.invokevirtual 91, 3) := by decide +kernel
theorem dX11_finish_16 : decode cX11_finish 16 = .ok (.ireturn, 1) := by decide +kernel
theorem dX11_finish_17 : decode cX11_finish 17 = .ok (.aload_n 0, 1) := by decide +kernel
theorem dX11_finish_18 : decode cX11_finish 18 = .ok (.getfield 32, 3) := by decide +kernel
theorem dX11_finish_21 : decode cX11_finish 21 = .ok (.iload_n 1, 1) := by decide +kernel
theorem dX11_finish_22 : decode cX11_finish 22 = .ok (.invokevirtual 174, 3) := by decide +kernel
theorem dX11_finish_25 : decode cX11_finish 25 = .ok (.astore_n 3, 1) := by decide +kernel
theorem dX11_finish_26 : decode cX11_finish 26 = .ok (.iload_n 2, 1) := by decide +kernel
theorem dX11_finish_27 : decode cX11_finish 27 = .ok (.aload_n 3, 1) := by decide +kernel
theorem dX11_finish_28 : decode cX11_finish 28 = .ok (.getfield 183, 3) := by decide +kernel
theorem dX11_finish_31 : decode cX11_finish 31 = .ok (.if_icmp .le 10, 3) := by decide +kernel
theorem dX11_finish_34 : decode cX11_finish 34 = .ok (.iload_n 2, 1) := by decide +kernel
theorem dX11_finish_35 : decode cX11_finish 35 = .ok (.sipush 9999, 3) := by decide +kernel
theorem dX11_finish_38 : decode cX11_finish 38 = .ok (.if_icmp .le 9, 3) := by decide +kernel
theorem dX11_finish_41 : decode cX11_finish 41 = .ok (.aload_n 0, 1) := by decide +kernel
theorem dX11_finish_42 : decode cX11_finish 42 = .ok (.iconst 2, 1) := by decide +kernel
theorem dX11_finish_43 : decode cX11_finish 43 = .ok (.invokevirtual 91, 3) := by decide +kernel
theorem dX11_finish_46 : decode cX11_finish 46 = .ok (.ireturn, 1) := by decide +kernel
theorem dX11_finish_47 : decode cX11_finish 47 = .ok (.aload_n 3, 1) := by decide +kernel
theorem dX11_finish_48 : decode cX11_finish 48 = .ok (.getfield 192, 3) := by decide +kernel
theorem dX11_finish_51 : decode cX11_finish 51 = .ok (.ifCond .le 23, 3) := by decide +kernel
theorem dX11_finish_54 : decode cX11_finish 54 = .ok (.aload_n 3, 1) := by decide +kernel
theorem dX11_finish_55 : decode cX11_finish 55 = .ok (.aload_n 3, 1) := by decide +kernel
theorem dX11_finish_56 : decode cX11_finish 56 = .ok (.getfield 192, 3) := by decide +kernel
theorem dX11_finish_59 : decode cX11_finish 59 = .ok (.iconst 1, 1) := by decide +kernel
theorem dX11_finish_60 : decode cX11_finish 60 = .ok (.isub, 1) := by decide +kernel
theorem dX11_finish_61 : decode cX11_finish 61 = .ok (.invokevirtual 212, 3) := by decide +kernel
theorem dX11_finish_64 : decode cX11_finish 64 = .ok (.iload_n 2, 1) := by decide +kernel
theorem dX11_finish_65 : decode cX11_finish 65 = .ok (.if_icmp .le 9, 3) := by decide +kernel
theorem dX11_finish_68 : decode cX11_finish 68 = .ok (.aload_n 0, 1) := by decide +kernel
theorem dX11_finish_69 : decode cX11_finish 69 = .ok (.iconst 5, 1) := by decide +kernel
theorem dX11_finish_70 : decode cX11_finish 70 = .ok (.invokevirtual 91, 3) := by decide +kernel
theorem dX11_finish_73 : decode cX11_finish 73 = .ok (.ireturn, 1) := by decide +kernel
theorem dX11_finish_74 : decode cX11_finish 74 = .ok (.aload_n 3, 1) := by decide +kernel
theorem dX11_finish_75 : decode cX11_finish 75 = .ok (.getfield 186, 3) := by decide +kernel
theorem dX11_finish_78 : decode cX11_finish 78 = .ok (.istore 4, 2) := by decide +kernel
theorem dX11_finish_80 : decode cX11_finish 80 = .ok (.aload_n 3, 1) := by decide +kernel
theorem dX11_finish_81 : decode cX11_finish 81 = .ok (.iload_n 2, 1) := by decide +kernel
theorem dX11_finish_82 : decode cX11_finish 82 = .ok (.putfield 186, 3) := by decide +kernel
theorem dX11_finish_85 : decode cX11_finish 85 = .ok (.aload_n 0, 1) := by decide +kernel
theorem dX11_finish_86 : decode cX11_finish 86 = .ok (.getfield 70, 3) := by decide +kernel
theorem dX11_finish_89 : decode cX11_finish 89 = .ok (.iconst 3, 1) := by decide +kernel
theorem dX11_finish_90 : decode cX11_finish 90 = .ok (.iload_n 1, 1) := by decide +kernel
theorem dX11_finish_91 : decode cX11_finish 91 = .ok (.iload 4, 2) := by decide +kernel
theorem dX11_finish_93 : decode cX11_finish 93 = .ok (.iconst 0, 1) := by decide +kernel
theorem dX11_finish_94 : decode cX11_finish 94 = .ok (.iconst 0, 1) := by decide +kernel
theorem dX11_finish_95 : decode cX11_finish 95 = .ok (.invokevirtual 390, 3) := by decide +kernel
theorem dX11_finish_98 : decode cX11_finish 98 = .ok (.aload_n 0, 1) := by decide +kernel
theorem dX11_finish_99 : decode cX11_finish 99 = .ok (.iload 4, 2) := by decide +kernel
theorem dX11_finish_101 : decode cX11_finish 101 = .ok (.invokevirtual 114, 3) := by decide +kernel
theorem dX11_finish_104 : decode cX11_finish 104 = .ok (.ireturn, 1) := by decide +kernel
def f_X11_finish_74 (v1 : Int32) (v2 : Int32) (i3 : Nat) (σ : gSt) : Option (Int32 × gSt) :=
  (f_X0_keep 3 v1 (σ 10 i3 7) 0 0 (gup σ 10 i3 7 v2)).bind fun z95 =>
  (f_X11_answered (σ 10 i3 7) z95).bind fun p101 =>
  some (p101.1, p101.2)
def f_X11_finish (v1 : Int32) (v2 : Int32) (σ : gSt) : Option (Int32 × gSt) :=
  (f_X4_hasRunner 1 v1 σ).bind fun p5 =>
  if p5.1 = 0 then
    (f_X11_refused 1 p5.2).bind fun p13 =>
    some (p13.1, p13.2)
  else
    (f_X4_runnerAt 1 v1 p5.2).bind fun p22 =>
    if v2 ≤ (p22.2 10 p22.1 6) then
      (f_X11_refused 2 p22.2).bind fun p43 =>
      some (p43.1, p43.2)
    else
      if v2 ≤ 9999 then
        if (p22.2 10 p22.1 8) ≤ 0 then
          f_X11_finish_74 v1 v2 p22.1 p22.2
        else
          (f_X9_timeOf p22.1 ((p22.2 10 p22.1 8) - 1) p22.2).bind fun p61 =>
          if p61.1 ≤ v2 then
            f_X11_finish_74 v1 v2 p22.1 p61.2
          else
            (f_X11_refused 5 p61.2).bind fun p70 =>
            some (p70.1, p70.2)
      else
        (f_X11_refused 2 p22.2).bind fun p43 =>
        some (p43.1, p43.2)
theorem f_X11_finish_74_ok {v1 : Int32} {v2 : Int32} {i3 : Nat} {r : (Int32 × gSt)} (hi3 : i3 < 20) {σ : gSt} {x4 : Option Value} (h : f_X11_finish_74 v1 v2 i3 σ = some r) : G l w 0 41 RX11 cX11_finish 5 (some .int) 2 85 (gE (some (.int r.1)) r.2) 74 [some (.ref (w.2.1 0 0)), some (.int v1), some (.int v2), some (.ref (w.2.1 10 i3)), x4] [] σ := by
  unfold f_X11_finish_74 at h
  refine g_aload_n dX11_finish_74 rfl ?_
  refine gI_X11_186 (ok_10 hi3) dX11_finish_75 ?_
  refine g_istore4 dX11_finish_78 ?_
  refine g_aload_n dX11_finish_80 rfl ?_
  refine g_iload_n dX11_finish_81 rfl ?_
  refine gP_X11_186 (ok_10 hi3) dX11_finish_82 ?_
  refine g_aload_n dX11_finish_85 rfl ?_
  refine gR_X11_70 ok_0 dX11_finish_86 ?_
  refine g_iconst dX11_finish_89 kc_3 ?_
  refine g_iload_n dX11_finish_90 rfl ?_
  refine g_iload dX11_finish_91 rfl ?_
  refine g_iconst dX11_finish_93 kc_0 ?_
  refine g_iconst dX11_finish_94 kc_0 ?_
  obtain ⟨z95, e95, h⟩ := obind h
  refine g_vU5 mv_X11_390 dX11_finish_95 ok_26 ⟨by decide, by decide⟩ (Nat.le_of_ble_eq_true rfl) (f_X0_keep_ok e95) ?_
  refine g_aload_n dX11_finish_98 rfl ?_
  refine g_iload dX11_finish_99 rfl ?_
  obtain ⟨p101, e101, h⟩ := obind h
  refine g_vP1 mv_X11_114 dX11_finish_101 ok_0 ⟨by decide, by decide⟩ (Nat.le_of_ble_eq_true rfl) (f_X11_answered_ok e101) ?_
  cases h
  exact g_iret dX11_finish_104 rfl ⟨rfl, rfl⟩
theorem f_X11_finish_ok {v1 : Int32} {v2 : Int32}  {σ : gSt} {r : (Int32 × gSt)} (h : f_X11_finish v1 v2 σ = some r) : Mt l w 0 41 yX11_finish cX11_finish 5 (some .int) 2 85 [.ref (w.2.1 0 0), .int v1, .int v2] σ (gE (some (.int r.1)) r.2) := by
  unfold f_X11_finish at h
  refine g_start pn_X11 rfl rfl (Nat.le_of_ble_eq_true rfl) ?_
  show G l w 0 41 RX11 cX11_finish 5 (some .int) 2 85 (gE (some (.int r.1)) r.2) 0 [some (.ref (w.2.1 0 0)), some (.int v1), some (.int v2), none, none] [] σ
  refine g_aload_n dX11_finish_0 rfl ?_
  refine gR_X11_32 ok_0 dX11_finish_1 ?_
  refine g_iload_n dX11_finish_4 rfl ?_
  obtain ⟨p5, e5, h⟩ := obind h
  refine g_vP1 mv_X11_171 dX11_finish_5 (ok_3 (by decide)) ⟨by decide, by decide⟩ (Nat.le_of_ble_eq_true rfl) (f_X4_hasRunner_ok (by decide) e5) ?_
  refine g_if_ne 17 dX11_finish_8 rfl (fun q => ?_) (fun q => ?_)
  · replace h := gif_f q h
    refine g_aload_n dX11_finish_17 rfl ?_
    refine gR_X11_32 ok_0 dX11_finish_18 ?_
    refine g_iload_n dX11_finish_21 rfl ?_
    obtain ⟨p22, e22, h⟩ := obind h
    refine g_vR1 mv_X11_174 dX11_finish_22 (ok_3 (by decide)) ⟨by decide, by decide⟩ (Nat.le_of_ble_eq_true rfl) (f_X4_runnerAt_ok (by decide) e22) (fun b22 => ?_)
    refine g_astore3 dX11_finish_25 ?_
    refine g_iload_n dX11_finish_26 rfl ?_
    refine g_aload_n dX11_finish_27 rfl ?_
    refine gI_X11_183 (ok_10 b22) dX11_finish_28 ?_
    refine g_icmp_le 41 dX11_finish_31 rfl (fun q => ?_) (fun q => ?_)
    · replace h := gif_t q h
      refine g_aload_n dX11_finish_41 rfl ?_
      refine g_iconst dX11_finish_42 kc_2 ?_
      obtain ⟨p43, e43, h⟩ := obind h
      refine g_vP1 mv_X11_91 dX11_finish_43 ok_0 ⟨by decide, by decide⟩ (Nat.le_of_ble_eq_true rfl) (f_X11_refused_ok e43) ?_
      cases h
      exact g_iret dX11_finish_46 rfl ⟨rfl, rfl⟩
    · replace h := gif_f q h
      refine g_iload_n dX11_finish_34 rfl ?_
      refine g_sipush dX11_finish_35 ks_9999 ?_
      refine g_icmp_le 47 dX11_finish_38 rfl (fun q => ?_) (fun q => ?_)
      · replace h := gif_t q h
        refine g_aload_n dX11_finish_47 rfl ?_
        refine gI_X11_192 (ok_10 b22) dX11_finish_48 ?_
        refine g_if_le 74 dX11_finish_51 rfl (fun q => ?_) (fun q => ?_)
        · replace h := gif_t q h
          exact f_X11_finish_74_ok b22 h
        · replace h := gif_f q h
          refine g_aload_n dX11_finish_54 rfl ?_
          refine g_aload_n dX11_finish_55 rfl ?_
          refine gI_X11_192 (ok_10 b22) dX11_finish_56 ?_
          refine g_iconst dX11_finish_59 kc_1 ?_
          refine g_isub dX11_finish_60 ?_
          obtain ⟨p61, e61, h⟩ := obind h
          refine g_vP1 mv_X11_212 dX11_finish_61 (ok_10 b22) ⟨by decide, by decide⟩ (Nat.le_of_ble_eq_true rfl) (f_X9_timeOf_ok b22 e61) ?_
          refine g_iload_n dX11_finish_64 rfl ?_
          refine g_icmp_le 74 dX11_finish_65 rfl (fun q => ?_) (fun q => ?_)
          · replace h := gif_t q h
            exact f_X11_finish_74_ok b22 h
          · replace h := gif_f q h
            refine g_aload_n dX11_finish_68 rfl ?_
            refine g_iconst dX11_finish_69 kc_5 ?_
            obtain ⟨p70, e70, h⟩ := obind h
            refine g_vP1 mv_X11_91 dX11_finish_70 ok_0 ⟨by decide, by decide⟩ (Nat.le_of_ble_eq_true rfl) (f_X11_refused_ok e70) ?_
            cases h
            exact g_iret dX11_finish_73 rfl ⟨rfl, rfl⟩
      · replace h := gif_f q h
        refine g_aload_n dX11_finish_41 rfl ?_
        refine g_iconst dX11_finish_42 kc_2 ?_
        obtain ⟨p43, e43, h⟩ := obind h
        refine g_vP1 mv_X11_91 dX11_finish_43 ok_0 ⟨by decide, by decide⟩ (Nat.le_of_ble_eq_true rfl) (f_X11_refused_ok e43) ?_
        cases h
        exact g_iret dX11_finish_46 rfl ⟨rfl, rfl⟩
  · replace h := gif_t q h
    refine g_aload_n dX11_finish_11 rfl ?_
    refine g_iconst dX11_finish_12 kc_1 ?_
    obtain ⟨p13, e13, h⟩ := obind h
    refine g_vP1 mv_X11_91 dX11_finish_13 ok_0 ⟨by decide, by decide⟩ (Nat.le_of_ble_eq_true rfl) (f_X11_refused_ok e13) ?_
    cases h
    exact g_iret dX11_finish_16 rfl ⟨rfl, rfl⟩
end MI
