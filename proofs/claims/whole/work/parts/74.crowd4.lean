/-! crowd -/
theorem S_crowd : SS1 Inv f_X11_crowd f_X12_crowd := by
  intro y
  refine ss0_of (fun σ d hI hw hM hX hT => ?_)
  have hr := hw.2.1
  by_cases h0 : d 0 = 0
  · refine ⟨-1, 1, xA σ 1, by decide, ?_, xA_q Xs.rf, fun σ2 hM2 hT2 _ => ⟨(-1, mR σ2 1), ?_, rfl, mR_q⟩⟩
    · unfold f_X11_crowd
      rw [X_isTold hX hw, if_pos h0, bind_some', if_pos rfl, X_refused]
      rfl
    · unfold f_X12_crowd f_X12_crowd_20 f_X12_crowd_21 f_X12_crowd_49
      rw [if_pos (by rw [hT2, if_pos h0]), un_0, bind_some', if_neg o1n0, ref_1, bind_some', if_neg o1n0]
  · by_cases hy : gin y (1 + 1) = true
    · have hz := sel_t (by decide) hy
      by_cases h1 : d 1 = 0
      · refine ⟨-1, 6, xA σ 6, by decide, ?_, xA_q Xs.rf, fun σ2 hM2 hT2 _ => ⟨(-1, mR σ2 6), ?_, rfl, mR_q⟩⟩
        · unfold f_X11_crowd
          rw [X_isTold hX hw, if_neg h0, bind_some', if_neg o1n0, if_neg hz.1, if_pos (by rw [i1]; exact hz.2)]
          refine (if_pos (show σ 3 1 4 = 0 by rw [hX.2.1, h1]; rfl)).trans ?_
          rw [X_refused]
          rfl
        · unfold f_X12_crowd f_X12_crowd_21 f_X12_crowd_49
          rw [if_neg (by rw [hT2, if_neg h0]; exact o1n0), show f_X12_in y 0 1 σ2 = some (bG y (1 + 1), σ2) from M_in0 (n := 1) (by decide) y, bG_t hy, bind_some', if_neg o1n0, un_1, bind_some', if_pos rfl, M_rd (j := 1) hM2 i1 (by decide), bind_some', if_pos (by rw [h1]; rfl), M_isRefused, if_neg (by decide), bind_some', if_neg o1n0]
      · refine ⟨if y = 0 then nI (crc d (fl d (d 1))) else nI (fl d (d 1)), 0, xA σ 0, by decide, ?_, xA_q Xs.rf, fun σ2 hM2 hT2 _ => ⟨(if y = 0 then nI (crc d (fl d (d 1))) else nI (fl d (d 1)), mR σ2 0), ?_, rfl, mR_q⟩⟩
        · unfold f_X11_crowd
          rw [X_isTold hX hw, if_neg h0, bind_some', if_neg o1n0, if_neg hz.1, if_pos (by rw [i1]; exact hz.2)]
          refine (if_neg (show ¬ σ 3 1 4 = 0 by rw [hX.2.1, i0]; exact nI_ne (by omega) (by omega) h1)).trans ?_
          rw [X_fullestTime hX hw (by omega), bind_some']
          by_cases e : y = 0
          · rw [if_pos e, if_pos e, X_inForest hX hw (fl_b hw _), bind_some', X_answered]
            rfl
          · rw [if_neg e, if_neg e, X_answered]
            rfl
        · unfold f_X12_crowd f_X12_crowd_21 f_X12_crowd_49
          rw [if_neg (by rw [hT2, if_neg h0]; exact o1n0), show f_X12_in y 0 1 σ2 = some (bG y (1 + 1), σ2) from M_in0 (n := 1) (by decide) y, bG_t hy, bind_some', if_neg o1n0, un_1, bind_some', if_pos rfl, M_rd (j := 1) hM2 i1 (by decide), bind_some', if_neg (by rw [i0]; exact nI_ne (by omega) (by omega) h1), ref_0, bind_some', if_pos rfl]
          exact M_crowd65 hM2.mR hw (by omega) y
    · refine ⟨-1, 1, xA σ 1, by decide, ?_, xA_q Xs.rf, fun σ2 hM2 hT2 _ => ⟨(-1, mR σ2 1), ?_, rfl, mR_q⟩⟩
      · unfold f_X11_crowd
        rw [X_isTold hX hw, if_neg h0, bind_some', if_neg o1n0]
        rcases sel_f (by decide) hy with q | ⟨q1, q2⟩
        · rw [if_pos q, X_refused]; rfl
        · rw [if_neg q1, if_neg (by rw [i1]; exact q2), X_refused]; rfl
      · unfold f_X12_crowd f_X12_crowd_20 f_X12_crowd_21 f_X12_crowd_49
        rw [if_neg (by rw [hT2, if_neg h0]; exact o1n0), show f_X12_in y 0 1 σ2 = some (bG y (1 + 1), σ2) from M_in0 (n := 1) (by decide) y, bG_f hy, bind_some', if_pos rfl, un_0, bind_some', if_neg o1n0, ref_1, bind_some', if_neg o1n0]
