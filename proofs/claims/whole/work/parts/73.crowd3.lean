/-! crowd, the reference -/
section QA6
variable {d : Nat → Nat} {σ σ' : gSt} {a c i t : Nat}
theorem M_crowd65 (hM : MR d σ) (hw : WF d) (h1 : 0 < d 1) (y : Int32) : f_X12_crowd_65 y gFuel (-1) 0 0 σ = some (if y = 0 then nI (crc d (fl d (d 1))) else nI (fl d (d 1)), σ) := by
  have hr := hw.2.1
  have := loop0 (F := fun f (x : Int32 × Int32) b σ => f_X12_crowd_65 y f x.1 x.2 (nI b) σ) (N := d 1) (I := fun b x τ => x = (if b = 0 then ((-1 : Int32), (0 : Int32)) else (nI (fl d b), nI (crc d (fl d b)))) ∧ τ = σ) (Q := fun r => r = (if y = 0 then nI (crc d (fl d (d 1))) else nI (fl d (d 1)), σ)) (by omega)
    (fun f b x τ hb hI kk => by
      obtain ⟨rfl, rfl⟩ := hI
      have b1 := hw.b (47 + b)
      have c1 : crc d (d (47 + b)) ≤ 10 := Nat.le_trans (cnt_le _ _) hr
      have c3 := crc_pos hw hb
      simp only [f_X12_crowd_65]
      refine Wp.eq (M_rd (j := 1) hM i1 (by decide)) ?_
      refine Wp.f (nI_ge hb (by omega)) ?_
      refine Wp.eq (M_rd (j := 47 + b) hM (by rw [i47, nI_add]) (by omega)) ?_
      refine Wp.eq (a := (nI (crc d (d (47 + b))), τ)) (M_crowdAt hM hw b1) ?_
      rw [nI_1 b]
      cases b with
      | zero =>
        refine Wp.t (by
          show (0 : Int32) < nI (crc d (d (47 + 0)))
          rw [i0]
          exact nI_lt c3 (by omega)) ?_
        exact kk (_, _) _ ⟨rfl, rfl⟩
      | succ b =>
        have b2 := fl_b hw (b + 1)
        have c2 : crc d (fl d (b + 1)) ≤ 10 := Nat.le_trans (cnt_le _ _) hr
        rw [if_neg (Nat.succ_ne_zero b)]
        by_cases g : crc d (fl d (b + 1)) < crc d (d (47 + (b + 1)))
        · refine Wp.t (nI_lt g (by omega)) ?_
          exact kk (_, _) _ ⟨by rw [if_neg (Nat.succ_ne_zero _), fl, if_pos (Or.inl g)]; all_goals rfl, rfl⟩
        · refine Wp.f (nI_nlt (by omega) (by omega)) ?_
          by_cases g2 : crc d (d (47 + (b + 1))) = crc d (fl d (b + 1))
          · refine Wp.t (by
              show nI (crc d (d (47 + (b + 1)))) = nI (crc d (fl d (b + 1)))
              rw [g2]) ?_
            by_cases g3 : d (47 + (b + 1)) < fl d (b + 1)
            · refine Wp.f (nI_ge g3 (by omega)) ?_
              exact kk (_, _) _ ⟨by rw [if_neg (Nat.succ_ne_zero _), fl, if_pos (Or.inr ⟨g2, g3⟩)]; all_goals rfl, rfl⟩
            · refine Wp.t (nI_le (by omega) (by omega)) ?_
              exact kk (_, _) _ ⟨by rw [if_neg (Nat.succ_ne_zero _), fl, if_neg (by omega)]; all_goals rfl, rfl⟩
          · refine Wp.f (nI_ne (by omega) (by omega) g2) ?_
            exact kk (_, _) _ ⟨by rw [if_neg (Nat.succ_ne_zero _), fl, if_neg (by omega)]; all_goals rfl, rfl⟩)
    (fun f x τ hI => by
      obtain ⟨rfl, rfl⟩ := hI
      simp only [f_X12_crowd_65]
      refine Wp.eq (M_rd (j := 1) hM i1 (by decide)) ?_
      refine Wp.t (nI_le (Nat.le_refl _) (by omega)) ?_
      rw [if_neg (by omega : ¬ d 1 = 0)]
      by_cases e : y = 0
      · rw [if_pos e, if_pos e]
        exact Wp.ret rfl
      · rw [if_neg e, if_neg e]
        exact Wp.ret rfl) (x := (-1, 0)) (σ := σ) ⟨rfl, rfl⟩
  obtain ⟨r, hr1, rfl⟩ := this
  exact hr1
end QA6
