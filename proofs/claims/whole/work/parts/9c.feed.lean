/-! the start; feed -/
theorem inv0 : Inv gS0 := by
  refine ⟨fun _ => 0, ?_, ?_, ?_, ?_, ?_, ?_, ⟨rfl, rfl, rfl⟩, rfl⟩
  · exact ⟨by decide, by decide, by decide, by decide, fun j => Nat.zero_lt_succ _, fun _ => rfl, fun c hc => absurd hc (Nat.not_lt_zero _), fun a ha => absurd ha (Nat.not_lt_zero _)⟩
  · intro j hj
    rfl
  · exact ⟨rfl, rfl, fun q => absurd q (Nat.not_lt_zero _), fun q => absurd q (Nat.not_lt_zero _), fun c hc => absurd hc (Nat.not_lt_zero _), fun a ha => absurd ha (Nat.not_lt_zero _)⟩
  · exact ⟨0, fun _ _ => 0, by decide, rfl, rfl, rfl, fun j hj => absurd hj (Nat.not_lt_zero _)⟩
  · exact ⟨fun _ => 0, fun j hj => rfl, fun j => Nat.zero_lt_succ _, fun c hc => absurd hc (Nat.not_lt_zero _), fun a ha => absurd ha (Nat.not_lt_zero _)⟩
  · exact ⟨0, fun _ => 0, by decide, by decide, rfl, rfl, fun j hj => absurd hj (Nat.not_lt_zero _)⟩
section FD
variable {σ τ σm τm : gSt} {t i : Nat} {v : Int32}
/-- a byte of four -/
def byt (v : Int32) (i : Nat) : Nat := v.toBitVec.toNat / 2 ^ (24 - 8 * i) % 256
theorem byt_lt : byt v i < 256 := Nat.mod_lt _ (by decide)
def shv (i : Nat) : Int32 := 24 - 8 * nI i
theorem shv_s : ∀ i : Fin 4, shv i.val + (-8) = shv (i.val + 1) ∧ ¬ shv i.val < 0 := by decide
theorem ush_b (hi : i < 4) : gus v (shv i) &&& 255 = nI (byt v i) := by
  unfold gus
  rw [pk_and _ 8 (by decide)]
  congr 1
  have : i = 0 ∨ i = 1 ∨ i = 2 ∨ i = 3 := by omega
  rcases this with q | q | q | q <;> subst q
  · rw [pk_ushr v (shv 0) 24 (by decide)]; rfl
  · rw [pk_ushr v (shv 1) 16 (by decide)]; rfl
  · rw [pk_ushr v (shv 2) 8 (by decide)]; rfl
  · rw [pk_ushr v (shv 3) 0 (by decide)]; rfl
theorem toInt_c (x : Int32) : x.toInt = if 2 * x.toBitVec.toNat < 4294967296 then (x.toBitVec.toNat : Int) else (x.toBitVec.toNat : Int) - 4294967296 := BitVec.toInt_eq_toNat_cond x.toBitVec
theorem sh_b {s : Int32} {k : Nat} (hk : k = 0 ∨ k = 8 ∨ k = 16 ∨ k = 24) (hs : (s.toBitVec.smod 32).toNat = k) : (v >>> s) &&& 255 = nI (v.toBitVec.toNat / 2 ^ k % 256) := by
  rw [pk_and _ 8 (by decide)]
  congr 1
  have h1 := pk_shr v s k hs
  have h2 := toInt_c v
  have h3 := toInt_c (v >>> s)
  rw [h1, Int.shiftRight_eq_div_pow] at h3
  have b1 := v.toBitVec.isLt
  have b2 := (v >>> s).toBitVec.isLt
  generalize (v >>> s).toBitVec.toNat = N at h3 b2
  generalize v.toBitVec.toNat = n at h2 b1
  generalize v.toInt = z at h2 h3
  rcases hk with q | q | q | q <;> subst q
  · simp only [Nat.pow_zero] at h3 ⊢
    split at h2 <;> split at h3 <;> omega
  · have e : (((2 ^ 8 : Nat)) : Int) = 256 := by decide
    rw [e] at h3
    show N % 256 = n / 256 % 256
    split at h2 <;> split at h3 <;> omega
  · have e : (((2 ^ 16 : Nat)) : Int) = 65536 := by decide
    rw [e] at h3
    show N % 256 = n / 65536 % 256
    split at h2 <;> split at h3 <;> omega
  · have e : (((2 ^ 24 : Nat)) : Int) = 16777216 := by decide
    rw [e] at h3
    show N % 256 = n / 16777216 % 256
    split at h2 <;> split at h3 <;> omega
theorem ssh_b (hi : i < 4) : (v >>> ((24 - 8 * nI i) &&& 31)) &&& 255 = nI (byt v i) := by
  have : i = 0 ∨ i = 1 ∨ i = 2 ∨ i = 3 := by omega
  rcases this with q | q | q | q <;> subst q
  · exact sh_b (k := 24) (by omega) (by decide)
  · exact sh_b (k := 16) (by omega) (by decide)
  · exact sh_b (k := 8) (by omega) (by decide)
  · exact sh_b (k := 0) (by omega) (by decide)
theorem X_put (ht : t + 4 ≤ 900) (h1 : τ 1 0 1 = nI t) : Wp (f_X10_put v τ) (fun τ' => (∀ k i s, k ≠ 2 → ¬ (k = 1 ∧ i = 0 ∧ s = 1) → τ' k i s = τ k i s) ∧ τ' 1 0 1 = nI (t + 4) ∧ (∀ j, j < t → τ' 2 0 j = τ 2 0 j) ∧ ∀ i, i < 4 → τ' 2 0 (t + i) = nI (byt v i)) := by
  unfold f_X10_put
  rw [show (24 : Int32) = shv 0 by decide]
  refine loop0 (F := fun f (_ : Unit) i τ' => f_X10_put_3 v f (shv i) τ') (N := 4) (I := fun i _ τ' => (∀ k i s, k ≠ 2 → ¬ (k = 1 ∧ i = 0 ∧ s = 1) → τ' k i s = τ k i s) ∧ τ' 1 0 1 = nI (t + i) ∧ (∀ j, j < t → τ' 2 0 j = τ 2 0 j) ∧ ∀ z, z < i → τ' 2 0 (t + z) = nI (byt v z)) (by omega)
    (fun f i x τ' hi hI kk => ?_) (fun f x τ' hI => ?_) (x := ()) (σ := τ) ⟨fun _ _ _ _ _ => rfl, h1, fun _ _ => rfl, fun z hz => absurd hz (Nat.not_lt_zero _)⟩
  · obtain ⟨a1, a2, a3, a4⟩ := hI
    have hs := shv_s ⟨i, hi⟩
    show Wp (f_X10_put_3 v (f + 1) (shv i) τ') _
    rw [f_X10_put_3, a2]
    refine Wp.f hs.2 ?_
    refine Wp.f (nI_pos (by omega)) ?_
    refine Wp.f (by rw [i900]; exact nI_ge (by omega) (by decide)) ?_
    refine Wp.st (t + i) rfl (by omega) (by decide) ?_
    rw [hs.1, ush_b hi]
    refine kk () _ ⟨fun k i' s k1 k2 => ?_, ?_, fun j hj => ?_, fun z hz => ?_⟩
    · show (if k = 1 ∧ i' = 0 ∧ s = 1 then _ else gup τ' 2 0 (t + i) _ k i' s) = _
      rw [if_neg k2, gup_kind k1]
      exact a1 k i' s k1 k2
    · rw [gup_same, gup_kind (by decide), a2, nI_1]; rfl
    · rw [gup_kind (by decide), gup_slot (by omega)]
      exact a3 j hj
    · rw [gup_kind (by decide)]
      by_cases ez : z = i
      · subst ez; rw [gup_same]
      · rw [gup_slot (by omega)]
        exact a4 z (by omega)
  · obtain ⟨a1, a2, a3, a4⟩ := hI
    show Wp (f_X10_put_3 v (f + 1) (shv 4) τ') _
    rw [f_X10_put_3]
    exact Wp.t (by decide) (Wp.ret ⟨a1, a2, a3, a4⟩)
theorem M_laysWord (ht : t + 4 ≤ 900) (h1 : τ 28 0 5 = nI t) : Wp (f_X12_laysWord v τ) (fun τ' => (∀ k i s, k ≠ 29 → ¬ (k = 28 ∧ i = 0 ∧ s = 5) → τ' k i s = τ k i s) ∧ τ' 28 0 5 = nI (t + 4) ∧ (∀ j, j < t → τ' 29 0 j = τ 29 0 j) ∧ ∀ i, i < 4 → τ' 29 0 (t + i) = nI (byt v i)) := by
  unfold f_X12_laysWord
  refine loop0 (F := fun f (_ : Unit) i τ' => f_X12_laysWord_2 v f (nI i) τ') (N := 4) (I := fun i _ τ' => (∀ k i s, k ≠ 29 → τ' k i s = τ k i s) ∧ (∀ j, j < t → τ' 29 0 j = τ 29 0 j) ∧ ∀ z, z < i → τ' 29 0 (t + z) = nI (byt v z)) (by omega)
    (fun f i x τ' hi hI kk => ?_) (fun f x τ' hI => ?_) (x := ()) (σ := τ) ⟨fun _ _ _ _ => rfl, fun _ _ => rfl, fun z hz => absurd hz (Nat.not_lt_zero _)⟩
  · obtain ⟨a1, a3, a4⟩ := hI
    show Wp (f_X12_laysWord_2 v (f + 1) (nI i) τ') _
    rw [f_X12_laysWord_2, a1 28 0 5 (by decide), h1]
    refine Wp.f (by rw [i4]; exact nI_ge hi (by decide)) ?_
    refine Wp.st (t + i) (nI_add _ _) (by omega) (by decide) ?_
    rw [ssh_b hi, nI_1]
    refine kk () _ ⟨fun k i' s k1 => by rw [gup_kind k1]; exact a1 k i' s k1, fun j hj => by rw [gup_slot (by omega)]; exact a3 j hj, fun z hz => ?_⟩
    by_cases ez : z = i
    · subst ez; rw [gup_same]
    · rw [gup_slot (by omega)]
      exact a4 z (by omega)
  · obtain ⟨a1, a3, a4⟩ := hI
    show Wp (f_X12_laysWord_2 v (f + 1) (nI 4) τ') _
    rw [f_X12_laysWord_2]
    refine Wp.t (by decide) (Wp.ret ⟨fun k i s k1 k2 => ?_, ?_, fun j hj => ?_, fun i hi => ?_⟩)
    · show (if k = 28 ∧ i = 0 ∧ s = 5 then _ else τ' k i s) = _
      rw [if_neg k2]
      exact a1 k i s k1
    · rw [gup_same, a1 28 0 5 (by decide), h1, i4, nI_add]
    · rw [gup_kind (by decide)]; exact a3 j hj
    · rw [gup_kind (by decide)]; exact a4 i hi
/-- both tapes are alike -/
def TW (t : Nat) (σ σm : gSt) : Prop := σ 1 0 1 = nI t ∧ σm 28 0 5 = nI t ∧ ∀ j, j < t → ∃ b, b < 256 ∧ σ 2 0 j = nI b ∧ σm 29 0 j = nI b
theorem TW.step (h : TW t σ σm) (a1 : τ 1 0 1 = nI (t + 4)) (a2 : ∀ j, j < t → τ 2 0 j = σ 2 0 j) (a3 : ∀ i, i < 4 → τ 2 0 (t + i) = nI (byt v i)) (b1 : τm 28 0 5 = nI (t + 4)) (b2 : ∀ j, j < t → τm 29 0 j = σm 29 0 j) (b3 : ∀ i, i < 4 → τm 29 0 (t + i) = nI (byt v i)) : TW (t + 4) τ τm := by
  refine ⟨a1, b1, fun j hj => ?_⟩
  by_cases e : j < t
  · obtain ⟨b, h1, h2, h3⟩ := h.2.2 j e
    exact ⟨b, h1, (a2 j e).trans h2, (b2 j e).trans h3⟩
  · obtain ⟨i, rfl⟩ : ∃ i, j = t + i := ⟨j - t, by omega⟩
    exact ⟨byt v i, byt_lt, a3 i (by omega), b3 i (by omega)⟩
theorem S_feed : SS5 Inv f_X11_feed f_X12_feed := by
  intro v1 v2 v3 v4 v5 σ hI
  have hI0 := hI
  obtain ⟨d, h1, h2, h3, h4, h5, ⟨t, B, t1, t2, t3, t4, t5⟩, h7, h8⟩ := hI
  by_cases ht : t + 20 ≤ 900
  · obtain ⟨x1, p1, p2, p3, p4, p5⟩ := X_put (v := v1) (τ := σ) (show t + 4 ≤ 900 by omega) t3
    obtain ⟨x2, q1, q2, q3, q4, q5⟩ := X_put (v := v2) (τ := x1) (show t + 4 + 4 ≤ 900 by omega) p3
    obtain ⟨x3, r1, r2, r3, r4, r5⟩ := X_put (v := v3) (τ := x2) (show t + 4 + 4 + 4 ≤ 900 by omega) q3
    obtain ⟨x4, s1, s2, s3, s4, s5⟩ := X_put (v := v4) (τ := x3) (show t + 4 + 4 + 4 + 4 ≤ 900 by omega) r3
    obtain ⟨x5, u1, u2, u3, u4, u5⟩ := X_put (v := v5) (τ := x4) (show t + 4 + 4 + 4 + 4 + 4 ≤ 900 by omega) s3
    have fx : ∀ k i s, k ≠ 2 → ¬ (k = 1 ∧ i = 0 ∧ s = 1) → x5 k i s = σ k i s := fun k i s a b => (u2 k i s a b).trans ((s2 k i s a b).trans ((r2 k i s a b).trans ((q2 k i s a b).trans (p2 k i s a b))))
    have m0 : gup x5 28 0 0 0 28 0 5 = nI t := by rw [gup_slot (by decide), fx 28 0 5 (by decide) (by omega)]; exact t4
    obtain ⟨y1, c1, c2, c3, c4, c5⟩ := M_laysWord (v := v1) (τ := gup x5 28 0 0 0) (show t + 4 ≤ 900 by omega) m0
    obtain ⟨y2, d1, d2, d3, d4, d5⟩ := M_laysWord (v := v2) (τ := y1) (show t + 4 + 4 ≤ 900 by omega) c3
    obtain ⟨y3, e1, e2, e3, e4, e5⟩ := M_laysWord (v := v3) (τ := y2) (show t + 4 + 4 + 4 ≤ 900 by omega) d3
    obtain ⟨y4, f1, f2, f3, f4, f5⟩ := M_laysWord (v := v4) (τ := y3) (show t + 4 + 4 + 4 + 4 ≤ 900 by omega) e3
    obtain ⟨y5, g1, g2, g3, g4, g5⟩ := M_laysWord (v := v5) (τ := y4) (show t + 4 + 4 + 4 + 4 + 4 ≤ 900 by omega) f3
    have fy : ∀ k i s, k ≠ 29 → ¬ (k = 28 ∧ i = 0 ∧ s = 5) → y5 k i s = gup x5 28 0 0 0 k i s := fun k i s a b => (g2 k i s a b).trans ((f2 k i s a b).trans ((e2 k i s a b).trans ((d2 k i s a b).trans (c2 k i s a b))))
    have w0 : TW t σ (gup x5 28 0 0 0) := ⟨t3, m0, fun j hj => ⟨B j, (t5 j hj).1, (t5 j hj).2.1, by rw [gup_kind (by decide), fx 29 0 j (by decide) (by omega)]; exact (t5 j hj).2.2⟩⟩
    have w5 := (((((w0.step p3 p4 p5 c3 c4 c5).step q3 q4 q5 d3 d4 d5).step r3 r4 r5 e3 e4 e5).step s3 s4 s5 f3 f4 f5).step u3 u4 u5 g3 g4 g5)
    have fz : ∀ k i s, k ≠ 1 → k ≠ 2 → k ≠ 29 → ¬ (k = 28 ∧ (s = 0 ∨ s = 5)) → y5 k i s = σ k i s := fun k i s a b c e => by
      rw [fy k i s c (by omega)]
      show (if k = 28 ∧ i = 0 ∧ s = 0 then _ else x5 k i s) = _
      rw [if_neg (by omega)]
      exact fx k i s b (by omega)
    refine ⟨(nI (t + 4 + 4 + 4 + 4 + 4), x5), (nI (t + 4 + 4 + 4 + 4 + 4), y5), ?_, ?_, rfl, d, h1, fun j hj => (fz 30 0 j (by omega) (by omega) (by omega) (by omega)).trans (h2 j hj), h3.same (fun k i s hk => fz k i s (by omega) (by omega) (by omega) (by omega)), h4.same (fun k i s hk => fz k i s (by omega) (by omega) (by omega) (by omega)) (fz 28 0 30 (by omega) (by omega) (by omega) (by omega)), h5.same (fun k i s hk => fz k i s (by omega) (by omega) (by omega) (by omega)), ?_, ⟨?_, ?_, ?_⟩, (fz 28 0 6 (by omega) (by omega) (by omega) (by omega)).trans h8⟩
    · unfold f_X11_feed
      rw [if_pos (by rw [t3, i20, i900, nI_add]; exact nI_le (by omega) (by decide)), p1, bind_some', q1, bind_some', r1, bind_some', s1, bind_some', u1, bind_some', u3]
    · unfold f_X12_feed
      dsimp only
      rw [if_pos (by rw [m0, i880]; exact nI_le (by omega) (by decide)), c1, bind_some', d1, bind_some', e1, bind_some', f1, bind_some', g1, bind_some', g3]
    · refine ⟨t + 4 + 4 + 4 + 4 + 4, fun j => (x5 2 0 j).toNatClampNeg, by omega, by omega, ?_, w5.2.1, fun j hj => ?_⟩
      · dsimp only; rw [fy 1 0 1 (by decide) (by omega), gup_kind (by decide)]; exact w5.1
      · obtain ⟨b, b1, b2, b3⟩ := w5.2.2 j hj
        have e : (x5 2 0 j).toNatClampNeg = b := by rw [b2]; exact nI_cl (by omega)
        dsimp only
        rw [e]
        refine ⟨b1, ?_, b3⟩
        rw [fy 2 0 j (by decide) (by omega), gup_kind (by decide)]; exact b2
    · dsimp only; rw [fz 0 0 9 (by omega) (by omega) (by omega) (by omega), fz 28 0 1 (by omega) (by omega) (by omega) (by omega)]; exact h7.1
    · dsimp only; rw [fz 0 0 11 (by omega) (by omega) (by omega) (by omega), fz 28 0 2 (by omega) (by omega) (by omega) (by omega)]; exact h7.2.1
    · show y5 0 0 10 = (if y5 28 0 1 = 4 then y5 28 0 3 else -1)
      rw [fz 0 0 10 (by omega) (by omega) (by omega) (by omega), fz 28 0 1 (by omega) (by omega) (by omega) (by omega), fz 28 0 3 (by omega) (by omega) (by omega) (by omega)]; exact h7.2.2
  · refine ⟨(-1, σ), (-1, gup σ 28 0 0 0), ?_, ?_, rfl, inv_thrown hI0⟩
    · unfold f_X11_feed
      rw [if_neg (by rw [t3, i20, i900, nI_add]; exact nI_ge (by omega) (by omega))]
    · unfold f_X12_feed
      dsimp only
      rw [if_neg (by rw [gup_slot (by decide), t4, i880]; exact nI_ge (by omega) (by omega))]
end FD
