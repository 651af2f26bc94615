/-! the words of a text: keys and names -/
section TW
variable {B N N' d e : Nat → Nat} {n s L u nc nr v : Nat} {σ τ σ' τ' σ0 τ0 : gSt}
def gB (i k : Nat) : Nat := (([[99, 111, 117, 114, 115, 101], [114, 117, 110, 110, 101, 114], [103, 97, 112], [115, 108, 97, 99, 107]] : List (List Nat)).getD i []).getD k 0
def kw (i : Nat) : Nat := ([117099109, 626473138, 7216, 20317291] : List Nat).getD i 0
theorem gB_C : ∀ i, i < 4 → ∀ k, k < gsL i → gsC i k = nI (gB i k) ∧ 97 ≤ gB i k ∧ gB i k ≤ 122 := by decide
theorem kw_v : ∀ i, i < 4 → wv (gB i) 0 (gsL i) = kw i ∧ kw i < 1073741824 ∧ gsL i ≤ 6 := by decide
theorem wv_cg {B' : Nat → Nat} {p p' : Nat} : ∀ m, (∀ z, z < m → B (p + z) = B' (p' + z)) → wv B p m = wv B' p' m := by
  intro m
  induction m with
  | zero => intro h; rfl
  | succ m ih => intro h; rw [wv, wv, ih (fun z hz => h z (by omega)), h m (by omega)]
abbrev kq (B : Nat → Nat) (n s i : Nat) : Prop := tK B n s = 2 ∧ tQ B n s - tP B n s = gsL i ∧ ∀ z, z < gsL i → B (tP B n s + z) = gB i z
theorem tw_b (hs : s ≤ n) (h : tK B n s = 2) : wv B (tP B n s) (tQ B n s - tP B n s) < 1073741824 := by
  obtain ⟨h1, h2, h3, h4, h5⟩ := tok_L hs h
  have h6 := wv_b (B := B) (p := tP B n s) (m := tQ B n s - tP B n s) (fun z a b => h5 z a (by omega))
  have h7 : 32 ^ (tQ B n s - tP B n s) ≤ 32 ^ 6 := Nat.pow_le_pow_right (by decide) h4
  omega
theorem ck_2 (hk : tK B n s < 256) : nI (ck (tK B n s)) = 1 ↔ tK B n s = 2 := by
  unfold ck
  constructor
  · intro h
    refine Decidable.byContradiction (fun c => ?_)
    rw [if_neg c] at h
    split at h
    · revert h; decide
    · split at h
      · revert h; decide
      · next q => exact absurd h (by rw [i1]; exact nI_ne (by omega) (by decide) q)
  · intro h; rw [if_pos h]; rfl
theorem X_isWord {i : Nat} {w : Int32} (hw : w = nI (kw i)) (hi : i < 4) (hX : XT B n s σ) (hs : s ≤ n) (hk : tK B n s < 256) : f_X8_isWord w σ = some (if kq B n s i then 1 else 0, σ) := by
  unfold f_X8_isWord
  rw [hw]
  obtain ⟨x1, x2, x3, x4, x5⟩ := hX
  by_cases c : tK B n s = 2
  · rw [x3, if_pos ((ck_2 hk).mpr c), x4 c]
    have hb := tw_b hs c
    obtain ⟨k1, k2, k3⟩ := kw_v i hi
    obtain ⟨t1, t2, t3, t4, t5⟩ := tok_L hs c
    by_cases c2 : wv B (tP B n s) (tQ B n s - tP B n s) = kw i
    · rw [if_pos (by rw [c2]), if_pos ?_]
      rw [← k1] at c2
      have := wv_inj _ _ (fun z hz => t5 _ (by omega) (by omega)) (fun z hz => by rw [Nat.zero_add]; exact (gB_C i hi z hz).2) c2
      exact ⟨c, this.1, fun z hz => by have := this.2 z (by omega); rw [Nat.zero_add] at this; exact this⟩
    · rw [if_neg (nI_ne (by omega) (by omega) c2), if_neg ?_]
      rintro ⟨q1, q2, q3⟩
      refine c2 ?_
      rw [q2, ← k1]
      exact wv_cg _ (fun z hz => by rw [Nat.zero_add]; exact q3 z hz)
  · rw [x3, if_neg (fun q => c ((ck_2 hk).mp q)), if_neg (fun q => c q.1)]
theorem M_isK {i : Nat} (hi : i < 4) (hB : MB B n τ) (hM : MT B n s τ) (hs : s ≤ n) (hk : tK B n s < 256) : f_isW i τ = some (if kq B n s i then 1 else 0, τ) := by
  unfold f_isW
  obtain ⟨y1, y2, y3, y4⟩ := hM
  by_cases c : tK B n s = 2
  · obtain ⟨t1, t2, t3, t4, t5⟩ := tok_L hs c
    obtain ⟨k1, k2, k3⟩ := kw_v i hi
    have hn := hB.1
    rw [y3, if_pos (show nI (tK B n s) = 2 by rw [c]; rfl), y1, y2, nI_sub (by omega)]
    by_cases c2 : tQ B n s - tP B n s = gsL i
    · rw [if_pos (show nI (tQ B n s - tP B n s) = nI (gsL i) by rw [c2])]
      have key : ∀ (m k fuel : Nat), k + m = gsL i → m < fuel → f_isW_28 i fuel (nI k) τ = some (if (∀ z, z < gsL i → k ≤ z → B (tP B n s + z) = gB i z) then 1 else 0, τ) := by
        intro m
        induction m with
        | zero =>
          intro k fuel h1 h2
          obtain ⟨fuel, rfl⟩ : ∃ g, fuel = g + 1 := ⟨fuel - 1, by omega⟩
          rw [f_isW_28, if_pos (nI_le (by omega) (by omega)), if_pos (fun z a b => by omega)]
        | succ m ih =>
          intro k fuel h1 h2
          obtain ⟨fuel, rfl⟩ : ∃ g, fuel = g + 1 := ⟨fuel - 1, by omega⟩
          have hb := hB.2.2 (tP B n s + k) (by omega)
          have hg := gB_C i hi k (by omega)
          rw [f_isW_28, if_neg (nI_ge (by omega) (by omega)), y2, nI_add, gld_n (by omega) (by decide), bind_some', gox_n (by omega) (by omega), bind_some', hb.2, hg.1]
          by_cases c3 : B (tP B n s + k) = gB i k
          · rw [if_pos (by rw [c3]), nI_1, ih (k + 1) fuel (by omega) (by omega)]
            by_cases c4 : ∀ z, z < gsL i → k + 1 ≤ z → B (tP B n s + z) = gB i z
            · rw [if_pos c4, if_pos (fun z a b => by
                by_cases ez : z = k
                · rw [ez]; exact c3
                · exact c4 z a (by omega))]
            · rw [if_neg c4, if_neg (fun q => c4 (fun z a b => q z a (by omega)))]
          · rw [if_neg (nI_ne (by omega) (by omega) c3), if_neg (fun q => c3 (q k (by omega) (by omega)))]
      have := key (gsL i) 0 gFuel (by omega) (Nat.lt_trans (by omega) gFuel_ge)
      refine Eq.trans this ?_
      congr 2
      by_cases c4 : ∀ z, z < gsL i → 0 ≤ z → B (tP B n s + z) = gB i z
      · rw [if_pos c4, if_pos ⟨c, c2, fun z hz => c4 z hz (Nat.zero_le _)⟩]
      · rw [if_neg c4, if_neg (fun q => c4 (fun z hz _ => q.2.2 z hz))]
    · rw [if_neg (nI_ne (by omega) (by omega) c2), if_neg (fun q => c2 q.2.1)]
  · rw [y3, if_neg (show ¬ nI (tK B n s) = 2 by rw [i2]; exact nI_ne (by omega) (by decide) c), if_neg (fun q => c q.1)]
/-- a name: a word that is no key -/
abbrev nmq (B : Nat → Nat) (n s : Nat) : Prop := tK B n s = 2 ∧ ¬ kq B n s 0 ∧ ¬ kq B n s 1 ∧ ¬ kq B n s 2 ∧ ¬ kq B n s 3
theorem X_isName (hX : XT B n s σ) (hs : s ≤ n) (hk : tK B n s < 256) : f_X8_isName σ = some (if nmq B n s then (1, σ) else (0, gup σ 15 0 7 1)) := by
  unfold f_X8_isName
  have bad : f_X8_isName_55 σ = some (0, gup σ 15 0 7 1) := rfl
  have n37 : f_X8_isName_37 σ = some (0, gup σ 15 0 7 1) := by
    unfold f_X8_isName_37 f_X8_isName_42
    split
    · rw [if_neg o1n0]; exact bad
    · exact bad
  rw [X_isWord (i := 0) (w := 117099109) rfl (by decide) hX hs hk, bind_some']
  by_cases c0 : kq B n s 0
  · rw [if_pos c0, if_neg (show ¬ nmq B n s from fun q => q.2.1 c0)]
    exact (if_neg o1n0).trans n37
  · rw [if_neg c0]
    refine (if_pos rfl).trans ?_
    rw [X_isWord (i := 1) (w := 626473138) rfl (by decide) hX hs hk, bind_some']
    by_cases c1 : kq B n s 1
    · rw [if_pos c1, if_neg (show ¬ nmq B n s from fun q => q.2.2.1 c1)]
      exact (if_neg o1n0).trans n37
    · rw [if_neg c1]
      refine (if_pos rfl).trans ?_
      rw [X_isWord (i := 2) (w := 7216) rfl (by decide) hX hs hk, bind_some']
      by_cases c2 : kq B n s 2
      · rw [if_pos c2, if_neg (show ¬ nmq B n s from fun q => q.2.2.2.1 c2)]
        exact (if_neg o1n0).trans n37
      · rw [if_neg c2]
        refine (if_pos rfl).trans ?_
        rw [X_isWord (i := 3) (w := 20317291) rfl (by decide) hX hs hk, bind_some']
        by_cases c3 : kq B n s 3
        · rw [if_pos c3, if_neg (show ¬ nmq B n s from fun q => q.2.2.2.2 c3)]
          exact (if_neg o1n0).trans n37
        · rw [if_neg c3]
          refine (if_pos rfl).trans ?_
          unfold f_X8_isName_42
          by_cases c : tK B n s = 2
          · refine (if_pos (show σ 15 0 4 = 1 by rw [hX.2.2.1]; exact (ck_2 hk).mpr c)).trans ?_
            rw [if_pos rfl, if_pos (show nmq B n s from ⟨c, c0, c1, c2, c3⟩)]
          · refine (if_neg (show ¬ σ 15 0 4 = 1 by rw [hX.2.2.1]; exact fun q => c ((ck_2 hk).mp q))).trans ?_
            rw [if_neg (show ¬ nmq B n s from fun q => c q.1)]; exact bad
theorem M_isName (hB : MB B n τ) (hM : MT B n s τ) (hs : s ≤ n) (hk : tK B n s < 256) : f_X12_isName τ = some (if nmq B n s then 1 else 0, τ) := by
  unfold f_X12_isName
  by_cases c : tK B n s = 2
  · rw [hM.2.2.1, if_pos (show nI (tK B n s) = 2 by rw [c]; rfl), M_isK (i := 0) (by decide) hB hM hs hk, bind_some']
    by_cases c0 : kq B n s 0
    · rw [if_pos c0, if_neg (show ¬ nmq B n s from fun q => q.2.1 c0)]
      exact if_neg o1n0
    · rw [if_neg c0]
      refine (if_pos rfl).trans ?_
      rw [M_isK (i := 1) (by decide) hB hM hs hk, bind_some']
      by_cases c1 : kq B n s 1
      · rw [if_pos c1, if_neg (show ¬ nmq B n s from fun q => q.2.2.1 c1)]
        exact if_neg o1n0
      · rw [if_neg c1]
        refine (if_pos rfl).trans ?_
        rw [M_isK (i := 2) (by decide) hB hM hs hk, bind_some']
        by_cases c2 : kq B n s 2
        · rw [if_pos c2, if_neg (show ¬ nmq B n s from fun q => q.2.2.2.1 c2)]
          exact if_neg o1n0
        · rw [if_neg c2]
          refine (if_pos rfl).trans ?_
          rw [M_isK (i := 3) (by decide) hB hM hs hk, bind_some']
          by_cases c3 : kq B n s 3
          · rw [if_pos c3, if_neg (show ¬ nmq B n s from fun q => q.2.2.2.2 c3)]
            exact if_neg o1n0
          · rw [if_neg c3, if_pos (show nmq B n s from ⟨c, c0, c1, c2, c3⟩)]
            exact if_pos rfl
  · rw [hM.2.2.1, if_neg (show ¬ nI (tK B n s) = 2 by rw [i2]; exact nI_ne (by omega) (by decide) c), if_neg (fun q => c q.1)]
/-- which name it is -/
def lk (N B : Nat → Nat) (n s base many : Nat) : Option Nat := nx (fun k => ia N B (6 * (base + k)) (tP B n s) (tQ B n s) 6) many 0
theorem M_namedHere (hM : CM τ0 B n u d N τ) (hT : MT B n s τ) (hs : s ≤ n) {base many : Nat} (hWn : ∀ k, k < many → isW (fun q => N (6 * (base + k) + q))) (hb : base + many ≤ 13) : f_X12_namedHere (nI base) (nI many) τ = some (xo (lk N B n s base many), τ) := by
  obtain ⟨y1, y2, y3, y4⟩ := hT
  have tb := tQ_b (B := B) hs
  have hN' : ∀ k, k < many → ∀ j, 6 * (base + k) ≤ j → j < 6 * (base + k) + 6 → N j < 256 ∧ τ 33 0 j = nI (N j) := by
    intro k hk j j1 j2
    have h1 := isW_b (hWn k hk) (q := j - 6 * (base + k)) (by omega)
    rw [show 6 * (base + k) + (j - 6 * (base + k)) = j by omega] at h1
    exact ⟨h1, (hM.2.2.2.2 j (by omega)).2⟩
  have key : ∀ (m k fuel : Nat), k + m = many → m < fuel → f_X12_namedHere_2 (nI base) (nI many) fuel (nI k) τ = some (xo (nx (fun k => ia N B (6 * (base + k)) (tP B n s) (tQ B n s) 6) m k), τ) := by
    intro m
    induction m with
    | zero =>
      intro k fuel h1 h2
      obtain ⟨fuel, rfl⟩ : ∃ g, fuel = g + 1 := ⟨fuel - 1, by omega⟩
      rw [f_X12_namedHere_2, if_pos (nI_le (by omega) (by omega))]; rfl
    | succ m ih =>
      intro k fuel h1 h2
      obtain ⟨fuel, rfl⟩ : ∃ g, fuel = g + 1 := ⟨fuel - 1, by omega⟩
      rw [f_X12_namedHere_2, if_neg (nI_ge (by omega) (by omega)), y1, y2, nI_add, i6, nI_mul, M_isAt33 hM.2.1.2.2 hM.2.1.1 (hN' k (by omega)) (by omega) tb.1 tb.2.1, bind_some', nx]
      by_cases c : ia N B (6 * (base + k)) (tP B n s) (tQ B n s) 6 = true
      · rw [if_pos c, if_pos c]; exact if_neg o1n0
      · rw [if_neg c, if_neg c, nI_1]
        exact (if_pos rfl).trans (ih (k + 1) fuel (by omega) (by omega))
  exact key many 0 gFuel (by omega) (Nat.lt_trans (by omega) gFuel_ge)
theorem lk_eq (hs : s ≤ n) (h : tK B n s = 2) {base many : Nat} {nm : Nat → Nat} (hn : ∀ k, k < many → isW (fun q => N (6 * (base + k) + q)) ∧ nm k = wval (fun q => N (6 * (base + k) + q)) 6) : nx (fun k => decide (nm k = wv B (tP B n s) (tQ B n s - tP B n s))) many 0 = lk N B n s base many := by
  obtain ⟨t1, t2, t3, t4, t5⟩ := tok_L hs h
  refine nx_cg _ _ (fun k k1 k2 => ?_)
  obtain ⟨w1, w2⟩ := hn k (by omega)
  have hia := ia_name (B := B) (N := N) (j := base + k) (fr' := tP B n s) (m := tQ B n s - tP B n s) w1 (by omega)
  rw [show tP B n s + (tQ B n s - tP B n s) = tQ B n s by omega] at hia
  rw [w2]
  by_cases c : ia N B (6 * (base + k)) (tP B n s) (tQ B n s) 6 = true
  · rw [c]; exact decide_eq_true (hia.mp c).2.2
  · rw [show ia N B (6 * (base + k)) (tP B n s) (tQ B n s) 6 = false by simpa using c]
    exact decide_eq_false (fun z => c (hia.mpr ⟨t4, fun y hy => t5 _ (by omega) (by omega), z⟩))
theorem X_lkC (h : DR nc nr d N σ) (hnc : nc = d 0) (h3 : d 0 ≤ 3) (hX : XT B n s σ) (hs : s ≤ n) (hk : tK B n s = 2) : f_X4_courseNamed 0 (σ 15 0 5) σ = some (xo (lk N B n s 0 (d 0)), σ) := by
  have hb := tw_b hs hk
  rw [hX.2.2.2.1 hk, ← lk_eq (N := N) (base := 0) (many := d 0) (nm := fun c => wval (fun q => N (6 * c + q)) 6) hs hk (fun k hk => ⟨by simp only [Nat.zero_add]; exact (h.2.1 k hk).2.1, by simp only [Nat.zero_add]⟩)]
  refine X_cNamed (i0 := 0) (by decide) (by rw [h.1.1, hnc]) h3 (fun c hc => ?_) (by omega)
  have := h.2.1 c hc
  refine ⟨by rw [show 3 * 0 + c = c by omega]; exact this.2.2, ?_⟩
  have := (nm_b this.2.1).2
  omega
theorem X_lkR (h : DR nc nr d N σ) (hnr : nr = d 1) (h3 : d 1 ≤ 10) (hX : XT B n s σ) (hs : s ≤ n) (hk : tK B n s = 2) : f_X4_runnerNamed 0 (σ 15 0 5) σ = some (xo (lk N B n s 3 (d 1)), σ) := by
  have hb := tw_b hs hk
  rw [hX.2.2.2.1 hk, ← lk_eq (N := N) (base := 3) (many := d 1) (nm := fun c => wval (fun q => N (6 * (3 + c) + q)) 6) hs hk (fun k hk => ⟨(h.2.2 k hk).2.1, rfl⟩)]
  refine X_rNamed (i0 := 0) (by decide) (by rw [h.1.2.1, hnr]) h3 (fun c hc => ?_) (by omega)
  have := h.2.2 c hc
  refine ⟨by rw [show 10 * 0 + c = c by omega]; exact this.2.2, ?_⟩
  have := (nm_b this.2.1).2
  omega
/-- the names with one more -/
def nmN (N B : Nat → Nat) (p q v k : Nat) : Nat → Nat := fun j => if 6 * v ≤ j ∧ j < 6 * v + k then (if p + (j - 6 * v) < q then B (p + (j - 6 * v)) else 0) else N j
theorem nmN_w (hs : s ≤ n) (h : tK B n s = 2) : isW (fun q => nmN N B (tP B n s) (tQ B n s) v 6 (6 * v + q)) ∧ wval (fun q => nmN N B (tP B n s) (tQ B n s) v 6 (6 * v + q)) 6 = wv B (tP B n s) (tQ B n s - tP B n s) := by
  obtain ⟨t1, t2, t3, t4, t5⟩ := tok_L hs h
  have e : ∀ q, q < 6 → nmN N B (tP B n s) (tQ B n s) v 6 (6 * v + q) = if tP B n s + q < tQ B n s then B (tP B n s + q) else 0 := by
    intro q hq
    unfold nmN
    rw [if_pos (by omega), show 6 * v + q - 6 * v = q by omega]
  have l : ∀ q, q < tQ B n s - tP B n s → nmN N B (tP B n s) (tQ B n s) v 6 (6 * v + q) = B (tP B n s + q) ∧ 97 ≤ B (tP B n s + q) ∧ B (tP B n s + q) ≤ 122 := fun q hq => ⟨by rw [e q (by omega), if_pos (by omega)], t5 _ (by omega) (by omega)⟩
  have z : ∀ q, tQ B n s - tP B n s ≤ q → q < 6 → nmN N B (tP B n s) (tQ B n s) v 6 (6 * v + q) = 0 := fun q h1 h2 => by rw [e q h2, if_neg (by omega)]
  refine ⟨⟨?_, fun q hq => ?_, fun q hq h0 => ?_⟩, ?_⟩
  · have := l 0 (by omega)
    dsimp only
    omega
  · by_cases c : q < tQ B n s - tP B n s
    · have := l q c; dsimp only; omega
    · exact Or.inl (z q (by omega) hq)
  · refine z (q + 1) ?_ hq
    refine Decidable.byContradiction (fun c => ?_)
    have := l q (by omega)
    dsimp only at h0
    omega
  · have key : ∀ m, m ≤ 6 → wval (fun q => nmN N B (tP B n s) (tQ B n s) v 6 (6 * v + q)) m = wv B (tP B n s) (min m (tQ B n s - tP B n s)) := by
      intro m
      induction m with
      | zero => intro _; rw [Nat.zero_min]; rfl
      | succ m ih =>
        intro hm
        rw [wval, ih (by omega)]
        by_cases c : m < tQ B n s - tP B n s
        · have := l m c
          rw [if_neg (show ¬ nmN N B (tP B n s) (tQ B n s) v 6 (6 * v + m) = 0 by omega), this.1, Nat.min_eq_left (by omega), Nat.min_eq_left (by omega), wv]
        · rw [if_pos (z m (by omega) (by omega)), Nat.min_eq_right (by omega), Nat.min_eq_right (by omega)]
    rw [key 6 (Nat.le_refl _), Nat.min_eq_right t4]
theorem M_tn55 (hs : s ≤ n) (h : tK B n s = 2) (hv : v < 13) : ∀ (m k fuel : Nat) (τ : gSt), k + m = 6 → m < fuel → CM τ0 B n u d (nmN N B (tP B n s) (tQ B n s) v k) τ → MT B n s τ → Wp (f_X12_takesName_55 (nI v) fuel (nI k) τ) (fun r => r.1 = 1 ∧ CM τ0 B n u d (nmN N B (tP B n s) (tQ B n s) v 6) r.2 ∧ MT B n (tQ B n s) r.2) := by
  have tb := tQ_b (B := B) hs
  intro m
  induction m with
  | zero =>
    intro k fuel τ h1 h2 hM hT
    obtain ⟨fuel, rfl⟩ : ∃ g, fuel = g + 1 := ⟨fuel - 1, by omega⟩
    obtain rfl : k = 6 := by omega
    rw [f_X12_takesName_55]
    refine Wp.t (nI_le (Nat.le_refl _) (by decide)) ?_
    refine Wp.bind (M_goesOn hM.2.1 tb.2.1 hT.1) (fun τ' a => ?_)
    exact Wp.ret ⟨rfl, hM.gt a.1, a.2⟩
  | succ m ih =>
    intro k fuel τ h1 h2 hM hT
    obtain ⟨fuel, rfl⟩ : ∃ g, fuel = g + 1 := ⟨fuel - 1, by omega⟩
    have hn := hM.2.1.1
    obtain ⟨t1, t2, t3, t4, t5⟩ := tok_L hs h
    have go : ∀ x : Nat, x < 256 → x = (if tP B n s + k < tQ B n s then B (tP B n s + k) else 0) → Wp ((gst τ 33 0 78 (6 * nI v + nI k) (nI x)).bind fun z99 => f_X12_takesName_55 (nI v) fuel (nI k + 1) z99) (fun r => r.1 = 1 ∧ CM τ0 B n u d (nmN N B (tP B n s) (tQ B n s) v 6) r.2 ∧ MT B n (tQ B n s) r.2) := by
      intro x hx hxe
      refine Wp.st (6 * v + k) (by rw [i6, nI_mul, nI_add]) (by omega) (by decide) ?_
      rw [nI_1]
      refine ih (k + 1) fuel _ (by omega) (by omega) ?_ ?_
      · refine ⟨hM.1.up (by omega), ⟨hM.2.1.1, by rw [gup_kind (by decide)]; exact hM.2.1.2.1, fun z hz => by rw [gup_kind (by decide)]; exact hM.2.1.2.2 z hz⟩, by rw [gup_kind (by decide)]; exact hM.2.2.1, fun z hz => by rw [gup_kind (by decide)]; exact hM.2.2.2.1 z hz, fun z hz => ?_⟩
        have hz' := hM.2.2.2.2 z hz
        rw [gup_get]
        by_cases ez : z = 6 * v + k
        · have : nmN N B (tP B n s) (tQ B n s) v (k + 1) z = x := by
            unfold nmN
            rw [if_pos (by omega), hxe, show z - 6 * v = k by omega]
          rw [if_pos ez, this]
          exact ⟨by omega, rfl⟩
        · have : nmN N B (tP B n s) (tQ B n s) v (k + 1) z = nmN N B (tP B n s) (tQ B n s) v k z := by
            unfold nmN
            by_cases c : 6 * v ≤ z ∧ z < 6 * v + k
            · rw [if_pos (by omega), if_pos c]
            · rw [if_neg (by omega), if_neg c]
          rw [if_neg ez, this]
          exact hz'
      · unfold MT
        rw [gup_kind (by decide)]
        exact hT
    rw [f_X12_takesName_55]
    refine Wp.f (by rw [i6]; exact nI_ge (by omega) (by decide)) ?_
    rw [hT.1, hT.2.1, nI_add]
    by_cases c : tP B n s + k < tQ B n s
    · refine Wp.f (nI_ge c (by omega)) ?_
      have hb := hM.2.1.2.2 (tP B n s + k) (by omega)
      refine Wp.ld (tP B n s + k) rfl (by omega) (by decide) hb.2 ?_
      exact go _ hb.1 (by rw [if_pos c])
    · refine Wp.t (nI_le (by omega) (by omega)) ?_
      exact go 0 (by decide) (by rw [if_neg c])
theorem nmN_0 {p q : Nat} : nmN N B p q v 0 = N := by
  funext j
  unfold nmN
  rw [if_neg (by omega)]
/-- a new name: both take it, or both find the same fault -/
theorem name2 (hX : CX σ0 B n L u nc nr d N σ) (hXT : XT B n s σ) (hM : CM τ0 B n u d N τ) (hp : τ 28 0 13 = nI s) (hs : s ≤ n) (hk : ∀ s, s ≤ n → tK B n s < 256) (hnc : nc = d 0) (hnr : nr = d 1) (h3 : d 0 ≤ 3) (h10 : d 1 ≤ 10) (hv : v < 13) : (∃ a b, f_X8_isNewName σ = some a ∧ f_X12_takesName (nI v) τ = some b ∧ F2 σ0 τ0 a b) ∨ (tK B n s = 2 ∧ σ 15 0 5 = nI (wv B (tP B n s) (tQ B n s - tP B n s)) ∧ f_X8_isNewName σ = some (1, σ) ∧ ∃ τ', f_X12_takesName (nI v) τ = some (1, τ') ∧ CM τ0 B n u d (nmN N B (tP B n s) (tQ B n s) v 6) τ' ∧ MT B n (tQ B n s) τ') := by
  obtain ⟨τ1, g1, g2, g3⟩ := M_goesOn hM.2.1 hs hp
  have hM1 := hM.gt g2
  unfold f_X8_isNewName f_X12_takesName
  rw [g1, bind_some', X_isName hXT hs (hk s hs), bind_some', M_isName hM1.2.1 g3 hs (hk s hs), bind_some']
  by_cases c : nmq B n s
  · have h2 := c.1
    rw [if_pos c, if_pos c]
    dsimp only
    have l0 : gld τ1 31 0 397 0 = some (nI (d 0)) := (gld_n (j := 0) (by decide) (by decide)).trans (by rw [hM1.2.2.2.1 0 (by decide)])
    have l1 : gld τ1 31 0 397 1 = some (nI (d 1)) := (gld_n (j := 1) (by decide) (by decide)).trans (by rw [hM1.2.2.2.1 1 (by decide)])
    have m0 : f_X12_namedHere 0 (nI (d 0)) τ1 = some (xo (lk N B n s 0 (d 0)), τ1) := M_namedHere (base := 0) hM1 g3 hs (fun k hk => by simp only [Nat.zero_add]; exact (hX.2.2.2.2.2.1 k hk).2.1) (by omega)
    have m3 : f_X12_namedHere 3 (nI (d 1)) τ1 = some (xo (lk N B n s 3 (d 1)), τ1) := M_namedHere (base := 3) hM1 g3 hs (fun k hk => (hX.2.2.2.2.2.2 k hk).2.1) (by omega)
    rw [if_neg o1n0, if_neg o1n0, X_lkC hX.2.2.2.2 hnc h3 hXT hs h2, bind_some', l0, bind_some', m0, bind_some']
    dsimp only
    rw [X_lkR hX.2.2.2.2 hnr h10 hXT hs h2, l1, bind_some', bind_some', m3, bind_some']
    dsimp only
    have er3 : ∀ vs : Int32, ¬ vs = 0 → f_X8_isNewName_44 vs σ = some (0, gup σ 15 0 7 3) := fun vs h => by unfold f_X8_isNewName_44; rw [if_neg h]; rfl
    cases hl : lk N B n s 0 (d 0) with
    | some k =>
      have hk2 := nx_some hl
      left
      rw [if_neg (show ¬ xo (some k) = -1 from nI_nm1 (show k < 2147483648 by omega)), if_neg (show ¬ xo (some k) = -1 from nI_nm1 (show k < 2147483648 by omega))]
      exact ⟨_, _, er3 1 o1n0, rfl, F2.mk hX.1 hM1.1 (pl2 hXT g3)⟩
    | none =>
      rw [if_pos (show xo none = -1 from rfl), if_pos (show xo none = -1 from rfl)]
      cases hl2 : lk N B n s 3 (d 1) with
      | some k =>
        have hk2 := nx_some hl2
        left
        rw [if_neg (show ¬ xo (some k) = -1 from nI_nm1 (show k < 2147483648 by omega)), if_neg (show ¬ xo (some k) = -1 from nI_nm1 (show k < 2147483648 by omega))]
        exact ⟨_, _, er3 1 o1n0, rfl, F2.mk hX.1 hM1.1 (pl2 hXT g3)⟩
      | none =>
        right
        rw [if_pos (show xo none = -1 from rfl), if_pos (show xo none = -1 from rfl)]
        obtain ⟨r, r1, r2, r3, r4⟩ := M_tn55 (N := N) hs h2 hv 6 0 gFuel τ1 (by omega) (Nat.lt_trans (by omega) gFuel_ge) (by rw [nmN_0]; exact hM1) g3
        refine ⟨h2, hXT.2.2.2.1 h2, rfl, r.2, ?_, r3, r4⟩
        refine Eq.trans r1 ?_
        rw [← r2]
  · left
    rw [if_neg c, if_neg c]
    exact ⟨_, _, rfl, rfl, F2.mk hX.1 hM1.1 (pl2 hXT g3)⟩
end TW
