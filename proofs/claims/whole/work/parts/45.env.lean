/-! what lies around: Strings and statics, at the law's start and ever after -/
section EN
variable {aK aV : Nat → Nat} {A B : Nat → Prop} {s U : State}
theorem EnvS.on (hW : s.WarmedH U.vm) (hq : ∀ a : Nat, a < s.heap.size → ¬ A a → U.heap[a]? = s.heap[a]?) (h : EnvS aK aV A s) : EnvS aK aV A U := ⟨(vk_S.moved hW.alike h.1).kept hq, fun i hi => vk_R.warm hW (h.2.1 i hi), (va_Z.moved hW.alike h.2.2.1).kept hq, (va_Zq.moved hW.alike h.2.2.2).kept hq⟩
theorem EnvS.same (hv : U.vm = s.vm) (hh : U.heap = s.heap) (h : EnvS aK aV A s) : EnvS aK aV A U := by
  have ha : s.vm.Alike U.vm := by rw [hv]; exact Vm.Alike.refl _
  unfold EnvS
  rw [hh]
  exact ⟨vk_S.moved ha h.1, fun i hi => vk_R.same hv (h.2.1 i hi), va_Z.moved ha h.2.2.1, va_Zq.moved ha h.2.2.2⟩
theorem EnvS.narrow (hAB : ∀ q, B q → A q) (h : EnvS aK aV A s) : EnvS aK aV B s := ⟨h.1.narrow hAB, h.2.1, h.2.2.1.narrow hAB, h.2.2.2.narrow hAB⟩
theorem EnvX.on (hW : s.WarmedH U.vm) (hq : ∀ a : Nat, a < s.heap.size → ¬ A a → U.heap[a]? = s.heap[a]?) (h : EnvX A s) : EnvX A U := ⟨(vx_Zq.moved hW.alike h.1).kept hq, (vx_Zq.moved hW.alike h.2.1).kept hq, fun x hx => by
  have h1 := h.2.2 x hx
  simp only [xB, List.mem_cons, List.not_mem_nil, or_false] at hx
  rcases hx with rfl | rfl | rfl | rfl
  · exact va_Nw.warmC hW h1
  · exact va_Nw.warmD hW h1
  · exact va_Nw.warmD hW h1
  · exact va_Nw.warmD hW h1⟩
theorem EnvX.same (hv : U.vm = s.vm) (hh : U.heap = s.heap) (h : EnvX A s) : EnvX A U := by
  have ha : s.vm.Alike U.vm := by rw [hv]; exact Vm.Alike.refl _
  unfold EnvX
  rw [hh]
  exact ⟨vx_Zq.moved ha h.1, vx_Zq.moved ha h.2.1, fun x hx => va_Nw.same (xB_on x hx) hv.symm (h.2.2 x hx)⟩
theorem EnvX.narrow (hAB : ∀ q, B q → A q) (h : EnvX A s) : EnvX B s := ⟨h.1.narrow hAB, h.2.1.narrow hAB, h.2.2⟩
end EN
/-- our world: its numbers, what lies around below sz, its cells' places -/
def gW (D : va_G) (aK aV : Nat → Nat) (sz : Nat) (ad : Nat → Nat → Nat) (cI cC cR : ClassId) : gWd := ((D, fun U => EnvS aK aV (fun q => sz ≤ q) U ∧ EnvX (fun q => sz ≤ q) U), ad, (cI, cC, cR))
section EW
variable {D : va_G} {aK aV : Nat → Nat} {sz : Nat} {ad : Nat → Nat → Nat} {cI cC cR : ClassId}
theorem gW_on {A : Nat → Prop} (hA : ∀ q, A q → sz ≤ q) (s U : State) (locs : List Loc) (hS : va_S A s.heap U.heap locs) (hW : s.WarmedH U.vm) (h : (gW D aK aV sz ad cI cC cR).1.2 s) : (gW D aK aV sz ad cI cC cR).1.2 U :=
  ⟨EnvS.on hW (fun a h1 h2 => hS.2.1 a h1 (fun h => h2 (hA a h))) h.1, EnvX.on hW (fun a h1 h2 => hS.2.1 a h1 (fun h => h2 (hA a h))) h.2⟩
theorem gW_stab (hA : ∀ q, gA (gW D aK aV sz ad cI cC cR) 0 41 q → sz ≤ q) : gStab (gW D aK aV sz ad cI cC cR) := ⟨fun s U hv hh h => ⟨EnvS.same hv hh h.1, EnvX.same hv hh h.2⟩, fun s U locs hS hW h => gW_on hA s U locs hS hW h⟩
theorem gW_env (hA : ∀ q, gA (gW D aK aV sz ad cI cC cR) 0 41 q → sz ≤ q) : gEnv (gW D aK aV sz ad cI cC cR) aK aV := fun _ h => EnvS.narrow hA h.1
theorem gW_envX (hA : ∀ q, gA (gW D aK aV sz ad cI cC cR) 0 41 q → sz ≤ q) : gEnvX (gW D aK aV sz ad cI cC cR) := fun _ h => EnvX.narrow hA h.2
end EW
def gsT (i : Nat) : Term := .string RX12 (gsIx.getD i 0)
set_option maxRecDepth 20000 in
theorem env0 {b : Nat} {s : State} (hgv : (Jvm.Cond.and given_1 narrow_1).before #[Value.ref b] s = true) (hts : ∀ w ∈ lw_tbl, w.before #[Value.ref b] s = true) : ∃ aK aV : Nat → Nat, EnvS aK aV (fun q => s.heap.size ≤ q) s ∧ EnvX (fun q => s.heap.size ≤ q) s := by
  have hs := flat_of_before _ hgv
  have hA : ∀ a : Nat, a < s.heap.size → ¬ (fun q => s.heap.size ≤ q) a := fun a h => Nat.not_le.mpr h
  have c4 : ∀ {i : Nat}, i < 4 → i = 0 ∨ i = 1 ∨ i = 2 ∨ i = 3 := fun h => by omega
  obtain ⟨aK, aV, h1, h2⟩ := vk_Sof (args := #[Value.ref b]) (s := s) (N := 4) (tm := gsT) (len := gsLen) (byt := gsByt) (A := fun q => s.heap.size ≤ q) (by decide)
    (fun i hi => by rcases c4 hi with rfl | rfl | rfl | rfl <;> exact hs _ (by decide +kernel))
    (fun i hi => by rcases c4 hi with rfl | rfl | rfl | rfl <;> exact hs _ (by decide +kernel))
    (fun i hi => by rcases c4 hi with rfl | rfl | rfl | rfl <;> exact hs _ (by decide +kernel))
    (fun i hi => by rcases c4 hi with rfl | rfl | rfl | rfl <;> exact hs _ (by decide +kernel))
    (fun i hi j hj => by
      rcases c4 hi with rfl | rfl | rfl | rfl
      · rcases (show j = 0 ∨ j = 1 ∨ j = 2 ∨ j = 3 ∨ j = 4 ∨ j = 5 by simp [gsLen] at hj; omega) with rfl | rfl | rfl | rfl | rfl | rfl <;> exact hs _ (by decide +kernel)
      · rcases (show j = 0 ∨ j = 1 ∨ j = 2 ∨ j = 3 ∨ j = 4 ∨ j = 5 by simp [gsLen] at hj; omega) with rfl | rfl | rfl | rfl | rfl | rfl <;> exact hs _ (by decide +kernel)
      · rcases (show j = 0 ∨ j = 1 ∨ j = 2 by simp [gsLen] at hj; omega) with rfl | rfl | rfl <;> exact hs _ (by decide +kernel)
      · rcases (show j = 0 ∨ j = 1 ∨ j = 2 ∨ j = 3 ∨ j = 4 by simp [gsLen] at hj; omega) with rfl | rfl | rfl | rfl | rfl <;> exact hs _ (by decide +kernel))
    (fun i j hi hj hij => by
      rcases c4 hi with rfl | rfl | rfl | rfl <;> rcases c4 hj with rfl | rfl | rfl | rfl <;> first | exact absurd rfl hij | exact Or.inl (hs _ (by decide +kernel)) | exact Or.inr (hs _ (by decide +kernel))) hA
  refine ⟨aK, aV, ⟨h1, fun i hi => vk_R.of (A := #[Value.ref b]) ?_ (h2 i hi), va_Zof (hts _ (List.mem_of_getElem? (i := 1519) (by decide +kernel))) (hts _ (List.mem_of_getElem? (i := 107) (by decide +kernel))) (va_eqt (hs _ (by decide +kernel))) hA, va_Zqof (hts _ (List.mem_of_getElem? (i := 1535) (by decide +kernel))) (hts _ (List.mem_of_getElem? (i := 109) (by decide +kernel))) (hs _ (by decide +kernel)) hA⟩, vx_Zqof (hts _ (List.mem_of_getElem? (i := 1326) (by decide +kernel))) (hts _ (List.mem_of_getElem? (i := 111) (by decide +kernel))) (hs _ (by decide +kernel)) hA, vx_Zqof (hts _ (List.mem_of_getElem? (i := 1328) (by decide +kernel))) (hts _ (List.mem_of_getElem? (i := 111) (by decide +kernel))) (hs _ (by decide +kernel)) hA, ?_⟩
  · rcases c4 hi with rfl | rfl | rfl | rfl
    · exact hts _ (List.mem_of_getElem? (i := 1505) (by decide +kernel))
    · exact hts _ (List.mem_of_getElem? (i := 1574) (by decide +kernel))
    · exact hts _ (List.mem_of_getElem? (i := 1575) (by decide +kernel))
    · exact hts _ (List.mem_of_getElem? (i := 1576) (by decide +kernel))
  · intro x hx
    refine va_Nw.of (xB_on x hx) (A := #[Value.ref b]) ?_
    simp only [xB, List.mem_cons, List.not_mem_nil, or_false] at hx
    rcases hx with rfl | rfl | rfl | rfl
    · exact hts _ (List.mem_of_getElem? (i := 1301) (by decide +kernel))
    · exact hts _ (List.mem_of_getElem? (i := 1302) (by decide +kernel))
    · exact hts _ (List.mem_of_getElem? (i := 1304) (by decide +kernel))
    · exact hts _ (List.mem_of_getElem? (i := 1306) (by decide +kernel))
