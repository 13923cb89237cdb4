/-! The fresh heap: both constructors, run by the kernel. -/
def h00 : Hp := (1, nF 7, fun _ => 0, fun _ _ => none, fun _ _ => 0)
def hpOf (r : Rs) : Hp := match r with
  | some x => x.2
  | none => h00
def okRs (r : Rs) : Bool := match r with
  | some (none, _) => true
  | _ => false
theorem hp_of {r : Rs} (h : okRs r = true) : r = some (none, hpOf r) := by
  unfold okRs at h
  split at h
  · rfl
  · cases h
def fuelA : Nat := 1500
def rA0 : Rs := run fuelA 20 mX7_init 0 (ent mX7_init [.ref 0]) [] h00
def hA : Hp := hpOf rA0
def hA1 : Hp := (hA.1 + 1, hA.2.1 + nF 8, gL hA, up1 (gR hA) hA.1 (fun _ => none), up1 (gI hA) hA.1 (fun _ => 0))
def rB0 : Rs := run fuelA 20 mX8_init 0 (ent mX8_init [.ref 85]) [] hA1
def hB : Hp := hpOf rB0
theorem okA0 : okRs rA0 = true := by decide +kernel
theorem okB0 : okRs rB0 = true := by decide +kernel
theorem nxA : hA.1 = 85 := by decide +kernel
theorem nxB : hB.1 = 109 := by decide +kernel
theorem slA : hA.2.1 ≤ 3000 := by decide +kernel
theorem slB : hB.2.1 ≤ 40000 := by decide +kernel
theorem rA_run : run fuelA 20 mX7_init 0 (ent mX7_init [.ref 0]) [] h00 = some (none, hA) := by
  have h := hp_of okA0
  rw [show hpOf rA0 = hA by rw [hA]] at h
  rw [rA0] at h
  exact h
theorem rB_run : run fuelA 20 mX8_init 0 (ent mX8_init [.ref 85]) [] hA1 = some (none, hB) := by
  have h := hp_of okB0
  rw [show hpOf rB0 = hB by rw [hB]] at h
  rw [rB0] at h
  exact h
theorem lnB : ∀ o, o < 109 → gL hB o = LN o := by decide +kernel
theorem rB40 : ∀ o, o < 109 → ¬ o = 2 → ∀ k, k < 40 → gR hB o k = RR o k := by decide +kernel
theorem kd40 : ∀ o, o < 109 → KD o ≤ 12 ∨ LN o ≤ 40 := by decide +kernel
theorem itB : IT (gI hB 86) 0 0 := by
  refine ⟨by decide +kernel, by decide, fun j hj => absurd hj (Nat.not_lt_zero j), fun i hi => ⟨3, ?_, by decide⟩, fun i hi => ⟨0, ?_, by decide⟩, ⟨5, by decide +kernel, by decide⟩, by decide +kernel, by decide, fun j hj => absurd hj (Nat.not_lt_zero j)⟩
  · revert i; decide +kernel
  · revert i; decide +kernel
theorem ctB : CT (gI hB) 5 (gI hB 86) 0 0 := by
  unfold CT
  decide +kernel
theorem ssB1 : ∀ s, s < 4 → gI hB (54 + 2 * s) 0 = gI hB 100 s ∧ gI hB 100 s = -1 ∧ gI hB (54 + 2 * s) 1 = nI 0 ∧ gI hB 101 s = nI 0 := by decide +kernel
theorem ssB2 : ∀ s, s < 4 → ∀ i, i < 24 → gI hB (55 + 2 * s) i = gI hB 102 (24 * s + i) := by decide +kernel
theorem slB1 : ∀ s, s < 5 → gI hB (63 + 4 * s) 0 = gI hB 103 s ∧ gI hB 103 s = 0 := by decide +kernel
