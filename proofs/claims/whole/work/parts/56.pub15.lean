/-! A place of a sheet is marked on both sides. -/
theorem ss_put {nx : Nat} {ln : Nat → Nat} {R : Nat → Nat → Option Nat} {I : Nat → Nat → Int32} {s p : Nat} {x : Int32} (hS : Sim nx ln R I) (hs : s < 4) (hp : p < 24) : Sim nx ln R (up2 (up2 I (55 + 2 * s) p x) 102 (24 * s + p) x) := by
  obtain ⟨b1, b2, b3, b4, b5, b6, b7⟩ := hS
  have eo : ∀ o, ¬ o = 55 + 2 * s → ¬ o = 102 → up2 (up2 I (55 + 2 * s) p x) 102 (24 * s + p) x o = I o := fun o h1 h2 => by rw [up2_ne h2, up2_ne h1]
  have e102 : up2 (up2 I (55 + 2 * s) p x) 102 (24 * s + p) x 102 = up1 (I 102) (24 * s + p) x := by rw [up2_eq, up2_ne (by omega)]
  have e55 : up2 (up2 I (55 + 2 * s) p x) 102 (24 * s + p) x (55 + 2 * s) = up1 (I (55 + 2 * s)) p x := by rw [up2_ne (by omega), up2_eq]
  refine ⟨b1, b2.keep (fun o h => eo o (by omega) (by omega)) (by rw [eo 0 (by omega) (by omega)]) (by rw [eo 85 (by omega) (by omega)]), b3.keep (by rw [eo 0 (by omega) (by omega)]) (by rw [eo 85 (by omega) (by omega)]) (eo 50 (by omega) (by omega)) (eo 92 (by omega) (by omega)), fun s' hs' => ?_, b5.keep (fun o h => eo o (by omega) (by omega)), b6.keep (by rw [eo 0 (by omega) (by omega)]) (by rw [eo 85 (by omega) (by omega)]) (eo 83 (by omega) (by omega)) (eo 108 (by omega) (by omega)), b7.keep (eo 93 (by omega) (by omega)) (eo 94 (by omega) (by omega))⟩
  obtain ⟨c1, c2, c3, c4⟩ := b4 s' hs'
  refine ⟨by rw [eo (54 + 2 * s') (by omega) (by omega), eo 100 (by omega) (by omega)]; exact c1, by rw [eo 100 (by omega) (by omega)]; exact c2, by rw [eo (54 + 2 * s') (by omega) (by omega), eo 101 (by omega) (by omega)]; exact c3, fun i hi => ?_⟩
  rw [e102]
  by_cases hss : s' = s
  · subst hss
    rw [e55]
    by_cases hip : i = p
    · subst hip; rw [up1_eq, up1_eq]
    · rw [up1_ne hip, up1_ne (by omega)]; exact c4 i hi
  · rw [eo (55 + 2 * s') (by omega) (by omega), up1_ne (by omega)]; exact c4 i hi
theorem c_isMissing {nx sl : Nat} {ln : Nat → Nat} {R : Nat → Nat → Option Nat} {I : Nat → Nat → Int32} {Q : Option Value → Hp → Prop} {k : Nat} (hW : SW nx ln R) {o : Nat} (ho : KD o = 3 ∧ o < nx) (h1 : I o 0 = -1 → Q (some (.int 1)) (nx, sl, ln, R, I)) (h0 : ¬ I o 0 = -1 → Q (some (.int 0)) (nx, sl, ln, R, I)) : Go k mX3_isMissing [.ref o] (nx, sl, ln, R, I) Q := by
  refine Go_wp 20 rfl ?_
  refine And.intro ho ?_
  exact And.intro (fun q => And.intro (Or.inl rfl) (h0 q)) (fun q => And.intro (Or.inr rfl) (h1 (Decidable.of_not_not q)))
theorem w_ceq {nx : Nat} {ln : Nat → Nat} {R : Nat → Nat → Option Nat} {i p : Nat} (hW : SW nx ln R) (hi : i < 4) (hp : p < 24) : (KD (55 + 2 * i) = 11 ∧ 55 + 2 * i < nx) ∧ ¬ nI p < 0 ∧ (nI p).toNatClampNeg < ln (55 + 2 * i) := sw_n (i := p) hW (by omega) (sh_all i hi).2.1 (sh_all i hi).2.2.2.2 hp (by decide)
