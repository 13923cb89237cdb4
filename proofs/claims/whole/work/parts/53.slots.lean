/-! Sheets and slots: where they lie. -/
theorem sl_all : ∀ i, i < 5 → KD (63 + 4 * i) = 4 ∧ KD (64 + 4 * i) = 0 ∧ KD (65 + 4 * i) = 3 ∧ KD (66 + 4 * i) = 11 ∧ RR 62 i = some (63 + 4 * i) ∧ RR (63 + 4 * i) 1 = some (64 + 4 * i) ∧ RR (63 + 4 * i) 2 = some (65 + 4 * i) ∧ RR (65 + 4 * i) 2 = some (66 + 4 * i) ∧ LN (66 + 4 * i) = 24 := by decide
theorem sh_all : ∀ i, i < 4 → KD (54 + 2 * i) = 3 ∧ KD (55 + 2 * i) = 11 ∧ RR 53 i = some (54 + 2 * i) ∧ RR (54 + 2 * i) 2 = some (55 + 2 * i) ∧ LN (55 + 2 * i) = 24 := by decide
section SW2
variable {nx : Nat} {ln : Nat → Nat} {R : Nat → Nat → Option Nat} {i : Nat}
theorem b2_of {o : Nat} (h : 53 ≤ o) : Nat.beq o 2 = false := tw_b2 (by omega)
theorem rv_of (hW : SW nx ln R) {o x y : Nat} (ho : o < 109) (h53 : 53 ≤ o) (h : RR o x = some y) : rv (R o x) = .ref y := by
  have := sw_r hW ho (b2_of h53) h
  exact this
theorem w_slk (hW : SW nx ln R) (hi : i < 5) : KD (63 + 4 * i) = 4 ∧ 63 + 4 * i < nx := ⟨(sl_all i hi).1, sw_lt hW (by omega)⟩
theorem w_slj (hW : SW nx ln R) (hi : i < 5) : KD (64 + 4 * i) = 0 ∧ 64 + 4 * i < nx := ⟨(sl_all i hi).2.1, sw_lt hW (by omega)⟩
theorem w_sls (hW : SW nx ln R) (hi : i < 5) : KD (65 + 4 * i) = 3 ∧ 65 + 4 * i < nx := ⟨(sl_all i hi).2.2.1, sw_lt hW (by omega)⟩
theorem w_shk (hW : SW nx ln R) (hi : i < 4) : KD (54 + 2 * i) = 3 ∧ 54 + 2 * i < nx := ⟨(sh_all i hi).1, sw_lt hW (by omega)⟩
theorem w_asl (hW : SW nx ln R) (hi : i < 5) : (12 < KD 62 ∧ 62 < nx) ∧ ¬ nI i < 0 ∧ (nI i).toNatClampNeg < ln 62 := ⟨⟨by decide, sw_lt hW (by decide)⟩, (sw_n (i := i) hW (o := 62) (by decide) rfl rfl hi (by decide)).2⟩
theorem w_ash (hW : SW nx ln R) (hi : i < 4) : (12 < KD 53 ∧ 53 < nx) ∧ ¬ nI i < 0 ∧ (nI i).toNatClampNeg < ln 53 := ⟨⟨by decide, sw_lt hW (by decide)⟩, (sw_n (i := i) hW (o := 53) (by decide) rfl rfl hi (by decide)).2⟩
theorem w_rsl (hW : SW nx ln R) (hi : i < 5) : rv (R 62 (nI i).toNatClampNeg) = .ref (63 + 4 * i) := by rw [ix (by omega)]; exact rv_of hW (by decide) (by decide) (sl_all i hi).2.2.2.2.1
theorem w_rsh (hW : SW nx ln R) (hi : i < 4) : rv (R 53 (nI i).toNatClampNeg) = .ref (54 + 2 * i) := by rw [ix (by omega)]; exact rv_of hW (by decide) (by decide) (sh_all i hi).2.2.1
theorem w_rj (hW : SW nx ln R) (hi : i < 5) : rv (R (63 + 4 * i) 1) = .ref (64 + 4 * i) := rv_of hW (by omega) (by omega) (sl_all i hi).2.2.2.2.2.1
theorem w_rs (hW : SW nx ln R) (hi : i < 5) : rv (R (63 + 4 * i) 2) = .ref (65 + 4 * i) := rv_of hW (by omega) (by omega) (sl_all i hi).2.2.2.2.2.2.1
theorem w_rp (hW : SW nx ln R) (hi : i < 5) : rv (R (65 + 4 * i) 2) = .ref (66 + 4 * i) := rv_of hW (by omega) (by omega) (sl_all i hi).2.2.2.2.2.2.2.1
theorem w_rq (hW : SW nx ln R) (hi : i < 4) : rv (R (54 + 2 * i) 2) = .ref (55 + 2 * i) := rv_of hW (by omega) (by omega) (sh_all i hi).2.2.2.1
end SW2
theorem s_isSlot {h : Hp} {j : Int32} {Q : Option Value → Hp → Prop} {k : Nat} (h1 : ∀ i, i < 5 → j = nI i → Q (some (.int 1)) h) (h0 : (∀ i, i < 5 → ¬ j = nI i) → Q (some (.int 0)) h) : Go (k + 1) mX8_isSlot [.int j] h Q := by
  refine Go_wp 20 rfl ?_
  exact s_isIn (n := 5) rfl (fun i hi e => And.intro (Or.inr rfl) (h1 i hi e)) (fun e => And.intro (Or.inl rfl) (h0 e))
theorem s_isSheet {h : Hp} {j : Int32} {Q : Option Value → Hp → Prop} {k : Nat} (h1 : ∀ i, i < 4 → j = nI i → Q (some (.int 1)) h) (h0 : (∀ i, i < 4 → ¬ j = nI i) → Q (some (.int 0)) h) : Go (k + 1) mX8_isSheet [.int j] h Q := by
  refine Go_wp 20 rfl ?_
  exact s_isIn (n := 4) rfl (fun i hi e => And.intro (Or.inr rfl) (h1 i hi e)) (fun e => And.intro (Or.inl rfl) (h0 e))
