/-! What is read can be worked out; the words of a tape in a row. -/
def okRv : List Int32 → Nat → Prop
  | [], d => d = 0
  | c :: C, d => (0 ≤ c ∧ c < 10004 ∧ 1 ≤ d ∧ okRv C (d - 1)) ∨ (c = -10 ∧ 1 ≤ d ∧ okRv C d) ∨ (-9 ≤ c ∧ c ≤ -1 ∧ 1 ≤ d ∧ okRv C (d + 1))
theorem opc_ok {b : Nat} (h : ¬ opr b = 0) : -9 ≤ opc b ∧ opc b ≤ -1 := by
  unfold opr at h
  unfold opc
  by_cases h1 : b = 124
  · rw [if_pos h1]; decide
  rw [if_neg h1] at h ⊢
  by_cases h2 : b = 38
  · rw [if_pos h2]; decide
  rw [if_neg h2] at h ⊢
  by_cases h3 : b = 60
  · rw [if_pos h3]; decide
  by_cases h4 : b = 61
  · rw [if_neg h3, if_pos h4]; decide
  by_cases h5 : b = 62
  · rw [if_neg h3, if_neg h4, if_pos h5]; decide
  rw [if_neg (by omega)] at h
  rw [if_neg h3, if_neg h4, if_neg h5]
  by_cases h6 : b = 43
  · rw [if_pos h6]; decide
  by_cases h7 : b = 45
  · rw [if_neg h6, if_pos h7]; decide
  rw [if_neg (by omega)] at h
  rw [if_neg h6, if_neg h7]
  by_cases h8 : b = 42
  · rw [if_pos h8]; decide
  by_cases h9 : b = 47
  · rw [if_neg h8, if_pos h9]; decide
  rw [if_neg (by omega)] at h
  exact absurd rfl h
def WF (G : Int32 → Prop) (σ τ : Sg) : Prop := (∀ d, okRv σ.2.1 d → okRv τ.2.1 (d + 1)) ∧ τ.2.1.length + σ.1 ≤ σ.2.1.length + τ.1 ∧ τ.2.2 + σ.2.1.length ≤ σ.2.2 + τ.2.1.length ∧ ((∀ c, c ∈ σ.2.1 → G c) → ∀ c, c ∈ τ.2.1 → G c) ∧ σ.1 ≤ τ.1
def WL (G : Int32 → Prop) (σ τ : Sg) : Prop := (∀ d, okRv σ.2.1 (d + 1) → okRv τ.2.1 (d + 1)) ∧ τ.2.1.length + σ.1 ≤ σ.2.1.length + τ.1 ∧ τ.2.2 + σ.2.1.length ≤ σ.2.2 + τ.2.1.length ∧ ((∀ c, c ∈ σ.2.1 → G c) → ∀ c, c ∈ τ.2.1 → G c) ∧ σ.1 ≤ τ.1
theorem lp_wf {sb : Nat → Nat} {G : Int32 → Prop} (hG : ∀ b, ¬ opr b = 0 → G (opc b)) {nxt : Sg → Bool × Sg} {m : Nat} (hn : ∀ σ, (nxt σ).1 = true → WF G σ (nxt σ).2) : ∀ r c σ, (lpF sb nxt m r c σ).1 = true → WL G σ (lpF sb nxt m r c σ).2 := by
  intro r
  induction r with
  | zero => intro c σ _; exact ⟨fun d h => h, by rw [lpF]; dsimp only; omega, by rw [lpF]; dsimp only; omega, fun h => h, by rw [lpF]; dsimp only; omega⟩
  | succ r ih =>
    intro c σ h
    rw [lpF] at h ⊢
    by_cases hj : opr (sb σ.1) = m + 1
    · rw [if_pos hj] at h ⊢
      by_cases h2 : m = 2 ∧ 0 < c
      · rw [if_pos h2]
        exact ⟨fun d h => h, by dsimp only; omega, by dsimp only; omega, fun h => h, Nat.le_refl _⟩
      · rw [if_neg h2] at h ⊢
        by_cases hok : (nxt (σ.1 + 1, σ.2)).1 = true
        · rw [if_pos hok] at h ⊢
          obtain ⟨w1, w2, w3, w4, w5⟩ := hn _ hok
          obtain ⟨τ, hτ⟩ : ∃ τ, (nxt (σ.1 + 1, σ.2)).2 = τ := ⟨_, rfl⟩
          rw [hτ] at w1 w2 w3 w4 w5 h ⊢
          obtain ⟨v1, v2, v3, v4, v5⟩ := ih (c + 1) _ h
          dsimp only [List.length_cons] at *
          obtain ⟨o1, o2⟩ := opc_ok (b := sb σ.1) (by omega)
          refine ⟨fun d hd => v1 d (Or.inr (Or.inr ⟨o1, o2, by omega, w1 (d + 1) hd⟩)), by omega, by omega, fun hg => v4 (fun x hx => ?_), by omega⟩
          rcases List.mem_cons.mp hx with q | q
          · rw [q]; exact hG _ (by omega)
          · exact w4 hg x q
        · rw [if_neg hok] at h
          exact absurd h (by dsimp only; decide)
    · rw [if_neg hj]
      exact ⟨fun d h => h, by dsimp only; omega, by dsimp only; omega, fun h => h, Nat.le_refl _⟩
theorem rd_wf {od : Nat → Option Int32} {sb : Nat → Nat} {G : Int32 → Prop} (hG : ∀ b, ¬ opr b = 0 → G (opc b)) (hN : G (-10)) (hD : ∀ i c, od i = some c → G c ∧ 0 ≤ c ∧ c < 10004) : ∀ n m o t σ, (rd od sb n m o t σ).1 = true → WF G σ (rd od sb n m o t σ).2 := by
  intro n
  induction n with
  | zero => intro m o t σ h; exact absurd h (by rw [rd]; dsimp only; decide)
  | succ n ih =>
    intro m o t σ h
    rw [rd] at h ⊢
    by_cases h5 : m < 5
    · rw [if_pos h5] at h ⊢
      by_cases hok : (rd od sb n (m + 1) o t σ).1 = true
      · rw [if_pos hok] at h ⊢
        obtain ⟨w1, w2, w3, w4, w5⟩ := ih _ _ _ _ hok
        obtain ⟨v1, v2, v3, v4, v5⟩ := lp_wf hG (fun σ hh => ih (m + 1) o t σ hh) 96 0 _ h
        exact ⟨fun d hd => v1 d (w1 d hd), by omega, by omega, fun hg => v4 (w4 hg), by omega⟩
      · rw [if_neg hok] at h
        exact absurd h (by dsimp only; decide)
    · rw [if_neg h5] at h ⊢
      by_cases h6 : m = 5
      · rw [if_pos h6] at h ⊢
        exact ih _ _ _ _ h
      · rw [if_neg h6] at h ⊢
        cases hod : od σ.1 with
        | some c =>
          rw [hod] at h
          obtain ⟨g1, g2, g3⟩ := hD _ _ hod
          dsimp only
          refine ⟨fun d hd => Or.inl ⟨g2, g3, by omega, hd⟩, by rw [List.length_cons]; dsimp only; omega, by rw [List.length_cons]; dsimp only; omega, fun hg x hx => ?_, by dsimp only; omega⟩
          rcases List.mem_cons.mp hx with q | q
          · rw [q]; exact g1
          · exact hg x q
        | none =>
          rw [hod] at h
          dsimp only at h ⊢
          by_cases hnot : sb σ.1 = 33 ∧ t < 8
          · rw [if_pos hnot] at h ⊢
            by_cases hok : (rd od sb n 6 o (t + 1) (σ.1 + 1, σ.2)).1 = true
            · rw [if_pos hok]
              obtain ⟨w1, w2, w3, w4, w5⟩ := ih _ _ _ _ hok
              dsimp only at *
              refine ⟨fun d hd => Or.inr (Or.inl ⟨rfl, by omega, w1 d hd⟩), by rw [List.length_cons]; dsimp only; omega, by rw [List.length_cons]; dsimp only; omega, fun hg x hx => ?_, by dsimp only; omega⟩
              rcases List.mem_cons.mp hx with q | q
              · rw [q]; exact hN
              · exact w4 hg x q
            · rw [if_neg hok] at h
              exact absurd h (by dsimp only; decide)
          · rw [if_neg hnot] at h ⊢
            by_cases hop : sb σ.1 = 40 ∧ o < 8
            · rw [if_pos hop] at h ⊢
              by_cases hok : (rd od sb n 0 (o + 1) t (σ.1 + 1, σ.2)).1 = true ∧ sb (rd od sb n 0 (o + 1) t (σ.1 + 1, σ.2)).2.1 = 41
              · rw [if_pos hok]
                obtain ⟨w1, w2, w3, w4, w5⟩ := ih _ _ _ _ hok.1
                dsimp only at *
                exact ⟨w1, by dsimp only; omega, by dsimp only; omega, w4, by dsimp only; omega⟩
              · rw [if_neg hok] at h
                exact absurd h (by dsimp only; decide)
            · rw [if_neg hop] at h
              exact absurd h (by dsimp only; decide)
theorem SK.down {st : Nat → Int32} {c : Int32} {C : List Int32} (h : SK st (c :: C)) : st C.length = c ∧ SK st C := by
  refine ⟨?_, fun i hi => ?_⟩
  · have := h C.length (by rw [List.length_cons]; omega)
    rw [List.length_cons, show C.length + 1 - 1 - C.length = 0 by omega] at this
    exact this
  · have := h i (by rw [List.length_cons]; omega)
    rw [List.length_cons, show C.length + 1 - 1 - i = (C.length - 1 - i) + 1 by omega] at this
    rw [this]
    rfl
theorem okF_of {st : Nat → Int32} : ∀ (C : List Int32) (d r : Nat), okRv C d → SK st C → okF st C.length r d → okF st 0 (C.length + r) 0 := by
  intro C
  induction C with
  | nil =>
    intro d r h _ h2
    rw [show d = 0 from h] at h2
    rw [List.length_nil, Nat.zero_add]
    exact h2
  | cons c C ih =>
    intro d r h hs h2
    obtain ⟨e, hs2⟩ := hs.down
    rw [List.length_cons] at h2 ⊢
    rw [show C.length + 1 + r = C.length + (r + 1) by omega]
    rcases h with ⟨a, b, c1, g⟩ | ⟨a, c1, g⟩ | ⟨a, b, c1, g⟩
    · refine ih (d - 1) (r + 1) g hs2 (Or.inl ⟨by rw [e]; exact a, by rw [e]; exact b, ?_⟩)
      rw [show d - 1 + 1 = d by omega]; exact h2
    · exact ih d (r + 1) g hs2 (Or.inr (Or.inl ⟨by rw [e]; exact a, c1, h2⟩))
    · have hneg : c < 0 := by
        rw [tI_le] at b
        rw [tI_lt]
        have e1 : (-1 : Int32).toInt = -1 := rfl
        have e0 : (0 : Int32).toInt = 0 := rfl
        omega
      have hne : ¬ c = -10 := fun q => by rw [q] at a; exact absurd a (by decide)
      refine ih (d + 1) (r + 1) g hs2 (Or.inr (Or.inr ⟨by rw [e]; exact hneg, by rw [e]; exact hne, by omega, ?_⟩))
      exact h2
