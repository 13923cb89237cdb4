/-! Measuring: every way of steps; the fewest. -/
def mvF (a b : Nat) (s : Nat × Nat) (n : Nat) : Nat × Nat := if n = 0 then (a, s.2) else if n = 1 then (s.1, b) else if n = 2 then (0, s.2) else if n = 3 then (s.1, 0) else if n = 4 then (s.1 - min s.1 (b - s.2), s.2 + min s.1 (b - s.2)) else (s.1 + min s.2 (a - s.1), s.2 - min s.2 (a - s.1))
/-- what can be reached by so many steps -/
def Rch (a b : Nat) : Nat → Nat × Nat → Prop
  | 0, p => p = (0, 0)
  | L + 1, p => ∃ s n, Rch a b L s ∧ n < 6 ∧ mvF a b s n = p
theorem pr_eq {x y u v : Nat} (h1 : x = u) (h2 : y = v) : (x, y) = (u, v) := by rw [h1, h2]
/-- each step leads along one of both ways, or to a corner -/
theorem mv_cases {a b : Nat} (ha : 1 ≤ a) (hb : 1 ≤ b) {s : Nat × Nat} (h : Bd a b s ∨ s = (a, b)) {n : Nat} (hn : n < 6) : mvF a b s n = s ∨ mvF a b s n = pS a b s ∨ mvF a b s n = sw2 (pS b a (sw2 s)) ∨ mvF a b s n = (0, 0) ∨ mvF a b s n = (a, 0) ∨ mvF a b s n = (0, b) ∨ mvF a b s n = (a, b) := by
  obtain ⟨x, y⟩ := s
  have hs : x ≤ a ∧ y ≤ b ∧ (x = 0 ∨ x = a ∨ y = 0 ∨ y = b) := by
    rcases h with h | h
    · unfold Bd at h; dsimp only at h; omega
    · have h1 : x = a := congrArg Prod.fst h
      have h2 : y = b := congrArg Prod.snd h
      omega
  clear h
  have p1 : y = b → pS a b (x, y) = (x, 0) := fun h => by unfold pS; rw [if_pos h]
  have p2 : ¬ y = b → x = 0 → pS a b (x, y) = (a, y) := fun h h2 => by unfold pS; rw [if_neg h, if_pos h2]
  have p3 : ¬ y = b → ¬ x = 0 → pS a b (x, y) = (x - min x (b - y), y + min x (b - y)) := fun h h2 => by unfold pS; rw [if_neg h, if_neg h2]
  have g1 : x = a → sw2 (pS b a (sw2 (x, y))) = (0, y) := fun h => by unfold sw2 pS; dsimp only; rw [if_pos h]
  have g2 : ¬ x = a → y = 0 → sw2 (pS b a (sw2 (x, y))) = (x, b) := fun h h2 => by unfold sw2 pS; dsimp only; rw [if_neg h, if_pos h2]
  have g3 : ¬ x = a → ¬ y = 0 → sw2 (pS b a (sw2 (x, y))) = (x + min y (a - x), y - min y (a - x)) := fun h h2 => by unfold sw2 pS; dsimp only; rw [if_neg h, if_neg h2]
  rcases (show n = 0 ∨ n = 1 ∨ n = 2 ∨ n = 3 ∨ n = 4 ∨ n = 5 by omega) with e | e | e | e | e | e <;> subst e
  · rw [show mvF a b (x, y) 0 = (a, y) from rfl]
    by_cases h1 : x = a
    · exact Or.inl (pr_eq h1.symm rfl)
    · by_cases h2 : y = b
      · exact Or.inr (Or.inr (Or.inr (Or.inr (Or.inr (Or.inr (pr_eq rfl h2))))))
      · by_cases h3 : x = 0
        · exact Or.inr (Or.inl (p2 h2 h3).symm)
        · exact Or.inr (Or.inr (Or.inr (Or.inr (Or.inl (pr_eq rfl (by omega))))))
  · rw [show mvF a b (x, y) 1 = (x, b) from rfl]
    by_cases h2 : y = b
    · exact Or.inl (pr_eq rfl h2.symm)
    · by_cases h1 : x = a
      · exact Or.inr (Or.inr (Or.inr (Or.inr (Or.inr (Or.inr (pr_eq h1 rfl))))))
      · by_cases h3 : y = 0
        · exact Or.inr (Or.inr (Or.inl (g2 h1 h3).symm))
        · exact Or.inr (Or.inr (Or.inr (Or.inr (Or.inr (Or.inl (pr_eq (by omega) rfl))))))
  · rw [show mvF a b (x, y) 2 = (0, y) from rfl]
    by_cases h1 : x = a
    · exact Or.inr (Or.inr (Or.inl (g1 h1).symm))
    · by_cases h2 : x = 0
      · exact Or.inl (pr_eq h2.symm rfl)
      · by_cases h3 : y = 0
        · exact Or.inr (Or.inr (Or.inr (Or.inl (pr_eq rfl h3))))
        · exact Or.inr (Or.inr (Or.inr (Or.inr (Or.inr (Or.inl (pr_eq rfl (by omega)))))))
  · rw [show mvF a b (x, y) 3 = (x, 0) from rfl]
    by_cases h2 : y = b
    · exact Or.inr (Or.inl (p1 h2).symm)
    · by_cases h1 : y = 0
      · exact Or.inl (pr_eq rfl h1.symm)
      · by_cases h3 : x = 0
        · exact Or.inr (Or.inr (Or.inr (Or.inl (pr_eq h3 rfl))))
        · exact Or.inr (Or.inr (Or.inr (Or.inr (Or.inl (pr_eq (by omega) rfl)))))
  · rw [show mvF a b (x, y) 4 = (x - min x (b - y), y + min x (b - y)) from rfl]
    by_cases h2 : y = b
    · exact Or.inl (pr_eq (by omega) (by omega))
    · by_cases h3 : x = 0
      · exact Or.inl (pr_eq (by omega) (by omega))
      · exact Or.inr (Or.inl (p3 h2 h3).symm)
  · rw [show mvF a b (x, y) 5 = (x + min y (a - x), y - min y (a - x)) from rfl]
    by_cases h2 : x = a
    · exact Or.inl (pr_eq (by omega) (by omega))
    · by_cases h3 : y = 0
      · exact Or.inl (pr_eq (by omega) (by omega))
      · exact Or.inr (Or.inr (Or.inl (g3 h2 h3).symm))
theorem sw_sw (s : Nat × Nat) : sw2 (sw2 s) = s := rfl
theorem bd_sw {a b : Nat} {s : Nat × Nat} (h : Bd b a s) : Bd a b (sw2 s) := by
  unfold Bd sw2 at *
  dsimp only at *
  omega
/-- what is reached lies on one of both ways, no later *-/
theorem r_way {a b : Nat} (ha : 1 ≤ a) (hb : 1 ≤ b) : ∀ L p, Rch a b L p → (p = (a, b) ∧ 2 ≤ L) ∨ (∃ i, i ≤ L ∧ sI a b i = p) ∨ (∃ j, j ≤ L ∧ sI b a j = sw2 p) := by
  intro L
  induction L with
  | zero => intro p h; exact Or.inr (Or.inl ⟨0, Nat.le_refl 0, h.symm⟩)
  | succ L ih =>
    intro p h
    obtain ⟨s, n, h1, h2, h3⟩ := h
    have k1 : p = (a, 0) → (p = (a, b) ∧ 2 ≤ L + 1) ∨ (∃ i, i ≤ L + 1 ∧ sI a b i = p) ∨ (∃ j, j ≤ L + 1 ∧ sI b a j = sw2 p) := fun e => Or.inr (Or.inl ⟨1, by omega, by rw [s_1 hb, e]⟩)
    have k2 : p = (0, b) → (p = (a, b) ∧ 2 ≤ L + 1) ∨ (∃ i, i ≤ L + 1 ∧ sI a b i = p) ∨ (∃ j, j ≤ L + 1 ∧ sI b a j = sw2 p) := fun e => Or.inr (Or.inr ⟨1, by omega, by rw [s_1 ha, e]; rfl⟩)
    have k0 : p = (0, 0) → (p = (a, b) ∧ 2 ≤ L + 1) ∨ (∃ i, i ≤ L + 1 ∧ sI a b i = p) ∨ (∃ j, j ≤ L + 1 ∧ sI b a j = sw2 p) := fun e => Or.inr (Or.inl ⟨0, by omega, by rw [e]; rfl⟩)
    by_cases hL : L = 0
    · subst hL
      have hs : s = (0, 0) := h1
      subst hs
      rcases (show n = 0 ∨ n = 1 ∨ n = 2 ∨ n = 3 ∨ n = 4 ∨ n = 5 by omega) with e | e | e | e | e | e <;> subst e
      · exact k1 h3.symm
      · exact k2 h3.symm
      · exact k0 h3.symm
      · exact k0 h3.symm
      · exact k0 (by rw [← h3]; show (0 - min 0 (b - 0), 0 + min 0 (b - 0)) = _; exact pr_eq (by omega) (by omega))
      · exact k0 (by rw [← h3]; show (0 + min 0 (a - 0), 0 - min 0 (a - 0)) = _; exact pr_eq (by omega) (by omega))
    · have kc : p = (a, b) → (p = (a, b) ∧ 2 ≤ L + 1) ∨ (∃ i, i ≤ L + 1 ∧ sI a b i = p) ∨ (∃ j, j ≤ L + 1 ∧ sI b a j = sw2 p) := fun e => Or.inl ⟨e, by omega⟩
      rcases ih s h1 with ⟨e, -⟩ | ⟨i, hi, e⟩ | ⟨j, hj, e⟩
      · subst e
        rcases (show n = 0 ∨ n = 1 ∨ n = 2 ∨ n = 3 ∨ n = 4 ∨ n = 5 by omega) with e | e | e | e | e | e <;> subst e
        · exact kc h3.symm
        · exact kc h3.symm
        · exact k2 h3.symm
        · exact k1 h3.symm
        · exact kc (by rw [← h3]; show (a - min a (b - b), b + min a (b - b)) = _; exact pr_eq (by omega) (by omega))
        · exact kc (by rw [← h3]; show (a + min b (a - a), b - min b (a - a)) = _; exact pr_eq (by omega) (by omega))
      · have hb1 : Bd a b s := by rw [← e]; exact s_bd ha hb i
        rcases mv_cases ha hb (Or.inl hb1) h2 with q | q | q | q | q | q | q <;> rw [h3] at q
        · exact Or.inr (Or.inl ⟨i, by omega, by rw [e, q]⟩)
        · exact Or.inr (Or.inl ⟨i + 1, by omega, by rw [q, ← e]; rfl⟩)
        · cases i with
          | zero =>
            have e0 : s = (0, 0) := e.symm
            refine Or.inr (Or.inr ⟨1, by omega, ?_⟩)
            rw [q, e0]; rfl
          | succ i =>
            refine Or.inr (Or.inl ⟨i, by omega, ?_⟩)
            rw [q, ← e, s_back ha hb i, sw_sw]
        · exact k0 q
        · exact k1 q
        · exact k2 q
        · exact kc q
      · have e' : s = sw2 (sI b a j) := by rw [e]; rfl
        have hb1 : Bd a b s := by rw [e']; exact bd_sw (s_bd hb ha j)
        rcases mv_cases ha hb (Or.inl hb1) h2 with q | q | q | q | q | q | q <;> rw [h3] at q
        · exact Or.inr (Or.inr ⟨j, by omega, by rw [e, q]⟩)
        · cases j with
          | zero =>
            have e0 : s = (0, 0) := e'
            refine Or.inr (Or.inl ⟨1, by omega, ?_⟩)
            rw [q, e0]; rfl
          | succ j =>
            refine Or.inr (Or.inr ⟨j, by omega, ?_⟩)
            rw [q, e', s_back hb ha j]; rfl
        · exact Or.inr (Or.inr ⟨j + 1, by omega, by rw [q, ← e]; rfl⟩)
        · exact k0 q
        · exact k1 q
        · exact k2 q
        · exact kc q
/-- both ways are ways -/
theorem p_mv {a b : Nat} (s : Nat × Nat) : ∃ n, n < 6 ∧ mvF a b s n = pS a b s := by
  obtain ⟨x, y⟩ := s
  by_cases h1 : y = b
  · exact ⟨3, by omega, by unfold pS; rw [if_pos h1]; rfl⟩
  · by_cases h2 : x = 0
    · exact ⟨0, by omega, by unfold pS; rw [if_neg h1, if_pos h2]; rfl⟩
    · exact ⟨4, by omega, by unfold pS; rw [if_neg h1, if_neg h2]; rfl⟩
theorem g_mv {a b : Nat} (s : Nat × Nat) : ∃ n, n < 6 ∧ mvF a b s n = sw2 (pS b a (sw2 s)) := by
  obtain ⟨x, y⟩ := s
  by_cases h1 : x = a
  · exact ⟨2, by omega, by unfold pS sw2; dsimp only; rw [if_pos h1]; rfl⟩
  · by_cases h2 : y = 0
    · exact ⟨1, by omega, by unfold pS sw2; dsimp only; rw [if_neg h1, if_pos h2]; rfl⟩
    · exact ⟨5, by omega, by unfold pS sw2; dsimp only; rw [if_neg h1, if_neg h2]; rfl⟩
theorem r_s1 {a b : Nat} : ∀ i, Rch a b i (sI a b i) := by
  intro i
  induction i with
  | zero => exact rfl
  | succ i ih =>
    obtain ⟨n, h1, h2⟩ := p_mv (a := a) (b := b) (sI a b i)
    exact ⟨_, n, ih, h1, h2⟩
theorem r_s2 {a b : Nat} : ∀ j, Rch a b j (sw2 (sI b a j)) := by
  intro i
  induction i with
  | zero => exact rfl
  | succ i ih =>
    obtain ⟨n, h1, h2⟩ := g_mv (a := a) (b := b) (sw2 (sI b a i))
    exact ⟨_, n, ih, h1, h2⟩
def Hv (v : Nat) (s : Nat × Nat) : Prop := s.1 = v ∨ s.2 = v
theorem hv_sw {v : Nat} {s : Nat × Nat} (h : Hv v s) : Hv v (sw2 s) := Or.symm h
/-- the fewest steps are the fewest of both ways, and both ways have some -/
theorem meas_min {a b v L : Nat} (ha : 1 ≤ a) (hb : 1 ≤ b) (hv : 1 ≤ v) {p : Nat × Nat} (hR : Rch a b L p) (hp : Hv v p) (hm : ∀ L' p', Rch a b L' p' → Hv v p' → L ≤ L') :
    (Hv v (sI a b L) ∧ L ≤ 2 * (a + b) ∧ ∃ j, j ≤ 2 * (a + b) ∧ Hv v (sI b a j)) ∨ (Hv v (sI b a L) ∧ L ≤ 2 * (a + b) ∧ ∃ j, j ≤ 2 * (a + b) ∧ Hv v (sI a b j)) := by
  rcases r_way ha hb L p hR with ⟨e, h2⟩ | ⟨i, hi, e⟩ | ⟨j, hj, e⟩
  · subst e
    rcases hp with h | h
    · have := hm 1 _ (r_s1 1) (Or.inl (by rw [s_1 hb]; exact h))
      omega
    · have := hm 1 _ (r_s2 1) (Or.inr (by rw [s_1 ha]; exact h))
      omega
  · have h1 := hm i _ (r_s1 i) (by rw [e]; exact hp)
    have hiL : i = L := by omega
    subst hiL
    obtain ⟨N, n1, n2, n3⟩ := s_cyc ha hb
    have hlt : i < N := by
      rcases Nat.lt_or_ge i N with q | q
      · exact q
      · have e2 := s_per n3 (i - N)
        rw [show N + (i - N) = i by omega] at e2
        have := hm (i - N) _ (r_s1 (i - N)) (by rw [← e2, e]; exact hp)
        omega
    refine Or.inl ⟨by rw [e]; exact hp, by omega, N - i, by omega, ?_⟩
    have e3 := s_rev ha hb n3 (N - i) (by omega)
    rw [show N - (N - i) = i by omega, e] at e3
    rw [e3]
    exact hv_sw hp
  · have e' : p = sw2 (sI b a j) := by rw [e]; rfl
    have h1 := hm j _ (r_s2 j) (by rw [← e']; exact hp)
    have hjL : j = L := by omega
    subst hjL
    have hp2 : Hv v (sI b a j) := by rw [e]; exact hv_sw hp
    obtain ⟨N, n1, n2, n3⟩ := s_cyc hb ha
    have hlt : j < N := by
      rcases Nat.lt_or_ge j N with q | q
      · exact q
      · have e2 := s_per n3 (j - N)
        rw [show N + (j - N) = j by omega] at e2
        have := hm (j - N) _ (r_s2 (j - N)) (hv_sw (by rw [← e2]; exact hp2))
        omega
    refine Or.inr ⟨hp2, by omega, N - j, by omega, ?_⟩
    have e3 := s_rev hb ha n3 (N - j) (by omega)
    rw [show N - (N - j) = j by omega] at e3
    rw [e3]
    exact hv_sw hp2
