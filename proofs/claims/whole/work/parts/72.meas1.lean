/-! Measuring by two jugs: the two ways, and all ways. -/
def pS (A B : Nat) (s : Nat × Nat) : Nat × Nat := if s.2 = B then (s.1, 0) else if s.1 = 0 then (A, s.2) else (s.1 - min s.1 (B - s.2), s.2 + min s.1 (B - s.2))
def sI (A B : Nat) : Nat → Nat × Nat
  | 0 => (0, 0)
  | i + 1 => pS A B (sI A B i)
def sw2 (s : Nat × Nat) : Nat × Nat := (s.2, s.1)
def Bd (A B : Nat) (s : Nat × Nat) : Prop := s.1 ≤ A ∧ s.2 ≤ B ∧ (s.1 = 0 ∨ s.1 = A ∨ s.2 = 0 ∨ s.2 = B) ∧ ¬ (s.1 = A ∧ s.2 = B)
theorem p_bd {A B : Nat} (hA : 1 ≤ A) (hB : 1 ≤ B) {s : Nat × Nat} (h : Bd A B s) : Bd A B (pS A B s) := by
  obtain ⟨x, y⟩ := s
  unfold Bd at h
  dsimp only at h
  unfold pS
  dsimp only
  split
  · unfold Bd; dsimp only; omega
  · split
    · unfold Bd; dsimp only; omega
    · unfold Bd; dsimp only; omega
theorem p_inv {A B : Nat} (hA : 1 ≤ A) (hB : 1 ≤ B) {s : Nat × Nat} (h : Bd A B s) : pS B A (sw2 (pS A B s)) = sw2 s := by
  obtain ⟨x, y⟩ := s
  unfold Bd at h
  dsimp only at h
  have e : ∀ u v u' v' : Nat, u = u' → v = v' → (u, v) = (u', v') := fun u v u' v' h1 h2 => by rw [h1, h2]
  unfold sw2
  by_cases h1 : y = B
  · have e1 : pS A B (x, y) = (x, 0) := by unfold pS; rw [if_pos h1]
    rw [e1]
    unfold pS
    dsimp only
    rw [if_neg (by omega), if_pos rfl]
    exact e _ _ _ _ (by omega) rfl
  · by_cases h2 : x = 0
    · have e1 : pS A B (x, y) = (A, y) := by unfold pS; rw [if_neg h1, if_pos h2]
      rw [e1]
      unfold pS
      dsimp only
      rw [if_pos rfl]
      exact e _ _ _ _ rfl (by omega)
    · have e1 : pS A B (x, y) = (x - min x (B - y), y + min x (B - y)) := by unfold pS; rw [if_neg h1, if_neg h2]
      rw [e1]
      unfold pS
      dsimp only
      rw [if_neg (by omega), if_neg (by omega)]
      exact e _ _ _ _ (by omega) (by omega)
theorem s_bd {A B : Nat} (hA : 1 ≤ A) (hB : 1 ≤ B) : ∀ i, Bd A B (sI A B i) := by
  intro i
  induction i with
  | zero => unfold Bd sI; dsimp only; omega
  | succ i ih => exact p_bd hA hB ih
theorem s_back {A B : Nat} (hA : 1 ≤ A) (hB : 1 ≤ B) (i : Nat) : pS B A (sw2 (sI A B (i + 1))) = sw2 (sI A B i) := p_inv hA hB (s_bd hA hB i)
theorem s_1 {A B : Nat} (hB : 1 ≤ B) : sI A B 1 = (A, 0) := by
  show pS A B (0, 0) = _
  unfold pS
  rw [if_neg (by dsimp only; omega), if_pos rfl]
/-- the holes and the pigeons -/
theorem pigeon : ∀ (n : Nat) (f : Nat → Nat), (∀ i, i ≤ n → f i < n) → ∃ i j, i < j ∧ j ≤ n ∧ f i = f j := by
  intro n
  induction n with
  | zero => intro f h; exact absurd (h 0 (by omega)) (by omega)
  | succ n ih =>
    intro f h
    by_cases hx : ∃ i, i ≤ n ∧ f i = f (n + 1)
    · obtain ⟨i, h1, h2⟩ := hx
      exact ⟨i, n + 1, by omega, by omega, h2⟩
    · have hne : ∀ i, i ≤ n → ¬ f i = f (n + 1) := fun i h1 h2 => hx ⟨i, h1, h2⟩
      have hn := h (n + 1) (by omega)
      obtain ⟨i, j, h1, h2, h3⟩ := ih (fun i => if f (n + 1) < f i then f i - 1 else f i) (fun i hi => by
        have a := hne i hi
        have b := h i (by omega)
        split <;> omega)
      refine ⟨i, j, h1, by omega, ?_⟩
      have a := hne i (by omega)
      have b := hne j h2
      split at h3 <;> split at h3 <;> omega
/-- a number for each point of the border -/
def bC (A B : Nat) (s : Nat × Nat) : Nat := if s.2 = 0 then s.1 else if s.1 = A then A + s.2 else if s.2 = B then A + B + (A - s.1) else 2 * A + B + (B - s.2)
theorem bC_lt {A B : Nat} {s : Nat × Nat} (hA : 1 ≤ A) (hB : 1 ≤ B) (h : Bd A B s) : bC A B s < 2 * (A + B) := by
  obtain ⟨x, y⟩ := s
  unfold Bd at h
  unfold bC
  dsimp only at h ⊢
  split
  · omega
  · split
    · omega
    · split <;> omega
theorem bC_inj {A B : Nat} {s t : Nat × Nat} (hA : 1 ≤ A) (hB : 1 ≤ B) (hs : Bd A B s) (ht : Bd A B t) (h : bC A B s = bC A B t) : s = t := by
  obtain ⟨x, y⟩ := s
  obtain ⟨u, v⟩ := t
  unfold Bd at hs ht
  unfold bC at h
  dsimp only at hs ht h
  have e : x = u ∧ y = v := by
    by_cases a1 : y = 0
    · rw [if_pos a1] at h
      by_cases b1 : v = 0
      · rw [if_pos b1] at h; omega
      · rw [if_neg b1] at h
        by_cases b2 : u = A
        · rw [if_pos b2] at h; omega
        · rw [if_neg b2] at h
          by_cases b3 : v = B
          · rw [if_pos b3] at h; omega
          · rw [if_neg b3] at h; omega
    · rw [if_neg a1] at h
      by_cases a2 : x = A
      · rw [if_pos a2] at h
        by_cases b1 : v = 0
        · rw [if_pos b1] at h; omega
        · rw [if_neg b1] at h
          by_cases b2 : u = A
          · rw [if_pos b2] at h; omega
          · rw [if_neg b2] at h
            by_cases b3 : v = B
            · rw [if_pos b3] at h; omega
            · rw [if_neg b3] at h; omega
      · rw [if_neg a2] at h
        by_cases a3 : y = B
        · rw [if_pos a3] at h
          by_cases b1 : v = 0
          · rw [if_pos b1] at h; omega
          · rw [if_neg b1] at h
            by_cases b2 : u = A
            · rw [if_pos b2] at h; omega
            · rw [if_neg b2] at h
              by_cases b3 : v = B
              · rw [if_pos b3] at h; omega
              · rw [if_neg b3] at h; omega
        · rw [if_neg a3] at h
          by_cases b1 : v = 0
          · rw [if_pos b1] at h; omega
          · rw [if_neg b1] at h
            by_cases b2 : u = A
            · rw [if_pos b2] at h; omega
            · rw [if_neg b2] at h
              by_cases b3 : v = B
              · rw [if_pos b3] at h; omega
              · rw [if_neg b3] at h; omega
  rw [e.1, e.2]
/-- equal states stay equal when both go back -/
theorem s_down {A B : Nat} (hA : 1 ≤ A) (hB : 1 ≤ B) : ∀ i d, sI A B i = sI A B (i + d) → sI A B 0 = sI A B d := by
  intro i
  induction i with
  | zero => intro d h; rw [Nat.zero_add] at h; exact h
  | succ i ih =>
    intro d h
    refine ih d ?_
    have h1 := s_back hA hB i
    have h2 := s_back hA hB (i + d)
    rw [show i + 1 + d = i + d + 1 by omega] at h
    rw [h, h2] at h1
    have h3 : (sw2 (sw2 (sI A B (i + d)))) = sw2 (sw2 (sI A B i)) := by rw [h1]
    exact h3.symm
/-- it comes back to its beginning -/
theorem s_cyc {A B : Nat} (hA : 1 ≤ A) (hB : 1 ≤ B) : ∃ N, 1 ≤ N ∧ N ≤ 2 * (A + B) ∧ sI A B N = (0, 0) := by
  obtain ⟨i, j, h1, h2, h3⟩ := pigeon (2 * (A + B)) (fun i => bC A B (sI A B i)) (fun i _ => bC_lt hA hB (s_bd hA hB i))
  have h4 := bC_inj hA hB (s_bd hA hB i) (s_bd hA hB j) h3
  rw [show j = i + (j - i) by omega] at h4
  exact ⟨j - i, by omega, by omega, (s_down hA hB i (j - i) h4).symm⟩
theorem s_per {A B N : Nat} (h : sI A B N = (0, 0)) : ∀ i, sI A B (N + i) = sI A B i := by
  intro i
  induction i with
  | zero => exact h
  | succ i ih => show pS A B (sI A B (N + i)) = pS A B (sI A B i); rw [ih]
/-- one way back is the other way forth -/
theorem s_rev {A B N : Nat} (hA : 1 ≤ A) (hB : 1 ≤ B) (h : sI A B N = (0, 0)) : ∀ j, j ≤ N → sI B A j = sw2 (sI A B (N - j)) := by
  intro j
  induction j with
  | zero => intro _; rw [Nat.sub_zero, h]; rfl
  | succ j ih =>
    intro hj
    show pS B A (sI B A j) = _
    rw [ih (by omega), show N - j = (N - (j + 1)) + 1 by omega]
    exact s_back hA hB _
