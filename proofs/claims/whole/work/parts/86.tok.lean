/-! The words of a tape, one behind the other. -/
def wk (t : Nat × Nat × Nat) : Bool := decide (t.1 = 1 ∨ t.1 = 2)
def tk (B : Nat → Nat) (L : Nat) : Nat → Nat × Nat × Nat
  | 0 => lx B L 0 false
  | i + 1 => lx B L (tk B L i).2.2 (wk (tk B L i))
theorem rn_all {P : Nat → Bool} {B : Nat → Nat} {L : Nat} : ∀ r p j, p ≤ j → j < rn P B L r p → P (B j) = true := by
  intro r
  induction r with
  | zero => intro p j h1 h2; have h2 : j < p := h2; omega
  | succ r ih =>
    intro p j h1 h2
    rw [rn_s] at h2
    by_cases h : p < L ∧ P (B p) = true
    · rw [if_pos h] at h2
      by_cases e : j = p
      · rw [e]; exact h.2
      · exact ih (p + 1) j (by omega) h2
    · rw [if_neg h] at h2
      omega
theorem lx_ok {B : Nat → Nat} {L p : Nat} {w : Bool} (hp : p ≤ L) : p ≤ (lx B L p w).2.1 ∧ (lx B L p w).2.1 ≤ (lx B L p w).2.2 ∧ (lx B L p w).2.2 ≤ L ∧ (lx B L p w).1 ≤ 4 ∧ ((lx B L p w).1 = 0 → (lx B L p w).2.1 = L ∧ (lx B L p w).2.2 = L) ∧ (¬ (lx B L p w).1 = 0 → (lx B L p w).2.1 < (lx B L p w).2.2) := by
  obtain ⟨s, hs⟩ : ∃ s, run1 isB B L p = s := ⟨_, rfl⟩
  have h1 : p ≤ s := by rw [← hs]; exact rn_ge _ _ _ _ _
  have h2 : s ≤ L := by rw [← hs]; exact rn_le _ _ _ _ _ hp
  unfold lx
  rw [hs]
  by_cases a : L ≤ s
  · rw [if_pos a]
    exact ⟨h1, Nat.le_refl _, h2, by dsimp only; omega, fun _ => ⟨by dsimp only; omega, by dsimp only; omega⟩, fun q => absurd rfl q⟩
  · rw [if_neg a]
    by_cases b : isL (B s) = true
    · rw [if_pos b]
      have g1 := rn_ge isL B L (97 - (s + 1)) (s + 1)
      have g2 := rn_le isL B L (97 - (s + 1)) (s + 1) (by omega)
      have g1 : s + 1 ≤ run1 isL B L (s + 1) := g1
      have g2 : run1 isL B L (s + 1) ≤ L := g2
      refine ⟨h1, by dsimp only; omega, g2, by dsimp only; split <;> omega, fun q => ?_, fun _ => by dsimp only; omega⟩
      dsimp only at q
      split at q <;> omega
    · rw [if_neg b]
      by_cases c : isD (B s) = true
      · rw [if_pos c]
        have g1 := rn_ge isD B L (97 - (s + 1)) (s + 1)
        have g2 := rn_le isD B L (97 - (s + 1)) (s + 1) (by omega)
        have g1 : s + 1 ≤ run1 isD B L (s + 1) := g1
        have g2 : run1 isD B L (s + 1) ≤ L := g2
        refine ⟨h1, by dsimp only; omega, g2, by dsimp only; split <;> omega, fun q => ?_, fun _ => by dsimp only; omega⟩
        dsimp only at q
        split at q <;> omega
      · rw [if_neg c]
        exact ⟨h1, by dsimp only; omega, by dsimp only; omega, by dsimp only; omega, fun q => absurd q (by dsimp only; decide), fun _ => by dsimp only; omega⟩
/-- digits that are a word: so many, and no others -/
theorem lx_2 {B : Nat → Nat} {L p : Nat} {w : Bool} (h : (lx B L p w).1 = 2) : (lx B L p w).2.2 - (lx B L p w).2.1 ≤ 4 ∧ ∀ j, (lx B L p w).2.1 ≤ j → j < (lx B L p w).2.2 → isD (B j) = true := by
  obtain ⟨s, hs⟩ : ∃ s, run1 isB B L p = s := ⟨_, rfl⟩
  unfold lx at h ⊢
  rw [hs] at h ⊢
  by_cases a : L ≤ s
  · rw [if_pos a] at h; exact absurd h (by dsimp only; decide)
  · rw [if_neg a] at h ⊢
    by_cases b : isL (B s) = true
    · rw [if_pos b] at h
      dsimp only at h
      split at h <;> omega
    · rw [if_neg b] at h ⊢
      by_cases c : isD (B s) = true
      · rw [if_pos c] at h ⊢
        dsimp only at h ⊢
        split at h
        · omega
        · rename_i hq
          refine ⟨?_, fun j j1 j2 => ?_⟩
          · rcases Nat.lt_or_ge 4 (run1 isD B L (s + 1) - s) with z | z
            · exact absurd (Or.inr z) hq
            · exact z
          · by_cases e : j = s
            · rw [e]; exact c
            · exact rn_all (97 - (s + 1)) (s + 1) j (by omega) j2
      · rw [if_neg c] at h; exact absurd h (by dsimp only; decide)
theorem tkn_ok (B : Nat → Nat) (L : Nat) : ∀ i, (tk B L i).2.1 ≤ (tk B L i).2.2 ∧ (tk B L i).2.2 ≤ L ∧ (tk B L i).1 ≤ 4 ∧ ((tk B L i).1 = 0 → (tk B L i).2.1 = L ∧ (tk B L i).2.2 = L) ∧ (¬ (tk B L i).1 = 0 → (tk B L i).2.1 < (tk B L i).2.2 ∧ i ≤ (tk B L i).2.1) := by
  intro i
  induction i with
  | zero =>
    obtain ⟨h1, h2, h3, h4, h5, h6⟩ := lx_ok (B := B) (L := L) (p := 0) (w := false) (Nat.zero_le _)
    exact ⟨h2, h3, h4, h5, fun q => ⟨h6 q, Nat.zero_le _⟩⟩
  | succ i ih =>
    obtain ⟨i1, i2, i3, i4, i5⟩ := ih
    obtain ⟨h1, h2, h3, h4, h5, h6⟩ := lx_ok (B := B) (L := L) (p := (tk B L i).2.2) (w := wk (tk B L i)) i2
    refine ⟨h2, h3, h4, h5, fun q => ⟨h6 q, ?_⟩⟩
    have q6 := h6 q
    by_cases e : (tk B L i).1 = 0
    · have := (i4 e).2; omega
    · have := i5 e
      show i + 1 ≤ (lx B L (tk B L i).2.2 (wk (tk B L i))).2.1
      omega
theorem tk_lt {B : Nat → Nat} {L i : Nat} (hL : L ≤ 96) (h : ¬ (tk B L i).1 = 0) : i < 96 := by
  obtain ⟨i1, i2, i3, i4, i5⟩ := tkn_ok B L i
  have := i5 h
  omega
/-- a name's place -/
def nmI (key c : Nat) : Option Nat := if key = 0 then (if c = 109 then some 0 else if c = 98 then some 1 else if c = 104 then some 2 else if c = 110 then some 3 else none) else if key = 1 then (if c = 103 then some 0 else if c = 115 then some 1 else none) else (if c = 109 then some 0 else if c = 98 then some 1 else none)
def odT (B : Nat → Nat) (key : Nat) (t : Nat × Nat × Nat) : Option Int32 := if t.1 = 2 then some (nI (nv B t.2.1 (t.2.2 - t.2.1))) else if t.1 = 1 ∧ t.2.2 - t.2.1 = 1 then (nmI key (B t.2.1)).map (fun q => nI (10000 + q)) else none
def sbT (B : Nat → Nat) (t : Nat × Nat × Nat) : Nat := if t.1 = 3 then B t.2.1 else 0
def enT (t : Nat × Nat × Nat) : Bool := decide (t.1 = 0)
def odK (B : Nat → Nat) (L key i : Nat) : Option Int32 := odT B key (tk B L i)
def sbK (B : Nat → Nat) (L i : Nat) : Nat := sbT B (tk B L i)
def enK (B : Nat → Nat) (L i : Nat) : Bool := enT (tk B L i)
theorem od_sb {B : Nat → Nat} {L key : Nat} : ∀ i c, odK B L key i = some c → sbK B L i = 0 := by
  intro i c h
  unfold odK odT at h
  unfold sbK sbT
  by_cases e : (tk B L i).1 = 3
  · rw [if_neg (by omega), if_neg (by omega)] at h
    cases h
  · rw [if_neg e]
theorem en_sb {B : Nat → Nat} {L : Nat} : ∀ i, enK B L i = true → sbK B L i = 0 := by
  intro i h
  have h : (tk B L i).1 = 0 := of_decide_eq_true h
  unfold sbK sbT
  rw [if_neg (by omega)]
theorem op_96 {B : Nat → Nat} {L : Nat} (hL : L ≤ 96) : ∀ i, ¬ opr (sbK B L i) = 0 → i < 96 := by
  intro i h
  refine tk_lt (B := B) hL (fun e => h ?_)
  unfold sbK sbT
  rw [if_neg (by omega)]
  rfl
theorem nmI_lt {key c q : Nat} (h : nmI key c = some q) : q < nnF key := by
  unfold nmI at h
  unfold nnF
  by_cases k0 : key = 0
  · rw [if_pos k0] at h ⊢
    by_cases a1 : c = 109
    · rw [if_pos a1] at h; cases h; decide
    rw [if_neg a1] at h
    by_cases a2 : c = 98
    · rw [if_pos a2] at h; cases h; decide
    rw [if_neg a2] at h
    by_cases a3 : c = 104
    · rw [if_pos a3] at h; cases h; decide
    rw [if_neg a3] at h
    by_cases a4 : c = 110
    · rw [if_pos a4] at h; cases h; decide
    rw [if_neg a4] at h
    cases h
  · rw [if_neg k0] at h ⊢
    by_cases k1 : key = 1
    · rw [if_pos k1] at h
      by_cases a1 : c = 103
      · rw [if_pos a1] at h; cases h; decide
      rw [if_neg a1] at h
      by_cases a2 : c = 115
      · rw [if_pos a2] at h; cases h; decide
      rw [if_neg a2] at h
      cases h
    · rw [if_neg k1] at h
      by_cases a1 : c = 109
      · rw [if_pos a1] at h; cases h; decide
      rw [if_neg a1] at h
      by_cases a2 : c = 98
      · rw [if_pos a2] at h; cases h; decide
      rw [if_neg a2] at h
      cases h
theorem nv_9 {B : Nat → Nat} {L i : Nat} (h : (tk B L i).1 = 2) : nv B (tk B L i).2.1 ((tk B L i).2.2 - (tk B L i).2.1) < 10000 := by
  have hx : (tk B L i).2.2 - (tk B L i).2.1 ≤ 4 ∧ ∀ j, (tk B L i).2.1 ≤ j → j < (tk B L i).2.2 → isD (B j) = true := by
    cases i with
    | zero => exact lx_2 h
    | succ i => exact lx_2 h
  have h1 := nv_lt (B := B) (s := (tk B L i).2.1) ((tk B L i).2.2 - (tk B L i).2.1) (fun j hj => by
    have := hx.2 ((tk B L i).2.1 + j) (by omega) (by omega)
    simp only [isD, Bool.and_eq_true, Nat.ble_eq] at this
    exact this.2)
  have h2 : 10 ^ ((tk B L i).2.2 - (tk B L i).2.1) ≤ 10 ^ 4 := Nat.pow_le_pow_right (by omega) hx.1
  omega
/-- the codes that a text may have -/
theorem od_ok {B : Nat → Nat} {L key : Nat} (hk : key ≤ 2) : ∀ i c, odK B L key i = some c → cOk key c ∧ 0 ≤ c ∧ c < 10004 := by
  intro i c h
  unfold odK odT at h
  by_cases e2 : (tk B L i).1 = 2
  · rw [if_pos e2] at h
    have hv := nv_9 e2
    cases h
    have g1 : (0 : Int32) ≤ nI (nv B (tk B L i).2.1 ((tk B L i).2.2 - (tk B L i).2.1)) := nI_pos' (by omega)
    exact ⟨Or.inl ⟨g1, nI_lt (b := 10000) hv (by decide)⟩, g1, nI_lt (b := 10004) (by omega) (by decide)⟩
  · rw [if_neg e2] at h
    by_cases e1 : (tk B L i).1 = 1 ∧ (tk B L i).2.2 - (tk B L i).2.1 = 1
    · rw [if_pos e1] at h
      cases hn : nmI key (B (tk B L i).2.1) with
      | none => rw [hn] at h; cases h
      | some q =>
        rw [hn] at h
        cases h
        have hq := nmI_lt hn
        have hq4 : q < 4 := by
          unfold nnF at hq
          split at hq <;> omega
        exact ⟨Or.inr (Or.inl ⟨q, hq, rfl⟩), nI_pos' (by omega), nI_lt (b := 10004) (by omega) (by decide)⟩
    · rw [if_neg e1] at h
      cases h
theorem opc_cOk (key : Nat) : ∀ b, ¬ opr b = 0 → cOk key (opc b) := fun b h => by
  obtain ⟨h1, h2⟩ := opc_ok h
  exact Or.inr (Or.inr ⟨Int32.le_trans (by decide) h1, h2⟩)
