/-! The component's reader reads by levels. -/
theorem c_isName {nx sl : Nat} {ln : Nat → Nat} {R : Nat → Nat → Option Nat} {I : Nat → Nat → Int32} {Q : Option Value → Hp → Prop} {k : Nat} (hW : SW nx ln R) (hQ : Q (some (.int (isNmF I 51 50))) (nx, sl, ln, R, I)) : Go k mX2_isName [.ref 51] (nx, sl, ln, R, I) Q := by
  refine ⟨0, _, _, ?_, hQ⟩
  have hr : R 51 0 = some 50 := by rw [hW.2.2 51 (by decide) (by decide)]; rfl
  show (match R 51 0 with
    | some tp => if KD 51 = 2 ∧ 51 < nx ∧ KD tp = 9 ∧ tp < nx ∧ ln tp = 96 then some (some (Value.int (isNmF I 51 tp)), (nx, sl, ln, R, I)) else none
    | none => none) = _
  rw [hr]
  exact if_pos ⟨rfl, sw_lt hW (by decide), rfl, sw_lt hW (by decide), by rw [hW.2.1 50 (by decide)]; rfl⟩
theorem nm_iff {key c : Nat} (hk : key ≤ 2) (hc : c < 256) : nmF (nI key) (nI c) = true ↔ ∃ q, nmI key c = some q := by
  have ec : ∀ x, x < 256 → (nI c = nI x ↔ c = x) := fun x hx => nI_eq (by omega) (by omega)
  have e109 : nI c = 109 ↔ c = 109 := ec 109 (by decide)
  have e98 : nI c = 98 ↔ c = 98 := ec 98 (by decide)
  have e104 : nI c = 104 ↔ c = 104 := ec 104 (by decide)
  have e110 : nI c = 110 ↔ c = 110 := ec 110 (by decide)
  have e103 : nI c = 103 ↔ c = 103 := ec 103 (by decide)
  have e115 : nI c = 115 ↔ c = 115 := ec 115 (by decide)
  unfold nmF nmI
  rcases (show key = 0 ∨ key = 1 ∨ key = 2 by omega) with e | e | e <;> subst e
  · rw [if_pos (show nI 0 = 0 from rfl), if_pos rfl, decide_eq_true_iff, e109, e98, e104, e110]
    constructor
    · intro h
      by_cases a : c = 109
      · exact ⟨0, by rw [if_pos a]⟩
      · by_cases b : c = 98
        · exact ⟨1, by rw [if_neg a, if_pos b]⟩
        · by_cases d : c = 104
          · exact ⟨2, by rw [if_neg a, if_neg b, if_pos d]⟩
          · exact ⟨3, by rw [if_neg a, if_neg b, if_neg d, if_pos (by omega)]⟩
    · intro ⟨q, h⟩
      repeat' split at h
      all_goals first | omega | (cases h)
  · rw [if_neg (show ¬ nI 1 = 0 by decide), if_pos (show nI 1 = 1 from rfl), if_neg (by decide), if_pos rfl, decide_eq_true_iff, e103, e115]
    constructor
    · intro h
      by_cases a : c = 103
      · exact ⟨0, by rw [if_pos a]⟩
      · exact ⟨1, by rw [if_neg a, if_pos (by omega)]⟩
    · intro ⟨q, h⟩
      repeat' split at h
      all_goals first | omega | (cases h)
  · rw [if_neg (show ¬ nI 2 = 0 by decide), if_neg (show ¬ nI 2 = 1 by decide), if_neg (by decide), if_neg (by decide), decide_eq_true_iff, e109, e98]
    constructor
    · intro h
      by_cases a : c = 109
      · exact ⟨0, by rw [if_pos a]⟩
      · exact ⟨1, by rw [if_neg a, if_pos (by omega)]⟩
    · intro ⟨q, h⟩
      repeat' split at h
      all_goals first | omega | (cases h)
theorem eN_nm {key c q : Nat} (h : nmI key c = some q) (hk : key ≤ 2) : -nI c = eN key (nI (10000 + q)) := by
  have hq := nmI_lt h
  have hq4 : q < 4 := by unfold nnF at hq; split at hq <;> omega
  unfold eN
  rw [if_pos (nI_pos' (by omega)), if_neg (show ¬ nI (10000 + q) < 10000 from nI_nlt (b := 10000) (by omega) (by omega))]
  have e : (nI (10000 + q) - 10000).toNatClampNeg = q := by
    rw [show (10000 : Int32) = nI 10000 from rfl, nI_sub (by omega), ix (by omega)]; omega
  rw [e]
  congr 2
  unfold nmI at h
  unfold ltF
  rcases (show key = 0 ∨ key = 1 ∨ key = 2 by omega) with e | e | e <;> subst e
  · rw [if_pos rfl] at h ⊢
    repeat' split at h
    all_goals first | (cases h; assumption) | (cases h)
  · rw [if_neg (by decide), if_pos rfl] at h ⊢
    repeat' split at h
    all_goals first | (cases h; assumption) | (cases h)
  · rw [if_neg (by decide), if_neg (by decide)] at h ⊢
    repeat' split at h
    all_goals first | (cases h; assumption) | (cases h)
theorem sg_l {B : Nat → Nat} {L i : Nat} (hB : ∀ j, j < L → B j < 256) : (sgF B (tk B L i) = -2 ↔ (tk B L i).1 = 1) ∧ (sgF B (tk B L i) = -3 ↔ (tk B L i).1 = 2) ∧ (sgF B (tk B L i) = -1 ↔ (tk B L i).1 = 0) := by
  obtain ⟨i1, i2, i3, i4, i5⟩ := tkn_ok B L i
  unfold sgF
  by_cases e0 : (tk B L i).1 = 0
  · rw [if_pos e0, e0]; decide
  · rw [if_neg e0]
    by_cases e1 : (tk B L i).1 = 1
    · rw [if_pos e1, e1]; decide
    · rw [if_neg e1]
      by_cases e2 : (tk B L i).1 = 2
      · rw [if_pos e2, e2]; decide
      · rw [if_neg e2]
        by_cases e4 : (tk B L i).1 = 4
        · rw [if_pos e4, e4]; decide
        · rw [if_neg e4]
          have hb := hB (tk B L i).2.1 (by have := i5 e0; omega)
          have hp := nI_pos (n := B (tk B L i).2.1) (by omega)
          refine ⟨⟨fun q => ?_, fun q => absurd q e1⟩, ⟨fun q => ?_, fun q => absurd q e2⟩, ⟨fun q => ?_, fun q => absurd q e0⟩⟩ <;> rw [q] at hp <;> exact absurd (by decide) hp
/-- whether a name stands there -/
theorem nm_at {B : Nat → Nat} {L key : Nat} {I : Nat → Nat → Int32} {σ : Sg} (hC : CS B L key I σ) (hk : key ≤ 2) (h2 : ¬ (tk B L σ.1).1 = 2) : (∀ c, odK B L key σ.1 = some c → isNmF I 51 50 = 1 ∧ (tk B L σ.1).1 = 1 ∧ -nI (B (tk B L σ.1).2.1) = eN key c) ∧ (odK B L key σ.1 = none → isNmF I 51 50 = 0) := by
  obtain ⟨c1, c2, c3, c4, c5, c6, c7, c8, c9⟩ := hC
  have hB : ∀ j, j < L → B j < 256 := fun j hj => (c1.2 j hj).1
  obtain ⟨i1, i2, i3, i4, i5⟩ := tkn_ok B L σ.1
  obtain ⟨s1, s2, s3⟩ := sg_l (L := L) (i := σ.1) hB
  have hL9 := c1.1
  have hsub : I 51 6 - I 51 7 = nI ((tk B L σ.1).2.2 - (tk B L σ.1).2.1) := by rw [c6, c5, nI_sub i1]
  have h1 : I 51 6 - I 51 7 = 1 ↔ (tk B L σ.1).2.2 - (tk B L σ.1).2.1 = 1 := by rw [hsub]; exact nI_eq (b := 1) (by omega) (by decide)
  have hod : odK B L key σ.1 = if (tk B L σ.1).1 = 1 ∧ (tk B L σ.1).2.2 - (tk B L σ.1).2.1 = 1 then (nmI key (B (tk B L σ.1).2.1)).map (fun q => nI (10000 + q)) else none := by
    unfold odK odT
    rw [if_neg h2]
  have hnm : (tk B L σ.1).1 = 1 → nmF (I 51 8) (bAt I 50 (I 51 7)) = nmF (nI key) (nI (B (tk B L σ.1).2.1)) := fun e1 => by
    have hs := i5 (by omega)
    rw [c3, c5]
    unfold bAt
    rw [if_pos ⟨nI_pos' (by omega), nI_lt (b := 96) (by omega) (by decide)⟩, ix (by omega), (c1.2 _ (by omega)).2]
  rw [hod]
  unfold isNmF
  rw [c4]
  by_cases e : (tk B L σ.1).1 = 1 ∧ (tk B L σ.1).2.2 - (tk B L σ.1).2.1 = 1
  · rw [if_pos e]
    have hs := i5 (by omega)
    have hc := hB (tk B L σ.1).2.1 (by omega)
    cases hn : nmI key (B (tk B L σ.1).2.1) with
    | none =>
      refine ⟨fun c q => (by cases q), fun _ => ?_⟩
      rw [if_neg]
      intro ⟨_, _, z⟩
      rw [hnm e.1] at z
      obtain ⟨q, hq⟩ := (nm_iff hk hc).mp z
      rw [hn] at hq
      cases hq
    | some q =>
      refine ⟨fun c z => ?_, fun z => by cases z⟩
      cases z
      refine ⟨?_, e.1, eN_nm hn hk⟩
      rw [if_pos ⟨s1.mpr e.1, h1.mpr e.2, by rw [hnm e.1]; exact (nm_iff hk hc).mpr ⟨q, hn⟩⟩]
  · rw [if_neg e]
    refine ⟨fun c q => (by cases q), fun _ => ?_⟩
    rw [if_neg]
    intro ⟨z1, z2, _⟩
    exact e ⟨s1.mp z1, h1.mp z2⟩
theorem lp_96 {sb : Nat → Nat} {nxt : Sg → Bool × Sg} {m : Nat} (hn : ∀ σ, (nxt σ).1 = true → (nxt σ).2.1 ≤ 96) : ∀ r c σ, σ.1 ≤ 96 → (lpF sb nxt m r c σ).1 = true → (lpF sb nxt m r c σ).2.1 ≤ 96 := by
  intro r
  induction r with
  | zero => intro c σ h _; exact h
  | succ r ih =>
    intro c σ hσ h
    rw [lpF] at h ⊢
    by_cases hj : opr (sb σ.1) = m + 1
    · rw [if_pos hj] at h ⊢
      by_cases h2 : m = 2 ∧ 0 < c
      · rw [if_pos h2]; exact hσ
      · rw [if_neg h2] at h ⊢
        by_cases hok : (nxt (σ.1 + 1, σ.2)).1 = true
        · rw [if_pos hok] at h ⊢
          exact ih (c + 1) _ (hn _ hok) h
        · rw [if_neg hok] at h
          exact absurd h (by dsimp only; decide)
    · rw [if_neg hj]; exact hσ
theorem rd_96 {od : Nat → Option Int32} {sb : Nat → Nat} (hD : ∀ i c, od i = some c → i < 96) (h41 : ∀ i, sb i = 41 → i < 96) : ∀ n m o t σ, (rd od sb n m o t σ).1 = true → (rd od sb n m o t σ).2.1 ≤ 96 := by
  intro n
  induction n with
  | zero => intro m o t σ h; exact absurd h (by rw [rd]; dsimp only; decide)
  | succ n ih =>
    intro m o t σ h
    rw [rd] at h ⊢
    by_cases h5 : m < 5
    · rw [if_pos h5] at h ⊢
      by_cases hok : (rd od sb n (m + 1) o t σ).1 = true
      · rw [if_pos hok] at h ⊢
        exact lp_96 (fun σ hh => ih (m + 1) o t σ hh) 96 0 _ (ih _ _ _ _ hok) h
      · rw [if_neg hok] at h
        exact absurd h (by dsimp only; decide)
    · rw [if_neg h5] at h ⊢
      by_cases h6 : m = 5
      · rw [if_pos h6] at h ⊢
        exact ih _ _ _ _ h
      · rw [if_neg h6] at h ⊢
        cases hod : od σ.1 with
        | some c => have := hD _ _ hod; dsimp only; omega
        | none =>
          rw [hod] at h
          dsimp only at h ⊢
          by_cases hnot : sb σ.1 = 33 ∧ t < 8
          · rw [if_pos hnot] at h ⊢
            by_cases hok : (rd od sb n 6 o (t + 1) (σ.1 + 1, σ.2)).1 = true
            · rw [if_pos hok]
              exact ih _ _ _ _ hok
            · rw [if_neg hok] at h
              exact absurd h (by dsimp only; decide)
          · rw [if_neg hnot] at h ⊢
            by_cases hop : sb σ.1 = 40 ∧ o < 8
            · rw [if_pos hop] at h ⊢
              by_cases hok : (rd od sb n 0 (o + 1) t (σ.1 + 1, σ.2)).1 = true ∧ sb (rd od sb n 0 (o + 1) t (σ.1 + 1, σ.2)).2.1 = 41
              · rw [if_pos hok]
                have := h41 _ hok.2
                dsimp only
                omega
              · rw [if_neg hok] at h
                exact absurd h (by dsimp only; decide)
            · rw [if_neg hop] at h
              exact absurd h (by dsimp only; decide)
