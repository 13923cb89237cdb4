/-! Measuring: the component's two ways. -/
def fhF (A B v : Nat) : Nat → Nat → Int32
  | 0, _ => -1000000005
  | r + 1, i => if (sI A B (i + 1)).1 = v ∨ (sI A B (i + 1)).2 = v then nI (i + 1) else fhF A B v r (i + 1)
theorem fh_s (A B v r i : Nat) : fhF A B v (r + 1) i = if (sI A B (i + 1)).1 = v ∨ (sI A B (i + 1)).2 = v then nI (i + 1) else fhF A B v r (i + 1) := rfl
theorem l_ps {k A B v bd : Nat} {h : Hp} {Q : Option Value → Hp → Prop} (hA : 1 ≤ A) (hB : 1 ≤ B) (hA9 : A ≤ 99) (hB9 : B ≤ 99) (hv : v ≤ 99) (hbd : bd ≤ 1000) : ∀ (r i : Nat) (xx xy xi : Int32) (x7 : Option Value), xx = nI (sI A B i).1 → xy = nI (sI A B i).2 → xi = nI (i + 1) → i + r = bd → Q (some (.int (fhF A B v r i))) h → GoF (k + 1) mX7_pouringSteps 15 [some (.int (nI A)), some (.int (nI B)), some (.int (nI v)), some (.int xx), some (.int xy), some (.int (nI bd)), some (.int xi), x7] [] h Q := by
  intro r
  induction r with
  | zero =>
    intro i xx xy xi x7 hx hy hi hir hQ
    subst hi
    refine GoF_wp1 40 ?_
    refine And.intro (fun _ => ?_) (fun h => absurd (nI_lt (by omega) (by omega)) h)
    exact hQ
  | succ r ih =>
    intro i xx xy xi x7 hx hy hi hir hQ
    subst hi
    have hb1 := s_bd hA hB i
    have hb2 := s_bd hA hB (i + 1)
    have hst : sI A B (i + 1) = pS A B (sI A B i) := rfl
    rw [fh_s] at hQ
    obtain ⟨⟨x', y'⟩, e2⟩ : ∃ s, sI A B (i + 1) = s := ⟨_, rfl⟩
    obtain ⟨⟨x, y⟩, e1⟩ : ∃ s, sI A B i = s := ⟨_, rfl⟩
    have hQ0 : ¬ (x' = v ∨ y' = v) → Q (some (.int (fhF A B v r (i + 1)))) h := fun hn => by
      rw [e2, if_neg hn] at hQ
      exact hQ
    have hQ1 : (x' = v ∨ y' = v) → Q (some (.int (nI (i + 1)))) h := fun hn => by
      rw [e2, if_pos hn] at hQ
      exact hQ
    rw [e1] at hx hy hb1
    rw [e2] at hb2
    rw [e1, e2] at hst
    unfold Bd at hb1 hb2
    dsimp only at hx hy hb1 hb2
    subst hx
    subst hy
    refine GoF_wp1 60 ?_
    refine And.intro (fun h => absurd h (nI_nlt (by omega) (by omega))) (fun _ => ?_)
    by_cases h1 : y = B
    · rw [show pS A B (x, y) = (x, 0) by unfold pS; rw [if_pos h1]] at hst
      have f1 : x' = x := congrArg Prod.fst hst
      have f2 : y' = 0 := congrArg Prod.snd hst
      have ex : nI x = nI x' := by rw [f1]
      have ey : (0 : Int32) = nI y' := by rw [f2]; rfl
      refine And.intro (fun h => absurd (by rw [h1]) h) (fun _ => ?_)
      refine And.intro (fun e => ?_) (fun e => ?_)
      · exact hQ1 (Or.inl ((nI_eq (by omega) (by omega)).mp (ex.symm.trans e)))
      · refine And.intro (fun e3 => ?_) (fun e3 => ?_)
        · exact ih (i + 1) _ _ _ _ (by rw [e2]; exact ex) (by rw [e2]; exact ey) (nI_1 _) (by omega) (hQ0 (fun q => q.elim (fun q => e (by rw [ex, q])) (fun q => e3 (by rw [ey, q]))))
        · exact hQ1 (Or.inr ((nI_eq (by omega) (by omega)).mp (ey.symm.trans (Decidable.of_not_not e3))))
    · refine And.intro (fun _ => ?_) (fun h => absurd (fun q => absurd ((nI_eq (by omega) (by omega)).mp q) h1) h)
      by_cases h2 : x = 0
      · rw [show pS A B (x, y) = (A, y) by unfold pS; rw [if_neg h1, if_pos h2]] at hst
        have f1 : x' = A := congrArg Prod.fst hst
        have f2 : y' = y := congrArg Prod.snd hst
        have ex : nI A = nI x' := by rw [f1]
        have ey : nI y = nI y' := by rw [f2]
        refine And.intro (fun h => absurd (by rw [h2]; rfl) h) (fun _ => ?_)
        refine And.intro (fun e => ?_) (fun e => ?_)
        · exact hQ1 (Or.inl ((nI_eq (by omega) (by omega)).mp (ex.symm.trans e)))
        · refine And.intro (fun e3 => ?_) (fun e3 => ?_)
          · exact ih (i + 1) _ _ _ _ (by rw [e2]; exact ex) (by rw [e2]; exact ey) (nI_1 _) (by omega) (hQ0 (fun q => q.elim (fun q => e (by rw [ex, q])) (fun q => e3 (by rw [ey, q]))))
          · exact hQ1 (Or.inr ((nI_eq (by omega) (by omega)).mp (ey.symm.trans (Decidable.of_not_not e3))))
      · rw [show pS A B (x, y) = (x - min x (B - y), y + min x (B - y)) by unfold pS; rw [if_neg h1, if_neg h2]] at hst
        have f1 : x' = x - min x (B - y) := congrArg Prod.fst hst
        have f2 : y' = y + min x (B - y) := congrArg Prod.snd hst
        refine And.intro (fun _ => ?_) (fun h => absurd (fun q => absurd ((nI_eq (b := 0) (by omega) (by decide)).mp q) h2) h)
        have em : (if nI B - nI y < nI x then nI B - nI y else nI x) = nI (min x (B - y)) := by
          rw [nI_sub (show y ≤ B by omega)]
          exact mn_nI (by omega) (by omega)
        have ex : nI x - (if nI B - nI y < nI x then nI B - nI y else nI x) = nI x' := by rw [em, nI_sub (by omega), f1]
        have ey : nI y + (if nI B - nI y < nI x then nI B - nI y else nI x) = nI y' := by rw [em, nI_add, f2]
        refine And.intro (fun e => ?_) (fun e => ?_)
        · exact hQ1 (Or.inl ((nI_eq (by omega) (by omega)).mp (ex.symm.trans e)))
        · refine And.intro (fun e3 => ?_) (fun e3 => ?_)
          · exact ih (i + 1) _ _ _ _ (by rw [e2]; exact ex) (by rw [e2]; exact ey) (nI_1 _) (by omega) (hQ0 (fun q => q.elim (fun q => e (by rw [ex, q])) (fun q => e3 (by rw [ey, q]))))
          · exact hQ1 (Or.inr ((nI_eq (by omega) (by omega)).mp (ey.symm.trans (Decidable.of_not_not e3))))
theorem c_ps {k A B v : Nat} {h : Hp} {Q : Option Value → Hp → Prop} (hA : 1 ≤ A) (hB : 1 ≤ B) (hA9 : A ≤ 99) (hB9 : B ≤ 99) (hv : v ≤ 99) (hQ : Q (some (.int (fhF A B v (2 * (A + B)) 0))) h) : Go (k + 1) mX7_pouringSteps [.int (nI A), .int (nI B), .int (nI v)] h Q := by
  have hl := l_ps (k := k) (h := h) (Q := Q) (bd := 2 * (A + B)) hA hB hA9 hB9 hv (by omega) (2 * (A + B)) 0 0 0 1 none rfl rfl rfl (by omega) hQ
  rw [← m2, ← nI_add] at hl
  refine Go_wp 40 rfl ?_
  exact hl
