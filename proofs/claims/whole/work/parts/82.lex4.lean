/-! The model's step from word to word: go. -/
/-- what the model's fields say of a word -/
def MP (B : Nat → Nat) (I : Nat → Nat → Int32) (t : Nat × Nat × Nat) : Prop := I 85 10 = nI t.2.2 ∧ I 85 11 = nI t.2.1 ∧ I 85 12 = nI t.1 ∧ (t.1 = 1 ∨ t.1 = 3 → I 85 13 = nI (B t.2.1)) ∧ (t.1 = 2 → I 85 13 = nI (nv B t.2.1 (t.2.2 - t.2.1))) ∧ (t.1 = 1 ∨ t.1 = 2 → I 85 14 = nI t.2.2) ∧ (t.1 = 3 → (I 85 14).toInt < (t.2.2 : Int))
theorem s_go {nx sl : Nat} {ln : Nat → Nat} {R : Nat → Nat → Option Nat} {I : Nat → Nat → Int32} {Q : Option Value → Hp → Prop} {k : Nat} (hW : SW nx ln R) {B : Nat → Nat} {L p : Nat} {w : Bool} (hM : MT I B L) (h10 : I 85 10 = nI p) (hpL : p ≤ L) (hw1 : w = true → I 85 14 = nI p) (hw0 : w = false → (I 85 14).toInt < (p : Int)) (hQ : ∀ I2, F85 I I2 → MP B I2 (lx B L p w) → Q none (nx, sl, ln, R, I2)) : Go (k + 2) mX8_go [.ref 85] (nx, sl, ln, R, I) Q := by
  have hL9 := hM.1
  refine Go_of rfl ?_
  refine l_goA (I := I) (x1 := none) hW hM (97 - p) p I (by omega) F85.rf (fun _ _ => rfl) h10 (fun I2 nn hF hF10 h10 => ?_)
  obtain ⟨s, hs⟩ : ∃ s, run1 isB B L p = s := ⟨_, rfl⟩
  have h10 : I2 85 10 = nI s := by rw [← hs]; exact h10
  have hps : p ≤ s := by rw [← hs]; exact rn_ge _ _ _ _ _
  have hsL : s ≤ L := by rw [← hs]; exact rn_le _ _ _ _ _ hpL
  refine And.intro (sw_k hW (Nat.le_of_ble_eq_true rfl) rfl) ?_
  rw [h10]
  refine And.intro (sw_k hW (Nat.le_of_ble_eq_true rfl) rfl) ?_
  obtain ⟨I3, hI3⟩ : ∃ I3, up2 I2 85 11 (nI s) = I3 := ⟨_, rfl⟩
  have hF3 : F85 I I3 := by rw [← hI3]; exact hF.up (by omega)
  have g10 : I3 85 10 = nI s := by rw [← hI3, up2_eq, up1_ne (by decide)]; exact h10
  have g11 : I3 85 11 = nI s := by rw [← hI3, up2_eq, up1_eq]
  have g14 : I3 85 14 = I 85 14 := by rw [← hI3, up2_eq, up1_ne (by decide), hF10 14 (by decide)]
  have hM3 := hM.keep hF3
  have lt14 : (I 85 14).toInt < ((s + 1 : Nat) : Int) := by
    cases w with
    | true => rw [hw1 rfl, tI_nI (by omega)]; omega
    | false => have := hw0 rfl; omega
  have hclN' : ¬ (w = true ∧ s = p) → nI s = I 85 14 → False := fun hcl q => by
    cases w with
    | true =>
      rw [hw1 rfl] at q
      exact hcl ⟨rfl, (nI_eq (by omega) (by omega)).mp q⟩
    | false =>
      have h1 := hw0 rfl
      rw [← q, tI_nI (by omega)] at h1
      omega
  rw [hI3]
  refine And.intro (sw_k hW (Nat.le_of_ble_eq_true rfl) rfl) ?_
  rw [g11]
  refine And.intro (sw_k hW (Nat.le_of_ble_eq_true rfl) rfl) ?_
  rw [g14]
  by_cases hcl : w = true ∧ s = p
  · refine And.intro (fun h => absurd (by rw [hw1 hcl.1, hcl.2]) h) (fun _ => ?_)
    refine And.intro (sw_k hW (Nat.le_of_ble_eq_true rfl) rfl) ?_
    rw [g11]
    refine And.intro (sw_k hW (Nat.le_of_ble_eq_true rfl) rfl) ?_
    rw [hM3.2.1]
    by_cases hsl : s = L
    · refine And.intro (fun h => absurd (by rw [hsl]) h) (fun _ => ?_)
      refine And.intro (sw_k hW (Nat.le_of_ble_eq_true rfl) rfl) ?_
      have e : lx B L p w = (0, s, s) := by unfold lx; rw [hs, if_pos (by omega)]
      rw [e] at hQ
      refine hQ _ (hF3.up (by omega)) ⟨?_, ?_, ?_, fun q => absurd q (by dsimp only; decide), fun q => absurd q (by dsimp only; decide), fun q => absurd q (by dsimp only; decide), fun q => absurd q (by dsimp only; decide)⟩
      · rw [up2_eq, up1_ne (by decide)]; exact g10
      · rw [up2_eq, up1_ne (by decide)]; exact g11
      · rw [up2_eq, up1_eq]; rfl
    · have hsl2 : s < L := by omega
      obtain ⟨b1, b2⟩ := hM3.2.2 s hsl2
      refine And.intro (fun _ => ?_) (fun h => absurd (fun q => absurd ((nI_eq (by omega) (by omega)).mp q) hsl) h)
      refine And.intro (sw_k hW (Nat.le_of_ble_eq_true rfl) rfl) ?_
      rw [g11]
      refine And.intro (sw_k hW (Nat.le_of_ble_eq_true rfl) rfl) ?_
      refine s_isLetter hW hM3 (by omega) (fun _ hl => ?_) (fun hl => ?_)
      · refine And.intro (fun h9 => absurd h9 (by decide)) (fun _ => ?_)
        have er : rn isL B L (97 - s) s = run1 isL B L (s + 1) := by
          have := run1_s (P := isL) (B := B) (L := L) (p := s) (by omega)
          rw [if_pos ⟨hsl2, hl⟩] at this
          exact this
        refine l_goB (I := I3) hW hM3 (97 - s) s I3 (by omega) F85.rf (fun _ _ => rfl) g10 (fun I4 nn a b c => ?_)
        rw [er] at c
        have d11 : I4 85 11 = nI s := by rw [b 11 (by decide)]; exact g11
        have d92 : I4 92 s = nI (B s) := by rw [a.1 92 (by decide)]; exact b2
        refine And.intro (fun h9 => absurd h9 (by decide)) (fun _ => ?_)
        refine And.intro (sw_k hW (Nat.le_of_ble_eq_true rfl) rfl) ?_
        refine And.intro (sw_k hW (Nat.le_of_ble_eq_true rfl) rfl) ?_
        refine Exists.intro _ (And.intro (sw_r hW (Nat.le_of_ble_eq_true rfl) rfl rfl) ?_)
        refine And.intro (sw_k hW (Nat.le_of_ble_eq_true rfl) rfl) ?_
        rw [show ∀ v, up2 I4 85 12 v 85 11 = nI s from fun v => by rw [up2_eq, up1_ne (by decide)]; exact d11]
        refine And.intro (sw_n hW (Nat.le_of_ble_eq_true rfl) rfl rfl (show s < 96 by omega) (Nat.le_of_ble_eq_true rfl)) ?_
        rw [show ∀ v, up2 I4 85 12 v 92 (nI s).toNatClampNeg = nI (B s) from fun v => by rw [up2_ne (by decide), ix (by omega)]; exact d92]
        refine And.intro (sw_k hW (Nat.le_of_ble_eq_true rfl) rfl) ?_
        refine And.intro (sw_k hW (Nat.le_of_ble_eq_true rfl) rfl) ?_
        rw [show ∀ v u, up2 (up2 I4 85 12 v) 85 13 u 85 10 = nI (run1 isL B L (s + 1)) from fun v u => by rw [up2_eq, up1_ne (by decide), up2_eq, up1_ne (by decide)]; exact c]
        refine And.intro (sw_k hW (Nat.le_of_ble_eq_true rfl) rfl) ?_
        have e : lx B L p w = (4, s, run1 isL B L (s + 1)) := by unfold lx; rw [hs, if_neg (by omega), if_pos hl, if_pos hcl]
        rw [e] at hQ
        refine hQ _ ((((hF3.tr a).up (by omega)).up (by omega)).up (by omega)) ⟨?_, ?_, ?_, fun q => ?_, fun q => absurd q (by dsimp only; decide), fun q => ?_, fun q => absurd q (by dsimp only; decide)⟩
        · rw [up2_eq, up1_ne (by decide), up2_eq, up1_ne (by decide), up2_eq, up1_ne (by decide)]; exact c
        · rw [up2_eq, up1_ne (by decide), up2_eq, up1_ne (by decide), up2_eq, up1_ne (by decide)]; exact d11
        · rw [up2_eq, up1_ne (by decide), up2_eq, up1_ne (by decide), up2_eq, up1_eq]; rfl
        · rw [up2_eq, up1_ne (by decide), up2_eq, up1_eq]
        · rw [up2_eq, up1_eq]
      · have hl2 : ¬ isL (B s) = true := fun q => hl ⟨hsl2, q⟩
        refine And.intro (fun _ => ?_) (fun h9 => absurd rfl h9)
        refine And.intro (sw_k hW (Nat.le_of_ble_eq_true rfl) rfl) ?_
        rw [g11]
        refine And.intro (sw_k hW (Nat.le_of_ble_eq_true rfl) rfl) ?_
        refine s_isFigure hW hM3 (by omega) (fun _ hd => ?_) (fun hd => ?_)
        · refine And.intro (fun h9 => absurd h9 (by decide)) (fun _ => ?_)
          have er : rn isD B L (97 - s) s = run1 isD B L (s + 1) := by
            have := run1_s (P := isD) (B := B) (L := L) (p := s) (by omega)
            rw [if_pos ⟨hsl2, hd⟩] at this
            exact this
          refine And.intro (sw_k hW (Nat.le_of_ble_eq_true rfl) rfl) ?_
          refine l_goC (I := up2 I3 85 13 0) (s := s) hW (hM3.keep (F85.rf.up (by omega))) (by rw [up2_eq, up1_ne (by decide)]; exact g11) (97 - s) s _ (by omega) (Nat.le_refl _) F85.rf (fun _ _ _ => rfl) (by rw [up2_eq, up1_ne (by decide)]; exact g10) (by rw [up2_eq, up1_eq, Nat.sub_self]; rfl) (fun I4 nn a b c d => ?_)
          rw [er] at c d
          have d11 : I4 85 11 = nI s := by rw [b 11 (by decide) (by decide), up2_eq, up1_ne (by decide)]; exact g11
          have hFa : F85 I I4 := (hF3.up (by omega)).tr a
          obtain ⟨e0, he0⟩ : ∃ e0, run1 isD B L (s + 1) = e0 := ⟨_, rfl⟩
          have hge : s + 1 ≤ e0 := by rw [← he0]; exact rn_ge _ _ _ _ _
          have hle : e0 ≤ L := by rw [← he0]; exact rn_le _ _ _ _ _ (by omega)
          rw [he0] at c d
          refine And.intro (fun _ => ?_) (fun h9 => absurd (by decide) h9)
          refine And.intro (sw_k hW (Nat.le_of_ble_eq_true rfl) rfl) ?_
          refine And.intro (sw_k hW (Nat.le_of_ble_eq_true rfl) rfl) ?_
          rw [show ∀ v, up2 I4 85 12 v 85 10 = nI e0 from fun v => by rw [up2_eq, up1_ne (by decide)]; exact c]
          refine And.intro (sw_k hW (Nat.le_of_ble_eq_true rfl) rfl) ?_
          have e : lx B L p w = (4, s, e0) := by unfold lx; rw [hs, if_neg (by omega), if_neg hl2, if_pos hd, he0, if_pos (Or.inl hcl)]
          rw [e] at hQ
          refine hQ _ ((hFa.up (by omega)).up (by omega)) ⟨?_, ?_, ?_, fun q => absurd q (by dsimp only; decide), fun q => absurd q (by dsimp only; decide), fun q => absurd q (by dsimp only; decide), fun q => absurd q (by dsimp only; decide)⟩
          · rw [up2_eq, up1_ne (by decide), up2_eq, up1_ne (by decide)]; exact c
          · rw [up2_eq, up1_ne (by decide), up2_eq, up1_ne (by decide)]; exact d11
          · rw [up2_eq, up1_ne (by decide), up2_eq, up1_eq]; rfl
        · have hd2 : ¬ isD (B s) = true := fun q => hd ⟨hsl2, q⟩
          refine And.intro (fun _ => ?_) (fun h9 => absurd rfl h9)
          refine And.intro (sw_k hW (Nat.le_of_ble_eq_true rfl) rfl) ?_
          refine And.intro (sw_k hW (Nat.le_of_ble_eq_true rfl) rfl) ?_
          refine Exists.intro _ (And.intro (sw_r hW (Nat.le_of_ble_eq_true rfl) rfl rfl) ?_)
          refine And.intro (sw_k hW (Nat.le_of_ble_eq_true rfl) rfl) ?_
          rw [show up2 I3 85 12 3 85 11 = nI s by rw [up2_eq, up1_ne (by decide)]; exact g11]
          refine And.intro (sw_n hW (Nat.le_of_ble_eq_true rfl) rfl rfl (show s < 96 by omega) (Nat.le_of_ble_eq_true rfl)) ?_
          rw [show up2 I3 85 12 3 92 (nI s).toNatClampNeg = nI (B s) by rw [up2_ne (by decide), ix (by omega)]; exact b2]
          refine And.intro (sw_k hW (Nat.le_of_ble_eq_true rfl) rfl) ?_
          refine And.intro (sw_k hW (Nat.le_of_ble_eq_true rfl) rfl) ?_
          rw [show up2 (up2 I3 85 12 3) 85 13 (nI (B s)) 85 10 = nI s by rw [up2_eq, up1_ne (by decide), up2_eq, up1_ne (by decide)]; exact g10]
          refine And.intro (sw_k hW (Nat.le_of_ble_eq_true rfl) rfl) ?_
          have e : lx B L p w = (3, s, s + 1) := by unfold lx; rw [hs, if_neg (by omega), if_neg hl2, if_neg hd2]
          rw [e] at hQ
          refine hQ _ (((hF3.up (by omega)).up (by omega)).up (by omega)) ⟨?_, ?_, ?_, fun q => ?_, fun q => absurd q (by dsimp only; decide), fun q => absurd q (by dsimp only; decide), fun q => ?_⟩
          · rw [up2_eq, up1_eq]; exact nI_1 s
          · rw [up2_eq, up1_ne (by decide), up2_eq, up1_ne (by decide), up2_eq, up1_ne (by decide)]; exact g11
          · rw [up2_eq, up1_ne (by decide), up2_eq, up1_ne (by decide), up2_eq, up1_eq]; rfl
          · rw [up2_eq, up1_ne (by decide), up2_eq, up1_eq]
          · rw [up2_eq, up1_ne (by decide), up2_eq, up1_ne (by decide), up2_eq, up1_ne (by decide), g14]; exact lt14
  · refine And.intro (fun _ => ?_) (fun h => absurd (hclN' hcl) h)
    refine And.intro (sw_k hW (Nat.le_of_ble_eq_true rfl) rfl) ?_
    rw [g11]
    refine And.intro (sw_k hW (Nat.le_of_ble_eq_true rfl) rfl) ?_
    rw [hM3.2.1]
    by_cases hsl : s = L
    · refine And.intro (fun h => absurd (by rw [hsl]) h) (fun _ => ?_)
      refine And.intro (sw_k hW (Nat.le_of_ble_eq_true rfl) rfl) ?_
      have e : lx B L p w = (0, s, s) := by unfold lx; rw [hs, if_pos (by omega)]
      rw [e] at hQ
      refine hQ _ (hF3.up (by omega)) ⟨?_, ?_, ?_, fun q => absurd q (by dsimp only; decide), fun q => absurd q (by dsimp only; decide), fun q => absurd q (by dsimp only; decide), fun q => absurd q (by dsimp only; decide)⟩
      · rw [up2_eq, up1_ne (by decide)]; exact g10
      · rw [up2_eq, up1_ne (by decide)]; exact g11
      · rw [up2_eq, up1_eq]; rfl
    · have hsl2 : s < L := by omega
      obtain ⟨b1, b2⟩ := hM3.2.2 s hsl2
      refine And.intro (fun _ => ?_) (fun h => absurd (fun q => absurd ((nI_eq (by omega) (by omega)).mp q) hsl) h)
      refine And.intro (sw_k hW (Nat.le_of_ble_eq_true rfl) rfl) ?_
      rw [g11]
      refine And.intro (sw_k hW (Nat.le_of_ble_eq_true rfl) rfl) ?_
      refine s_isLetter hW hM3 (by omega) (fun _ hl => ?_) (fun hl => ?_)
      · refine And.intro (fun h9 => absurd h9 (by decide)) (fun _ => ?_)
        have er : rn isL B L (97 - s) s = run1 isL B L (s + 1) := by
          have := run1_s (P := isL) (B := B) (L := L) (p := s) (by omega)
          rw [if_pos ⟨hsl2, hl⟩] at this
          exact this
        refine l_goB (I := I3) hW hM3 (97 - s) s I3 (by omega) F85.rf (fun _ _ => rfl) g10 (fun I4 nn a b c => ?_)
        rw [er] at c
        have d11 : I4 85 11 = nI s := by rw [b 11 (by decide)]; exact g11
        have d92 : I4 92 s = nI (B s) := by rw [a.1 92 (by decide)]; exact b2
        refine And.intro (fun _ => ?_) (fun h9 => absurd rfl h9)
        refine And.intro (sw_k hW (Nat.le_of_ble_eq_true rfl) rfl) ?_
        refine And.intro (sw_k hW (Nat.le_of_ble_eq_true rfl) rfl) ?_
        refine Exists.intro _ (And.intro (sw_r hW (Nat.le_of_ble_eq_true rfl) rfl rfl) ?_)
        refine And.intro (sw_k hW (Nat.le_of_ble_eq_true rfl) rfl) ?_
        rw [show ∀ v, up2 I4 85 12 v 85 11 = nI s from fun v => by rw [up2_eq, up1_ne (by decide)]; exact d11]
        refine And.intro (sw_n hW (Nat.le_of_ble_eq_true rfl) rfl rfl (show s < 96 by omega) (Nat.le_of_ble_eq_true rfl)) ?_
        rw [show ∀ v, up2 I4 85 12 v 92 (nI s).toNatClampNeg = nI (B s) from fun v => by rw [up2_ne (by decide), ix (by omega)]; exact d92]
        refine And.intro (sw_k hW (Nat.le_of_ble_eq_true rfl) rfl) ?_
        refine And.intro (sw_k hW (Nat.le_of_ble_eq_true rfl) rfl) ?_
        rw [show ∀ v u, up2 (up2 I4 85 12 v) 85 13 u 85 10 = nI (run1 isL B L (s + 1)) from fun v u => by rw [up2_eq, up1_ne (by decide), up2_eq, up1_ne (by decide)]; exact c]
        refine And.intro (sw_k hW (Nat.le_of_ble_eq_true rfl) rfl) ?_
        have e : lx B L p w = (1, s, run1 isL B L (s + 1)) := by unfold lx; rw [hs, if_neg (by omega), if_pos hl, if_neg hcl]
        rw [e] at hQ
        refine hQ _ ((((hF3.tr a).up (by omega)).up (by omega)).up (by omega)) ⟨?_, ?_, ?_, fun q => ?_, fun q => absurd q (by dsimp only; decide), fun q => ?_, fun q => absurd q (by dsimp only; decide)⟩
        · rw [up2_eq, up1_ne (by decide), up2_eq, up1_ne (by decide), up2_eq, up1_ne (by decide)]; exact c
        · rw [up2_eq, up1_ne (by decide), up2_eq, up1_ne (by decide), up2_eq, up1_ne (by decide)]; exact d11
        · rw [up2_eq, up1_ne (by decide), up2_eq, up1_ne (by decide), up2_eq, up1_eq]; rfl
        · rw [up2_eq, up1_ne (by decide), up2_eq, up1_eq]
        · rw [up2_eq, up1_eq]
      · have hl2 : ¬ isL (B s) = true := fun q => hl ⟨hsl2, q⟩
        refine And.intro (fun _ => ?_) (fun h9 => absurd rfl h9)
        refine And.intro (sw_k hW (Nat.le_of_ble_eq_true rfl) rfl) ?_
        rw [g11]
        refine And.intro (sw_k hW (Nat.le_of_ble_eq_true rfl) rfl) ?_
        refine s_isFigure hW hM3 (by omega) (fun _ hd => ?_) (fun hd => ?_)
        · refine And.intro (fun h9 => absurd h9 (by decide)) (fun _ => ?_)
          have er : rn isD B L (97 - s) s = run1 isD B L (s + 1) := by
            have := run1_s (P := isD) (B := B) (L := L) (p := s) (by omega)
            rw [if_pos ⟨hsl2, hd⟩] at this
            exact this
          refine And.intro (sw_k hW (Nat.le_of_ble_eq_true rfl) rfl) ?_
          refine l_goC (I := up2 I3 85 13 0) (s := s) hW (hM3.keep (F85.rf.up (by omega))) (by rw [up2_eq, up1_ne (by decide)]; exact g11) (97 - s) s _ (by omega) (Nat.le_refl _) F85.rf (fun _ _ _ => rfl) (by rw [up2_eq, up1_ne (by decide)]; exact g10) (by rw [up2_eq, up1_eq, Nat.sub_self]; rfl) (fun I4 nn a b c d => ?_)
          rw [er] at c d
          have d11 : I4 85 11 = nI s := by rw [b 11 (by decide) (by decide), up2_eq, up1_ne (by decide)]; exact g11
          have hFa : F85 I I4 := (hF3.up (by omega)).tr a
          obtain ⟨e0, he0⟩ : ∃ e0, run1 isD B L (s + 1) = e0 := ⟨_, rfl⟩
          have hge : s + 1 ≤ e0 := by rw [← he0]; exact rn_ge _ _ _ _ _
          have hle : e0 ≤ L := by rw [← he0]; exact rn_le _ _ _ _ _ (by omega)
          rw [he0] at c d
          refine And.intro (fun h9 => absurd rfl h9) (fun _ => ?_)
          refine And.intro (sw_k hW (Nat.le_of_ble_eq_true rfl) rfl) ?_
          rw [c]
          refine And.intro (sw_k hW (Nat.le_of_ble_eq_true rfl) rfl) ?_
          rw [d11]
          have e4 : nI e0 - nI s = nI (e0 - s) := nI_sub (by omega)
          by_cases h4 : e0 - s ≤ 4
          · refine And.intro (fun _ => ?_) (fun h => absurd (by rw [e4]; exact nI_le (b := 4) h4 (by decide)) h)
            refine And.intro (sw_k hW (Nat.le_of_ble_eq_true rfl) rfl) ?_
            refine And.intro (sw_k hW (Nat.le_of_ble_eq_true rfl) rfl) ?_
            rw [show ∀ v, up2 I4 85 12 v 85 10 = nI e0 from fun v => by rw [up2_eq, up1_ne (by decide)]; exact c]
            refine And.intro (sw_k hW (Nat.le_of_ble_eq_true rfl) rfl) ?_
            have e : lx B L p w = (2, s, e0) := by unfold lx; rw [hs, if_neg (by omega), if_neg hl2, if_pos hd, he0, if_neg (fun z => z.elim hcl (fun z => by omega))]
            rw [e] at hQ
            refine hQ _ ((hFa.up (by omega)).up (by omega)) ⟨?_, ?_, ?_, fun q => absurd q (by dsimp only; decide), fun q => ?_, fun q => ?_, fun q => absurd q (by dsimp only; decide)⟩
            · rw [up2_eq, up1_ne (by decide), up2_eq, up1_ne (by decide)]; exact c
            · rw [up2_eq, up1_ne (by decide), up2_eq, up1_ne (by decide)]; exact d11
            · rw [up2_eq, up1_ne (by decide), up2_eq, up1_eq]; rfl
            · rw [up2_eq, up1_ne (by decide), up2_eq, up1_ne (by decide), d, show min (e0 - s) 4 = e0 - s by omega]
            · rw [up2_eq, up1_eq]
          · refine And.intro (fun h => absurd h (by rw [e4]; exact nI_ge (a := 4) (by omega) (by omega))) (fun _ => ?_)
            refine And.intro (sw_k hW (Nat.le_of_ble_eq_true rfl) rfl) ?_
            refine And.intro (sw_k hW (Nat.le_of_ble_eq_true rfl) rfl) ?_
            rw [show ∀ v, up2 I4 85 12 v 85 10 = nI e0 from fun v => by rw [up2_eq, up1_ne (by decide)]; exact c]
            refine And.intro (sw_k hW (Nat.le_of_ble_eq_true rfl) rfl) ?_
            have e : lx B L p w = (4, s, e0) := by unfold lx; rw [hs, if_neg (by omega), if_neg hl2, if_pos hd, he0, if_pos (Or.inr (by omega))]
            rw [e] at hQ
            refine hQ _ ((hFa.up (by omega)).up (by omega)) ⟨?_, ?_, ?_, fun q => absurd q (by dsimp only; decide), fun q => absurd q (by dsimp only; decide), fun q => absurd q (by dsimp only; decide), fun q => absurd q (by dsimp only; decide)⟩
            · rw [up2_eq, up1_ne (by decide), up2_eq, up1_ne (by decide)]; exact c
            · rw [up2_eq, up1_ne (by decide), up2_eq, up1_ne (by decide)]; exact d11
            · rw [up2_eq, up1_ne (by decide), up2_eq, up1_eq]; rfl
        · have hd2 : ¬ isD (B s) = true := fun q => hd ⟨hsl2, q⟩
          refine And.intro (fun _ => ?_) (fun h9 => absurd rfl h9)
          refine And.intro (sw_k hW (Nat.le_of_ble_eq_true rfl) rfl) ?_
          refine And.intro (sw_k hW (Nat.le_of_ble_eq_true rfl) rfl) ?_
          refine Exists.intro _ (And.intro (sw_r hW (Nat.le_of_ble_eq_true rfl) rfl rfl) ?_)
          refine And.intro (sw_k hW (Nat.le_of_ble_eq_true rfl) rfl) ?_
          rw [show up2 I3 85 12 3 85 11 = nI s by rw [up2_eq, up1_ne (by decide)]; exact g11]
          refine And.intro (sw_n hW (Nat.le_of_ble_eq_true rfl) rfl rfl (show s < 96 by omega) (Nat.le_of_ble_eq_true rfl)) ?_
          rw [show up2 I3 85 12 3 92 (nI s).toNatClampNeg = nI (B s) by rw [up2_ne (by decide), ix (by omega)]; exact b2]
          refine And.intro (sw_k hW (Nat.le_of_ble_eq_true rfl) rfl) ?_
          refine And.intro (sw_k hW (Nat.le_of_ble_eq_true rfl) rfl) ?_
          rw [show up2 (up2 I3 85 12 3) 85 13 (nI (B s)) 85 10 = nI s by rw [up2_eq, up1_ne (by decide), up2_eq, up1_ne (by decide)]; exact g10]
          refine And.intro (sw_k hW (Nat.le_of_ble_eq_true rfl) rfl) ?_
          have e : lx B L p w = (3, s, s + 1) := by unfold lx; rw [hs, if_neg (by omega), if_neg hl2, if_neg hd2]
          rw [e] at hQ
          refine hQ _ (((hF3.up (by omega)).up (by omega)).up (by omega)) ⟨?_, ?_, ?_, fun q => ?_, fun q => absurd q (by dsimp only; decide), fun q => absurd q (by dsimp only; decide), fun q => ?_⟩
          · rw [up2_eq, up1_eq]; exact nI_1 s
          · rw [up2_eq, up1_ne (by decide), up2_eq, up1_ne (by decide), up2_eq, up1_ne (by decide)]; exact g11
          · rw [up2_eq, up1_ne (by decide), up2_eq, up1_ne (by decide), up2_eq, up1_eq]; rfl
          · rw [up2_eq, up1_ne (by decide), up2_eq, up1_eq]
          · rw [up2_eq, up1_ne (by decide), up2_eq, up1_ne (by decide), up2_eq, up1_ne (by decide), g14]; exact lt14
