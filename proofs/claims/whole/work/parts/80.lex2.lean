/-! The component's step from word to word. -/
theorem t_step {nx sl : Nat} {ln : Nat → Nat} {R : Nat → Nat → Option Nat} {I : Nat → Nat → Int32} {Q : Option Value → Hp → Prop} {k : Nat} (hW : SW nx ln R) {p s e nn : Nat} {w : Bool} {sg : Int32} {x3 x4 : Option Value} (hp : p ≤ 96) (hs : s ≤ 96) (he : e ≤ 97) (hse : s ≤ e) (h5 : I 51 5 = sg) (h6 : I 51 6 = nI e) (h7 : I 51 7 = nI s)
    (q4 : ((w = true ∧ s = p ∧ sg < 0) ∨ (sg = -3 ∧ 4 < e - s)) → Q none (nx, sl, ln, R, up2 I 51 5 (-4)))
    (q0 : ¬ ((w = true ∧ s = p ∧ sg < 0) ∨ (sg = -3 ∧ 4 < e - s)) → Q none (nx, sl, ln, R, I)) :
    wp (nn + 60) (k + 2) mX2_step 217 [some (.ref 51), some (.int (if w = true then 1 else 0)), some (.int (nI p)), x3, x4] [] (nx, sl, ln, R, I) Q := by
  have tl : (¬ (w = true ∧ s = p ∧ sg < 0)) → (sg = -3 → 4 < e - s → Q none (nx, sl, ln, R, up2 I 51 5 (-4))) ∧ (¬ (sg = -3 ∧ 4 < e - s) → Q none (nx, sl, ln, R, I)) := fun h => ⟨fun a b => q4 (Or.inr ⟨a, b⟩), fun h2 => q0 (fun q => q.elim h h2)⟩
  have e4 : nI e - nI s = nI (e - s) := nI_sub hse
  cases w with
  | false =>
    obtain ⟨t1, t2⟩ := tl (fun q => absurd q.1 (by decide))
    refine And.intro (fun _ => ?_) (fun h => absurd rfl h)
    refine And.intro (fun h9 => absurd rfl h9) (fun _ => ?_)
    refine And.intro (sw_k hW (Nat.le_of_ble_eq_true rfl) rfl) ?_
    rw [h5]
    refine And.intro (fun h3 => ?_) (fun h3 => ?_)
    · exact t2 (fun q => h3 q.1)
    · refine And.intro (sw_k hW (Nat.le_of_ble_eq_true rfl) rfl) ?_
      rw [h6]
      refine And.intro (sw_k hW (Nat.le_of_ble_eq_true rfl) rfl) ?_
      rw [h7]
      refine And.intro (fun hc => ?_) (fun hc => ?_)
      · rw [e4] at hc
        exact t2 (fun q => absurd hc (nI_ge (a := 4) q.2 (by omega)))
      · rw [e4] at hc
        refine And.intro (sw_k hW (Nat.le_of_ble_eq_true rfl) rfl) ?_
        exact t1 (Decidable.of_not_not h3) (by
          rcases Nat.lt_or_ge 4 (e - s) with q | q
          · exact q
          · exact absurd (nI_le (b := 4) q (by decide)) hc)
  | true =>
    refine And.intro (fun h => absurd h (by decide)) (fun _ => ?_)
    refine And.intro (sw_k hW (Nat.le_of_ble_eq_true rfl) rfl) ?_
    rw [h7]
    by_cases hsp : s = p
    · refine And.intro (fun h => absurd (by rw [hsp]) h) (fun _ => ?_)
      refine And.intro (sw_k hW (Nat.le_of_ble_eq_true rfl) rfl) ?_
      rw [h5]
      refine And.intro (fun hg => ?_) (fun hg => ?_)
      · obtain ⟨t1, t2⟩ := tl (fun q => absurd hg (Int32.not_le.mpr q.2.2))
        refine And.intro (fun h9 => absurd rfl h9) (fun _ => ?_)
        refine And.intro (sw_k hW (Nat.le_of_ble_eq_true rfl) rfl) ?_
        rw [h5]
        refine And.intro (fun h3 => ?_) (fun h3 => ?_)
        · exact t2 (fun q => h3 q.1)
        · refine And.intro (sw_k hW (Nat.le_of_ble_eq_true rfl) rfl) ?_
          rw [h6]
          refine And.intro (sw_k hW (Nat.le_of_ble_eq_true rfl) rfl) ?_
          rw [h7]
          refine And.intro (fun hc => ?_) (fun hc => ?_)
          · rw [e4] at hc
            exact t2 (fun q => absurd hc (nI_ge (a := 4) q.2 (by omega)))
          · rw [e4] at hc
            refine And.intro (sw_k hW (Nat.le_of_ble_eq_true rfl) rfl) ?_
            exact t1 (Decidable.of_not_not h3) (by
              rcases Nat.lt_or_ge 4 (e - s) with q | q
              · exact q
              · exact absurd (nI_le (b := 4) q (by decide)) hc)
      · refine And.intro (fun _ => ?_) (fun h9 => absurd (by decide) h9)
        refine And.intro (sw_k hW (Nat.le_of_ble_eq_true rfl) rfl) ?_
        exact q4 (Or.inl ⟨rfl, hsp, Int32.not_le.mp hg⟩)
    · obtain ⟨t1, t2⟩ := tl (fun q => hsp q.2.1)
      refine And.intro (fun _ => ?_) (fun h => absurd (fun q => absurd ((nI_eq (by omega) (by omega)).mp q) hsp) h)
      refine And.intro (fun h9 => absurd rfl h9) (fun _ => ?_)
      refine And.intro (sw_k hW (Nat.le_of_ble_eq_true rfl) rfl) ?_
      rw [h5]
      refine And.intro (fun h3 => ?_) (fun h3 => ?_)
      · exact t2 (fun q => h3 q.1)
      · refine And.intro (sw_k hW (Nat.le_of_ble_eq_true rfl) rfl) ?_
        rw [h6]
        refine And.intro (sw_k hW (Nat.le_of_ble_eq_true rfl) rfl) ?_
        rw [h7]
        refine And.intro (fun hc => ?_) (fun hc => ?_)
        · rw [e4] at hc
          exact t2 (fun q => absurd hc (nI_ge (a := 4) q.2 (by omega)))
        · rw [e4] at hc
          refine And.intro (sw_k hW (Nat.le_of_ble_eq_true rfl) rfl) ?_
          exact t1 (Decidable.of_not_not h3) (by
            rcases Nat.lt_or_ge 4 (e - s) with q | q
            · exact q
            · exact absurd (nI_le (b := 4) q (by decide)) hc)
theorem rn_no (B : Nat → Nat) (L r p : Nat) : rn (fun _ => false) B L r p = p := by
  cases r with
  | zero => rfl
  | succ r => rw [rn_s, if_neg (fun q => absurd q.2 (by decide))]
theorem F51.tr {I J K : Nat → Nat → Int32} (h1 : F51 I J) (h2 : F51 J K) : F51 I K := ⟨fun o a => (h2.1 o a).trans (h1.1 o a), fun q a b c => (h2.2 q a b c).trans (h1.2 q a b c)⟩
theorem c_step {nx sl : Nat} {ln : Nat → Nat} {R : Nat → Nat → Option Nat} {I : Nat → Nat → Int32} {Q : Option Value → Hp → Prop} {k : Nat} (hW : SW nx ln R) {B : Nat → Nat} {L p : Nat} {w : Bool} (hB : TB I B L) (hL : I 51 3 = nI L) (hp : I 51 6 = nI p) (hpL : p ≤ L) (hw : w = true ↔ I 51 5 = -2 ∨ I 51 5 = -3) (hQ : ∀ I2, F51 I I2 → I2 51 5 = sgF B (lx B L p w) → I2 51 7 = nI (lx B L p w).2.1 → I2 51 6 = nI (lx B L p w).2.2 → Q none (nx, sl, ln, R, I2)) : Go (k + 2) mX2_step [.ref 51] (nx, sl, ln, R, I) Q := by
  have hL9 := hB.1
  have main : GoF (k + 2) mX2_step 37 [some (.ref 51), some (.int (if w = true then 1 else 0)), some (.int (nI p)), none, none] [] (nx, sl, ln, R, up2 I 51 7 (nI p)) Q := by
    refine l_stepA (I := I) hW hB hL (97 - p) p _ (by omega) (F51.rf.up (by omega)) (fun q hq => by rw [up2_eq, up1_ne hq]) (by rw [up2_eq, up1_eq]) (fun I2 nn hF hF7 h7 => ?_)
    obtain ⟨s, hs⟩ : ∃ s, run1 isB B L p = s := ⟨_, rfl⟩
    have h7 : I2 51 7 = nI s := by rw [← hs]; exact h7
    have hps : p ≤ s := by rw [← hs]; exact rn_ge _ _ _ _ _
    have hsL : s ≤ L := by rw [← hs]; exact rn_le _ _ _ _ _ hpL
    refine And.intro (sw_k hW (Nat.le_of_ble_eq_true rfl) rfl) ?_
    rw [h7]
    refine And.intro (sw_k hW (Nat.le_of_ble_eq_true rfl) rfl) ?_
    refine And.intro (sw_k hW (Nat.le_of_ble_eq_true rfl) rfl) ?_
    rw [show up2 I2 51 6 (nI s) 51 7 = nI s by rw [up2_eq, up1_ne (by decide)]; exact h7]
    refine And.intro (sw_k hW (Nat.le_of_ble_eq_true rfl) rfl) ?_
    rw [show up2 I2 51 6 (nI s) 51 3 = nI L by rw [up2_eq, up1_ne (by decide), hF7 3 (by decide)]; exact hL]
    have hF3 : F51 I (up2 I2 51 6 (nI s)) := hF.up (by omega)
    by_cases hsl : s < L
    · refine And.intro (fun _ => ?_) (fun h => absurd (nI_lt hsl (by omega)) h)
      obtain ⟨I3, hI3⟩ : ∃ I3, up2 I2 51 6 (nI s) = I3 := ⟨_, rfl⟩
      rw [hI3] at hF3 ⊢
      have g7 : I3 51 7 = nI s := by rw [← hI3, up2_eq, up1_ne (by decide)]; exact h7
      have g3 : I3 51 3 = nI L := by rw [← hI3, up2_eq, up1_ne (by decide), hF7 3 (by decide)]; exact hL
      have hB3 : TB I3 B L := ⟨hL9, fun i hi => by rw [hF3.1 50 (by decide)]; exact hB.2 i hi⟩
      have hb := (hB.2 s hsl).1
      refine And.intro (sw_k hW (Nat.le_of_ble_eq_true rfl) rfl) ?_
      rw [g7]
      refine And.intro (sw_k hW (Nat.le_of_ble_eq_true rfl) rfl) ?_
      refine c_byteAt hW hB3 hsl ?_
      have rest : ∀ (sg : Int32) (P : Nat → Bool), pdOk sg P → (∀ I4, F51 I I4 → I4 51 7 = nI s → I4 51 6 = nI (run1 P B L (s + 1)) → (I4 51 5 = sg → ¬ ((w = true ∧ s = p ∧ sg < 0) ∨ (sg = -3 ∧ 4 < run1 P B L (s + 1) - s)) → Q none (nx, sl, ln, R, I4)) ∧ (I4 51 5 = -4 → ((w = true ∧ s = p ∧ sg < 0) ∨ (sg = -3 ∧ 4 < run1 P B L (s + 1) - s)) → Q none (nx, sl, ln, R, I4))) → GoF (k + 2) mX2_step 147 [some (.ref 51), some (.int (if w = true then 1 else 0)), some (.int (nI p)), some (.int (nI (B s))), none] [] (nx, sl, ln, R, up2 (up2 I3 51 5 sg) 51 6 (nI s + 1)) Q := by
        intro sg P hP hh
        have hFb : F51 I (up2 (up2 I3 51 5 sg) 51 6 (nI s + 1)) := (hF3.up (by omega)).up (by omega)
        obtain ⟨Ib, hIb⟩ : ∃ Ib, up2 (up2 I3 51 5 sg) 51 6 (nI s + 1) = Ib := ⟨_, rfl⟩
        rw [hIb] at hFb ⊢
        have b5 : Ib 51 5 = sg := by rw [← hIb, up2_eq, up1_ne (by decide), up2_eq, up1_eq]
        have b7 : Ib 51 7 = nI s := by rw [← hIb, up2_eq, up1_ne (by decide), up2_eq, up1_ne (by decide)]; exact g7
        have b6 : Ib 51 6 = nI (s + 1) := by rw [← hIb, up2_eq, up1_eq]; exact nI_1 s
        have b3 : Ib 51 3 = nI L := by rw [← hIb, up2_eq, up1_ne (by decide), up2_eq, up1_ne (by decide)]; exact g3
        have hBb : TB Ib B L := ⟨hL9, fun i hi => by rw [hFb.1 50 (by decide)]; exact hB.2 i hi⟩
        refine l_stepB (I := Ib) (P := P) (sg := sg) hW hBb b3 b5 hP (97 - (s + 1)) (s + 1) Ib (by omega) F51.rf (fun _ _ => rfl) b6 (fun I4 nn hF4 hF46 h46 => ?_)
        have h46 : I4 51 6 = nI (run1 P B L (s + 1)) := h46
        have f5 : I4 51 5 = sg := by rw [hF46 5 (by decide)]; exact b5
        have f7 : I4 51 7 = nI s := by rw [hF46 7 (by decide)]; exact b7
        have l1 := rn_ge P B L (97 - (s + 1)) (s + 1)
        have l2 := rn_le P B L (97 - (s + 1)) (s + 1) (by omega)
        have hFc := hFb.tr hF4
        refine t_step (e := run1 P B L (s + 1)) (sg := sg) hW (by omega) (by omega) (show rn P B L (97 - (s + 1)) (s + 1) ≤ 97 by omega) (show s ≤ rn P B L (97 - (s + 1)) (s + 1) by omega) f5 h46 f7 (fun hh4 => ?_) (fun hh0 => ?_)
        · exact (hh (up2 I4 51 5 (-4)) (hFc.up (by omega)) (by rw [up2_eq, up1_ne (by decide)]; exact f7) (by rw [up2_eq, up1_ne (by decide)]; exact h46)).2 (by rw [up2_eq, up1_eq]) hh4
        · exact (hh I4 hFc f7 h46).1 f5 hh0
      refine c_isLetter hb (fun q => ?_) (fun q => ?_)
      · refine And.intro (fun h9 => absurd h9 (by decide)) (fun _ => ?_)
        refine And.intro (sw_k hW (Nat.le_of_ble_eq_true rfl) rfl) ?_
        refine And.intro (sw_k hW (Nat.le_of_ble_eq_true rfl) rfl) ?_
        rw [show up2 I3 51 5 (-2) 51 7 = nI s by rw [up2_eq, up1_ne (by decide)]; exact g7]
        refine And.intro (sw_k hW (Nat.le_of_ble_eq_true rfl) rfl) ?_
        refine rest (-2) isL (Or.inl ⟨rfl, rfl⟩) (fun I4 a b c => ⟨fun d hh => ?_, fun d hh => ?_⟩)
        · have e : lx B L p w = (1, s, run1 isL B L (s + 1)) := by unfold lx; rw [hs, if_neg (by omega), if_pos q, if_neg (fun z => hh (Or.inl ⟨z.1, z.2, by decide⟩))]
          rw [e] at hQ
          exact hQ I4 a d b c
        · have e : lx B L p w = (4, s, run1 isL B L (s + 1)) := by
            unfold lx; rw [hs, if_neg (by omega), if_pos q, if_pos (hh.elim (fun z => ⟨z.1, z.2.1⟩) (fun z => absurd z.1 (by decide)))]
          rw [e] at hQ
          exact hQ I4 a d b c
      · refine And.intro (fun _ => ?_) (fun h9 => absurd rfl h9)
        refine c_isDigit hb (fun q2 => ?_) (fun q2 => ?_)
        · refine And.intro (fun h9 => absurd h9 (by decide)) (fun _ => ?_)
          refine And.intro (sw_k hW (Nat.le_of_ble_eq_true rfl) rfl) ?_
          refine And.intro (sw_k hW (Nat.le_of_ble_eq_true rfl) rfl) ?_
          rw [show up2 I3 51 5 (-3) 51 7 = nI s by rw [up2_eq, up1_ne (by decide)]; exact g7]
          refine And.intro (sw_k hW (Nat.le_of_ble_eq_true rfl) rfl) ?_
          refine rest (-3) isD (Or.inr (Or.inl ⟨rfl, rfl⟩)) (fun I4 a b c => ⟨fun d hh => ?_, fun d hh => ?_⟩)
          · have e : lx B L p w = (2, s, run1 isD B L (s + 1)) := by unfold lx; rw [hs, if_neg (by omega), if_neg q, if_pos q2, if_neg (fun z => hh (z.elim (fun z => Or.inl ⟨z.1, z.2, by decide⟩) (fun z => Or.inr ⟨rfl, z⟩)))]
            rw [e] at hQ
            exact hQ I4 a d b c
          · have e : lx B L p w = (4, s, run1 isD B L (s + 1)) := by unfold lx; rw [hs, if_neg (by omega), if_neg q, if_pos q2, if_pos (hh.elim (fun z => Or.inl ⟨z.1, z.2.1⟩) (fun z => Or.inr z.2))]
            rw [e] at hQ
            exact hQ I4 a d b c
        · refine And.intro (fun _ => ?_) (fun h9 => absurd rfl h9)
          refine And.intro (sw_k hW (Nat.le_of_ble_eq_true rfl) rfl) ?_
          refine And.intro (sw_k hW (Nat.le_of_ble_eq_true rfl) rfl) ?_
          rw [show up2 I3 51 5 (nI (B s)) 51 7 = nI s by rw [up2_eq, up1_ne (by decide)]; exact g7]
          refine And.intro (sw_k hW (Nat.le_of_ble_eq_true rfl) rfl) ?_
          have hneg : ¬ nI (B s) < 0 := nI_pos (by omega)
          have hn3 : ¬ nI (B s) = -3 := fun z => by rw [z] at hneg; exact hneg (by decide)
          refine rest (nI (B s)) (fun _ => false) (Or.inr (Or.inr ⟨nI_pos' (by omega), rfl⟩)) (fun I4 a b c => ⟨fun d hh => ?_, fun d hh => ?_⟩)
          · have e : lx B L p w = (3, s, s + 1) := by unfold lx; rw [hs, if_neg (by omega), if_neg q, if_neg q2]
            rw [e] at hQ
            refine hQ I4 a d b ?_
            rw [c]
            unfold run1
            rw [rn_no]
          · exact hh.elim (fun z => absurd z.2.2 hneg) (fun z => absurd z.1 hn3)
    · refine And.intro (fun h => absurd h (nI_nlt (by omega) (by omega))) (fun _ => ?_)
      refine And.intro (sw_k hW (Nat.le_of_ble_eq_true rfl) rfl) ?_
      have e : lx B L p w = (0, s, s) := by unfold lx; rw [hs, if_pos (by omega)]
      rw [e] at hQ
      refine hQ _ (hF3.up (by omega)) ?_ ?_ ?_
      · rw [up2_eq, up1_eq]; rfl
      · rw [up2_eq, up1_ne (by decide), up2_eq, up1_ne (by decide)]; exact h7
      · rw [up2_eq, up1_ne (by decide), up2_eq, up1_eq]
  refine Go_wp 80 rfl ?_
  refine And.intro (sw_k hW (Nat.le_of_ble_eq_true rfl) rfl) ?_
  refine And.intro (fun h2 => ?_) (fun h2 => ?_)
  · rw [if_pos (hw.mpr (Or.inl h2))] at main
    refine And.intro (sw_k hW (Nat.le_of_ble_eq_true rfl) rfl) ?_
    rw [hp]
    refine And.intro (sw_k hW (Nat.le_of_ble_eq_true rfl) rfl) ?_
    rw [hp]
    refine And.intro (sw_k hW (Nat.le_of_ble_eq_true rfl) rfl) ?_
    exact main
  · refine And.intro (sw_k hW (Nat.le_of_ble_eq_true rfl) rfl) ?_
    refine And.intro (fun h3 => ?_) (fun h3 => ?_)
    · rw [if_neg (fun q => (hw.mp q).elim h2 h3)] at main
      refine And.intro (sw_k hW (Nat.le_of_ble_eq_true rfl) rfl) ?_
      rw [hp]
      refine And.intro (sw_k hW (Nat.le_of_ble_eq_true rfl) rfl) ?_
      rw [hp]
      refine And.intro (sw_k hW (Nat.le_of_ble_eq_true rfl) rfl) ?_
      exact main
    · rw [if_pos (hw.mpr (Or.inr (Decidable.of_not_not h3)))] at main
      refine And.intro (sw_k hW (Nat.le_of_ble_eq_true rfl) rfl) ?_
      rw [hp]
      refine And.intro (sw_k hW (Nat.le_of_ble_eq_true rfl) rfl) ?_
      rw [hp]
      refine And.intro (sw_k hW (Nat.le_of_ble_eq_true rfl) rfl) ?_
      exact main
