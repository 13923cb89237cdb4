/-! The model's reader: names, signs, parts. -/
theorem s_adv {nx sl : Nat} {ln : Nat → Nat} {R : Nat → Nat → Option Nat} {I : Nat → Nat → Int32} {Q : Option Value → Hp → Prop} {k : Nat} (hW : SW nx ln R) {B : Nat → Nat} {L key i a : Nat} {W : List Nat} {C : List Int32} (hS : MS B L key I i W C a) (hk : (tk B L i).1 = 1 ∨ (tk B L i).1 = 2 ∨ (tk B L i).1 = 3) (hQ : ∀ I2, MS B L key I2 (i + 1) W C a → FP I I2 → I2 97 = I 97 → Q none (nx, sl, ln, R, I2)) : Go (k + 2) mX8_go [.ref 85] (nx, sl, ln, R, I) Q := by
  obtain ⟨s1, s2, s3, s4, s5, s6, s7, s8⟩ := hS
  obtain ⟨p1, p2, p3, p4, p5, p6, p7⟩ := id s2
  obtain ⟨i1, i2, i3, i4, i5⟩ := tkn_ok B L i
  have hw : wk (tk B L i) = true ↔ (tk B L i).1 = 1 ∨ (tk B L i).1 = 2 := by unfold wk; exact decide_eq_true_iff
  refine s_go (w := wk (tk B L i)) hW s1 p1 i2 (fun q => p6 (hw.mp q)) (fun q => p7 ?_) (fun I2 hF hM => ?_)
  · have : ¬ ((tk B L i).1 = 1 ∨ (tk B L i).1 = 2) := fun z => by rw [hw.mpr z] at q; cases q
    omega
  · exact hQ I2 ⟨s1.keep hF, hM, by rw [hF.2 15 (by omega)]; exact s3, by rw [hF.2 19 (by omega)]; exact s4, by rw [hF.2 20 (by omega)]; exact s5, by rw [hF.2 22 (by omega)]; exact s6, by rw [hF.1 95 (by decide)]; exact s7, by rw [hF.1 96 (by decide)]; exact s8⟩ ⟨fun o a b c d => hF.1 o a, fun q hq => hF.2 q (by omega)⟩ (hF.1 97 (by decide))
/-- a name's place as an int -/
def nmV (key c : Nat) : Int32 := match nmI key c with
  | some q => nI q
  | none => -1
theorem s_nameOf {nx sl : Nat} {ln : Nat → Nat} {R : Nat → Nat → Option Nat} {I : Nat → Nat → Int32} {Q : Option Value → Hp → Prop} {k : Nat} (hW : SW nx ln R) {key c : Nat} (hk : key ≤ 2) (h15 : I 85 15 = nI key) (hc : c < 256) (hQ : Q (some (.int (nmV key c))) (nx, sl, ln, R, I)) : Go k mX8_nameOf [.ref 85, .int (nI c)] (nx, sl, ln, R, I) Q := by
  have ec : ∀ x, x < 256 → (nI c = nI x ↔ c = x) := fun x hx => nI_eq (by omega) (by omega)
  have e109 : nI c = 109 ↔ c = 109 := ec 109 (by decide)
  have e98 : nI c = 98 ↔ c = 98 := ec 98 (by decide)
  have e104 : nI c = 104 ↔ c = 104 := ec 104 (by decide)
  have e110 : nI c = 110 ↔ c = 110 := ec 110 (by decide)
  have e103 : nI c = 103 ↔ c = 103 := ec 103 (by decide)
  have e115 : nI c = 115 ↔ c = 115 := ec 115 (by decide)
  refine Go_wp 60 rfl ?_
  refine And.intro (sw_k hW (Nat.le_of_ble_eq_true rfl) rfl) ?_
  rw [h15]
  rcases (show key = 0 ∨ key = 1 ∨ key = 2 by omega) with e | e | e <;> subst e
  · refine And.intro (fun _ => ?_) (fun h9 => absurd rfl h9)
    refine And.intro (fun h1 => ?_) (fun h1 => ?_)
    · refine And.intro (fun h2 => ?_) (fun h2 => ?_)
      · refine And.intro (fun h3 => ?_) (fun h3 => ?_)
        · refine And.intro (fun h4 => ?_) (fun h4 => ?_)
          · rw [show nmV 0 c = -1 by unfold nmV nmI; rw [if_pos rfl, if_neg (fun q => h1 (e109.mpr q)), if_neg (fun q => h2 (e98.mpr q)), if_neg (fun q => h3 (e104.mpr q)), if_neg (fun q => h4 (e110.mpr q))]] at hQ
            exact hQ
          · rw [show c = 110 from e110.mp (Decidable.of_not_not h4)] at hQ
            exact hQ
        · rw [show c = 104 from e104.mp (Decidable.of_not_not h3)] at hQ
          exact hQ
      · rw [show c = 98 from e98.mp (Decidable.of_not_not h2)] at hQ
        exact hQ
    · rw [show c = 109 from e109.mp (Decidable.of_not_not h1)] at hQ
      exact hQ
  · refine And.intro (fun h9 => absurd h9 (by decide)) (fun _ => ?_)
    refine And.intro (fun _ => ?_) (fun h9 => absurd rfl h9)
    refine And.intro (fun h1 => ?_) (fun h1 => ?_)
    · refine And.intro (fun h2 => ?_) (fun h2 => ?_)
      · rw [show nmV 1 c = -1 by unfold nmV nmI; rw [if_neg (by decide), if_pos rfl, if_neg (fun q => h1 (e103.mpr q)), if_neg (fun q => h2 (e115.mpr q))]] at hQ
        exact hQ
      · rw [show c = 115 from e115.mp (Decidable.of_not_not h2)] at hQ
        exact hQ
    · rw [show c = 103 from e103.mp (Decidable.of_not_not h1)] at hQ
      exact hQ
  · refine And.intro (fun h9 => absurd h9 (by decide)) (fun _ => ?_)
    refine And.intro (fun h9 => absurd h9 (by decide)) (fun _ => ?_)
    refine And.intro (fun h1 => ?_) (fun h1 => ?_)
    · refine And.intro (fun h2 => ?_) (fun h2 => ?_)
      · rw [show nmV 2 c = -1 by unfold nmV nmI; rw [if_neg (by decide), if_neg (by decide), if_neg (fun q => h1 (e109.mpr q)), if_neg (fun q => h2 (e98.mpr q))]] at hQ
        exact hQ
      · rw [show c = 98 from e98.mp (Decidable.of_not_not h2)] at hQ
        exact hQ
    · rw [show c = 109 from e109.mp (Decidable.of_not_not h1)] at hQ
      exact hQ
theorem s_sign {nx sl : Nat} {ln : Nat → Nat} {R : Nat → Nat → Option Nat} {I : Nat → Nat → Int32} {Q : Option Value → Hp → Prop} {k : Nat} (hW : SW nx ln R) {B : Nat → Nat} {L key i a : Nat} {W : List Nat} {C : List Int32} (hS : MS B L key I i W C a) (hQ : Q (some (.int (opc (sbK B L i)))) (nx, sl, ln, R, I)) : Go k mX8_signHere [.ref 85] (nx, sl, ln, R, I) Q := by
  obtain ⟨s1, s2, s3, s4, s5, s6, s7, s8⟩ := hS
  obtain ⟨p1, p2, p3, p4, p5, p6, p7⟩ := id s2
  obtain ⟨i1, i2, i3, i4, i5⟩ := tkn_ok B L i
  refine Go_wp 60 rfl ?_
  refine And.intro (sw_k hW (Nat.le_of_ble_eq_true rfl) rfl) ?_
  rw [p3]
  by_cases e3 : (tk B L i).1 = 3
  · have hb := (s1.2.2 (tk B L i).2.1 (by have := i5 (by omega); omega)).1
    have hsb : sbK B L i = B (tk B L i).2.1 := by unfold sbK sbT; rw [if_pos e3]
    rw [hsb] at hQ
    obtain ⟨b, hbb⟩ : ∃ b, B (tk B L i).2.1 = b := ⟨_, rfl⟩
    rw [hbb] at hQ hb
    have p4 : I 85 13 = nI b := by rw [← hbb]; exact p4 (Or.inr e3)
    have ec : ∀ x, x < 256 → (nI b = nI x ↔ b = x) := fun x hx => nI_eq (by omega) (by omega)
    have e38 : nI b = 38 ↔ b = 38 := ec 38 (by decide)
    have e42 : nI b = 42 ↔ b = 42 := ec 42 (by decide)
    have e43 : nI b = 43 ↔ b = 43 := ec 43 (by decide)
    have e45 : nI b = 45 ↔ b = 45 := ec 45 (by decide)
    have e47 : nI b = 47 ↔ b = 47 := ec 47 (by decide)
    have e60 : nI b = 60 ↔ b = 60 := ec 60 (by decide)
    have e61 : nI b = 61 ↔ b = 61 := ec 61 (by decide)
    have e62 : nI b = 62 ↔ b = 62 := ec 62 (by decide)
    have e124 : nI b = 124 ↔ b = 124 := ec 124 (by decide)
    refine And.intro (fun _ => ?_) (fun h => absurd (by rw [e3]; rfl) h)
    refine And.intro (sw_k hW (Nat.le_of_ble_eq_true rfl) rfl) ?_
    rw [p4]
    refine And.intro (fun h38 => ?_) (fun h38 => ?_)
    · rw [show b = 38 from e38.mp h38] at hQ; exact hQ
    refine And.intro (fun h42 => ?_) (fun h42 => ?_)
    · rw [show b = 42 from e42.mp h42] at hQ; exact hQ
    refine And.intro (fun h43 => ?_) (fun h43 => ?_)
    · rw [show b = 43 from e43.mp h43] at hQ; exact hQ
    refine And.intro (fun h45 => ?_) (fun h45 => ?_)
    · rw [show b = 45 from e45.mp h45] at hQ; exact hQ
    refine And.intro (fun h47 => ?_) (fun h47 => ?_)
    · rw [show b = 47 from e47.mp h47] at hQ; exact hQ
    refine And.intro (fun h60 => ?_) (fun h60 => ?_)
    · rw [show b = 60 from e60.mp h60] at hQ; exact hQ
    refine And.intro (fun h61 => ?_) (fun h61 => ?_)
    · rw [show b = 61 from e61.mp h61] at hQ; exact hQ
    refine And.intro (fun h62 => ?_) (fun h62 => ?_)
    · rw [show b = 62 from e62.mp h62] at hQ; exact hQ
    refine And.intro (fun h124 => ?_) (fun h124 => ?_)
    · rw [show b = 124 from e124.mp h124] at hQ; exact hQ
    rw [show opc b = 0 by unfold opc; rw [if_neg (fun q => h124 (e124.mpr q)), if_neg (fun q => h38 (e38.mpr q)), if_neg (fun q => h60 (e60.mpr q)), if_neg (fun q => h61 (e61.mpr q)), if_neg (fun q => h62 (e62.mpr q)), if_neg (fun q => h43 (e43.mpr q)), if_neg (fun q => h45 (e45.mpr q)), if_neg (fun q => h42 (e42.mpr q)), if_neg (fun q => h47 (e47.mpr q))]] at hQ
    exact hQ
  · refine And.intro (fun h => absurd ((nI_eq (b := 3) (by omega) (by decide)).mp h) e3) (fun _ => ?_)
    rw [show sbK B L i = 0 by unfold sbK sbT; rw [if_neg e3]] at hQ
    exact hQ
theorem wp_iadd {n k m pc np a b c d e : Nat} {x0 x y : Int32} {sw : List (Int32 × Nat)} {L : List (Option Value)} {S : List Value} {h : Hp} {Q : Option Value → Hp → Prop} (hc : cd m pc = some (2, 0, np, a, b, c, d, e, x0, sw, false)) (hw : wp n k m np L (.int (x + y) :: S) h Q) : wp (n + 1) k m pc L (.int y :: .int x :: S) h Q := by
  rw [wp, hc]
  exact hw
theorem s_part {nx sl : Nat} {ln : Nat → Nat} {R : Nat → Nat → Option Nat} {I : Nat → Nat → Int32} {Q : Option Value → Hp → Prop} {k : Nat} (hW : SW nx ln R) {B : Nat → Nat} {L key i a : Nat} {W : List Nat} {C : List Int32} (hk : key ≤ 2) (hS : MS B L key I i W C a) (hw : ∀ x, x ∈ W → wOk x) (hl : W.length + C.length < 96) (ha : a ≤ 96)
    (q1 : ∀ c, odK B L key i = some c → ∀ I2, MS B L key I2 (i + 1) (stl 6 W (c :: C)).1 (stl 6 W (c :: C)).2 (a + 1) → FP I I2 → I2 97 = I 97 → Q (some (.int 1)) (nx, sl, ln, R, I2))
    (q0 : odK B L key i = none → Q (some (.int 0)) (nx, sl, ln, R, I)) : Go (k + 3) mX8_takesPart [.ref 85] (nx, sl, ln, R, I) Q := by
  obtain ⟨s1, s2, s3, s4, s5, s6, s7, s8⟩ := id hS
  obtain ⟨p1, p2, p3, p4, p5, p6, p7⟩ := id s2
  obtain ⟨i1, i2, i3, i4, i5⟩ := tkn_ok B L i
  have hL9 := s1.1
  have fin : ∀ (c v : Int32) (x1 : Option Value) (nn : Nat), odK B L key i = some c → v = c → wp (nn + 40) (k + 3) mX8_takesPart 87 [some (.ref 85), x1] [.int v, .int (nI C.length), .ref 95] (nx, sl, ln, R, I) Q := by
    intro c v x1 nn hod hv
    subst hv
    have hkd : (tk B L i).1 = 1 ∨ (tk B L i).1 = 2 := by
      unfold odK odT at hod
      by_cases e2 : (tk B L i).1 = 2
      · exact Or.inr e2
      · rw [if_neg e2] at hod
        by_cases e1 : (tk B L i).1 = 1 ∧ (tk B L i).2.2 - (tk B L i).2.1 = 1
        · exact Or.inl e1.1
        · rw [if_neg e1] at hod; cases hod
    refine And.intro (sw_n hW (Nat.le_of_ble_eq_true rfl) rfl rfl (show C.length < 96 by omega) (Nat.le_of_ble_eq_true rfl)) ?_
    rw [ix (show C.length < 2147483648 by omega)]
    refine And.intro (sw_k hW (Nat.le_of_ble_eq_true rfl) rfl) ?_
    rw [show up2 I 95 C.length v 85 19 = nI C.length by rw [up2_ne (by decide)]; exact s4]
    refine And.intro (sw_k hW (Nat.le_of_ble_eq_true rfl) rfl) ?_
    rw [nI_1]
    refine And.intro (sw_k hW (Nat.le_of_ble_eq_true rfl) rfl) ?_
    rw [show up2 (up2 I 95 C.length v) 85 19 (nI (C.length + 1)) 85 20 = nI a by rw [up2_eq, up1_ne (by decide), up2_ne (by decide)]; exact s5]
    refine And.intro (sw_k hW (Nat.le_of_ble_eq_true rfl) rfl) ?_
    rw [nI_1]
    have hS2 : MS B L key (up2 (up2 (up2 I 95 C.length v) 85 19 (nI (C.length + 1))) 85 20 (nI (a + 1))) i W (v :: C) (a + 1) := by
      refine ⟨s1.keep2 (by rw [up2_eq, up1_ne (by decide), up2_eq, up1_ne (by decide), up2_ne (by decide)]) (by rw [up2_ne (by decide), up2_ne (by decide), up2_ne (by decide)]), s2.keep (fun q h1 h2 => by rw [up2_eq, up1_ne (by omega), up2_eq, up1_ne (by omega), up2_ne (by decide)]), ?_, ?_, ?_, ?_, ?_, ?_⟩
      · rw [up2_eq, up1_ne (by decide), up2_eq, up1_ne (by decide), up2_ne (by decide)]; exact s3
      · rw [up2_eq, up1_ne (by decide), up2_eq, up1_eq, List.length_cons]
      · rw [up2_eq, up1_eq]
      · rw [up2_eq, up1_ne (by decide), up2_eq, up1_ne (by decide), up2_ne (by decide)]; exact s6
      · rw [up2_ne (by decide), up2_ne (by decide), up2_eq]; exact s7.push _
      · rw [up2_ne (by decide), up2_ne (by decide), up2_ne (by decide)]; exact s8
    refine And.intro (sw_k hW (Nat.le_of_ble_eq_true rfl) rfl) ?_
    refine s_settle (m := 6) hW hS2 hw (by rw [List.length_cons]; omega) (by omega) (fun I3 hS3 hF3 h97 => ?_)
    refine And.intro (sw_k hW (Nat.le_of_ble_eq_true rfl) rfl) ?_
    refine s_adv hW hS3 (by omega) (fun I4 hS4 hF4 h974 => ?_)
    refine And.intro (Or.inr rfl) (q1 v hod I4 hS4 ((FP.tr ⟨fun o b c d e => by rw [up2_ne b, up2_ne b, up2_ne c], fun q hq => by rw [up2_eq, up1_ne (by omega), up2_eq, up1_ne (by omega), up2_ne (by decide)]⟩ hF3).tr hF4) ?_)
    rw [h974, h97, up2_ne (by decide), up2_ne (by decide), up2_ne (by decide)]
  have hsub : nI (tk B L i).2.2 - nI (tk B L i).2.1 = nI ((tk B L i).2.2 - (tk B L i).2.1) := nI_sub i1
  refine Go_wp 80 rfl ?_
  refine And.intro (sw_k hW (Nat.le_of_ble_eq_true rfl) rfl) ?_
  rw [p3]
  by_cases e1 : (tk B L i).1 = 1
  · have hs := i5 (by omega)
    have hc := (s1.2.2 (tk B L i).2.1 (by omega)).1
    have p4 := p4 (Or.inl e1)
    have n2 : ¬ (tk B L i).1 = 2 := by omega
    refine And.intro (fun h => absurd (by rw [e1]; rfl) h) (fun _ => ?_)
    refine And.intro (sw_k hW (Nat.le_of_ble_eq_true rfl) rfl) ?_
    rw [p1]
    refine And.intro (sw_k hW (Nat.le_of_ble_eq_true rfl) rfl) ?_
    rw [p2]
    by_cases e11 : (tk B L i).2.2 - (tk B L i).2.1 = 1
    · refine And.intro (fun h => absurd (by rw [hsub, e11]; rfl) h) (fun _ => ?_)
      refine And.intro (sw_k hW (Nat.le_of_ble_eq_true rfl) rfl) ?_
      rw [p4]
      refine And.intro (sw_k hW (Nat.le_of_ble_eq_true rfl) rfl) ?_
      refine s_nameOf hW hk s3 hc ?_
      have hod : odK B L key i = (nmI key (B (tk B L i).2.1)).map (fun q => nI (10000 + q)) := by unfold odK odT; rw [if_neg n2, if_pos ⟨e1, e11⟩]
      cases hn : nmI key (B (tk B L i).2.1) with
      | none =>
        rw [show nmV key (B (tk B L i).2.1) = -1 by unfold nmV; rw [hn]]
        refine And.intro (fun _ => ?_) (fun h9 => absurd (by decide) h9)
        refine And.intro (sw_k hW (Nat.le_of_ble_eq_true rfl) rfl) ?_
        rw [p3]
        refine And.intro (fun h => absurd ((nI_eq (b := 2) (by omega) (by decide)).mp h) n2) (fun _ => ?_)
        refine And.intro (fun h9 => absurd rfl h9) (fun _ => ?_)
        exact And.intro (Or.inl rfl) (q0 (by rw [hod, hn]; rfl))
      | some q =>
        have hq := nmI_lt hn
        have hq4 : q < 4 := by unfold nnF at hq; split at hq <;> omega
        have hv : nmV key (B (tk B L i).2.1) = nI q := by unfold nmV; rw [hn]
        rw [hv]
        refine And.intro (fun h => absurd h (nI_pos (by omega))) (fun _ => ?_)
        refine And.intro (sw_k hW (Nat.le_of_ble_eq_true rfl) rfl) ?_
        rw [p3]
        refine And.intro (fun h => absurd ((nI_eq (b := 2) (by omega) (by decide)).mp h) n2) (fun _ => ?_)
        refine And.intro (fun _ => ?_) (fun h9 => absurd (by decide) h9)
        refine And.intro (sw_k hW (Nat.le_of_ble_eq_true rfl) rfl) ?_
        refine Exists.intro _ (And.intro (sw_r hW (Nat.le_of_ble_eq_true rfl) rfl rfl) ?_)
        refine And.intro (sw_k hW (Nat.le_of_ble_eq_true rfl) rfl) ?_
        rw [s4]
        refine And.intro (sw_k hW (Nat.le_of_ble_eq_true rfl) rfl) ?_
        rw [p3]
        refine And.intro (fun _ => ?_) (fun h => absurd (fun z => absurd ((nI_eq (b := 2) (by omega) (by decide)).mp z) n2) h)
        refine And.intro (sw_k hW (Nat.le_of_ble_eq_true rfl) rfl) ?_
        rw [p4]
        refine And.intro (sw_k hW (Nat.le_of_ble_eq_true rfl) rfl) ?_
        refine s_nameOf hW hk s3 hc ?_
        rw [hv]
        refine wp_iadd rfl ?_
        exact fin _ _ _ _ (by rw [hod, hn]; rfl) (nI_add 10000 q)
    · refine And.intro (fun _ => ?_) (fun h => absurd (fun z => by rw [hsub] at z; exact absurd ((nI_eq (b := 1) (by omega) (by decide)).mp z) e11) h)
      refine And.intro (sw_k hW (Nat.le_of_ble_eq_true rfl) rfl) ?_
      rw [p3]
      refine And.intro (fun h => absurd ((nI_eq (b := 2) (by omega) (by decide)).mp h) n2) (fun _ => ?_)
      refine And.intro (fun h9 => absurd rfl h9) (fun _ => ?_)
      refine And.intro (Or.inl rfl) (q0 ?_)
      unfold odK odT
      rw [if_neg n2, if_neg (fun z => e11 z.2)]
  · refine And.intro (fun _ => ?_) (fun h => absurd (fun z => absurd ((nI_eq (b := 1) (by omega) (by decide)).mp z) e1) h)
    refine And.intro (sw_k hW (Nat.le_of_ble_eq_true rfl) rfl) ?_
    rw [p3]
    by_cases e2 : (tk B L i).1 = 2
    · refine And.intro (fun _ => ?_) (fun h => absurd (by rw [e2]; rfl) h)
      refine And.intro (sw_k hW (Nat.le_of_ble_eq_true rfl) rfl) ?_
      refine Exists.intro _ (And.intro (sw_r hW (Nat.le_of_ble_eq_true rfl) rfl rfl) ?_)
      refine And.intro (sw_k hW (Nat.le_of_ble_eq_true rfl) rfl) ?_
      rw [s4]
      refine And.intro (sw_k hW (Nat.le_of_ble_eq_true rfl) rfl) ?_
      rw [p3]
      refine And.intro (fun h => absurd (by rw [e2]; rfl) h) (fun _ => ?_)
      refine And.intro (sw_k hW (Nat.le_of_ble_eq_true rfl) rfl) ?_
      rw [p5 e2]
      refine wp_goto rfl ?_
      exact fin _ _ _ _ (by unfold odK odT; rw [if_pos e2]) rfl
    · refine And.intro (fun h => absurd ((nI_eq (b := 2) (by omega) (by decide)).mp h) e2) (fun _ => ?_)
      refine And.intro (fun h9 => absurd rfl h9) (fun _ => ?_)
      refine And.intro (Or.inl rfl) (q0 ?_)
      unfold odK odT
      rw [if_neg e2, if_neg (fun z => e1 z.1)]
