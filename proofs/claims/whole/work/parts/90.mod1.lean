/-! The model's reader: its small methods. -/
def wOk (x : Nat) : Prop := x = 40 ∨ x = 33 ∨ ¬ opr x = 0
def MS (B : Nat → Nat) (L key : Nat) (I : Nat → Nat → Int32) (i : Nat) (W : List Nat) (C : List Int32) (a : Nat) : Prop := MT I B L ∧ MP B I (tk B L i) ∧ I 85 15 = nI key ∧ I 85 19 = nI C.length ∧ I 85 20 = nI a ∧ I 85 22 = nI W.length ∧ SK (I 95) C ∧ SK (I 96) (W.map wc)
def FP (I I' : Nat → Nat → Int32) : Prop := (∀ o, ¬ o = 85 → ¬ o = 95 → ¬ o = 96 → ¬ o = 97 → I' o = I o) ∧ (∀ q, (q < 10 ∨ (15 < q ∧ ¬ q = 19 ∧ ¬ q = 20 ∧ ¬ q = 22)) → I' 85 q = I 85 q)
theorem FP.rf {I : Nat → Nat → Int32} : FP I I := ⟨fun _ _ _ _ _ => rfl, fun _ _ => rfl⟩
theorem FP.tr {I J K : Nat → Nat → Int32} (h1 : FP I J) (h2 : FP J K) : FP I K := ⟨fun o a b c d => (h2.1 o a b c d).trans (h1.1 o a b c d), fun q a => (h2.2 q a).trans (h1.2 q a)⟩
theorem opv {b : Nat} (h : ¬ opr b = 0) : b = 124 ∨ b = 38 ∨ b = 60 ∨ b = 61 ∨ b = 62 ∨ b = 43 ∨ b = 45 ∨ b = 42 ∨ b = 47 := by
  unfold opr at h
  repeat' split at h
  all_goals omega
theorem wc_40 {x : Nat} (h : wOk x) : wc x = -11 ↔ x = 40 := by
  rcases h with h | h | h
  · subst h; decide
  · subst h; decide
  · rcases opv h with e | e | e | e | e | e | e | e | e <;> subst e <;> decide
theorem wc_33 {x : Nat} (h : wOk x) : wc x = -10 ↔ x = 33 := by
  rcases h with h | h | h
  · subst h; decide
  · subst h; decide
  · rcases opv h with e | e | e | e | e | e | e | e | e <;> subst e <;> decide
theorem s_rank {k x : Nat} {h : Hp} {Q : Option Value → Hp → Prop} (hx : wOk x) (h40 : ¬ x = 40) (hQ : Q (some (.int (nI (rk x)))) h) : Go k mX8_rank [.int (wc x)] h Q := by
  have hx : x = 33 ∨ x = 124 ∨ x = 38 ∨ x = 60 ∨ x = 61 ∨ x = 62 ∨ x = 43 ∨ x = 45 ∨ x = 42 ∨ x = 47 := by
    rcases hx with h | h | h
    · exact absurd h h40
    · exact Or.inl h
    · exact Or.inr (opv h)
  rcases hx with e | e | e | e | e | e | e | e | e | e <;> subst e <;> refine Go_wp 40 rfl ?_
  · refine And.intro (fun _ => ?_) (fun h9 => absurd (by decide) h9)
    refine And.intro (fun _ => ?_) (fun h9 => absurd (by decide) h9)
    refine And.intro (fun _ => ?_) (fun h9 => absurd (by decide) h9)
    refine And.intro (fun _ => ?_) (fun h9 => absurd (by decide) h9)
    refine And.intro (fun _ => ?_) (fun h9 => absurd (by decide) h9)
    exact hQ
  · refine And.intro (fun h9 => absurd rfl h9) (fun _ => ?_)
    exact hQ
  · refine And.intro (fun _ => ?_) (fun h9 => absurd (by decide) h9)
    refine And.intro (fun h9 => absurd rfl h9) (fun _ => ?_)
    exact hQ
  · refine And.intro (fun _ => ?_) (fun h9 => absurd (by decide) h9)
    refine And.intro (fun _ => ?_) (fun h9 => absurd (by decide) h9)
    refine And.intro (fun h9 => absurd h9 (by decide)) (fun _ => ?_)
    exact hQ
  · refine And.intro (fun _ => ?_) (fun h9 => absurd (by decide) h9)
    refine And.intro (fun _ => ?_) (fun h9 => absurd (by decide) h9)
    refine And.intro (fun h9 => absurd h9 (by decide)) (fun _ => ?_)
    exact hQ
  · refine And.intro (fun _ => ?_) (fun h9 => absurd (by decide) h9)
    refine And.intro (fun _ => ?_) (fun h9 => absurd (by decide) h9)
    refine And.intro (fun h9 => absurd h9 (by decide)) (fun _ => ?_)
    exact hQ
  · refine And.intro (fun _ => ?_) (fun h9 => absurd (by decide) h9)
    refine And.intro (fun _ => ?_) (fun h9 => absurd (by decide) h9)
    refine And.intro (fun _ => ?_) (fun h9 => absurd (by decide) h9)
    refine And.intro (fun h9 => absurd h9 (by decide)) (fun _ => ?_)
    exact hQ
  · refine And.intro (fun _ => ?_) (fun h9 => absurd (by decide) h9)
    refine And.intro (fun _ => ?_) (fun h9 => absurd (by decide) h9)
    refine And.intro (fun _ => ?_) (fun h9 => absurd (by decide) h9)
    refine And.intro (fun h9 => absurd h9 (by decide)) (fun _ => ?_)
    exact hQ
  · refine And.intro (fun _ => ?_) (fun h9 => absurd (by decide) h9)
    refine And.intro (fun _ => ?_) (fun h9 => absurd (by decide) h9)
    refine And.intro (fun _ => ?_) (fun h9 => absurd (by decide) h9)
    refine And.intro (fun _ => ?_) (fun h9 => absurd (by decide) h9)
    refine And.intro (fun h9 => absurd h9 (by decide)) (fun _ => ?_)
    exact hQ
  · refine And.intro (fun _ => ?_) (fun h9 => absurd (by decide) h9)
    refine And.intro (fun _ => ?_) (fun h9 => absurd (by decide) h9)
    refine And.intro (fun _ => ?_) (fun h9 => absurd (by decide) h9)
    refine And.intro (fun _ => ?_) (fun h9 => absurd (by decide) h9)
    refine And.intro (fun h9 => absurd h9 (by decide)) (fun _ => ?_)
    exact hQ
theorem MT.keep2 {I I' : Nat → Nat → Int32} {B : Nat → Nat} {L : Nat} (h : MT I B L) (h9 : I' 85 9 = I 85 9) (h92 : I' 92 = I 92) : MT I' B L := ⟨h.1, by rw [h9]; exact h.2.1, fun i hi => by rw [h92]; exact h.2.2 i hi⟩
theorem MP.keep {B : Nat → Nat} {I I' : Nat → Nat → Int32} {t : Nat × Nat × Nat} (h : MP B I t) (hq : ∀ q, 10 ≤ q → q ≤ 14 → I' 85 q = I 85 q) : MP B I' t := by
  unfold MP
  rw [hq 10 (by decide) (by decide), hq 11 (by decide) (by decide), hq 12 (by decide) (by decide), hq 13 (by decide) (by decide), hq 14 (by decide) (by decide)]
  exact h
theorem l_settle {nx sl : Nat} {ln : Nat → Nat} {R : Nat → Nat → Option Nat} {I : Nat → Nat → Int32} {Q : Option Value → Hp → Prop} {k : Nat} (hW : SW nx ln R) {B : Nat → Nat} {L key i a m : Nat} : ∀ (W : List Nat) (C : List Int32) (I1 : Nat → Nat → Int32), MS B L key I1 i W C a → (∀ x, x ∈ W → wOk x) → W.length + C.length ≤ 96 → m ≤ 6 → FP I I1 → I1 97 = I 97 → (∀ I2, MS B L key I2 i (stl m W C).1 (stl m W C).2 a → FP I I2 → I2 97 = I 97 → Q none (nx, sl, ln, R, I2)) → GoF (k + 1) mX8_settle 0 [some (.ref 85), some (.int (nI m))] [] (nx, sl, ln, R, I1) Q := by
  intro W
  induction W with
  | nil =>
    intro C I1 hS hw hl hm hF h97 hQ
    obtain ⟨s1, s2, s3, s4, s5, s6, s7, s8⟩ := id hS
    refine GoF_wp1 60 ?_
    refine And.intro (sw_k hW (Nat.le_of_ble_eq_true rfl) rfl) ?_
    rw [s6]
    refine And.intro (fun _ => ?_) (fun h => absurd (by decide) h)
    exact hQ I1 hS hF h97
  | cons x W ih =>
    intro C I1 hS hw hl hm hF h97 hQ
    have hx := hw x List.mem_cons_self
    obtain ⟨s1, s2, s3, s4, s5, s6, s7, s8⟩ := id hS
    rw [List.length_cons] at s6 hl
    obtain ⟨d1, d2⟩ := SK.down (c := wc x) (C := W.map wc) s8
    rw [List.length_map] at d1
    have e1 : nI (W.length + 1) - 1 = nI W.length := nI_pred _
    refine GoF_wp1 60 ?_
    refine And.intro (sw_k hW (Nat.le_of_ble_eq_true rfl) rfl) ?_
    rw [s6]
    refine And.intro (fun h => absurd h (nI_nle (by omega) (by omega))) (fun _ => ?_)
    refine And.intro (sw_k hW (Nat.le_of_ble_eq_true rfl) rfl) ?_
    refine Exists.intro _ (And.intro (sw_r hW (Nat.le_of_ble_eq_true rfl) rfl rfl) ?_)
    refine And.intro (sw_k hW (Nat.le_of_ble_eq_true rfl) rfl) ?_
    rw [s6]
    refine And.intro (by rw [e1]; exact sw_n hW (Nat.le_of_ble_eq_true rfl) rfl rfl (show W.length < 96 by omega) (Nat.le_of_ble_eq_true rfl)) ?_
    rw [show I1 96 (nI (W.length + 1) - 1).toNatClampNeg = wc x by rw [e1, ix (by omega)]; exact d1]
    by_cases h40 : x = 40
    · refine And.intro (fun _ => ?_) (fun h => absurd ((wc_40 hx).mpr h40) h)
      have e : stl m (x :: W) C = (x :: W, C) := by rw [stl, if_neg (fun q => q.1 h40)]
      rw [e] at hQ
      exact hQ I1 hS hF h97
    · refine And.intro (fun h => absurd ((wc_40 hx).mp h) h40) (fun _ => ?_)
      refine And.intro (sw_k hW (Nat.le_of_ble_eq_true rfl) rfl) ?_
      refine Exists.intro _ (And.intro (sw_r hW (Nat.le_of_ble_eq_true rfl) rfl rfl) ?_)
      refine And.intro (sw_k hW (Nat.le_of_ble_eq_true rfl) rfl) ?_
      rw [s6]
      refine And.intro (by rw [e1]; exact sw_n hW (Nat.le_of_ble_eq_true rfl) rfl rfl (show W.length < 96 by omega) (Nat.le_of_ble_eq_true rfl)) ?_
      rw [show I1 96 (nI (W.length + 1) - 1).toNatClampNeg = wc x by rw [e1, ix (by omega)]; exact d1]
      refine s_rank hx h40 ?_
      have hr : rk x ≤ 6 := by
        unfold rk
        have := opr_le x
        split <;> omega
      by_cases hmr : m ≤ rk x
      · refine And.intro (fun h => absurd h (nI_nlt hmr (by omega))) (fun _ => ?_)
        have e : stl m (x :: W) C = stl m W (wc x :: C) := by rw [stl, if_pos ⟨h40, hmr⟩]
        rw [e] at hQ
        refine And.intro (sw_k hW (Nat.le_of_ble_eq_true rfl) rfl) ?_
        rw [s6]
        refine And.intro (sw_k hW (Nat.le_of_ble_eq_true rfl) rfl) ?_
        rw [e1]
        refine And.intro (sw_k hW (Nat.le_of_ble_eq_true rfl) rfl) ?_
        refine Exists.intro _ (And.intro (sw_r hW (Nat.le_of_ble_eq_true rfl) rfl rfl) ?_)
        refine And.intro (sw_k hW (Nat.le_of_ble_eq_true rfl) rfl) ?_
        rw [show up2 I1 85 22 (nI W.length) 85 19 = nI C.length by rw [up2_eq, up1_ne (by decide)]; exact s4]
        refine And.intro (sw_k hW (Nat.le_of_ble_eq_true rfl) rfl) ?_
        refine Exists.intro _ (And.intro (sw_r hW (Nat.le_of_ble_eq_true rfl) rfl rfl) ?_)
        refine And.intro (sw_k hW (Nat.le_of_ble_eq_true rfl) rfl) ?_
        rw [show up2 I1 85 22 (nI W.length) 85 22 = nI W.length by rw [up2_eq, up1_eq]]
        refine And.intro (sw_n hW (Nat.le_of_ble_eq_true rfl) rfl rfl (show W.length < 96 by omega) (Nat.le_of_ble_eq_true rfl)) ?_
        rw [show up2 I1 85 22 (nI W.length) 96 (nI W.length).toNatClampNeg = wc x by rw [up2_ne (by decide), ix (by omega)]; exact d1]
        refine And.intro (sw_n hW (Nat.le_of_ble_eq_true rfl) rfl rfl (show C.length < 96 by omega) (Nat.le_of_ble_eq_true rfl)) ?_
        rw [ix (show C.length < 2147483648 by omega)]
        refine And.intro (sw_k hW (Nat.le_of_ble_eq_true rfl) rfl) ?_
        rw [show up2 (up2 I1 85 22 (nI W.length)) 95 C.length (wc x) 85 19 = nI C.length by rw [up2_ne (by decide), up2_eq, up1_ne (by decide)]; exact s4]
        refine And.intro (sw_k hW (Nat.le_of_ble_eq_true rfl) rfl) ?_
        rw [nI_1]
        refine ih (wc x :: C) _ ⟨s1.keep2 (by rw [up2_eq, up1_ne (by decide), up2_ne (by decide), up2_eq, up1_ne (by decide)]) (by rw [up2_ne (by decide), up2_ne (by decide), up2_ne (by decide)]), s2.keep (fun q h1 h2 => by rw [up2_eq, up1_ne (by omega), up2_ne (by decide), up2_eq, up1_ne (by omega)]), ?_, ?_, ?_, ?_, ?_, ?_⟩ (fun y hy => hw y (List.mem_cons_of_mem _ hy)) (by rw [List.length_cons]; omega) hm (hF.tr ⟨fun o a b c d => by rw [up2_ne a, up2_ne b, up2_ne a], fun q hq => by rw [up2_eq, up1_ne (by omega), up2_ne (by decide), up2_eq, up1_ne (by omega)]⟩) (by rw [up2_ne (by decide), up2_ne (by decide), up2_ne (by decide)]; exact h97) hQ
        · rw [up2_eq, up1_ne (by decide), up2_ne (by decide), up2_eq, up1_ne (by decide)]; exact s3
        · rw [up2_eq, up1_eq, List.length_cons]
        · rw [up2_eq, up1_ne (by decide), up2_ne (by decide), up2_eq, up1_ne (by decide)]; exact s5
        · rw [up2_eq, up1_ne (by decide), up2_ne (by decide), up2_eq, up1_eq]
        · rw [up2_ne (by decide), up2_eq, up2_ne (by decide)]; exact s7.push _
        · rw [up2_ne (by decide), up2_ne (by decide), up2_ne (by decide)]; exact d2
      · refine And.intro (fun _ => ?_) (fun h => absurd (nI_lt (by omega) (by omega)) h)
        have e : stl m (x :: W) C = (x :: W, C) := by rw [stl, if_neg (fun q => hmr q.2)]
        rw [e] at hQ
        exact hQ I1 hS hF h97
theorem s_settle {nx sl : Nat} {ln : Nat → Nat} {R : Nat → Nat → Option Nat} {I : Nat → Nat → Int32} {Q : Option Value → Hp → Prop} {k : Nat} (hW : SW nx ln R) {B : Nat → Nat} {L key i a m : Nat} {W : List Nat} {C : List Int32} (hS : MS B L key I i W C a) (hw : ∀ x, x ∈ W → wOk x) (hl : W.length + C.length ≤ 96) (hm : m ≤ 6) (hQ : ∀ I2, MS B L key I2 i (stl m W C).1 (stl m W C).2 a → FP I I2 → I2 97 = I 97 → Q none (nx, sl, ln, R, I2)) : Go (k + 1) mX8_settle [.ref 85, .int (nI m)] (nx, sl, ln, R, I) Q :=
  Go_of rfl (l_settle (I := I) hW W C I hS hw hl hm FP.rf rfl hQ)
theorem l_nots {nx sl : Nat} {ln : Nat → Nat} {R : Nat → Nat → Option Nat} {I : Nat → Nat → Int32} {Q : Option Value → Hp → Prop} {k : Nat} (hW : SW nx ln R) {B : Nat → Nat} {L key i a : Nat} {W : List Nat} {C : List Int32} (hS : MS B L key I i W C a) (hw : ∀ x, x ∈ W → wOk x) (hl : W.length ≤ 96) (hQ : Q (some (.int (nI (nnt W)))) (nx, sl, ln, R, I)) : ∀ (r j : Nat) (xn xj : Int32), xj = nI j → xn = nI (nnt (W.drop (W.length - j))) → j + r = W.length → GoF k mX8_notsOpen 4 [some (.ref 85), some (.int xn), some (.int xj)] [] (nx, sl, ln, R, I) Q := by
  obtain ⟨s1, s2, s3, s4, s5, s6, s7, s8⟩ := id hS
  intro r
  induction r with
  | zero =>
    intro j xn xj hxj hxn hjr
    subst hxj
    subst hxn
    have : j = W.length := by omega
    subst this
    refine GoF_wp1 40 ?_
    refine And.intro (sw_k hW (Nat.le_of_ble_eq_true rfl) rfl) ?_
    rw [s6]
    refine And.intro (fun _ => ?_) (fun h => absurd (Int32.le_refl _) h)
    rw [Nat.sub_self]
    exact hQ
  | succ r ih =>
    intro j xn xj hxj hxn hjr
    subst hxj
    subst hxn
    refine GoF_wp1 40 ?_
    refine And.intro (sw_k hW (Nat.le_of_ble_eq_true rfl) rfl) ?_
    rw [s6]
    refine And.intro (fun h => absurd h (nI_ge (show j < W.length by omega) (by omega))) (fun _ => ?_)
    refine And.intro (sw_k hW (Nat.le_of_ble_eq_true rfl) rfl) ?_
    refine Exists.intro _ (And.intro (sw_r hW (Nat.le_of_ble_eq_true rfl) rfl rfl) ?_)
    refine And.intro (sw_n hW (Nat.le_of_ble_eq_true rfl) rfl rfl (show j < 96 by omega) (Nat.le_of_ble_eq_true rfl)) ?_
    have hlt : W.length - 1 - j < W.length := by omega
    have ed : W.drop (W.length - (j + 1)) = W[W.length - 1 - j] :: W.drop (W.length - j) := by
      rw [show W.length - (j + 1) = W.length - 1 - j by omega, List.drop_eq_getElem_cons hlt]
      congr 2
      omega
    have ev : I 96 (nI j).toNatClampNeg = wc (W[W.length - 1 - j]) := by
      rw [ix (by omega), s8 j (by rw [List.length_map]; omega), List.length_map, List.getD_eq_getElem?_getD, List.getElem?_map, List.getElem?_eq_getElem hlt]
      rfl
    have hx := hw _ (List.getElem_mem hlt)
    rw [ev]
    refine And.intro (fun h => ?_) (fun h => ?_)
    · refine ih (j + 1) _ _ (nI_1 j) ?_ (by omega)
      rw [ed, nnt, if_neg (fun q => h ((wc_33 hx).mpr q)), Nat.zero_add, Int32.add_zero]
    · refine ih (j + 1) _ _ (nI_1 j) ?_ (by omega)
      rw [ed, nnt, if_pos ((wc_33 hx).mp (Decidable.of_not_not h)), nI_1, Nat.add_comm]
theorem s_nots {nx sl : Nat} {ln : Nat → Nat} {R : Nat → Nat → Option Nat} {I : Nat → Nat → Int32} {Q : Option Value → Hp → Prop} {k : Nat} (hW : SW nx ln R) {B : Nat → Nat} {L key i a : Nat} {W : List Nat} {C : List Int32} (hS : MS B L key I i W C a) (hw : ∀ x, x ∈ W → wOk x) (hl : W.length ≤ 96) (hQ : Q (some (.int (nI (nnt W)))) (nx, sl, ln, R, I)) : Go k mX8_notsOpen [.ref 85] (nx, sl, ln, R, I) Q := by
  refine Go_wp 20 rfl ?_
  refine l_nots hW hS hw hl hQ W.length 0 0 0 rfl ?_ (by omega)
  rw [Nat.sub_zero, List.drop_length]
  rfl
