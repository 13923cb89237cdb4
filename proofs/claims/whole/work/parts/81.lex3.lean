/-! The model's step from word to word. -/
theorem Go_of {k m : Nat} {as : List Value} {h : Hp} {Q : Option Value → Hp → Prop} (hp : isP m = false) (hg : GoF k m 0 (ent m as) [] h Q) : Go k m as h Q := by
  obtain ⟨n, r, h', h1, h2⟩ := hg
  exact ⟨n, r, h', by simp only [hp, cond_false]; exact h1, h2⟩
def MT (I : Nat → Nat → Int32) (B : Nat → Nat) (L : Nat) : Prop := L ≤ 96 ∧ I 85 9 = nI L ∧ ∀ i, i < L → B i < 256 ∧ I 92 i = nI (B i)
def F85 (I I' : Nat → Nat → Int32) : Prop := (∀ o, ¬ o = 85 → I' o = I o) ∧ ∀ q, (q < 10 ∨ 14 < q) → I' 85 q = I 85 q
theorem F85.rf {I : Nat → Nat → Int32} : F85 I I := ⟨fun _ _ => rfl, fun _ _ => rfl⟩
theorem F85.tr {I J K : Nat → Nat → Int32} (h1 : F85 I J) (h2 : F85 J K) : F85 I K := ⟨fun o a => (h2.1 o a).trans (h1.1 o a), fun q a => (h2.2 q a).trans (h1.2 q a)⟩
theorem F85.up {I I' : Nat → Nat → Int32} (h : F85 I I') {q : Nat} {v : Int32} (hq : 10 ≤ q ∧ q ≤ 14) : F85 I (up2 I' 85 q v) := ⟨fun o ho => by rw [up2_ne ho]; exact h.1 o ho, fun p a => by rw [up2_eq, up1_ne (by omega)]; exact h.2 p a⟩
theorem MT.keep {I I' : Nat → Nat → Int32} {B : Nat → Nat} {L : Nat} (h : MT I B L) (hF : F85 I I') : MT I' B L := ⟨h.1, by rw [hF.2 9 (by omega)]; exact h.2.1, fun i hi => by rw [hF.1 92 (by decide)]; exact h.2.2 i hi⟩
theorem s_isLetter {nx sl : Nat} {ln : Nat → Nat} {R : Nat → Nat → Option Nat} {I : Nat → Nat → Int32} {Q : Option Value → Hp → Prop} {k : Nat} (hW : SW nx ln R) {B : Nat → Nat} {L p : Nat} (hM : MT I B L) (hp : p ≤ 97) (h1 : p < L → isL (B p) = true → Q (some (.int 1)) (nx, sl, ln, R, I)) (h0 : ¬ (p < L ∧ isL (B p) = true) → Q (some (.int 0)) (nx, sl, ln, R, I)) : Go k mX8_isLetter [.ref 85, .int (nI p)] (nx, sl, ln, R, I) Q := by
  obtain ⟨m1, m2, m3⟩ := hM
  refine Go_wp 40 rfl ?_
  refine And.intro (sw_k hW (Nat.le_of_ble_eq_true rfl) rfl) ?_
  rw [m2]
  by_cases hpL : p < L
  · obtain ⟨b1, b2⟩ := m3 p hpL
    have hq : isL (B p) = true ↔ 97 ≤ B p ∧ B p ≤ 122 := by simp only [isL, Bool.and_eq_true, Nat.ble_eq]
    refine And.intro (fun h => absurd h (nI_ge hpL (by omega))) (fun _ => ?_)
    refine And.intro (sw_k hW (Nat.le_of_ble_eq_true rfl) rfl) ?_
    refine Exists.intro _ (And.intro (sw_r hW (Nat.le_of_ble_eq_true rfl) rfl rfl) ?_)
    refine And.intro (sw_n hW (Nat.le_of_ble_eq_true rfl) rfl rfl (show p < 96 by omega) (Nat.le_of_ble_eq_true rfl)) ?_
    rw [ix (show p < 2147483648 by omega), b2]
    refine And.intro (fun a => ?_) (fun a => ?_)
    · refine And.intro (Or.inl rfl) (h0 (fun q => ?_))
      exact absurd a (nI_nlt (b := 97) (hq.mp q.2).1 (by omega))
    · refine And.intro (sw_k hW (Nat.le_of_ble_eq_true rfl) rfl) ?_
      refine Exists.intro _ (And.intro (sw_r hW (Nat.le_of_ble_eq_true rfl) rfl rfl) ?_)
      refine And.intro (sw_n hW (Nat.le_of_ble_eq_true rfl) rfl rfl (show p < 96 by omega) (Nat.le_of_ble_eq_true rfl)) ?_
      rw [ix (show p < 2147483648 by omega), b2]
      refine And.intro (fun b => ?_) (fun b => ?_)
      · refine And.intro (Or.inl rfl) (h0 (fun q => ?_))
        exact absurd b (nI_nlt (a := 122) (hq.mp q.2).2 (by decide))
      · refine And.intro (Or.inr rfl) (h1 hpL (hq.mpr ⟨?_, ?_⟩))
        · rcases Nat.lt_or_ge (B p) 97 with q | q
          · exact absurd (nI_lt (b := 97) q (by decide)) a
          · exact q
        · rcases Nat.lt_or_ge 122 (B p) with q | q
          · exact absurd (nI_lt (a := 122) q (by omega)) b
          · exact q
  · refine And.intro (fun _ => ?_) (fun h => absurd (nI_le (by omega) (by omega)) h)
    exact And.intro (Or.inl rfl) (h0 (fun q => hpL q.1))
theorem s_isFigure {nx sl : Nat} {ln : Nat → Nat} {R : Nat → Nat → Option Nat} {I : Nat → Nat → Int32} {Q : Option Value → Hp → Prop} {k : Nat} (hW : SW nx ln R) {B : Nat → Nat} {L p : Nat} (hM : MT I B L) (hp : p ≤ 97) (h1 : p < L → isD (B p) = true → Q (some (.int 1)) (nx, sl, ln, R, I)) (h0 : ¬ (p < L ∧ isD (B p) = true) → Q (some (.int 0)) (nx, sl, ln, R, I)) : Go k mX8_isFigure [.ref 85, .int (nI p)] (nx, sl, ln, R, I) Q := by
  obtain ⟨m1, m2, m3⟩ := hM
  refine Go_wp 40 rfl ?_
  refine And.intro (sw_k hW (Nat.le_of_ble_eq_true rfl) rfl) ?_
  rw [m2]
  by_cases hpL : p < L
  · obtain ⟨b1, b2⟩ := m3 p hpL
    have hq : isD (B p) = true ↔ 48 ≤ B p ∧ B p ≤ 57 := by simp only [isD, Bool.and_eq_true, Nat.ble_eq]
    refine And.intro (fun h => absurd h (nI_ge hpL (by omega))) (fun _ => ?_)
    refine And.intro (sw_k hW (Nat.le_of_ble_eq_true rfl) rfl) ?_
    refine Exists.intro _ (And.intro (sw_r hW (Nat.le_of_ble_eq_true rfl) rfl rfl) ?_)
    refine And.intro (sw_n hW (Nat.le_of_ble_eq_true rfl) rfl rfl (show p < 96 by omega) (Nat.le_of_ble_eq_true rfl)) ?_
    rw [ix (show p < 2147483648 by omega), b2]
    refine And.intro (fun a => ?_) (fun a => ?_)
    · refine And.intro (Or.inl rfl) (h0 (fun q => ?_))
      exact absurd a (nI_nlt (b := 48) (hq.mp q.2).1 (by omega))
    · refine And.intro (sw_k hW (Nat.le_of_ble_eq_true rfl) rfl) ?_
      refine Exists.intro _ (And.intro (sw_r hW (Nat.le_of_ble_eq_true rfl) rfl rfl) ?_)
      refine And.intro (sw_n hW (Nat.le_of_ble_eq_true rfl) rfl rfl (show p < 96 by omega) (Nat.le_of_ble_eq_true rfl)) ?_
      rw [ix (show p < 2147483648 by omega), b2]
      refine And.intro (fun b => ?_) (fun b => ?_)
      · refine And.intro (Or.inl rfl) (h0 (fun q => ?_))
        exact absurd b (nI_nlt (a := 57) (hq.mp q.2).2 (by decide))
      · refine And.intro (Or.inr rfl) (h1 hpL (hq.mpr ⟨?_, ?_⟩))
        · rcases Nat.lt_or_ge (B p) 48 with q | q
          · exact absurd (nI_lt (b := 48) q (by decide)) a
          · exact q
        · rcases Nat.lt_or_ge 57 (B p) with q | q
          · exact absurd (nI_lt (a := 57) q (by omega)) b
          · exact q
  · refine And.intro (fun _ => ?_) (fun h => absurd (nI_le (by omega) (by omega)) h)
    exact And.intro (Or.inl rfl) (h0 (fun q => hpL q.1))
theorem l_goA {nx sl : Nat} {ln : Nat → Nat} {R : Nat → Nat → Option Nat} {I : Nat → Nat → Int32} {Q : Option Value → Hp → Prop} {k : Nat} (hW : SW nx ln R) {B : Nat → Nat} {L : Nat} {x1 : Option Value} (hM : MT I B L) : ∀ (r p : Nat) (I1 : Nat → Nat → Int32), p + r = 97 → F85 I I1 → (∀ q, ¬ q = 10 → I1 85 q = I 85 q) → I1 85 10 = nI p → (∀ (I2 : Nat → Nat → Int32) (nn : Nat), F85 I I2 → (∀ q, ¬ q = 10 → I2 85 q = I 85 q) → I2 85 10 = nI (rn isB B L r p) → wp (nn + 60) (k + 2) mX8_go 38 [some (.ref 85), x1] [] (nx, sl, ln, R, I2) Q) → GoF (k + 2) mX8_go 0 [some (.ref 85), x1] [] (nx, sl, ln, R, I1) Q := by
  have hL9 := hM.1
  intro r
  induction r with
  | zero =>
    intro p I1 hpr hF hF7 h7 hQ
    have hM1 := hM.keep hF
    refine GoF_wp1 80 ?_
    refine And.intro (sw_k hW (Nat.le_of_ble_eq_true rfl) rfl) ?_
    rw [h7]
    refine And.intro (sw_k hW (Nat.le_of_ble_eq_true rfl) rfl) ?_
    rw [hM1.2.1]
    refine And.intro (fun _ => ?_) (fun h => absurd (nI_le (by omega) (by omega)) h)
    exact hQ I1 _ hF hF7 h7
  | succ r ih =>
    intro p I1 hpr hF hF7 h7 hQ
    have hM1 := hM.keep hF
    refine GoF_wp1 80 ?_
    refine And.intro (sw_k hW (Nat.le_of_ble_eq_true rfl) rfl) ?_
    rw [h7]
    refine And.intro (sw_k hW (Nat.le_of_ble_eq_true rfl) rfl) ?_
    rw [hM1.2.1]
    by_cases hpL : p < L
    · obtain ⟨b1, b2⟩ := hM1.2.2 p hpL
      refine And.intro (fun h => absurd h (nI_ge hpL (by omega))) (fun _ => ?_)
      refine And.intro (sw_k hW (Nat.le_of_ble_eq_true rfl) rfl) ?_
      refine Exists.intro _ (And.intro (sw_r hW (Nat.le_of_ble_eq_true rfl) rfl rfl) ?_)
      refine And.intro (sw_k hW (Nat.le_of_ble_eq_true rfl) rfl) ?_
      rw [h7]
      refine And.intro (sw_n hW (Nat.le_of_ble_eq_true rfl) rfl rfl (show p < 96 by omega) (Nat.le_of_ble_eq_true rfl)) ?_
      rw [ix (show p < 2147483648 by omega), b2]
      by_cases h32 : B p = 32
      · refine And.intro (fun h => absurd (by rw [h32]; rfl) h) (fun _ => ?_)
        refine And.intro (sw_k hW (Nat.le_of_ble_eq_true rfl) rfl) ?_
        rw [h7]
        refine And.intro (sw_k hW (Nat.le_of_ble_eq_true rfl) rfl) ?_
        rw [nI_1]
        refine ih (p + 1) _ (by omega) (hF.up (by omega)) (fun q hq => by rw [up2_eq, up1_ne hq]; exact hF7 q hq) (by rw [up2_eq, up1_eq]) (fun I2 nn a b c => ?_)
        refine hQ I2 nn a b ?_
        rw [rn_s, if_pos ⟨hpL, by rw [h32]; rfl⟩]
        exact c
      · refine And.intro (fun _ => ?_) (fun h => absurd (fun q => absurd ((nI_eq (b := 32) (by omega) (by decide)).mp q) h32) h)
        refine hQ I1 _ hF hF7 ?_
        rw [rn_s, if_neg (fun q => h32 (Nat.eq_of_beq_eq_true q.2))]
        exact h7
    · refine And.intro (fun _ => ?_) (fun h => absurd (nI_le (by omega) (by omega)) h)
      refine hQ I1 _ hF hF7 ?_
      rw [rn_s, if_neg (fun q => hpL q.1)]
      exact h7
theorem l_goB {nx sl : Nat} {ln : Nat → Nat} {R : Nat → Nat → Option Nat} {I : Nat → Nat → Int32} {Q : Option Value → Hp → Prop} {k : Nat} (hW : SW nx ln R) {B : Nat → Nat} {L : Nat} {x1 : Option Value} (hM : MT I B L) : ∀ (r p : Nat) (I1 : Nat → Nat → Int32), p + r = 97 → F85 I I1 → (∀ q, ¬ q = 10 → I1 85 q = I 85 q) → I1 85 10 = nI p → (∀ (I2 : Nat → Nat → Int32) (nn : Nat), F85 I I2 → (∀ q, ¬ q = 10 → I2 85 q = I 85 q) → I2 85 10 = nI (rn isL B L r p) → wp (nn + 40) (k + 2) mX8_go 117 [some (.ref 85), x1] [] (nx, sl, ln, R, I2) Q) → GoF (k + 2) mX8_go 93 [some (.ref 85), x1] [] (nx, sl, ln, R, I1) Q := by
  have hL9 := hM.1
  intro r
  induction r with
  | zero =>
    intro p I1 hpr hF hF7 h7 hQ
    have hM1 := hM.keep hF
    refine GoF_wp1 60 ?_
    refine And.intro (sw_k hW (Nat.le_of_ble_eq_true rfl) rfl) ?_
    rw [h7]
    refine And.intro (sw_k hW (Nat.le_of_ble_eq_true rfl) rfl) ?_
    refine s_isLetter hW hM1 (by omega) (fun h1 h2 => by omega) (fun _ => ?_)
    refine And.intro (fun _ => ?_) (fun h9 => absurd rfl h9)
    exact hQ I1 _ hF hF7 h7
  | succ r ih =>
    intro p I1 hpr hF hF7 h7 hQ
    have hM1 := hM.keep hF
    refine GoF_wp1 60 ?_
    refine And.intro (sw_k hW (Nat.le_of_ble_eq_true rfl) rfl) ?_
    rw [h7]
    refine And.intro (sw_k hW (Nat.le_of_ble_eq_true rfl) rfl) ?_
    refine s_isLetter hW hM1 (by omega) (fun h1 h2 => ?_) (fun h1 => ?_)
    · refine And.intro (fun h9 => absurd h9 (by decide)) (fun _ => ?_)
      refine And.intro (sw_k hW (Nat.le_of_ble_eq_true rfl) rfl) ?_
      rw [h7]
      refine And.intro (sw_k hW (Nat.le_of_ble_eq_true rfl) rfl) ?_
      rw [nI_1]
      refine ih (p + 1) _ (by omega) (hF.up (by omega)) (fun q hq => by rw [up2_eq, up1_ne hq]; exact hF7 q hq) (by rw [up2_eq, up1_eq]) (fun I2 nn a b c => ?_)
      refine hQ I2 nn a b ?_
      rw [rn_s, if_pos ⟨h1, h2⟩]
      exact c
    · refine And.intro (fun _ => ?_) (fun h9 => absurd rfl h9)
      refine hQ I1 _ hF hF7 ?_
      rw [rn_s, if_neg h1]
      exact h7
/-- the number that so many digits are -/
def nv (B : Nat → Nat) (s : Nat) : Nat → Nat
  | 0 => 0
  | n + 1 => 10 * nv B s n + (B (s + n) - 48)
theorem nv_lt {B : Nat → Nat} {s : Nat} : ∀ n, (∀ i, i < n → B (s + i) ≤ 57) → nv B s n < 10 ^ n := by
  intro n
  induction n with
  | zero => intro _; exact Nat.one_pos
  | succ n ih =>
    intro h
    have h1 := ih (fun i hi => h i (by omega))
    have h2 := h n (by omega)
    rw [Nat.pow_succ]
    show 10 * nv B s n + (B (s + n) - 48) < _
    omega
theorem nv_step {v b : Nat} (hb : 48 ≤ b) : (10 : Int32) * nI v + nI b - 48 = nI (10 * v + (b - 48)) := by
  rw [show (10 : Int32) = nI 10 from rfl, nI_mul, nI_add, show (48 : Int32) = nI 48 from rfl, nI_sub (by omega)]
  congr 1
  omega
theorem l_goC {nx sl : Nat} {ln : Nat → Nat} {R : Nat → Nat → Option Nat} {I : Nat → Nat → Int32} {Q : Option Value → Hp → Prop} {k : Nat} (hW : SW nx ln R) {B : Nat → Nat} {L s : Nat} {x1 : Option Value} (hM : MT I B L) (h11 : I 85 11 = nI s) : ∀ (r p : Nat) (I1 : Nat → Nat → Int32), p + r = 97 → s ≤ p → F85 I I1 → (∀ q, ¬ q = 10 → ¬ q = 13 → I1 85 q = I 85 q) → I1 85 10 = nI p → I1 85 13 = nI (nv B s (min (p - s) 4)) → (∀ (I2 : Nat → Nat → Int32) (nn : Nat), F85 I I2 → (∀ q, ¬ q = 10 → ¬ q = 13 → I2 85 q = I 85 q) → I2 85 10 = nI (rn isD B L r p) → I2 85 13 = nI (nv B s (min (rn isD B L r p - s) 4)) → wp (nn + 40) (k + 2) mX8_go 238 [some (.ref 85), x1] [] (nx, sl, ln, R, I2) Q) → GoF (k + 2) mX8_go 170 [some (.ref 85), x1] [] (nx, sl, ln, R, I1) Q := by
  have hL9 := hM.1
  intro r
  induction r with
  | zero =>
    intro p I1 hpr hsp hF hF7 h7 h13 hQ
    have hM1 := hM.keep hF
    refine GoF_wp1 60 ?_
    refine And.intro (sw_k hW (Nat.le_of_ble_eq_true rfl) rfl) ?_
    rw [h7]
    refine And.intro (sw_k hW (Nat.le_of_ble_eq_true rfl) rfl) ?_
    refine s_isFigure hW hM1 (by omega) (fun h1 h2 => by omega) (fun _ => ?_)
    refine And.intro (fun _ => ?_) (fun h9 => absurd rfl h9)
    exact hQ I1 _ hF hF7 h7 h13
  | succ r ih =>
    intro p I1 hpr hsp hF hF7 h7 h13 hQ
    have hM1 := hM.keep hF
    refine GoF_wp1 60 ?_
    refine And.intro (sw_k hW (Nat.le_of_ble_eq_true rfl) rfl) ?_
    rw [h7]
    refine And.intro (sw_k hW (Nat.le_of_ble_eq_true rfl) rfl) ?_
    refine s_isFigure hW hM1 (by omega) (fun h1 h2 => ?_) (fun h1 => ?_)
    · obtain ⟨b1, b2⟩ := hM1.2.2 p h1
      have hd : 48 ≤ B p ∧ B p ≤ 57 := by simpa only [isD, Bool.and_eq_true, Nat.ble_eq] using h2
      have fin : ∀ v, v = nI (nv B s (min (p + 1 - s) 4)) → GoF (k + 2) mX8_go 170 [some (.ref 85), x1] [] (nx, sl, ln, R, up2 (up2 I1 85 13 v) 85 10 (nI (p + 1))) Q := fun v hv => by
        refine ih (p + 1) _ (by omega) (by omega) ((hF.up (by omega)).up (by omega)) (fun q hq hq2 => by rw [up2_eq, up1_ne hq, up2_eq, up1_ne hq2]; exact hF7 q hq hq2) (by rw [up2_eq, up1_eq]) (by rw [up2_eq, up1_ne (by decide), up2_eq, up1_eq]; exact hv) (fun I2 nn a b c d => ?_)
        have er : rn isD B L (r + 1) p = rn isD B L r (p + 1) := by rw [rn_s, if_pos ⟨h1, h2⟩]
        exact hQ I2 nn a b (by rw [er]; exact c) (by rw [er]; exact d)
      refine And.intro (fun h9 => absurd h9 (by decide)) (fun _ => ?_)
      refine And.intro (sw_k hW (Nat.le_of_ble_eq_true rfl) rfl) ?_
      rw [h7]
      refine And.intro (sw_k hW (Nat.le_of_ble_eq_true rfl) rfl) ?_
      rw [show I1 85 11 = nI s by rw [hF7 11 (by decide) (by decide)]; exact h11]
      have e4 : nI p - nI s = nI (p - s) := nI_sub hsp
      by_cases h4 : p - s < 4
      · refine And.intro (fun h => absurd h (by rw [e4]; exact nI_ge (b := 4) h4 (by decide))) (fun _ => ?_)
        refine And.intro (sw_k hW (Nat.le_of_ble_eq_true rfl) rfl) ?_
        rw [h13]
        refine And.intro (sw_k hW (Nat.le_of_ble_eq_true rfl) rfl) ?_
        refine Exists.intro _ (And.intro (sw_r hW (Nat.le_of_ble_eq_true rfl) rfl rfl) ?_)
        refine And.intro (sw_k hW (Nat.le_of_ble_eq_true rfl) rfl) ?_
        rw [h7]
        refine And.intro (sw_n hW (Nat.le_of_ble_eq_true rfl) rfl rfl (show p < 96 by omega) (Nat.le_of_ble_eq_true rfl)) ?_
        rw [ix (show p < 2147483648 by omega), b2]
        refine And.intro (sw_k hW (Nat.le_of_ble_eq_true rfl) rfl) ?_
        refine And.intro (sw_k hW (Nat.le_of_ble_eq_true rfl) rfl) ?_
        rw [show ∀ v, up2 I1 85 13 v 85 10 = nI p from fun v => by rw [up2_eq, up1_ne (by decide)]; exact h7]
        refine And.intro (sw_k hW (Nat.le_of_ble_eq_true rfl) rfl) ?_
        rw [nI_1]
        refine fin _ ?_
        rw [nv_step hd.1]
        rw [show min (p - s) 4 = p - s by omega, show min (p + 1 - s) 4 = (p - s) + 1 by omega]
        show _ = nI (10 * nv B s (p - s) + (B (s + (p - s)) - 48))
        rw [show s + (p - s) = p by omega]
      · refine And.intro (fun _ => ?_) (fun h => absurd (by rw [e4]; exact nI_le (a := 4) (by omega) (by omega)) h)
        refine And.intro (sw_k hW (Nat.le_of_ble_eq_true rfl) rfl) ?_
        rw [h13]
        refine And.intro (sw_k hW (Nat.le_of_ble_eq_true rfl) rfl) ?_
        refine And.intro (sw_k hW (Nat.le_of_ble_eq_true rfl) rfl) ?_
        rw [show ∀ v, up2 I1 85 13 v 85 10 = nI p from fun v => by rw [up2_eq, up1_ne (by decide)]; exact h7]
        refine And.intro (sw_k hW (Nat.le_of_ble_eq_true rfl) rfl) ?_
        rw [nI_1]
        refine fin _ ?_
        rw [show min (p - s) 4 = 4 by omega, show min (p + 1 - s) 4 = 4 by omega]
    · refine And.intro (fun _ => ?_) (fun h9 => absurd rfl h9)
      have er : rn isD B L (r + 1) p = p := by rw [rn_s, if_neg h1]
      exact hQ I1 _ hF hF7 (by rw [er]; exact h7) (by rw [er]; exact h13)
