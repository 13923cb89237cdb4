/-! The tape, read word by word: what a word is; the component's step. -/
def isL (c : Nat) : Bool := Nat.ble 97 c && Nat.ble c 122
def isD (c : Nat) : Bool := Nat.ble 48 c && Nat.ble c 57
def isB (c : Nat) : Bool := Nat.beq c 32
/-- as far as it goes -/
def rn (P : Nat → Bool) (B : Nat → Nat) (L : Nat) : Nat → Nat → Nat
  | 0, p => p
  | r + 1, p => if p < L ∧ P (B p) = true then rn P B L r (p + 1) else p
theorem rn_s (P : Nat → Bool) (B : Nat → Nat) (L r p : Nat) : rn P B L (r + 1) p = if p < L ∧ P (B p) = true then rn P B L r (p + 1) else p := rfl
theorem rn_ge (P : Nat → Bool) (B : Nat → Nat) (L : Nat) : ∀ r p, p ≤ rn P B L r p := by
  intro r
  induction r with
  | zero => intro p; exact Nat.le_refl _
  | succ r ih =>
    intro p
    rw [rn_s]
    split
    · have := ih (p + 1); omega
    · exact Nat.le_refl _
theorem rn_le (P : Nat → Bool) (B : Nat → Nat) (L : Nat) : ∀ r p, p ≤ L → rn P B L r p ≤ L := by
  intro r
  induction r with
  | zero => intro p h; exact h
  | succ r ih =>
    intro p h
    rw [rn_s]
    split
    · exact ih (p + 1) (by omega)
    · exact h
/-- a run from p on -/
def run1 (P : Nat → Bool) (B : Nat → Nat) (L p : Nat) : Nat := rn P B L (97 - p) p
theorem run1_s {P : Nat → Bool} {B : Nat → Nat} {L p : Nat} (hp : p < 97) : run1 P B L p = if p < L ∧ P (B p) = true then run1 P B L (p + 1) else p := by
  unfold run1
  rw [show 97 - p = (97 - (p + 1)) + 1 by omega, rn_s]
/-- kind (0 the end, 1 letters, 2 digits, 3 a sign, 4 what does not fit), first byte, the place behind it -/
def lx (B : Nat → Nat) (L p : Nat) (w : Bool) : Nat × Nat × Nat :=
  if L ≤ run1 isB B L p then (0, run1 isB B L p, run1 isB B L p)
  else if isL (B (run1 isB B L p)) = true then (if w = true ∧ run1 isB B L p = p then 4 else 1, run1 isB B L p, run1 isL B L (run1 isB B L p + 1))
  else if isD (B (run1 isB B L p)) = true then (if (w = true ∧ run1 isB B L p = p) ∨ 4 < run1 isD B L (run1 isB B L p + 1) - run1 isB B L p then 4 else 2, run1 isB B L p, run1 isD B L (run1 isB B L p + 1))
  else (3, run1 isB B L p, run1 isB B L p + 1)
/-- the component's sign of it -/
def sgF (B : Nat → Nat) (t : Nat × Nat × Nat) : Int32 := if t.1 = 0 then -1 else if t.1 = 1 then -2 else if t.1 = 2 then -3 else if t.1 = 4 then -4 else nI (B t.2.1)
/-- the tape as bytes -/
def TB (I : Nat → Nat → Int32) (B : Nat → Nat) (L : Nat) : Prop := L ≤ 96 ∧ ∀ i, i < L → B i < 256 ∧ I 50 i &&& 255 = nI (B i)
def F51 (I I' : Nat → Nat → Int32) : Prop := (∀ o, ¬ o = 51 → I' o = I o) ∧ ∀ q, ¬ q = 5 → ¬ q = 6 → ¬ q = 7 → I' 51 q = I 51 q
theorem F51.rf {I : Nat → Nat → Int32} : F51 I I := ⟨fun _ _ => rfl, fun _ _ _ _ => rfl⟩
theorem F51.up {I I' : Nat → Nat → Int32} (h : F51 I I') {q : Nat} {v : Int32} (hq : q = 5 ∨ q = 6 ∨ q = 7) : F51 I (up2 I' 51 q v) := ⟨fun o ho => by rw [up2_ne ho]; exact h.1 o ho, fun p a b c => by rw [up2_eq, up1_ne (by omega)]; exact h.2 p a b c⟩
theorem c_byteAt {nx sl : Nat} {ln : Nat → Nat} {R : Nat → Nat → Option Nat} {I : Nat → Nat → Int32} {Q : Option Value → Hp → Prop} {k : Nat} (hW : SW nx ln R) {B : Nat → Nat} {L p : Nat} (hB : TB I B L) (hp : p < L) (hQ : Q (some (.int (nI (B p)))) (nx, sl, ln, R, I)) : Go k mX2_byteAt [.ref 51, .int (nI p)] (nx, sl, ln, R, I) Q := by
  have h1 := hB.1
  refine Go_wp 40 rfl ?_
  refine And.intro (fun h => absurd h (nI_pos (by omega))) (fun _ => ?_)
  refine And.intro (fun h => absurd h (nI_ge (b := 96) (by omega) (by decide))) (fun _ => ?_)
  refine And.intro (sw_k hW (Nat.le_of_ble_eq_true rfl) rfl) ?_
  refine Exists.intro _ (And.intro (sw_r hW (Nat.le_of_ble_eq_true rfl) rfl rfl) ?_)
  refine And.intro (sw_n hW (Nat.le_of_ble_eq_true rfl) rfl rfl (show p < 96 by omega) (Nat.le_of_ble_eq_true rfl)) ?_
  rw [ix (show p < 2147483648 by omega)]
  rw [← (hB.2 p hp).2] at hQ
  exact hQ
theorem c_isLetter {k : Nat} {h : Hp} {c : Nat} {Q : Option Value → Hp → Prop} (hc : c < 256) (h1 : isL c = true → Q (some (.int 1)) h) (h0 : ¬ isL c = true → Q (some (.int 0)) h) : Go k mX2_isLetter [.int (nI c)] h Q := by
  refine Go_wp 40 rfl ?_
  refine And.intro (fun a => ?_) (fun a => ?_)
  · refine And.intro (Or.inl rfl) (h0 (fun q => ?_))
    simp only [isL, Bool.and_eq_true, Nat.ble_eq] at q
    exact absurd a (nI_nlt (b := 97) (by omega) (by omega))
  · refine And.intro (fun b => ?_) (fun b => ?_)
    · refine And.intro (Or.inl rfl) (h0 (fun q => ?_))
      simp only [isL, Bool.and_eq_true, Nat.ble_eq] at q
      exact absurd b (nI_nlt (a := 122) (by omega) (by decide))
    · refine And.intro (Or.inr rfl) (h1 ?_)
      simp only [isL, Bool.and_eq_true, Nat.ble_eq]
      constructor
      · rcases Nat.lt_or_ge c 97 with q | q
        · exact absurd (nI_lt (b := 97) q (by decide)) a
        · exact q
      · rcases Nat.lt_or_ge 122 c with q | q
        · exact absurd (nI_lt (a := 122) q (by omega)) b
        · exact q
theorem c_isDigit {k : Nat} {h : Hp} {c : Nat} {Q : Option Value → Hp → Prop} (hc : c < 256) (h1 : isD c = true → Q (some (.int 1)) h) (h0 : ¬ isD c = true → Q (some (.int 0)) h) : Go k mX2_isDigit [.int (nI c)] h Q := by
  refine Go_wp 40 rfl ?_
  refine And.intro (fun a => ?_) (fun a => ?_)
  · refine And.intro (Or.inl rfl) (h0 (fun q => ?_))
    simp only [isD, Bool.and_eq_true, Nat.ble_eq] at q
    exact absurd a (nI_nlt (b := 48) (by omega) (by omega))
  · refine And.intro (fun b => ?_) (fun b => ?_)
    · refine And.intro (Or.inl rfl) (h0 (fun q => ?_))
      simp only [isD, Bool.and_eq_true, Nat.ble_eq] at q
      exact absurd b (nI_nlt (a := 57) (by omega) (by decide))
    · refine And.intro (Or.inr rfl) (h1 ?_)
      simp only [isD, Bool.and_eq_true, Nat.ble_eq]
      constructor
      · rcases Nat.lt_or_ge c 48 with q | q
        · exact absurd (nI_lt (b := 48) q (by decide)) a
        · exact q
      · rcases Nat.lt_or_ge 57 c with q | q
        · exact absurd (nI_lt (a := 57) q (by omega)) b
        · exact q
theorem l_stepA {nx sl : Nat} {ln : Nat → Nat} {R : Nat → Nat → Option Nat} {I : Nat → Nat → Int32} {Q : Option Value → Hp → Prop} {k : Nat} (hW : SW nx ln R) {B : Nat → Nat} {L : Nat} {x1 x2 x3 x4 : Option Value} (hB : TB I B L) (hL : I 51 3 = nI L) : ∀ (r p : Nat) (I1 : Nat → Nat → Int32), p + r = 97 → F51 I I1 → (∀ q, ¬ q = 7 → I1 51 q = I 51 q) → I1 51 7 = nI p → (∀ (I2 : Nat → Nat → Int32) (nn : Nat), F51 I I2 → (∀ q, ¬ q = 7 → I2 51 q = I 51 q) → I2 51 7 = nI (rn isB B L r p) → wp (nn + 60) (k + 2) mX2_step 74 [some (.ref 51), x1, x2, x3, x4] [] (nx, sl, ln, R, I2) Q) → GoF (k + 2) mX2_step 37 [some (.ref 51), x1, x2, x3, x4] [] (nx, sl, ln, R, I1) Q := by
  have hL9 := hB.1
  intro r
  induction r with
  | zero =>
    intro p I1 hpr hF hF7 h7 hQ
    refine GoF_wp1 80 ?_
    refine And.intro (sw_k hW (Nat.le_of_ble_eq_true rfl) rfl) ?_
    rw [h7]
    refine And.intro (sw_k hW (Nat.le_of_ble_eq_true rfl) rfl) ?_
    rw [hF7 3 (by decide), hL]
    refine And.intro (fun _ => ?_) (fun h => absurd (nI_le (by omega) (by omega)) h)
    exact hQ I1 _ hF hF7 h7
  | succ r ih =>
    intro p I1 hpr hF hF7 h7 hQ
    refine GoF_wp1 80 ?_
    refine And.intro (sw_k hW (Nat.le_of_ble_eq_true rfl) rfl) ?_
    rw [h7]
    refine And.intro (sw_k hW (Nat.le_of_ble_eq_true rfl) rfl) ?_
    rw [hF7 3 (by decide), hL]
    by_cases hpL : p < L
    · have hB1 : TB I1 B L := ⟨hL9, fun i hi => by rw [hF.1 50 (by decide)]; exact hB.2 i hi⟩
      refine And.intro (fun h => absurd h (nI_ge hpL (by omega))) (fun _ => ?_)
      refine And.intro (sw_k hW (Nat.le_of_ble_eq_true rfl) rfl) ?_
      rw [h7]
      refine And.intro (sw_k hW (Nat.le_of_ble_eq_true rfl) rfl) ?_
      refine c_byteAt hW hB1 hpL ?_
      have hb := (hB.2 p hpL).1
      by_cases h32 : B p = 32
      · refine And.intro (fun h => absurd (by rw [h32]; rfl) h) (fun _ => ?_)
        refine And.intro (sw_k hW (Nat.le_of_ble_eq_true rfl) rfl) ?_
        rw [h7]
        refine And.intro (sw_k hW (Nat.le_of_ble_eq_true rfl) rfl) ?_
        rw [nI_1]
        refine ih (p + 1) _ (by omega) (hF.up (by omega)) (fun q hq => by rw [up2_eq, up1_ne hq]; exact hF7 q hq) (by rw [up2_eq, up1_eq]) (fun I2 nn a b c => ?_)
        refine hQ I2 nn a b ?_
        rw [rn_s, if_pos ⟨hpL, by rw [h32]; rfl⟩]
        exact c
      · refine And.intro (fun _ => ?_) (fun h => absurd (fun q => absurd ((nI_eq (b := 32) (by omega) (by decide)).mp q) h32) h)
        refine hQ I1 _ hF hF7 ?_
        rw [rn_s, if_neg (fun q => h32 (Nat.eq_of_beq_eq_true q.2))]
        exact h7
    · refine And.intro (fun _ => ?_) (fun h => absurd (nI_le (by omega) (by omega)) h)
      refine hQ I1 _ hF hF7 ?_
      rw [rn_s, if_neg (fun q => hpL q.1)]
      exact h7
/-- how the sign says what goes on -/
def pdOk (sg : Int32) (P : Nat → Bool) : Prop := (sg = -2 ∧ P = isL) ∨ (sg = -3 ∧ P = isD) ∨ (0 ≤ sg ∧ P = fun _ => false)
theorem l_stepB {nx sl : Nat} {ln : Nat → Nat} {R : Nat → Nat → Option Nat} {I : Nat → Nat → Int32} {Q : Option Value → Hp → Prop} {k : Nat} (hW : SW nx ln R) {B : Nat → Nat} {L : Nat} {P : Nat → Bool} {sg : Int32} {x1 x2 x3 x4 : Option Value} (hB : TB I B L) (hL : I 51 3 = nI L) (hsg : I 51 5 = sg) (hP : pdOk sg P) : ∀ (r p : Nat) (I1 : Nat → Nat → Int32), p + r = 97 → F51 I I1 → (∀ q, ¬ q = 6 → I1 51 q = I 51 q) → I1 51 6 = nI p → (∀ (I2 : Nat → Nat → Int32) (nn : Nat), F51 I I2 → (∀ q, ¬ q = 6 → I2 51 q = I 51 q) → I2 51 6 = nI (rn P B L r p) → wp (nn + 60) (k + 2) mX2_step 217 [some (.ref 51), x1, x2, x3, x4] [] (nx, sl, ln, R, I2) Q) → GoF (k + 2) mX2_step 147 [some (.ref 51), x1, x2, x3, x4] [] (nx, sl, ln, R, I1) Q := by
  have hL9 := hB.1
  intro r
  induction r with
  | zero =>
    intro p I1 hpr hF hF6 h6 hQ
    refine GoF_wp1 90 ?_
    refine And.intro (sw_k hW (Nat.le_of_ble_eq_true rfl) rfl) ?_
    rw [h6]
    refine And.intro (sw_k hW (Nat.le_of_ble_eq_true rfl) rfl) ?_
    rw [hF6 3 (by decide), hL]
    refine And.intro (fun _ => ?_) (fun h => absurd (nI_le (by omega) (by omega)) h)
    exact hQ I1 _ hF hF6 h6
  | succ r ih =>
    intro p I1 hpr hF hF6 h6 hQ
    refine GoF_wp1 90 ?_
    refine And.intro (sw_k hW (Nat.le_of_ble_eq_true rfl) rfl) ?_
    rw [h6]
    refine And.intro (sw_k hW (Nat.le_of_ble_eq_true rfl) rfl) ?_
    rw [hF6 3 (by decide), hL]
    by_cases hpL : p < L
    · have hB1 : TB I1 B L := ⟨hL9, fun i hi => by rw [hF.1 50 (by decide)]; exact hB.2 i hi⟩
      have hb := (hB.2 p hpL).1
      have hs1 : I1 51 5 = sg := by rw [hF6 5 (by decide)]; exact hsg
      have stop : P (B p) = false → ∀ nn, wp (nn + 60) (k + 2) mX2_step 217 [some (.ref 51), x1, x2, x3, x4] [] (nx, sl, ln, R, I1) Q := fun h nn => by
        refine hQ I1 nn hF hF6 ?_
        rw [rn_s, if_neg (fun q => by rw [h] at q; exact absurd q.2 (by decide))]
        exact h6
      have more : P (B p) = true → GoF (k + 2) mX2_step 147 [some (.ref 51), x1, x2, x3, x4] [] (nx, sl, ln, R, up2 I1 51 6 (nI (p + 1))) Q := fun h => by
        refine ih (p + 1) _ (by omega) (hF.up (by omega)) (fun q hq => by rw [up2_eq, up1_ne hq]; exact hF6 q hq) (by rw [up2_eq, up1_eq]) (fun I2 nn a b c => ?_)
        refine hQ I2 nn a b ?_
        rw [rn_s, if_pos ⟨hpL, h⟩]
        exact c
      refine And.intro (fun h => absurd h (nI_ge hpL (by omega))) (fun _ => ?_)
      refine And.intro (sw_k hW (Nat.le_of_ble_eq_true rfl) rfl) ?_
      rw [hs1]
      rcases hP with ⟨e1, e2⟩ | ⟨e1, e2⟩ | ⟨e1, e2⟩
      · subst e1
        subst e2
        refine And.intro (fun h9 => absurd rfl h9) (fun _ => ?_)
        refine And.intro (sw_k hW (Nat.le_of_ble_eq_true rfl) rfl) ?_
        rw [h6]
        refine And.intro (sw_k hW (Nat.le_of_ble_eq_true rfl) rfl) ?_
        refine c_byteAt hW hB1 hpL ?_
        refine c_isLetter hb (fun q => ?_) (fun q => ?_)
        · refine And.intro (fun _ => ?_) (fun h9 => absurd (by decide) h9)
          refine And.intro (sw_k hW (Nat.le_of_ble_eq_true rfl) rfl) ?_
          rw [h6]
          refine And.intro (sw_k hW (Nat.le_of_ble_eq_true rfl) rfl) ?_
          rw [nI_1]
          exact more q
        · refine And.intro (fun h9 => absurd rfl h9) (fun _ => ?_)
          refine And.intro (sw_k hW (Nat.le_of_ble_eq_true rfl) rfl) ?_
          rw [hs1]
          refine And.intro (fun _ => ?_) (fun h9 => absurd (by decide) h9)
          exact stop (by simpa using q) _
      · subst e1
        subst e2
        refine And.intro (fun _ => ?_) (fun h9 => absurd (by decide) h9)
        refine And.intro (sw_k hW (Nat.le_of_ble_eq_true rfl) rfl) ?_
        rw [hs1]
        refine And.intro (fun h9 => absurd rfl h9) (fun _ => ?_)
        refine And.intro (sw_k hW (Nat.le_of_ble_eq_true rfl) rfl) ?_
        rw [h6]
        refine And.intro (sw_k hW (Nat.le_of_ble_eq_true rfl) rfl) ?_
        refine c_byteAt hW hB1 hpL ?_
        refine c_isDigit hb (fun q => ?_) (fun q => ?_)
        · refine And.intro (fun h9 => absurd h9 (by decide)) (fun _ => ?_)
          refine And.intro (sw_k hW (Nat.le_of_ble_eq_true rfl) rfl) ?_
          rw [h6]
          refine And.intro (sw_k hW (Nat.le_of_ble_eq_true rfl) rfl) ?_
          rw [nI_1]
          exact more q
        · refine And.intro (fun _ => ?_) (fun h9 => absurd rfl h9)
          exact stop (by simpa using q) _
      · subst e2
        refine And.intro (fun _ => ?_) (fun h => absurd (fun q => by rw [q] at e1; exact absurd e1 (by decide)) h)
        refine And.intro (sw_k hW (Nat.le_of_ble_eq_true rfl) rfl) ?_
        rw [hs1]
        refine And.intro (fun _ => ?_) (fun h => absurd (fun q => by rw [q] at e1; exact absurd e1 (by decide)) h)
        exact stop rfl _
    · refine And.intro (fun _ => ?_) (fun h => absurd (nI_le (by omega) (by omega)) h)
      refine hQ I1 _ hF hF6 ?_
      rw [rn_s, if_neg (fun q => hpL q.1)]
      exact h6
