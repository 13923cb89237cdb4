/-! The component's small methods. -/
theorem c_within {k : Nat} {h : Hp} {v lo hi : Int32} {Q : Option Value → Hp → Prop} (h1 : lo ≤ v → v ≤ hi → Q (some (.int 1)) h) (h0 : ¬ (lo ≤ v ∧ v ≤ hi) → Q (some (.int 0)) h) : Go k mX7_within [.int v, .int lo, .int hi] h Q := by
  refine Go_wp 20 rfl ?_
  refine And.intro (fun hb => ?_) (fun hb => ?_)
  · refine And.intro (Or.inl rfl) ?_
    exact h0 (fun q => by rw [tI_lt] at hb; have := (tI_le _ _).mp q.1; omega)
  · refine And.intro (fun hc => ?_) (fun hc => ?_)
    · refine And.intro (Or.inl rfl) ?_
      exact h0 (fun q => by rw [tI_lt] at hc; have := (tI_le _ _).mp q.2; omega)
    · refine And.intro (Or.inr rfl) ?_
      exact h1 (by rw [tI_lt] at hb; rw [tI_le]; omega) (by rw [tI_lt] at hc; rw [tI_le]; omega)
/-- the lesser, the greater -/
def mn (x y : Int32) : Int32 := if y < x then y else x
def mx (x y : Int32) : Int32 := if x < y then y else x
theorem mn_nI {a b : Nat} (ha : a < 2147483648) (hb : b < 2147483648) : mn (nI a) (nI b) = nI (min a b) := by
  unfold mn
  rcases Nat.lt_or_ge b a with h | h
  · rw [if_pos (nI_lt h (by omega)), Nat.min_eq_right (by omega)]
  · rw [if_neg (nI_nlt h (by omega)), Nat.min_eq_left h]
theorem mx_nI {a b : Nat} (ha : a < 2147483648) (hb : b < 2147483648) : mx (nI a) (nI b) = nI (max a b) := by
  unfold mx
  rcases Nat.lt_or_ge a b with h | h
  · rw [if_pos (nI_lt h (by omega)), Nat.max_eq_right (by omega)]
  · rw [if_neg (nI_nlt h (by omega)), Nat.max_eq_left h]
theorem wi_nn {a b : Nat} (ha : a < 2147483648) (hb : b < 2147483648) : wi (nI a) 0 (nI b) = nI (min a b) := by
  unfold wi
  rw [if_pos (nI_pos' (by omega))]
  rcases Nat.lt_or_ge b a with h | h
  · rw [if_neg (fun q => absurd ((nI_leI (by omega) (by omega)).mp q) (by omega)), Nat.min_eq_right (by omega)]
  · rw [if_pos (nI_le h (by omega)), Nat.min_eq_left h]
/-- held: within 0 and brim -/
theorem mx_wi {x b : Int32} (hb : 0 ≤ b) : mx 0 (mn x b) = wi x 0 b := by
  unfold mx mn wi
  have z0 : (0 : Int32).toInt = 0 := rfl
  have hb' := (tI_le _ _).mp hb
  by_cases h1 : b < x
  · have h1' := (tI_lt _ _).mp h1
    rw [if_pos h1]
    rw [if_pos (show 0 ≤ x by rw [tI_le]; omega), if_neg (show ¬ x ≤ b by rw [tI_le]; omega)]
    by_cases h2 : 0 < b
    · rw [if_pos h2]
    · rw [if_neg h2, tI_eq]; rw [tI_lt] at h2; omega
  · rw [if_neg h1]
    rw [tI_lt] at h1
    by_cases h2 : 0 < x
    · rw [if_pos h2]; rw [tI_lt] at h2
      rw [if_pos (show 0 ≤ x by rw [tI_le]; omega), if_pos (show x ≤ b by rw [tI_le]; omega)]
    · rw [if_neg h2]; rw [tI_lt] at h2
      by_cases h3 : 0 ≤ x
      · rw [if_pos h3, if_pos (show x ≤ b by rw [tI_le]; omega), tI_eq]; rw [tI_le] at h3; omega
      · rw [if_neg h3]
theorem c_held {k : Nat} {nx sl : Nat} {ln : Nat → Nat} {R : Nat → Nat → Option Nat} {I : Nat → Nat → Int32} {v b : Int32} {Q : Option Value → Hp → Prop} (hb : 0 ≤ b) (hQ : Q (some (.int (wi v 0 b))) (nx, sl, ln, R, I)) : Go (k + 1) mX7_held [.int v, .int b] (nx, sl, ln, R, I) Q := by
  refine Go_wp 20 rfl ?_
  rw [← mx_wi hb] at hQ
  exact hQ
theorem c_isIn {k m : Nat} {h : Hp} {v hi : Int32} {Q : Option Value → Hp → Prop} {n : Nat} (hn : hi.toInt = (n : Int) - 1) (h1 : ∀ i, i < n → v = nI i → Q (some (.int 1)) h) (h0 : (∀ i, i < n → ¬ v = nI i) → Q (some (.int 0)) h) : Go k mX7_within [.int v, .int 0, .int hi] h Q := by
  have z0 : (0 : Int32).toInt = 0 := rfl
  have hh := tI_hi hi
  refine c_within (fun a b => ?_) (fun a => ?_)
  · have a' := (tI_le _ _).mp a
    have b' := (tI_le _ _).mp b
    exact h1 v.toInt.toNat (by omega) (nI_ofI (by omega))
  · refine h0 (fun i hi2 q => a ?_)
    rw [q, tI_le, tI_le, tI_nI (by omega)]
    omega
theorem c_isKind {k : Nat} {h : Hp} {v : Int32} {Q : Option Value → Hp → Prop} (h1 : ∀ i, i < 6 → v = nI i → Q (some (.int 1)) h) (h0 : (∀ i, i < 6 → ¬ v = nI i) → Q (some (.int 0)) h) : Go (k + 1) mX7_isKind [.int v] h Q := by
  refine Go_wp 20 rfl ?_
  exact c_isIn (m := 0) (n := 6) rfl (fun i hi e => And.intro (Or.inr rfl) (h1 i hi e)) (fun e => And.intro (Or.inl rfl) (h0 e))
theorem c_isHand {k : Nat} {h : Hp} {v : Int32} {Q : Option Value → Hp → Prop} (h1 : ∀ i, i < 8 → v = nI i → Q (some (.int 1)) h) (h0 : (∀ i, i < 8 → ¬ v = nI i) → Q (some (.int 0)) h) : Go (k + 1) mX7_isHand [.int v] h Q := by
  refine Go_wp 20 rfl ?_
  exact c_isIn (m := 0) (n := 8) rfl (fun i hi e => And.intro (Or.inr rfl) (h1 i hi e)) (fun e => And.intro (Or.inl rfl) (h0 e))
theorem c_isSheet {k : Nat} {h : Hp} {v : Int32} {Q : Option Value → Hp → Prop} (h1 : ∀ i, i < 4 → v = nI i → Q (some (.int 1)) h) (h0 : (∀ i, i < 4 → ¬ v = nI i) → Q (some (.int 0)) h) : Go (k + 1) mX7_isSheet [.int v] h Q := by
  refine Go_wp 20 rfl ?_
  exact c_isIn (m := 0) (n := 4) rfl (fun i hi e => And.intro (Or.inr rfl) (h1 i hi e)) (fun e => And.intro (Or.inl rfl) (h0 e))
theorem c_isSlot {k : Nat} {h : Hp} {v : Int32} {Q : Option Value → Hp → Prop} (h1 : ∀ i, i < 5 → v = nI i → Q (some (.int 1)) h) (h0 : (∀ i, i < 5 → ¬ v = nI i) → Q (some (.int 0)) h) : Go (k + 1) mX7_isSlot [.int v] h Q := by
  refine Go_wp 20 rfl ?_
  exact c_isIn (m := 0) (n := 5) rfl (fun i hi e => And.intro (Or.inr rfl) (h1 i hi e)) (fun e => And.intro (Or.inl rfl) (h0 e))
section CJ
variable {nx sl : Nat} {ln : Nat → Nat} {R : Nat → Nat → Option Nat} {I : Nat → Nat → Int32} {Q : Option Value → Hp → Prop} {k o o2 : Nat}
theorem c_worth (ho : KD o = 0 ∧ o < nx) (hQ : Q (some (.int (kdF (I o 0) (I o 2) (I o 2 + 40) (I o 1 - I o 2) ((I o 2 + 40) / 2) (mx (I o 1 - I o 2 - 5) 0) 3))) (nx, sl, ln, R, I)) : Go (k + 1) mX0_worth [.ref o] (nx, sl, ln, R, I) Q := by
  unfold kdF at hQ
  refine Go_wp 40 rfl ?_
  refine And.intro ho ?_
  refine And.intro (fun q => ?_) (fun q1 => And.intro (fun q => ?_) (fun q2 => And.intro (fun q => ?_) (fun q3 => And.intro (fun q => ?_) (fun q4 => And.intro (fun q => ?_) (fun q5 => ?_)))))
  · rw [if_pos q] at hQ; exact And.intro ho hQ
  · rw [if_neg q1, if_pos q] at hQ; exact And.intro ho (And.intro ho hQ)
  · rw [if_neg q1, if_neg q2, if_pos q] at hQ; exact And.intro ho (And.intro (by decide) hQ)
  · rw [if_neg q1, if_neg q2, if_neg q3, if_pos q] at hQ; exact And.intro ho (And.intro ho hQ)
  · rw [if_neg q1, if_neg q2, if_neg q3, if_neg q4, if_pos q] at hQ; exact hQ
  · rw [if_neg q1, if_neg q2, if_neg q3, if_neg q4, if_neg q5] at hQ; exact And.intro ho hQ
theorem c_filledTo {w : Int32} (ho : KD o = 0 ∧ o < nx) (hQ : Q (some (.int (kdF (I o 0) (mn w (I o 2)) (mn (mn w (I o 2)) (I o 1 / 2)) (mn (mn w (I o 2) + 1) (I o 1)) (mn (mn w (I o 2)) (I o 1 / 2) - mn (mn w (I o 2)) (I o 1 / 2) / 5) (mn (mn w (I o 2) + 1) (I o 1) / 2) (I o 1)))) (nx, sl, ln, R, I)) : Go (k + 1) mX0_filledTo [.ref o, .int w] (nx, sl, ln, R, I) Q := by
  unfold kdF at hQ
  refine Go_wp 60 rfl ?_
  refine And.intro ho ?_
  refine And.intro ho ?_
  refine And.intro (by decide) ?_
  refine And.intro ho ?_
  refine And.intro ho ?_
  refine And.intro (fun q => ?_) (fun q1 => And.intro (fun q => ?_) (fun q2 => And.intro (fun q => ?_) (fun q3 => And.intro (fun q => ?_) (fun q4 => And.intro (fun q => ?_) (fun q5 => ?_)))))
  · rw [if_pos q] at hQ; exact hQ
  · rw [if_neg q1, if_pos q] at hQ; exact hQ
  · rw [if_neg q1, if_neg q2, if_pos q] at hQ; exact And.intro (by decide) hQ
  · rw [if_neg q1, if_neg q2, if_neg q3, if_pos q] at hQ; exact And.intro (by decide) hQ
  · rw [if_neg q1, if_neg q2, if_neg q3, if_neg q4, if_pos q] at hQ; exact And.intro ho hQ
  · rw [if_neg q1, if_neg q2, if_neg q3, if_neg q4, if_neg q5] at hQ; exact hQ
theorem c_keptBy {to ht : Int32} (ho : KD o = 0 ∧ o < nx) (hQ : Q (some (.int (kdF (I o 0) (mn (to + ht / 3) (I o 1)) (mx (mn (to + ht / 3) (I o 1)) (I o 2)) to (mx (mx (mn (to + ht / 3) (I o 1)) (I o 2) - 1) 0) (mx (to - 1) 0) (I o 1)))) (nx, sl, ln, R, I)) : Go (k + 1) mX0_keptBy [.ref o, .int to, .int ht] (nx, sl, ln, R, I) Q := by
  unfold kdF at hQ
  refine Go_wp 60 rfl ?_
  refine And.intro (by decide) ?_
  refine And.intro ho ?_
  refine And.intro ho ?_
  refine And.intro ho ?_
  refine And.intro (fun q => ?_) (fun q1 => And.intro (fun q => ?_) (fun q2 => And.intro (fun q => ?_) (fun q3 => And.intro (fun q => ?_) (fun q4 => And.intro (fun q => ?_) (fun q5 => ?_)))))
  · rw [if_pos q] at hQ; exact hQ
  · rw [if_neg q1, if_pos q] at hQ; exact hQ
  · rw [if_neg q1, if_neg q2, if_pos q] at hQ; exact hQ
  · rw [if_neg q1, if_neg q2, if_neg q3, if_pos q] at hQ; exact hQ
  · rw [if_neg q1, if_neg q2, if_neg q3, if_neg q4, if_pos q] at hQ; exact And.intro ho hQ
  · rw [if_neg q1, if_neg q2, if_neg q3, if_neg q4, if_neg q5] at hQ; exact hQ
/-- a jug becomes as another -/
def jbF (I : Nat → Nat → Int32) (o o2 : Nat) : Nat → Nat → Int32 := up2 (up2 (up2 (up2 (up2 I o 0 (I o2 0)) o 1 (I o2 1)) o 2 (I o2 2)) o 3 (I o2 3)) o 4 (I o2 4)
theorem c_jbecome (ho : KD o = 0 ∧ o < nx) (ho2 : KD o2 = 0 ∧ o2 < nx) (hne : ¬ o2 = o) (hQ : Q none (nx, sl, ln, R, jbF I o o2)) : Go k mX0_become [.ref o, .ref o2] (nx, sl, ln, R, I) Q := by
  refine Go_wp 60 rfl ?_
  refine And.intro ho2 (And.intro ho ?_)
  refine And.intro ho2 (And.intro ho ?_)
  rw [up2_ne hne]
  refine And.intro ho2 (And.intro ho ?_)
  rw [up2_ne hne, up2_ne hne]
  refine And.intro ho2 (And.intro ho ?_)
  rw [up2_ne hne, up2_ne hne, up2_ne hne]
  refine And.intro ho2 (And.intro ho ?_)
  rw [up2_ne hne, up2_ne hne, up2_ne hne, up2_ne hne]
  exact hQ
end CJ
/-- the byte of a sign -/
def obF (c : Int32) : Int32 := if c = -9 then 47 else if c = -8 then 42 else if c = -7 then 45 else if c = -6 then 43 else if c = -5 then 62 else if c = -4 then 61 else if c = -3 then 60 else if c = -2 then 38 else if c = -1 then 124 else 33
theorem nine {c : Int32} (h1 : -9 ≤ c) (h2 : c ≤ -1) : c = -9 ∨ c = -8 ∨ c = -7 ∨ c = -6 ∨ c = -5 ∨ c = -4 ∨ c = -3 ∨ c = -2 ∨ c = -1 := by
  have a : (-9 : Int32).toInt = -9 := rfl
  have b : (-1 : Int32).toInt = -1 := rfl
  rw [tI_le] at h1 h2
  have e9 : (-9 : Int32).toInt = -9 := rfl
  have e8 : (-8 : Int32).toInt = -8 := rfl
  have e7 : (-7 : Int32).toInt = -7 := rfl
  have e6 : (-6 : Int32).toInt = -6 := rfl
  have e5 : (-5 : Int32).toInt = -5 := rfl
  have e4 : (-4 : Int32).toInt = -4 := rfl
  have e3 : (-3 : Int32).toInt = -3 := rfl
  have e2 : (-2 : Int32).toInt = -2 := rfl
  have e1 : (-1 : Int32).toInt = -1 := rfl
  simp only [tI_eq, e1, e2, e3, e4, e5, e6, e7, e8, e9]
  omega
theorem c_joined {k : Nat} {h : Hp} {c a b : Int32} {Q : Option Value → Hp → Prop} (h1 : -9 ≤ c) (h2 : c ≤ -1) (hQ : Q (some (.int (twF c a b))) h) : Go k mX1_joined [.int (obF c), .int a, .int b] h Q := by
  rcases nine h1 h2 with rfl | rfl | rfl | rfl | rfl | rfl | rfl | rfl | rfl <;> refine Go_wp 40 rfl ?_
  · have hQ : ∀ {v : Int32}, (if b = 0 then 0 else a / b : Int32) = v → Q (some (.int v)) h := fun e => by rw [← e]; exact hQ
    refine And.intro (fun h9 => absurd h9 (by decide)) (fun _ => And.intro (fun h9 => absurd h9 (by decide)) (fun _ => And.intro (fun h9 => absurd h9 (by decide)) (fun _ => And.intro (fun h9 => absurd h9 (by decide)) (fun _ => And.intro (fun _ => ?_) (fun h9 => absurd rfl h9)))))
    refine And.intro (fun c => ?_) (fun c => ?_)
    · exact And.intro c (hQ (by rw [if_neg c]))
    · exact hQ (by rw [if_pos (Decidable.of_not_not c)])
  · have hQ : ∀ {v : Int32}, (a * b : Int32) = v → Q (some (.int v)) h := fun e => by rw [← e]; exact hQ
    refine And.intro (fun h9 => absurd h9 (by decide)) (fun _ => And.intro (fun _ => ?_) (fun h9 => absurd rfl h9))
    exact hQ rfl
  · have hQ : ∀ {v : Int32}, (a - b : Int32) = v → Q (some (.int v)) h := fun e => by rw [← e]; exact hQ
    refine And.intro (fun h9 => absurd h9 (by decide)) (fun _ => And.intro (fun h9 => absurd h9 (by decide)) (fun _ => And.intro (fun h9 => absurd h9 (by decide)) (fun _ => And.intro (fun _ => ?_) (fun h9 => absurd rfl h9))))
    exact hQ rfl
  · have hQ : ∀ {v : Int32}, (a + b : Int32) = v → Q (some (.int v)) h := fun e => by rw [← e]; exact hQ
    refine And.intro (fun h9 => absurd h9 (by decide)) (fun _ => And.intro (fun h9 => absurd h9 (by decide)) (fun _ => And.intro (fun _ => ?_) (fun h9 => absurd rfl h9)))
    exact hQ rfl
  · have hQ : ∀ {v : Int32}, (if b < a then 1 else 0 : Int32) = v → Q (some (.int v)) h := fun e => by rw [← e]; exact hQ
    refine And.intro (fun h9 => absurd h9 (by decide)) (fun _ => And.intro (fun h9 => absurd h9 (by decide)) (fun _ => And.intro (fun h9 => absurd h9 (by decide)) (fun _ => And.intro (fun h9 => absurd h9 (by decide)) (fun _ => And.intro (fun h9 => absurd h9 (by decide)) (fun _ => And.intro (fun h9 => absurd h9 (by decide)) (fun _ => And.intro (fun h9 => absurd h9 (by decide)) (fun _ => And.intro (fun _ => ?_) (fun h9 => absurd rfl h9))))))))
    refine And.intro (fun c => ?_) (fun c => ?_)
    · exact hQ (by rw [if_neg (fun w => by rw [tI_le] at c; rw [tI_lt] at w; omega)])
    · exact hQ (by rw [if_pos (by rw [tI_le] at c; rw [tI_lt]; omega)])
  · have hQ : ∀ {v : Int32}, (if a = b then 1 else 0 : Int32) = v → Q (some (.int v)) h := fun e => by rw [← e]; exact hQ
    refine And.intro (fun h9 => absurd h9 (by decide)) (fun _ => And.intro (fun h9 => absurd h9 (by decide)) (fun _ => And.intro (fun h9 => absurd h9 (by decide)) (fun _ => And.intro (fun h9 => absurd h9 (by decide)) (fun _ => And.intro (fun h9 => absurd h9 (by decide)) (fun _ => And.intro (fun h9 => absurd h9 (by decide)) (fun _ => And.intro (fun _ => ?_) (fun h9 => absurd rfl h9)))))))
    refine And.intro (fun c => ?_) (fun c => ?_)
    · exact hQ (by rw [if_neg c])
    · exact hQ (by rw [if_pos (Decidable.of_not_not c)])
  · have hQ : ∀ {v : Int32}, (if a < b then 1 else 0 : Int32) = v → Q (some (.int v)) h := fun e => by rw [← e]; exact hQ
    refine And.intro (fun h9 => absurd h9 (by decide)) (fun _ => And.intro (fun h9 => absurd h9 (by decide)) (fun _ => And.intro (fun h9 => absurd h9 (by decide)) (fun _ => And.intro (fun h9 => absurd h9 (by decide)) (fun _ => And.intro (fun h9 => absurd h9 (by decide)) (fun _ => And.intro (fun _ => ?_) (fun h9 => absurd rfl h9))))))
    refine And.intro (fun c => ?_) (fun c => ?_)
    · exact hQ (by rw [if_neg (fun w => by rw [tI_le] at c; rw [tI_lt] at w; omega)])
    · exact hQ (by rw [if_pos (by rw [tI_le] at c; rw [tI_lt]; omega)])
  · have hQ : ∀ {v : Int32}, (if ¬ a = 0 ∧ ¬ b = 0 then 1 else 0 : Int32) = v → Q (some (.int v)) h := fun e => by rw [← e]; exact hQ
    refine And.intro (fun _ => ?_) (fun h9 => absurd rfl h9)
    refine And.intro (fun c => ?_) (fun c => And.intro (fun d => ?_) (fun d => ?_))
    · exact hQ (by rw [if_neg (fun w => w.1 c)])
    · exact hQ (by rw [if_neg (fun w => w.2 d)])
    · exact hQ (by rw [if_pos ⟨c, d⟩])
  · have hQ : ∀ {v : Int32}, (if ¬ a = 0 ∨ ¬ b = 0 then 1 else 0 : Int32) = v → Q (some (.int v)) h := fun e => by rw [← e]; exact hQ
    refine And.intro (fun h9 => absurd h9 (by decide)) (fun _ => And.intro (fun h9 => absurd h9 (by decide)) (fun _ => And.intro (fun h9 => absurd h9 (by decide)) (fun _ => And.intro (fun h9 => absurd h9 (by decide)) (fun _ => And.intro (fun h9 => absurd h9 (by decide)) (fun _ => And.intro (fun h9 => absurd h9 (by decide)) (fun _ => And.intro (fun h9 => absurd h9 (by decide)) (fun _ => And.intro (fun h9 => absurd h9 (by decide)) (fun _ => And.intro (fun _ => ?_) (fun h9 => absurd rfl h9)))))))))
    refine And.intro (fun c => ?_) (fun c => And.intro (fun d => ?_) (fun d => ?_))
    · exact hQ (by rw [if_pos (Or.inl c)])
    · exact hQ (by rw [if_neg (fun w => w.elim c (fun z => z d))])
    · exact hQ (by rw [if_pos (Or.inr d)])
