/-! The model's town: what holds of its row, filling, keeping, worth. -/
/-- a jug of the row -/
def JO (T : Nat → Int32) (j : Nat) : Prop := ∃ kd b m hd fl : Nat, T (24 + 5 * j) = nI kd ∧ kd ≤ 5 ∧ T (24 + 5 * j + 1) = nI b ∧ 1 ≤ b ∧ b ≤ 99 ∧ T (24 + 5 * j + 2) = nI m ∧ m ≤ b ∧ T (24 + 5 * j + 3) = nI hd ∧ hd ≤ 7 ∧ T (24 + 5 * j + 4) = nI fl ∧ fl ≤ 99
/-- a text of the row -/
def XO (T : Nat → Int32) (t : Nat) : Prop := ∃ key len at0 : Nat, T (74 + 2 * t) = nI (1000 * key + len) ∧ key ≤ 2 ∧ len ≤ 96 ∧ T (74 + 2 * t + 1) = nI at0 ∧ at0 ≤ 96 ∧ okF (fun q => T (102 + 96 * t + q)) 0 len 0
/-- the row: n jugs, m texts -/
def IT (T : Nat → Int32) (n m : Nat) : Prop := T 1 = nI n ∧ n ≤ 10 ∧ (∀ j, j < n → JO T j) ∧ (∀ i, i < 8 → ∃ v, T (8 + i) = nI v ∧ v ≤ 9) ∧ (∀ i, i < 8 → ∃ v, T (16 + i) = nI v ∧ v ≤ 9999) ∧ (∃ v, T 3 = nI v ∧ v ≤ 100) ∧ T 7 = nI m ∧ m ≤ 14 ∧ ∀ t, t < m → XO T t
/-- what a text gives -/
def gvF (T : Nat → Int32) (t : Nat) (f : Nat → Int32) : Int32 := (evF (fun q => T (102 + 96 * t + q)) f 0 ((T (74 + 2 * t)).toNatClampNeg % 1000) []).headD 0
theorem s_works {nx sl : Nat} {ln : Nat → Nat} {R : Nat → Nat → Option Nat} {J : Nat → Nat → Int32} {T : Nat → Int32} {Q : Option Value → Hp → Prop} {k : Nat} (hW : SW nx ln R) {t : Nat} {f : Nat → Int32} (ht : t < 14) (hX : XO T t) (hf : ∀ q, q < 4 → J 99 q = f q) (hQ : ∀ J2 : Nat → Nat → Int32, (∀ o, ¬ o = 98 → J2 o = J o) → Q (some (.int (gvF T t f))) (nx, sl, ln, R, nw J2 T)) : Go (k + 1) mX8_worksOut [.ref 85, .int (nI t)] (nx, sl, ln, R, nw J T) Q := by
  obtain ⟨key, len, at0, x1, x2, x3, -, -, x4⟩ := hX
  have hl : (T (74 + 2 * t)).toNatClampNeg % 1000 = len := by rw [x1, ix (by omega)]; omega
  refine Go_wp 60 rfl ?_
  refine And.intro (sw_k hW (Nat.le_of_ble_eq_true rfl) rfl) ?_
  refine Exists.intro _ (And.intro (sw_r hW (Nat.le_of_ble_eq_true rfl) rfl rfl) ?_)
  refine And.intro (by rw [cx]; exact sw_n hW (Nat.le_of_ble_eq_true rfl) rfl rfl (show 74 + 2 * t < 1446 by omega) (Nat.le_of_ble_eq_true rfl)) ?_
  refine And.intro (by decide) ?_
  refine l_works hW ht rfl (n := len) ?_ x3 len 0 [] J _ _ _ _ rfl rfl rfl (by omega) (Nat.le_refl _) x4 (fun i hi => absurd hi (Nat.not_lt_zero i)) hf (fun _ _ => rfl) (fun J2 h2 => ?_)
  · have e : ((74 : Int32) + 2 * nI t).toNatClampNeg = 74 + 2 * t := by rw [cx]; exact ix (by omega)
    show irm (T ((74 : Int32) + 2 * nI t).toNatClampNeg) 1000 = nI len
    rw [e, x1]
    show nI (1000 * key + len) - nI (1000 * key + len) / nI 1000 * nI 1000 = nI len
    rw [pk_rem (by omega) (by decide) (by decide)]
    congr 1
    omega
  · have := hQ J2 h2
    unfold gvF at this
    rw [hl] at this
    exact this
/-- of kinds: JUG, HEIRLOOM, PAIL, CRACKED, MISERS, THIMBLE -/
def kdF (kd : Int32) (jug heir pail cr mi th : Int32) : Int32 := if kd = 1 then heir else if kd = 2 then pail else if kd = 3 then cr else if kd = 4 then mi else if kd = 5 then th else jug
/-- how far it is filled, with what is wanted -/
def tkF (kd b m w : Int32) : Int32 := kdF kd (wi w 0 m) (wi (wi w 0 m) 0 (b / 2)) (wi (wi w 0 m + 1) 0 b) (wi (wi w 0 m) 0 (b / 2) - wi (wi w 0 m) 0 (b / 2) / 5) (wi (wi w 0 m + 1) 0 b / 2) b
/-- the names of want, for jug j -/
def faF (T : Nat → Int32) (j : Nat) : Nat → Int32 := fun q => if q = 0 then T (24 + 5 * j + 2) else if q = 1 then T (24 + 5 * j + 1) else if q = 2 then T (8 + (T (24 + 5 * j + 3)).toNatClampNeg) else T 2
/-- what is wanted -/
def wnF (T : Nat → Int32) (j : Nat) : Int32 := if cnF T 0 (T 7).toNatClampNeg < 0 then T (24 + 5 * j + 2) else wi (gvF T (cnF T 0 (T 7).toNatClampNeg).toNatClampNeg (faF T j)) 0 (T (24 + 5 * j + 1))
def toF (T : Nat → Int32) (j : Nat) : Int32 := tkF (T (24 + 5 * j)) (T (24 + 5 * j + 1)) (T (24 + 5 * j + 2)) (wnF T j)
/-- what it keeps -/
def kpF (kd b m ht to : Int32) : Int32 := kdF kd (wi (to + ht / 3) 0 b) (if wi (to + ht / 3) 0 b < m then m else wi (to + ht / 3) 0 b) to (wi ((if wi (to + ht / 3) 0 b < m then m else wi (to + ht / 3) 0 b) - 1) 0 99) (wi (to - 1) 0 99) b
def keF (T : Nat → Int32) (j : Nat) (to : Int32) : Int32 := kpF (T (24 + 5 * j)) (T (24 + 5 * j + 1)) (T (24 + 5 * j + 2)) (T (8 + (T (24 + 5 * j + 3)).toNatClampNeg)) to
/-- what it is worth -/
def wrF (kd b m : Int32) : Int32 := kdF kd m (m + 40) (b - m) ((m + 40) / 2) (wi (b - m - 5) 0 99) 3
def woF (T : Nat → Int32) (j : Nat) : Int32 := wrF (T (24 + 5 * j)) (T (24 + 5 * j + 1)) (T (24 + 5 * j + 2))
theorem cn_ok {T : Nat → Int32} {key : Int32} : ∀ (m : Nat), m ≤ 14 → cnF T key m < 0 ∨ ∃ t, t < m ∧ cnF T key m = nI t := by
  intro m
  induction m with
  | zero => intro _; exact Or.inl (by unfold cnF; decide)
  | succ m ih =>
    intro hm
    unfold cnF
    by_cases h : T (74 + 2 * m) / 1000 = key
    · rw [if_pos h]; exact Or.inr ⟨m, Nat.lt_succ_self m, rfl⟩
    · rw [if_neg h]
      rcases ih (by omega) with q | ⟨t, q1, q2⟩
      · exact Or.inl q
      · exact Or.inr ⟨t, by omega, q2⟩
theorem s_of0 {nx sl : Nat} {ln : Nat → Nat} {R : Nat → Nat → Option Nat} {J : Nat → Nat → Int32} {T : Nat → Int32} {Q : Option Value → Hp → Prop} {k : Nat} (hW : SW nx ln R) {n : Nat} (hn : n < 10) (hQ : Q (some (.int (T (24 + 5 * n)))) (nx, sl, ln, R, nw J T)) : Go k mX8_of [.ref 85, .int (nI n), .int 0] (nx, sl, ln, R, nw J T) Q := s_of (w := 0) hW hn (by decide) hQ
theorem s_put0 {nx sl : Nat} {ln : Nat → Nat} {R : Nat → Nat → Option Nat} {J : Nat → Nat → Int32} {T : Nat → Int32} {Q : Option Value → Hp → Prop} {k : Nat} (hW : SW nx ln R) {n : Nat} {v : Int32} (hn : n < 10) (hQ : Q none (nx, sl, ln, R, nw J (up1 T (24 + 5 * n) v))) : Go k mX8_put [.ref 85, .int (nI n), .int 0, .int v] (nx, sl, ln, R, nw J T) Q := s_put (w := 0) hW hn (by decide) hQ
theorem s_worthOf {nx sl : Nat} {ln : Nat → Nat} {R : Nat → Nat → Option Nat} {J : Nat → Nat → Int32} {T : Nat → Int32} {Q : Option Value → Hp → Prop} {k : Nat} (hW : SW nx ln R) {j : Nat} (hj : j < 10) (hQ : Q (some (.int (woF T j))) (nx, sl, ln, R, nw J T)) : Go (k + 1) mX8_worthOf [.ref 85, .int (nI j)] (nx, sl, ln, R, nw J T) Q := by
  unfold woF wrF kdF at hQ
  refine Go_wp 40 rfl ?_
  refine And.intro (sw_k hW (Nat.le_of_ble_eq_true rfl) rfl) ?_
  refine s_of (w := 2) hW hj (by decide) ?_
  refine And.intro (sw_k hW (Nat.le_of_ble_eq_true rfl) rfl) ?_
  refine s_of (w := 1) hW hj (by decide) ?_
  refine And.intro (sw_k hW (Nat.le_of_ble_eq_true rfl) rfl) ?_
  refine s_of0 hW hj ?_
  refine And.intro (fun q => ?_) (fun q1 => And.intro (fun q => ?_) (fun q2 => And.intro (fun q => ?_) (fun q3 => And.intro (fun q => ?_) (fun q4 => And.intro (fun q => ?_) (fun q5 => ?_)))))
  · rw [if_pos q] at hQ; exact hQ
  · rw [if_neg q1, if_pos q] at hQ; exact hQ
  · rw [if_neg q1, if_neg q2, if_pos q] at hQ; exact And.intro (by decide) hQ
  · rw [if_neg q1, if_neg q2, if_neg q3, if_pos q] at hQ; exact s_within hQ
  · rw [if_neg q1, if_neg q2, if_neg q3, if_neg q4, if_pos q] at hQ; exact hQ
  · rw [if_neg q1, if_neg q2, if_neg q3, if_neg q4, if_neg q5] at hQ; exact hQ
theorem hx8 (v : Nat) : (8 : Int32) + nI v = nI (8 + v) := by rw [show (8 : Int32) = nI 8 from rfl, nI_add]
theorem hx16 (v : Nat) : (16 : Int32) + nI v = nI (16 + v) := by rw [show (16 : Int32) = nI 16 from rfl, nI_add]
theorem s_keepsOf {nx sl : Nat} {ln : Nat → Nat} {R : Nat → Nat → Option Nat} {J : Nat → Nat → Int32} {T : Nat → Int32} {Q : Option Value → Hp → Prop} {k : Nat} (hW : SW nx ln R) {j hd : Nat} {to : Int32} (hj : j < 10) (hh : T (24 + 5 * j + 3) = nI hd) (hd7 : hd ≤ 7) (hQ : Q (some (.int (keF T j to))) (nx, sl, ln, R, nw J T)) : Go (k + 1) mX8_keepsOf [.ref 85, .int (nI j), .int to] (nx, sl, ln, R, nw J T) Q := by
  unfold keF kpF kdF at hQ
  rw [hh, ix (by omega)] at hQ
  refine Go_wp 80 rfl ?_
  refine And.intro (sw_k hW (Nat.le_of_ble_eq_true rfl) rfl) ?_
  refine Exists.intro _ (And.intro (sw_r hW (Nat.le_of_ble_eq_true rfl) rfl rfl) ?_)
  refine And.intro (sw_k hW (Nat.le_of_ble_eq_true rfl) rfl) ?_
  refine s_of (w := 3) hW hj (by decide) ?_
  rw [hh]
  refine And.intro (by rw [hx8]; exact sw_n hW (Nat.le_of_ble_eq_true rfl) rfl rfl (show 8 + hd < 1446 by omega) (Nat.le_of_ble_eq_true rfl)) ?_
  have e : nw J T 86 ((8 : Int32) + nI hd).toNatClampNeg = T (8 + hd) := by rw [nw86, hx8, ix (by omega)]
  rw [e]
  refine And.intro (by decide) ?_
  refine And.intro (sw_k hW (Nat.le_of_ble_eq_true rfl) rfl) ?_
  refine s_of (w := 1) hW hj (by decide) ?_
  refine s_within ?_
  refine And.intro (sw_k hW (Nat.le_of_ble_eq_true rfl) rfl) ?_
  refine s_of (w := 2) hW hj (by decide) ?_
  obtain ⟨P, hP⟩ : ∃ P, wi (to + T (8 + hd) / 3) 0 (T (24 + 5 * j + 1)) = P := ⟨_, rfl⟩
  rw [hP]
  rw [hP] at hQ
  refine And.intro (fun g => ?_) (fun g => ?_)
  · have g' : T (24 + 5 * j + 2) ≤ P := g
    rw [if_neg (show ¬ P < T (24 + 5 * j + 2) from fun w => by rw [tI_le] at g'; rw [tI_lt] at w; omega)] at hQ
    refine And.intro (sw_k hW (Nat.le_of_ble_eq_true rfl) rfl) ?_
    refine s_of0 hW hj ?_
    refine And.intro (fun q => ?_) (fun q1 => And.intro (fun q => ?_) (fun q2 => And.intro (fun q => ?_) (fun q3 => And.intro (fun q => ?_) (fun q4 => And.intro (fun q => ?_) (fun q5 => ?_)))))
    · rw [if_pos q] at hQ; exact hQ
    · rw [if_neg q1, if_pos q] at hQ; exact hQ
    · rw [if_neg q1, if_neg q2, if_pos q] at hQ; exact s_within hQ
    · rw [if_neg q1, if_neg q2, if_neg q3, if_pos q] at hQ; exact s_within hQ
    · rw [if_neg q1, if_neg q2, if_neg q3, if_neg q4, if_pos q] at hQ; exact And.intro (sw_k hW (Nat.le_of_ble_eq_true rfl) rfl) (s_of (w := 1) hW hj (by decide) hQ)
    · rw [if_neg q1, if_neg q2, if_neg q3, if_neg q4, if_neg q5] at hQ; exact hQ
  · have g' : ¬ T (24 + 5 * j + 2) ≤ P := g
    rw [if_pos (show P < T (24 + 5 * j + 2) by rw [tI_le] at g'; rw [tI_lt]; omega)] at hQ
    refine And.intro (sw_k hW (Nat.le_of_ble_eq_true rfl) rfl) ?_
    refine s_of (w := 2) hW hj (by decide) ?_
    refine And.intro (sw_k hW (Nat.le_of_ble_eq_true rfl) rfl) ?_
    refine s_of0 hW hj ?_
    refine And.intro (fun q => ?_) (fun q1 => And.intro (fun q => ?_) (fun q2 => And.intro (fun q => ?_) (fun q3 => And.intro (fun q => ?_) (fun q4 => And.intro (fun q => ?_) (fun q5 => ?_)))))
    · rw [if_pos q] at hQ; exact hQ
    · rw [if_neg q1, if_pos q] at hQ; exact hQ
    · rw [if_neg q1, if_neg q2, if_pos q] at hQ; exact s_within hQ
    · rw [if_neg q1, if_neg q2, if_neg q3, if_pos q] at hQ; exact s_within hQ
    · rw [if_neg q1, if_neg q2, if_neg q3, if_neg q4, if_pos q] at hQ; exact And.intro (sw_k hW (Nat.le_of_ble_eq_true rfl) rfl) (s_of (w := 1) hW hj (by decide) hQ)
    · rw [if_neg q1, if_neg q2, if_neg q3, if_neg q4, if_neg q5] at hQ; exact hQ
theorem nw_oth' (J : Nat → Nat → Int32) (T : Nat → Int32) {o : Nat} (ho : ¬ o = 86) {i : Nat} {x : Int32} (h : x.toNatClampNeg = i) (v : Int32) : up2 (nw J T) o x.toNatClampNeg v = nw (up2 J o i v) T := by rw [h, nw_oth _ _ ho]
/-- the last stretch of toOf: with what is wanted -/
theorem tail_toOf {nx sl : Nat} {ln : Nat → Nat} {R : Nat → Nat → Option Nat} {J : Nat → Nat → Int32} {T : Nat → Int32} {Q : Option Value → Hp → Prop} {k : Nat} (hW : SW nx ln R) {n j : Nat} {w x2 : Int32} {x3 x4 x5 x6 : Option Value} (hj : j < 10) (hQ : Q (some (.int (tkF (T (24 + 5 * j)) (T (24 + 5 * j + 1)) (T (24 + 5 * j + 2)) w))) (nx, sl, ln, R, nw J T)) : wp (n + 60) (k + 1) mX8_toOf 90 [some (.ref 85), some (.int (nI j)), some (.int x2), x3, x4, x5, x6] [.int w] (nx, sl, ln, R, nw J T) Q := by
  unfold tkF kdF at hQ
  refine And.intro (sw_k hW (Nat.le_of_ble_eq_true rfl) rfl) ?_
  refine s_of (w := 2) hW hj (by decide) ?_
  refine s_within ?_
  refine And.intro (sw_k hW (Nat.le_of_ble_eq_true rfl) rfl) ?_
  refine s_of (w := 1) hW hj (by decide) ?_
  refine And.intro (by decide) ?_
  refine s_within ?_
  refine And.intro (sw_k hW (Nat.le_of_ble_eq_true rfl) rfl) ?_
  refine s_of (w := 1) hW hj (by decide) ?_
  refine s_within ?_
  refine And.intro (sw_k hW (Nat.le_of_ble_eq_true rfl) rfl) ?_
  refine s_of0 hW hj ?_
  refine And.intro (fun q => ?_) (fun q1 => And.intro (fun q => ?_) (fun q2 => And.intro (fun q => ?_) (fun q3 => And.intro (fun q => ?_) (fun q4 => And.intro (fun q => ?_) (fun q5 => ?_)))))
  · rw [if_pos q] at hQ; exact hQ
  · rw [if_neg q1, if_pos q] at hQ; exact hQ
  · rw [if_neg q1, if_neg q2, if_pos q] at hQ; exact And.intro (by decide) hQ
  · rw [if_neg q1, if_neg q2, if_neg q3, if_pos q] at hQ; exact And.intro (by decide) hQ
  · rw [if_neg q1, if_neg q2, if_neg q3, if_neg q4, if_pos q] at hQ; exact And.intro (sw_k hW (Nat.le_of_ble_eq_true rfl) rfl) (s_of (w := 1) hW hj (by decide) hQ)
  · rw [if_neg q1, if_neg q2, if_neg q3, if_neg q4, if_neg q5] at hQ; exact hQ
set_option maxHeartbeats 1000000 in
theorem s_toOf {nx sl : Nat} {ln : Nat → Nat} {R : Nat → Nat → Option Nat} {J : Nat → Nat → Int32} {T : Nat → Int32} {Q : Option Value → Hp → Prop} {k : Nat} (hW : SW nx ln R) {n m j : Nat} (hT : IT T n m) (hj : j < n) (hQ : ∀ J', Sc J J' → Q (some (.int (toF T j))) (nx, sl, ln, R, nw J' T)) : Go (k + 2) mX8_toOf [.ref 85, .int (nI j)] (nx, sl, ln, R, nw J T) Q := by
  obtain ⟨i1, i2, i3, i4, i5, i6, i7, i8, i9⟩ := hT
  obtain ⟨kd, b, mk, hd, fl, j1, j2, j3, j4, j5, j6, j7, j8, j9, j10, j11⟩ := i3 j hj
  have hj' : j < 10 := by omega
  have ex : (nI hd).toNatClampNeg = hd := ix (by omega)
  refine Go_wp 200 rfl ?_
  refine And.intro (sw_k hW (Nat.le_of_ble_eq_true rfl) rfl) ?_
  refine s_counts hW i8 i7 ?_
  refine And.intro (sw_k hW (Nat.le_of_ble_eq_true rfl) rfl) ?_
  refine Exists.intro _ (And.intro (sw_r hW (Nat.le_of_ble_eq_true rfl) rfl rfl) ?_)
  refine And.intro (sw_k hW (Nat.le_of_ble_eq_true rfl) rfl) ?_
  refine s_of (w := 2) hW hj' (by decide) ?_
  refine And.intro (sw_n hW (Nat.le_of_ble_eq_true rfl) rfl rfl ((Nat.le_of_ble_eq_true rfl)) (Nat.le_of_ble_eq_true rfl)) ?_
  rw [nw_oth J T (by decide)]
  refine And.intro (sw_k hW (Nat.le_of_ble_eq_true rfl) rfl) ?_
  refine Exists.intro _ (And.intro (sw_r hW (Nat.le_of_ble_eq_true rfl) rfl rfl) ?_)
  refine And.intro (sw_k hW (Nat.le_of_ble_eq_true rfl) rfl) ?_
  refine s_of (w := 1) hW hj' (by decide) ?_
  refine And.intro (sw_n hW (Nat.le_of_ble_eq_true rfl) rfl rfl ((Nat.le_of_ble_eq_true rfl)) (Nat.le_of_ble_eq_true rfl)) ?_
  rw [nw_oth _ T (by decide)]
  refine And.intro (sw_k hW (Nat.le_of_ble_eq_true rfl) rfl) ?_
  refine Exists.intro _ (And.intro (sw_r hW (Nat.le_of_ble_eq_true rfl) rfl rfl) ?_)
  refine And.intro (sw_k hW (Nat.le_of_ble_eq_true rfl) rfl) ?_
  refine Exists.intro _ (And.intro (sw_r hW (Nat.le_of_ble_eq_true rfl) rfl rfl) ?_)
  refine And.intro (sw_k hW (Nat.le_of_ble_eq_true rfl) rfl) ?_
  refine s_of (w := 3) hW hj' (by decide) ?_
  rw [j8]
  refine And.intro (by rw [hx8]; exact sw_n hW (Nat.le_of_ble_eq_true rfl) rfl rfl (show 8 + hd < 1446 by omega) (Nat.le_of_ble_eq_true rfl)) ?_
  refine And.intro (sw_n hW (Nat.le_of_ble_eq_true rfl) rfl rfl ((Nat.le_of_ble_eq_true rfl)) (Nat.le_of_ble_eq_true rfl)) ?_
  rw [nw_oth _ T (by decide)]
  refine And.intro (sw_k hW (Nat.le_of_ble_eq_true rfl) rfl) ?_
  refine Exists.intro _ (And.intro (sw_r hW (Nat.le_of_ble_eq_true rfl) rfl rfl) ?_)
  refine And.intro (sw_k hW (Nat.le_of_ble_eq_true rfl) rfl) ?_
  refine Exists.intro _ (And.intro (sw_r hW (Nat.le_of_ble_eq_true rfl) rfl rfl) ?_)
  refine And.intro (sw_n hW (Nat.le_of_ble_eq_true rfl) rfl rfl ((Nat.le_of_ble_eq_true rfl)) (Nat.le_of_ble_eq_true rfl)) ?_
  refine And.intro (sw_n hW (Nat.le_of_ble_eq_true rfl) rfl rfl ((Nat.le_of_ble_eq_true rfl)) (Nat.le_of_ble_eq_true rfl)) ?_
  rw [nw_oth _ T (by decide)]
  have ec : cnF T 0 m = cnF T 0 (T 7).toNatClampNeg := by rw [i7, ix (by omega)]
  obtain ⟨J4, hJ4⟩ : ∃ J4, up2 (up2 (up2 (up2 J 99 (0 : Int32).toNatClampNeg (T (24 + 5 * j + 2))) 99 (1 : Int32).toNatClampNeg (T (24 + 5 * j + 1))) 99 (2 : Int32).toNatClampNeg (nw (up2 (up2 J 99 (0 : Int32).toNatClampNeg (T (24 + 5 * j + 2))) 99 (1 : Int32).toNatClampNeg (T (24 + 5 * j + 1))) T 86 ((8 : Int32) + nI hd).toNatClampNeg)) 99 (3 : Int32).toNatClampNeg (nw (up2 (up2 (up2 J 99 (0 : Int32).toNatClampNeg (T (24 + 5 * j + 2))) 99 (1 : Int32).toNatClampNeg (T (24 + 5 * j + 1))) 99 (2 : Int32).toNatClampNeg (nw (up2 (up2 J 99 (0 : Int32).toNatClampNeg (T (24 + 5 * j + 2))) 99 (1 : Int32).toNatClampNeg (T (24 + 5 * j + 1))) T 86 ((8 : Int32) + nI hd).toNatClampNeg)) T 86 (2 : Int32).toNatClampNeg) = J4 := ⟨_, rfl⟩
  rw [hJ4]
  have hf : ∀ q, q < 4 → J4 99 q = faF T j q := by
    intro q hq
    rw [← hJ4]
    match q, hq with
    | 0, _ => rfl
    | 1, _ => rfl
    | 2, _ => show T ((8 : Int32) + nI hd).toNatClampNeg = T (8 + (T (24 + 5 * j + 3)).toNatClampNeg); rw [j8, hx8, ex, ix (by omega)]
    | 3, _ => rfl
  have hJo : ∀ o, ¬ o = 99 → J4 o = J o := by
    intro o ho
    rw [← hJ4, up2_ne ho, up2_ne ho, up2_ne ho, up2_ne ho]
  unfold toF wnF at hQ
  rw [← ec] at hQ
  rcases cn_ok (T := T) (key := 0) m i8 with hc | ⟨t, ht, hc⟩
  · rw [if_pos hc] at hQ
    refine And.intro (fun h => absurd ((tI_le _ _).mp h) (by have := (tI_lt _ _).mp hc; omega)) (fun _ => ?_)
    refine And.intro (sw_k hW (Nat.le_of_ble_eq_true rfl) rfl) ?_
    refine s_of (w := 2) hW hj' (by decide) ?_
    refine wp_goto rfl ?_
    exact tail_toOf hW hj' (hQ J4 (fun o _ h2 => hJo o h2))
  · rw [hc, ix (by omega), if_neg (nI_pos (by omega))] at hQ
    rw [hc]
    refine And.intro (fun _ => ?_) (fun h => absurd (nI_pos' (by omega)) h)
    refine And.intro (sw_k hW (Nat.le_of_ble_eq_true rfl) rfl) ?_
    refine s_works hW (by omega) (i9 t ht) hf (fun J2 h2 => ?_)
    refine And.intro (sw_k hW (Nat.le_of_ble_eq_true rfl) rfl) ?_
    refine s_of (w := 1) hW hj' (by decide) ?_
    refine s_within ?_
    exact tail_toOf hW hj' (hQ J2 (fun o h1 h3 => (h2 o h1).trans (hJo o h3)))
