/-! The model's small methods. -/
theorem wp_goto {n k m pc np a b c d e : Nat} {x : Int32} {sw : List (Int32 × Nat)} {L : List (Option Value)} {S : List Value} {h : Hp} {Q : Option Value → Hp → Prop} (hc : cd m pc = some (1, 8, np, a, b, c, d, e, x, sw, false)) (hw : wp n k m a L S h Q) : wp (n + 1) k m pc L S h Q := by
  rw [wp, hc]
  cases S with
  | nil => exact hw
  | cons v r => cases v <;> exact hw
theorem nw_put (J : Nat → Nat → Int32) (T : Nat → Int32) (i : Nat) (v : Int32) : up2 (nw J T) 86 i v = nw J (up1 T i v) := by
  funext o
  by_cases h : o = 86
  · subst h; rw [up2_eq]; show up1 (up1 J 86 T 86) i v = up1 J 86 (up1 T i v) 86; rw [up1_eq, up1_eq]
  · rw [up2_ne h]; show up1 J 86 T o = up1 J 86 _ o; rw [up1_ne h, up1_ne h]
theorem nw_put' (J : Nat → Nat → Int32) (T : Nat → Int32) {i : Nat} {x : Int32} (h : x.toNatClampNeg = i) (v : Int32) : up2 (nw J T) 86 x.toNatClampNeg v = nw J (up1 T i v) := by rw [h, nw_put]
theorem s_in {k : Nat} {h : Hp} {v lo hi : Int32} {Q : Option Value → Hp → Prop} (h1 : lo ≤ v → v ≤ hi → Q (some (.int 1)) h) (h0 : ¬ (lo ≤ v ∧ v ≤ hi) → Q (some (.int 0)) h) : Go k mX8_in [.int v, .int lo, .int hi] h Q := by
  refine Go_wp 20 rfl ?_
  refine And.intro (fun hb => ?_) (fun hb => ?_)
  · refine And.intro (Or.inl rfl) ?_
    exact h0 (fun q => by rw [tI_lt] at hb; have := (tI_le _ _).mp q.1; omega)
  · refine And.intro (fun hc => ?_) (fun hc => ?_)
    · refine And.intro (Or.inl rfl) ?_
      exact h0 (fun q => by rw [tI_lt] at hc; have := (tI_le _ _).mp q.2; omega)
    · refine And.intro (Or.inr rfl) ?_
      exact h1 (by rw [tI_lt] at hb; rw [tI_le]; omega) (by rw [tI_lt] at hc; rw [tI_le]; omega)
/-- held within -/
def wi (v lo hi : Int32) : Int32 := if lo ≤ v then (if v ≤ hi then v else hi) else lo
theorem s_within {k : Nat} {h : Hp} {v lo hi : Int32} {Q : Option Value → Hp → Prop} (h1 : Q (some (.int (wi v lo hi))) h) : Go k mX8_within [.int v, .int lo, .int hi] h Q := by
  unfold wi at h1
  refine Go_wp 20 rfl ?_
  refine And.intro (fun hb => And.intro (fun hc => ?_) (fun hc => ?_)) (fun hb => ?_)
  · rw [if_pos hb, if_pos hc] at h1; exact h1
  · rw [if_pos hb, if_neg hc] at h1; exact h1
  · rw [if_neg hb] at h1; exact h1
theorem jx (n w : Nat) : (24 : Int32) + 5 * nI n + nI w = nI (24 + 5 * n + w) := by
  rw [show (24 : Int32) = nI 24 from rfl, show (5 : Int32) = nI 5 from rfl, nI_mul, nI_add, nI_add]
theorem jxc {n w : Nat} (hn : n < 10) (hw : w < 5) : ((24 : Int32) + 5 * nI n + nI w).toNatClampNeg = 24 + 5 * n + w := by rw [jx]; exact ix (by omega)
theorem s_of {nx sl : Nat} {ln : Nat → Nat} {R : Nat → Nat → Option Nat} {J : Nat → Nat → Int32} {T : Nat → Int32} {Q : Option Value → Hp → Prop} {k : Nat} (hW : SW nx ln R) {n w : Nat} (hn : n < 10) (hw : w < 5) (hQ : Q (some (.int (T (24 + 5 * n + w)))) (nx, sl, ln, R, nw J T)) : Go k mX8_of [.ref 85, .int (nI n), .int (nI w)] (nx, sl, ln, R, nw J T) Q := by
  refine Go_wp 20 rfl ?_
  refine And.intro (sw_k hW (Nat.le_of_ble_eq_true rfl) rfl) ?_
  refine Exists.intro _ (And.intro (sw_r hW (Nat.le_of_ble_eq_true rfl) rfl rfl) ?_)
  refine And.intro (by rw [jx]; exact sw_n hW (Nat.le_of_ble_eq_true rfl) rfl rfl (show 24 + 5 * n + w < 1446 by omega) (Nat.le_of_ble_eq_true rfl)) ?_
  rw [← jxc hn hw] at hQ
  exact hQ
theorem s_put {nx sl : Nat} {ln : Nat → Nat} {R : Nat → Nat → Option Nat} {J : Nat → Nat → Int32} {T : Nat → Int32} {Q : Option Value → Hp → Prop} {k : Nat} (hW : SW nx ln R) {n w : Nat} {v : Int32} (hn : n < 10) (hw : w < 5) (hQ : Q none (nx, sl, ln, R, nw J (up1 T (24 + 5 * n + w) v))) : Go k mX8_put [.ref 85, .int (nI n), .int (nI w), .int v] (nx, sl, ln, R, nw J T) Q := by
  refine Go_wp 20 rfl ?_
  refine And.intro (sw_k hW (Nat.le_of_ble_eq_true rfl) rfl) ?_
  refine Exists.intro _ (And.intro (sw_r hW (Nat.le_of_ble_eq_true rfl) rfl rfl) ?_)
  refine And.intro (by rw [jx]; exact sw_n hW (Nat.le_of_ble_eq_true rfl) rfl rfl (show 24 + 5 * n + w < 1446 by omega) (Nat.le_of_ble_eq_true rfl)) ?_
  rw [← nw_put' J T (jxc hn hw)] at hQ
  exact hQ
theorem s_swaps {nx sl : Nat} {ln : Nat → Nat} {R : Nat → Nat → Option Nat} {J : Nat → Nat → Int32} {T : Nat → Int32} {Q : Option Value → Hp → Prop} {k : Nat} (hW : SW nx ln R) {i : Nat} {v : Int32} (hi : i < 1446) (hQ : Q (some (.int (T i))) (nx, sl, ln, R, nw J (up1 T i v))) : Go k mX8_swaps [.ref 85, .int (nI i), .int v] (nx, sl, ln, R, nw J T) Q := by
  refine Go_wp 20 rfl ?_
  refine And.intro (sw_k hW (Nat.le_of_ble_eq_true rfl) rfl) ?_
  refine Exists.intro _ (And.intro (sw_r hW (Nat.le_of_ble_eq_true rfl) rfl rfl) ?_)
  refine And.intro (sw_n hW (Nat.le_of_ble_eq_true rfl) rfl rfl (hi) (Nat.le_of_ble_eq_true rfl)) ?_
  refine And.intro (sw_k hW (Nat.le_of_ble_eq_true rfl) rfl) ?_
  refine Exists.intro _ (And.intro (sw_r hW (Nat.le_of_ble_eq_true rfl) rfl rfl) ?_)
  refine And.intro (sw_n hW (Nat.le_of_ble_eq_true rfl) rfl rfl (hi) (Nat.le_of_ble_eq_true rfl)) ?_
  have e : (nI i).toNatClampNeg = i := ix (by omega)
  rw [← nw_put' J T e] at hQ
  have hQ2 : Q (some (.int (T (nI i).toNatClampNeg))) (nx, sl, ln, R, up2 (nw J T) 86 (nI i).toNatClampNeg v) := by rw [show T (nI i).toNatClampNeg = T i by rw [e]]; exact hQ
  exact hQ2
theorem s_isHand {h : Hp} {j : Int32} {Q : Option Value → Hp → Prop} {k : Nat} (h1 : ∀ i, i < 8 → j = nI i → Q (some (.int 1)) h) (h0 : (∀ i, i < 8 → ¬ j = nI i) → Q (some (.int 0)) h) : Go (k + 1) mX8_isHand [.int j] h Q := by
  refine Go_wp 20 rfl ?_
  refine s_in (fun a b => ?_) (fun a => ?_)
  · refine And.intro (Or.inr rfl) ?_
    have a' := (tI_le _ _).mp a
    have b' := (tI_le _ _).mp b
    exact h1 j.toInt.toNat (by have e : (7 : Int32).toInt = 7 := rfl; have e0 : (0 : Int32).toInt = 0 := rfl; omega) (nI_ofI a')
  · refine And.intro (Or.inl rfl) ?_
    refine h0 (fun i hi q => a ?_)
    rw [q]
    exact ⟨nI_pos' (by omega), nI_le (show i ≤ 7 by omega) (by decide)⟩
theorem s_isJug {nx sl : Nat} {ln : Nat → Nat} {R : Nat → Nat → Option Nat} {J : Nat → Nat → Int32} {T : Nat → Int32} {Q : Option Value → Hp → Prop} {k : Nat} (hW : SW nx ln R) {n : Nat} {j : Int32} (hT : T 1 = nI n) (hn : n ≤ 10) (h1 : ∀ i, i < n → j = nI i → Q (some (.int 1)) (nx, sl, ln, R, nw J T)) (h0 : (∀ i, i < n → ¬ j = nI i) → Q (some (.int 0)) (nx, sl, ln, R, nw J T)) : Go (k + 1) mX8_isJug [.ref 85, .int j] (nx, sl, ln, R, nw J T) Q := by
  refine Go_wp 20 rfl ?_
  refine And.intro (sw_k hW (Nat.le_of_ble_eq_true rfl) rfl) ?_
  refine Exists.intro _ (And.intro (sw_r hW (Nat.le_of_ble_eq_true rfl) rfl rfl) ?_)
  refine And.intro (sw_n hW (Nat.le_of_ble_eq_true rfl) rfl rfl ((Nat.le_of_ble_eq_true rfl)) (Nat.le_of_ble_eq_true rfl)) ?_
  have e1 : (T 1 - 1).toInt = (n : Int) - 1 := by rw [hT, tI_sub (by rw [tI_nI (by omega)]; have : (1 : Int32).toInt = 1 := rfl; omega) (by rw [tI_nI (by omega)]; have : (1 : Int32).toInt = 1 := rfl; omega), tI_nI (by omega)]; rfl
  refine s_in (fun a b => ?_) (fun a => ?_)
  · refine And.intro (Or.inr rfl) ?_
    have a' := (tI_le _ _).mp a
    have b' : j.toInt ≤ (T 1 - 1).toInt := (tI_le _ _).mp b
    have e0 : (0 : Int32).toInt = 0 := rfl
    exact h1 j.toInt.toNat (by omega) (nI_ofI a')
  · refine And.intro (Or.inl rfl) ?_
    refine h0 (fun i hi q => a ?_)
    rw [q]
    refine ⟨nI_pos' (by omega), ?_⟩
    rw [tI_le]
    show (nI i).toInt ≤ (T 1 - 1).toInt
    rw [e1, tI_nI (by omega)]
    omega
theorem s_off {k : Nat} {h : Hp} {v : Int32} {Q : Option Value → Hp → Prop} (h1 : Q (some (.int (if 0 ≤ v then v else -v))) h) : Go k mX8_off [.int v] h Q := by
  refine Go_wp 20 rfl ?_
  refine And.intro (fun hb => ?_) (fun hb => ?_)
  · rw [if_pos hb] at h1; exact h1
  · rw [if_neg hb] at h1; exact h1
def unF (kd one : Int32) : Prop := one = 0 ∨ kd = one ∨ (one = 1 ∧ kd = 3) ∨ (one = 2 ∧ kd = 4)
theorem s_isUnder {k : Nat} {h : Hp} {kd one : Int32} {Q : Option Value → Hp → Prop} (h1 : unF kd one → Q (some (.int 1)) h) (h0 : ¬ unF kd one → Q (some (.int 0)) h) : Go k mX8_isUnder [.int kd, .int one] h Q := by
  refine Go_wp 30 rfl ?_
  unfold unF at h1 h0
  refine And.intro (fun a => And.intro (Or.inr rfl) (h1 (Or.inl a))) (fun a => ?_)
  refine And.intro (fun b => And.intro (Or.inr rfl) (h1 (Or.inr (Or.inl b)))) (fun b => ?_)
  refine And.intro (fun c => ?_) (fun c => ?_)
  · refine And.intro (fun d => And.intro (Or.inl rfl) (h0 ?_)) (fun d => ?_)
    · intro q
      rcases q with q | q | q | q
      · exact a q
      · exact b q
      · exact c q.1
      · exact d q.1
    · refine And.intro (fun f => And.intro (Or.inl rfl) (h0 ?_)) (fun f => And.intro (Or.inr rfl) (h1 (Or.inr (Or.inr (Or.inr ⟨Decidable.of_not_not d, Decidable.of_not_not f⟩)))))
      intro q
      rcases q with q | q | q | q
      · exact a q
      · exact b q
      · exact c q.1
      · exact f q.2
  · have c' := Decidable.of_not_not c
    refine And.intro (fun d => And.intro (Or.inr rfl) (h1 (Or.inr (Or.inr (Or.inl ⟨c', d⟩))))) (fun d => ?_)
    refine And.intro (fun f => And.intro (Or.inl rfl) (h0 ?_)) (fun f => ?_)
    · intro q
      rcases q with q | q | q | q
      · exact a q
      · exact b q
      · exact d q.2
      · exact f q.1
    · exact absurd (c'.symm.trans (Decidable.of_not_not f)) (by decide)
def zN (z : Int32) : Int32 := z * 1103515245 + 12345
def dw (z : Int32) : Int32 := ius (zN z) 8
theorem s_draw {nx sl : Nat} {ln : Nat → Nat} {R : Nat → Nat → Option Nat} {J : Nat → Nat → Int32} {T : Nat → Int32} {Q : Option Value → Hp → Prop} {k : Nat} (hW : SW nx ln R) (hQ : Q (some (.int (dw (T 0)))) (nx, sl, ln, R, nw J (up1 T 0 (zN (T 0))))) : Go k mX8_draw [.ref 85] (nx, sl, ln, R, nw J T) Q := by
  refine Go_wp 30 rfl ?_
  refine And.intro (sw_k hW (Nat.le_of_ble_eq_true rfl) rfl) ?_
  refine Exists.intro _ (And.intro (sw_r hW (Nat.le_of_ble_eq_true rfl) rfl rfl) ?_)
  refine And.intro (sw_k hW (Nat.le_of_ble_eq_true rfl) rfl) ?_
  refine Exists.intro _ (And.intro (sw_r hW (Nat.le_of_ble_eq_true rfl) rfl rfl) ?_)
  refine And.intro (sw_n hW (Nat.le_of_ble_eq_true rfl) rfl rfl ((Nat.le_of_ble_eq_true rfl)) (Nat.le_of_ble_eq_true rfl)) ?_
  refine And.intro (sw_n hW (Nat.le_of_ble_eq_true rfl) rfl rfl ((Nat.le_of_ble_eq_true rfl)) (Nat.le_of_ble_eq_true rfl)) ?_
  refine And.intro (sw_k hW (Nat.le_of_ble_eq_true rfl) rfl) ?_
  refine Exists.intro _ (And.intro (sw_r hW (Nat.le_of_ble_eq_true rfl) rfl rfl) ?_)
  refine And.intro (sw_n hW (Nat.le_of_ble_eq_true rfl) rfl rfl ((Nat.le_of_ble_eq_true rfl)) (Nat.le_of_ble_eq_true rfl)) ?_
  rw [← nw_put J T 0] at hQ
  have hQ2 : Q (some (.int (ius (up2 (nw J T) 86 0 (zN (T 0)) 86 0) 8))) (nx, sl, ln, R, up2 (nw J T) 86 0 (zN (T 0))) := by rw [up2_eq, up1_eq]; exact hQ
  exact hQ2
