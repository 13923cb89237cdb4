/-! The component's town: wants, filling. -/
theorem cn_key {T : Nat → Int32} {key : Int32} {x : Nat} : ∀ m, m ≤ 14 → x < m → cnF T key m = nI x → T (74 + 2 * x) / 1000 = key := by
  intro m
  induction m with
  | zero => intro _ h; omega
  | succ m ih =>
    intro hm hx h
    unfold cnF at h
    by_cases hk : T (74 + 2 * m) / 1000 = key
    · rw [if_pos hk] at h
      have := (nI_eq (by omega) (by omega)).mp h
      subst this
      exact hk
    · rw [if_neg hk] at h
      rcases cn_ok (T := T) (key := key) m (by omega) with q | ⟨t, q1, q2⟩
      · rw [h] at q; exact absurd q (nI_pos (by omega))
      · have : t = x := (nI_eq (by omega) (by omega)).mp (q2.symm.trans h)
        subst this
        exact ih (by omega) q1 h
theorem key_of {T : Nat → Int32} {x key len k0 : Nat} (h1 : T (74 + 2 * x) = nI (1000 * key + len)) (hk : key ≤ 2) (hl : len ≤ 96) (h2 : T (74 + 2 * x) / 1000 = nI k0) (h0 : k0 ≤ 2) : key = k0 := by
  rw [h1, show (1000 : Int32) = nI 1000 from rfl, pk_div (by omega) (by decide) (by decide)] at h2
  have := (nI_eq (by omega) (by omega)).mp h2
  omega
theorem c_given {nx sl : Nat} {ln : Nat → Nat} {R : Nat → Nat → Option Nat} {I : Nat → Nat → Int32} {Q : Option Value → Hp → Prop} {k : Nat} (hW : SW nx ln R) {x : Nat} {T f : Nat → Int32} (hx : x < 14) (hX : XO T x) (hT : TL nx ln R I T x) (hf : ∀ key len, key ≤ 2 → len ≤ 96 → T (74 + 2 * x) = nI (1000 * key + len) → ∀ q, q < nnF key → I 3 (ltF key q - 97) = f q) (hQ : ∀ I2 : Nat → Nat → Int32, (∀ o, ¬ o = 4 → I2 o = I o) → Q (some (.int (gvF T x f))) (nx, sl, ln, R, I2)) : Go (k + 1) mX1_given [.ref 1, .int (nI x)] (nx, sl, ln, R, I) Q := by
  obtain ⟨key', len', at0, x1, x2, x3, -, -, x4⟩ := hX
  obtain ⟨q, c, key, len, a1, a2, a3, a4, a5, a6, a7, a8, a9, a10, a11, a12, a13⟩ := hT
  have hkl : key' = key ∧ len' = len := by
    have := (nI_eq (by omega) (by omega)).mp (x1.symm.trans a8)
    omega
  obtain ⟨rfl, rfl⟩ := hkl
  have hl : (T (74 + 2 * x)).toNatClampNeg % 1000 = len' := by rw [x1, ix (by omega)]; omega
  refine Go_wp 60 rfl ?_
  refine c_isIn (m := 0) (n := 14) rfl (fun i hi e => ?_) (fun e => absurd rfl (e x hx))
  refine And.intro (fun h9 => absurd h9 (by decide)) (fun _ => ?_)
  have ha : (12 < KD 2 ∧ 2 < nx) ∧ ¬ nI x < 0 ∧ (nI x).toNatClampNeg < ln 2 := ⟨⟨by decide, sw_lt hW (Nat.le_of_ble_eq_true rfl)⟩, nI_pos (by omega), by rw [ix (by omega), hW.2.1 2 (Nat.le_of_ble_eq_true rfl)]; exact hx⟩
  have hr : rv (R 2 (nI x).toNatClampNeg) = .ref q := by rw [ix (by omega), a1]; rfl
  refine And.intro (sw_k hW (Nat.le_of_ble_eq_true rfl) rfl) ?_
  refine Exists.intro _ (And.intro (sw_r hW (Nat.le_of_ble_eq_true rfl) rfl rfl) ?_)
  refine And.intro ha (Exists.intro _ (And.intro hr ?_))
  refine And.intro (sw_k hW (Nat.le_of_ble_eq_true rfl) rfl) ?_
  refine Exists.intro _ (And.intro (sw_r hW (Nat.le_of_ble_eq_true rfl) rfl rfl) ?_)
  refine And.intro ha (Exists.intro _ (And.intro hr ?_))
  refine And.intro a2 (Exists.intro (.ref c) (And.intro (by rw [a3]; rfl) ?_))
  refine l_given hW (C := fun q => T (102 + 96 * x + q)) a4 a6 a7 x3 a13 (hf key' len' x2 x3 x1) len' 0 [] _ _ _ _ rfl rfl (by omega) (Nat.le_refl _) x4 (fun i hi => absurd hi (Nat.not_lt_zero i)) (fun _ _ => rfl) (fun I2 h2 => ?_)
  have := hQ I2 h2
  unfold gvF at this
  rw [hl] at this
  exact this
theorem mx_wi99 {x : Int32} (h : x ≤ 99) : mx x 0 = wi x 0 99 := by
  unfold mx wi
  by_cases h0 : x < 0
  · rw [if_pos h0, if_neg (fun q => by rw [tI_lt] at h0; rw [tI_le] at q; omega)]
  · rw [if_neg h0, if_pos (by rw [tI_lt] at h0; rw [tI_le]; omega), if_pos h]
theorem nI_sub1 {z : Nat} (h : z ≤ 99) : nI z - 1 ≤ 99 := by
  have e1 : (1 : Int32).toInt = 1 := rfl
  have e9 : (99 : Int32).toInt = 99 := rfl
  have ez : (nI z).toInt = (z : Int) := tI_nI (by omega)
  rw [tI_le, tI_sub (by omega) (by omega)]
  omega
/-- the component's ways of filling, keeping, worth are the model's -/
theorem tk_mn {kd : Int32} {b m v : Nat} (hb : b ≤ 99) (hm : m ≤ b) (hv : v < 2147483647) : kdF kd (mn (nI v) (nI m)) (mn (mn (nI v) (nI m)) (nI b / 2)) (mn (mn (nI v) (nI m) + 1) (nI b)) (mn (mn (nI v) (nI m)) (nI b / 2) - mn (mn (nI v) (nI m)) (nI b / 2) / 5) (mn (mn (nI v) (nI m) + 1) (nI b) / 2) (nI b) = tkF kd (nI b) (nI m) (nI v) := by
  unfold tkF
  rw [mn_nI (by omega) (by omega), wi_nn (by omega) (by omega), show nI b / 2 = nI (b / 2) from pk_div (d := 2) (by omega) (by decide) (by decide), show nI (min v m) + 1 = nI (min v m + 1) from nI_1 _, mn_nI (by omega) (by omega), wi_nn (by omega) (by omega), mn_nI (by omega) (by omega), wi_nn (by omega) (by omega)]
theorem kp_mn {kd : Int32} {b m v h : Nat} (hb : b ≤ 99) (hm : m ≤ b) (hv : v ≤ b) (hh : h ≤ 9) : kdF kd (mn (nI v + nI h / 3) (nI b)) (mx (mn (nI v + nI h / 3) (nI b)) (nI m)) (nI v) (mx (mx (mn (nI v + nI h / 3) (nI b)) (nI m) - 1) 0) (mx (nI v - 1) 0) (nI b) = kpF kd (nI b) (nI m) (nI h) (nI v) := by
  unfold kpF
  rw [show nI h / 3 = nI (h / 3) from pk_div (d := 3) (by omega) (by decide) (by decide), nI_add, mn_nI (by omega) (by omega), wi_nn (by omega) (by omega)]
  rw [show (if nI (min (v + h / 3) b) < nI m then nI m else nI (min (v + h / 3) b)) = mx (nI (min (v + h / 3) b)) (nI m) from rfl]
  rw [mx_nI (by omega) (by omega), mx_wi99 (nI_sub1 (by omega)), mx_wi99 (nI_sub1 (by omega))]
theorem wr_mx {kd : Int32} {b m : Nat} (hb : b ≤ 99) (hm : m ≤ b) : kdF kd (nI m) (nI m + 40) (nI b - nI m) ((nI m + 40) / 2) (mx (nI b - nI m - 5) 0) 3 = wrF kd (nI b) (nI m) := by
  unfold wrF
  have h : nI b - nI m - 5 ≤ 99 := by
    have e5 : (5 : Int32).toInt = 5 := rfl
    have e9 : (99 : Int32).toInt = 99 := rfl
    have ez : (nI (b - m)).toInt = ((b - m : Nat) : Int) := tI_nI (by omega)
    rw [nI_sub hm, tI_le, tI_sub (by omega) (by omega)]
    omega
  rw [mx_wi99 h]
theorem c_drawn {nx sl : Nat} {ln : Nat → Nat} {R : Nat → Nat → Option Nat} {I : Nat → Nat → Int32} {Q : Option Value → Hp → Prop} {k : Nat} (hW : SW nx ln R) {t : Nat} {z : Int32} (ht : Tw t) (hz : I t 10 = z) (hQ : Q (some (.int (dw z))) (nx, sl, ln, R, up2 I t 10 (zN z))) : Go k mX6_drawn [.ref t] (nx, sl, ln, R, I) Q := by
  refine Go_wp 30 rfl ?_
  refine And.intro (w_t hW ht) ?_
  rw [hz]
  refine And.intro (w_t hW ht) ?_
  refine And.intro (w_t hW ht) ?_
  have hQ2 : Q (some (.int (ius (up2 I t 10 (zN z) t 10) 8))) (nx, sl, ln, R, up2 I t 10 (zN z)) := by rw [up2_eq, up1_eq]; exact hQ
  exact hQ2
/-- only the names and the stack of the laws are otherwise -/
def F34 (I I' : Nat → Nat → Int32) : Prop := ∀ o, ¬ o = 3 → ¬ o = 4 → I' o = I o
theorem F34.rf {I : Nat → Nat → Int32} : F34 I I := fun _ _ _ => rfl
theorem wn_ok {T : Nat → Int32} {n m j : Nat} (hT : IT T n m) (hj : j < n) : ∃ v, v ≤ 99 ∧ wnF T j = nI v := by
  obtain ⟨kd, b, mk, hd, fl, j1, j2, j3, j4, j5, j6, j7, j8, j9, j10, j11⟩ := hT.2.2.1 j hj
  unfold wnF
  split
  · exact ⟨mk, by omega, j6⟩
  · rw [j3]
    obtain ⟨v, h1, h2⟩ := wi_nI (gvF T (cnF T 0 (T 7).toNatClampNeg).toNatClampNeg (faF T j)) (show b < 2147483648 by omega)
    exact ⟨v, by omega, h2⟩
set_option maxHeartbeats 1000000 in
theorem c_plainOf {nx sl : Nat} {ln : Nat → Nat} {R : Nat → Nat → Option Nat} {I : Nat → Nat → Int32} {Q : Option Value → Hp → Prop} {k : Nat} (hW : SW nx ln R) {t n m j : Nat} {T : Nat → Int32} (ht : Tw t) (hC : CT I t T n m) (hT : IT T n m) (hL : LT nx ln R I T m) (hj : j < n) (hQ : ∀ I', F34 I I' → Q (some (.int (wnF T j))) (nx, sl, ln, R, I')) : Go (k + 2) mX6_plainOf [.ref t, .ref (t + 2 + j)] (nx, sl, ln, R, I) Q := by
  have hn10 := hT.2.1
  have hj10 : j < 10 := by omega
  have htl := tw_lt ht
  obtain ⟨kd, b, mk, hd, fl, j1, j2, j3, j4, j5, j6, j7, j8, j9, j10, j11⟩ := hT.2.2.1 j hj
  obtain ⟨c1, c2, c3, c4, c5, c6, c7, c8, c9, c10, c11, c12⟩ := id hC
  have i7 := hT.2.2.2.2.2.2.1
  have i8 := hT.2.2.2.2.2.2.2.1
  have ec : cnF T 0 (T 7).toNatClampNeg = cnF T (nI 0) m := by rw [i7, ix (by omega)]; rfl
  unfold wnF at hQ
  rw [ec] at hQ
  refine Go_wp 100 rfl ?_
  refine And.intro (w_t hW ht) (Exists.intro _ (And.intro (w_r12 hW ht) ?_))
  refine And.intro (w_c hW ht (i := 0) (by decide)) ?_
  rw [show I (t + 14) (0 : Int32).toNatClampNeg = coF T 0 m from c12 0 (by decide)]
  unfold coF
  rcases cn_ok (T := T) (key := nI 0) m i8 with hc | ⟨x, hx, hc⟩
  · rw [if_pos hc] at hQ
    rw [if_pos hc]
    refine And.intro (fun h => absurd rfl h) (fun _ => ?_)
    refine And.intro (w_kj hW ht (hj10)) ?_
    have := hQ I F34.rf
    rw [← c2 j hj 2 (by decide)] at this
    exact this
  · rw [hc, if_neg (nI_pos (by omega)), ix (by omega)] at hQ
    rw [hc, if_neg (nI_pos (by omega))]
    refine And.intro (fun _ => ?_) (fun h => absurd (Decidable.of_not_not h) (fun w => absurd (show nI x < 0 by rw [w]; decide) (nI_pos (by omega))))
    refine And.intro (w_t hW ht) (Exists.intro _ (And.intro (w_r0 hW ht) ?_))
    refine And.intro (w_kj hW ht (hj10)) ?_
    refine And.intro (sw_k hW (Nat.le_of_ble_eq_true rfl) rfl) ?_
    refine c_name (L := 109) hW (by decide) ?_
    refine And.intro (w_t hW ht) (Exists.intro _ (And.intro (w_r0 hW ht) ?_))
    refine And.intro (w_kj hW ht (hj10)) ?_
    refine And.intro (sw_k hW (Nat.le_of_ble_eq_true rfl) rfl) ?_
    refine c_name (L := 98) hW (by decide) ?_
    refine And.intro (w_t hW ht) (Exists.intro _ (And.intro (w_r0 hW ht) ?_))
    refine And.intro (w_t hW ht) (Exists.intro _ (And.intro (w_r3 hW ht) ?_))
    refine And.intro (w_kj hW ht (hj10)) ?_
    rw [up2_ne (show ¬ t + 2 + j = 3 by omega), up2_ne (show ¬ t + 2 + j = 3 by omega), c2 j hj 3 (by decide), j8, c2 j hj 1 (by decide), c2 j hj 2 (by decide)]
    refine And.intro (w_h hW ht (i := hd) (by omega)) ?_
    rw [up2_ne (show ¬ t + 12 = 3 by omega), up2_ne (show ¬ t + 12 = 3 by omega), ix (show hd < 2147483648 by omega), c3 hd (by omega)]
    refine And.intro (sw_k hW (Nat.le_of_ble_eq_true rfl) rfl) ?_
    refine c_name (L := 104) hW (by decide) ?_
    refine And.intro (w_t hW ht) (Exists.intro _ (And.intro (w_r0 hW ht) ?_))
    refine And.intro (w_t hW ht) ?_
    rw [up2_ne (show ¬ t = 3 by omega), up2_ne (show ¬ t = 3 by omega), up2_ne (show ¬ t = 3 by omega), c9]
    refine And.intro (sw_k hW (Nat.le_of_ble_eq_true rfl) rfl) ?_
    refine c_name (L := 110) hW (by decide) ?_
    refine And.intro (w_t hW ht) (Exists.intro _ (And.intro (w_r0 hW ht) ?_))
    obtain ⟨I4, hI4⟩ : ∃ I4, up2 (up2 (up2 (up2 I 3 (109 - 97) (T (24 + 5 * j + 2))) 3 (98 - 97) (T (24 + 5 * j + 1))) 3 (104 - 97) (T (8 + hd))) 3 (110 - 97) (T 2) = I4 := ⟨_, rfl⟩
    rw [hI4]
    have h4 : ∀ o, ¬ o = 3 → I4 o = I o := fun o ho => by rw [← hI4, up2_ne ho, up2_ne ho, up2_ne ho, up2_ne ho]
    have ek := cn_key m i8 hx hc
    refine And.intro (sw_k hW (Nat.le_of_ble_eq_true rfl) rfl) ?_
    refine c_given (f := faF T j) hW (by omega) (hT.2.2.2.2.2.2.2.2 x hx) ?_ ?_ (fun I5 h5 => ?_)
    · exact (hL.keep (fun o ho => h4 o (by omega)) (fun _ _ => rfl)) x hx
    · intro key len hk hl e
      have : key = 0 := key_of e hk hl ek (by omega)
      subst this
      intro q hq
      have hq4 : q < 4 := hq
      rw [← hI4]
      match q, hq4 with
      | 0, _ => rfl
      | 1, _ => rfl
      | 2, _ => show T (8 + hd) = T (8 + (T (24 + 5 * j + 3)).toNatClampNeg); rw [j8, ix (by omega)]
      | 3, _ => rfl
    · refine And.intro (w_kj hW ht (hj10)) ?_
      rw [h5 _ (show ¬ t + 2 + j = 4 by omega), h4 _ (show ¬ t + 2 + j = 3 by omega), c2 j hj 1 (by decide)]
      refine c_held (by rw [j3]; exact nI_pos' (by omega)) ?_
      exact hQ I5 (fun o a b => (h5 o b).trans (h4 o a))
