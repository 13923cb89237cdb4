/-! Measuring: the model's search. -/
def BH (I : Nat → Nat → Int32) (t : Bs) : Prop := (∀ c, c < 10000 → I 89 c = nI (t.2.1 c)) ∧ (∀ i, i < t.1 → I 90 i = nI (t.2.2 i)) ∧ I 85 6 = nI t.1
def FB (I I' : Nat → Nat → Int32) : Prop := (∀ o, ¬ o = 85 → ¬ o = 89 → ¬ o = 90 → I' o = I o) ∧ ∀ q, ¬ q = 6 → I' 85 q = I 85 q
theorem FB.rf {I : Nat → Nat → Int32} : FB I I := ⟨fun _ _ _ _ => rfl, fun _ _ => rfl⟩
theorem FB.tr {I J K : Nat → Nat → Int32} (h1 : FB I J) (h2 : FB J K) : FB I K := ⟨fun o a b c => (h2.1 o a b c).trans (h1.1 o a b c), fun q h => (h2.2 q h).trans (h1.2 q h)⟩
theorem bi_q {a b v k : Nat} {t : Bs} (ha9 : a ≤ 99) (hb9 : b ≤ 99) (h : BI a b v k t) : t.1 ≤ 10000 := by
  rcases Nat.lt_or_ge t.1 10001 with q | q
  · omega
  · obtain ⟨i, j, h1, h2, h3⟩ := pigeon 10000 (fun i => t.2.2 i) (fun i hi => by have := h.2.2.1 i (by omega); omega)
    exact absurd h3 (h.2.2.2.2.1 i j h1 (by omega))
theorem bi_st {a b v k c : Nat} {t : Bs} (ha9 : a ≤ 99) (hb9 : b ≤ 99) (h : BI a b v k t) : t.2.1 c ≤ 10000 := by
  by_cases e : t.2.1 c = 0
  · omega
  · obtain ⟨i, i1, i2⟩ := h.2.2.2.1 c e
    have h1 := (h.2.2.1 i i1).2.2.2.1
    have h2 := bi_q ha9 hb9 h
    rw [i2] at h1
    omega
theorem hx100 (x y : Nat) : (100 : Int32) * nI x + nI y = nI (100 * x + y) := by rw [show (100 : Int32) = nI 100 from rfl, nI_mul, nI_add]
theorem s_comesTo {nx sl : Nat} {ln : Nat → Nat} {R : Nat → Nat → Option Nat} {I : Nat → Nat → Int32} {Q : Option Value → Hp → Prop} {k : Nat} (hW : SW nx ln R) {x y far : Nat} {t : Bs} (hx : x ≤ 99) (hy : y ≤ 99) (hH : BH I t) (hr : t.2.1 (100 * x + y) = 0 → t.1 < 10000) (hst : t.2.1 (100 * x + y) ≤ 10000) (hQ : ∀ I2, BH I2 (psh t (100 * x + y) far) → FB I I2 → Q none (nx, sl, ln, R, I2)) : Go k mX8_comesTo [.ref 85, .int (nI x), .int (nI y), .int (nI far)] (nx, sl, ln, R, I) Q := by
  obtain ⟨q, St, Qu⟩ := t
  obtain ⟨h1, h2, h3⟩ := hH
  dsimp only at *
  have gx : (KD 89 = 11 ∧ 89 < nx) ∧ ¬ ((100 : Int32) * nI x + nI y) < 0 ∧ ((100 : Int32) * nI x + nI y).toNatClampNeg < ln 89 := by rw [hx100]; exact sw_n hW (Nat.le_of_ble_eq_true rfl) rfl rfl (show 100 * x + y < 10000 by omega) (Nat.le_of_ble_eq_true rfl)
  have ec : ((100 : Int32) * nI x + nI y).toNatClampNeg = 100 * x + y := by rw [hx100, ix (by omega)]
  refine Go_wp 60 rfl ?_
  refine And.intro (sw_k hW (Nat.le_of_ble_eq_true rfl) rfl) ?_
  refine Exists.intro _ (And.intro (sw_r hW (Nat.le_of_ble_eq_true rfl) rfl rfl) ?_)
  refine And.intro gx ?_
  rw [ec, h1 _ (by omega)]
  refine And.intro (fun e => ?_) (fun e => ?_)
  · refine hQ I ?_ FB.rf
    unfold psh
    dsimp only
    rw [if_neg (fun q2 => e (by rw [q2]; rfl))]
    exact ⟨h1, h2, h3⟩
  · have e0 : St (100 * x + y) = 0 := (nI_eq (b := 0) (by omega) (by decide)).mp (Decidable.of_not_not e)
    have hq := hr e0
    refine And.intro (sw_k hW (Nat.le_of_ble_eq_true rfl) rfl) ?_
    refine Exists.intro _ (And.intro (sw_r hW (Nat.le_of_ble_eq_true rfl) rfl rfl) ?_)
    refine And.intro gx ?_
    rw [ec]
    refine And.intro (sw_k hW (Nat.le_of_ble_eq_true rfl) rfl) ?_
    refine Exists.intro _ (And.intro (sw_r hW (Nat.le_of_ble_eq_true rfl) rfl rfl) ?_)
    refine And.intro (sw_k hW (Nat.le_of_ble_eq_true rfl) rfl) ?_
    rw [show up2 I 89 (100 * x + y) (nI far) 85 6 = nI q by rw [up2_ne (by decide)]; exact h3]
    refine And.intro (sw_n hW (Nat.le_of_ble_eq_true rfl) rfl rfl hq (Nat.le_of_ble_eq_true rfl)) ?_
    rw [ix (show q < 2147483648 by omega), hx100]
    refine And.intro (sw_k hW (Nat.le_of_ble_eq_true rfl) rfl) ?_
    rw [show up2 (up2 I 89 (100 * x + y) (nI far)) 90 q (nI (100 * x + y)) 85 6 = nI q by rw [up2_ne (by decide), up2_ne (by decide)]; exact h3]
    refine And.intro (sw_k hW (Nat.le_of_ble_eq_true rfl) rfl) ?_
    refine hQ _ ?_ ⟨fun o a b c => by rw [up2_ne a, up2_ne c, up2_ne b], fun p hp => by rw [up2_eq, up1_ne hp, up2_ne (by decide), up2_ne (by decide)]⟩
    unfold psh
    dsimp only
    rw [if_pos e0]
    refine ⟨fun c hc => ?_, fun i hi => ?_, ?_⟩ <;> dsimp only at *
    · rw [up2_ne (by decide), up2_ne (by decide), up2_eq]
      by_cases ee : c = 100 * x + y
      · subst ee; rw [up1_eq, up1_eq]
      · rw [up1_ne ee, up1_ne ee]; exact h1 c hc
    · rw [up2_ne (by decide), up2_eq]
      by_cases ee : i = q
      · subst ee; rw [up1_eq, up1_eq]
      · rw [up1_ne ee, up1_ne ee]; exact h2 i (by omega)
    · rw [up2_eq, up1_eq]; exact nI_1 q
/-- the first so many steps from a state are queued -/
def Dn (a b c0 d0 m : Nat) (t : Bs) : Prop := ∀ n, n < m → ¬ t.2.1 (cod (mvF a b (dec c0) n)) = 0 ∧ t.2.1 (cod (mvF a b (dec c0) n)) ≤ d0 + 1
theorem s_push {nx sl : Nat} {ln : Nat → Nat} {R : Nat → Nat → Option Nat} {I : Nat → Nat → Int32} {Q : Option Value → Hp → Prop} {k : Nat} (hW : SW nx ln R) {a b v j n c0 d0 : Nat} {t : Bs} {X Y F : Int32} (ha9 : a ≤ 99) (hb9 : b ≤ 99) (hB : BI a b v j t) (hj : j < t.1) (hc : t.2.2 j = c0) (hd : t.2.1 c0 = d0) (hH : BH I t) (hD : Dn a b c0 d0 n t) (hn : n < 6) (hX : X = nI (mvF a b (dec c0) n).1) (hY : Y = nI (mvF a b (dec c0) n).2) (hF : F = nI (d0 + 1)) (hQ : ∀ I2 t2, BI a b v j t2 → j < t2.1 → t2.2.2 j = c0 → t2.2.1 c0 = d0 → BH I2 t2 → Dn a b c0 d0 (n + 1) t2 → FB I I2 → Q none (nx, sl, ln, R, I2)) : Go k mX8_comesTo [.ref 85, .int X, .int Y, .int F] (nx, sl, ln, R, I) Q := by
  subst hX
  subst hY
  subst hF
  have hp := bi_psh ha9 hb9 hB hj hn
  obtain ⟨k1, k2, k3, k4, k5⟩ := hB.2.2.1 j hj
  rw [hc, hd] at hp
  rw [hc] at k1 k2 k3
  have hpb := mv_bd (a := a) (b := b) (s := dec c0) k1 k2 hn
  obtain ⟨p1, p2, p3, p4, p5, p6⟩ := hp
  refine s_comesTo (t := t) hW (by omega) (by omega) hH (fun e => bi_room ha9 hb9 hB e (by omega)) (bi_st ha9 hb9 hB) (fun I2 hH2 hF2 => ?_)
  refine hQ I2 _ p1 (by omega) p2 (by rw [p4 c0 (by omega)]; exact hd) hH2 (fun m hm => ?_) hF2
  by_cases e : m = n
  · subst e
    exact ⟨p5, p6⟩
  · obtain ⟨g1, g2⟩ := hD m (by omega)
    rw [p4 _ g1]
    exact ⟨g1, g2⟩
theorem bi_next {a b v j c0 d0 : Nat} {t : Bs} (h : BI a b v j t) (hj : j < t.1) (hc : t.2.2 j = c0) (hd : t.2.1 c0 = d0) (hD : Dn a b c0 d0 6 t) (hv : ¬ Hv v (dec c0)) : BI a b v (j + 1) t := by
  obtain ⟨q, St, Qu⟩ := t
  obtain ⟨h0, h1, h4, h5, h6, h7, h8, h9, h10⟩ := h
  dsimp only at *
  refine ⟨by dsimp only; omega, h1, h4, h5, h6, h7, fun i hi hj1 => ?_, fun i hi n hn => ?_, fun i hi => ?_⟩ <;> dsimp only at *
  · have := h8 i hi hj
    have := h7 j (j + 1) (by omega) hj1
    omega
  · by_cases e : i = j
    · subst e
      rw [hc, hd]
      exact hD n hn
    · exact h9 i (by omega) n hn
  · by_cases e : i = j
    · subst e
      rw [hc]
      exact hv
    · exact h10 i (by omega)
