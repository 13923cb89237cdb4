/-! Public methods: measure. -/
theorem l_zero {nx sl : Nat} {ln : Nat → Nat} {R : Nat → Nat → Option Nat} {I : Nat → Nat → Int32} {Q : Option Value → Hp → Prop} {k : Nat} (hW : SW nx ln R) {x1 x2 x3 x4 x5 x7 x8 x9 xa xb : Option Value} (hQ : ∀ (I2 : Nat → Nat → Int32) (nn : Nat) (x6 : Option Value), (∀ c, c < 10000 → I2 89 c = 0) → (∀ o, ¬ o = 89 → I2 o = I o) → wp (nn + 20) (k + 2) mX8_measure 75 [some (.ref 85), x1, x2, x3, x4, x5, x6, x7, x8, x9, xa, xb] [] (nx, sl, ln, R, I2) Q) : ∀ (r i : Nat) (xi : Int32) (I1 : Nat → Nat → Int32), xi = nI i → i + r = 10000 → (∀ c, c < i → I1 89 c = 0) → (∀ o, ¬ o = 89 → I1 o = I o) → GoF (k + 2) mX8_measure 53 [some (.ref 85), x1, x2, x3, x4, x5, some (.int xi), x7, x8, x9, xa, xb] [] (nx, sl, ln, R, I1) Q := by
  intro r
  induction r with
  | zero =>
    intro i xi I1 hxi hir h0 h1
    have hid : i = 10000 := by omega
    subst hid
    subst hxi
    refine GoF_wp1 30 ?_
    exact And.intro (fun _ => hQ I1 _ _ h0 h1) (fun h => absurd (Int32.le_refl _) h)
  | succ r ih =>
    intro i xi I1 hxi hir h0 h1
    subst hxi
    refine GoF_wp1 30 ?_
    refine And.intro (fun h => absurd h (nI_ge (b := 10000) (by omega) (by decide))) (fun _ => ?_)
    refine And.intro (sw_k hW (Nat.le_of_ble_eq_true rfl) rfl) ?_
    refine Exists.intro _ (And.intro (sw_r hW (Nat.le_of_ble_eq_true rfl) rfl rfl) ?_)
    refine And.intro (sw_n hW (Nat.le_of_ble_eq_true rfl) rfl rfl (show i < 10000 by omega) (Nat.le_of_ble_eq_true rfl)) ?_
    rw [ix (show i < 2147483648 by omega)]
    refine ih (i + 1) _ _ (nI_1 i) (by omega) (fun c hc => ?_) (fun o ho => by rw [up2_ne ho]; exact h1 o ho)
    rw [up2_eq]
    by_cases e : c = i
    · subst e; rw [up1_eq]
    · rw [up1_ne e]; exact h0 c (by omega)
theorem l_meas {nx sl : Nat} {ln : Nat → Nat} {R : Nat → Nat → Option Nat} {I : Nat → Nat → Int32} {Q : Option Value → Hp → Prop} {k : Nat} (hW : SW nx ln R) {a b v : Nat} {x1 x2 : Option Value} (ha9 : a ≤ 99) (hb9 : b ≤ 99) (hv : v ≤ 99) : ∀ (r j : Nat) (xj : Int32) (x7 x8 x9 xa xb : Option Value) (I1 : Nat → Nat → Int32) (t : Bs), xj = nI j → j + r = 10000 → BI a b v j t → BH I1 t → FB I I1 → (∀ I2, FB I I2 → (∀ L p, Rch a b L p → Hv v p → (∀ L' p', Rch a b L' p' → Hv v p' → L ≤ L') → Q (some (.int (nI L))) (nx, sl, ln, R, I2)) ∧ ((∀ L p, Rch a b L p → ¬ Hv v p) → Q (some (.int (-1000000005))) (nx, sl, ln, R, I2))) → GoF (k + 2) mX8_measure 90 [some (.ref 85), x1, x2, some (.int (nI v)), some (.int (nI a)), some (.int (nI b)), some (.int xj), x7, x8, x9, xa, xb] [] (nx, sl, ln, R, I1) Q := by
  intro r
  induction r with
  | zero =>
    intro j xj x7 x8 x9 xa xb I1 t hxj hjr hB hH hF hQ
    subst hxj
    have hq := bi_q ha9 hb9 hB
    have h0 := hB.1
    have e : t.1 = j := by omega
    refine GoF_wp1 30 ?_
    refine And.intro (sw_k hW (Nat.le_of_ble_eq_true rfl) rfl) ?_
    rw [hH.2.2, e]
    refine And.intro (fun _ => ?_) (fun h => absurd (Int32.le_refl _) h)
    rw [← e] at hB
    exact (hQ I1 hF).2 (bi_end hb9 hB)
  | succ r ih =>
    intro j xj x7 x8 x9 xa xb I1 t hxj hjr hB0 hH0 hF hQ
    subst hxj
    have hq := bi_q ha9 hb9 hB0
    have h0 := hB0.1
    refine GoF_wp1 120 ?_
    refine And.intro (sw_k hW (Nat.le_of_ble_eq_true rfl) rfl) ?_
    rw [hH0.2.2]
    by_cases hj0 : j < t.1
    · refine And.intro (fun h => absurd h (nI_ge hj0 (by omega))) (fun _ => ?_)
      obtain ⟨c0, hc0⟩ : ∃ c, t.2.2 j = c := ⟨_, rfl⟩
      obtain ⟨d0, hd0⟩ : ∃ d, t.2.1 c0 = d := ⟨_, rfl⟩
      obtain ⟨k1, k2, k3, k4, k5⟩ := hB0.2.2.1 j hj0
      rw [hc0] at k1 k2 k3 k4 k5
      rw [hd0] at k3 k4 k5
      have eqj : I1 90 (nI j).toNatClampNeg = nI c0 := by rw [ix (by omega), hH0.2.1 j hj0, hc0]
      have e100 : (100 : Int32) = nI 100 := rfl
      have ediv : nI c0 / 100 = nI (c0 / 100) := pk_div (d := 100) (by omega) (by decide) (by decide)
      have erem : irm (nI c0) 100 = nI (c0 % 100) := irm_nI (b := 100) (by omega) (by decide) (by decide)
      refine And.intro (sw_k hW (Nat.le_of_ble_eq_true rfl) rfl) ?_
      refine Exists.intro _ (And.intro (sw_r hW (Nat.le_of_ble_eq_true rfl) rfl rfl) ?_)
      refine And.intro (sw_n hW (Nat.le_of_ble_eq_true rfl) rfl rfl (show j < 10000 by omega) (Nat.le_of_ble_eq_true rfl)) ?_
      rw [eqj]
      refine And.intro (by decide) ?_
      rw [ediv]
      refine And.intro (sw_k hW (Nat.le_of_ble_eq_true rfl) rfl) ?_
      refine Exists.intro _ (And.intro (sw_r hW (Nat.le_of_ble_eq_true rfl) rfl rfl) ?_)
      refine And.intro (sw_n hW (Nat.le_of_ble_eq_true rfl) rfl rfl (show j < 10000 by omega) (Nat.le_of_ble_eq_true rfl)) ?_
      rw [eqj]
      refine And.intro (by decide) ?_
      rw [erem]
      refine And.intro (sw_k hW (Nat.le_of_ble_eq_true rfl) rfl) ?_
      refine Exists.intro _ (And.intro (sw_r hW (Nat.le_of_ble_eq_true rfl) rfl rfl) ?_)
      refine And.intro (sw_k hW (Nat.le_of_ble_eq_true rfl) rfl) ?_
      refine Exists.intro _ (And.intro (sw_r hW (Nat.le_of_ble_eq_true rfl) rfl rfl) ?_)
      refine And.intro (sw_n hW (Nat.le_of_ble_eq_true rfl) rfl rfl (show j < 10000 by omega) (Nat.le_of_ble_eq_true rfl)) ?_
      rw [eqj]
      refine And.intro (sw_n hW (Nat.le_of_ble_eq_true rfl) rfl rfl (show c0 < 10000 by omega) (Nat.le_of_ble_eq_true rfl)) ?_
      rw [ix (show c0 < 2147483648 by omega), hH0.1 c0 (by omega), hd0]
      obtain ⟨x, hx⟩ : ∃ x, c0 / 100 = x := ⟨_, rfl⟩
      obtain ⟨y, hy⟩ : ∃ y, c0 % 100 = y := ⟨_, rfl⟩
      have hdec : dec c0 = (x, y) := pr_eq hx hy
      rw [hx, hy]
      rw [hx] at k1
      rw [hy] at k2
      have hfar : nI d0 + 1 = nI (d0 + 1) := nI_1 d0
      have hres : nI d0 + 1 - 2 = nI (d0 - 1) := by rw [hfar, show (2 : Int32) = nI 2 from rfl, nI_sub (by omega)]; congr 1
      have hit : Hv v (dec c0) → Q (some (.int (nI d0 + 1 - 2))) (nx, sl, ln, R, I1) := fun hh => by
        have h1 := bi_hit hb9 hB0 hj0 (by rw [hc0]; exact hh)
        rw [hc0, hd0] at h1
        rw [hres]
        exact (hQ I1 hF).1 (d0 - 1) _ h1.1 hh h1.2
      refine And.intro (fun e => ?_) (fun ex => ?_)
      · exact hit (by rw [hdec]; exact Or.inl ((nI_eq (by omega) (by omega)).mp e))
      · refine And.intro (fun ey => ?_) (fun e => ?_)
        · have hnv : ¬ Hv v (dec c0) := by
            rw [hdec]
            intro q
            rcases q with q | q
            · exact ex (by rw [show x = v from q])
            · exact ey (by rw [show y = v from q])
          have hD0 : Dn a b c0 d0 0 t := fun n hn => absurd hn (by omega)
          have eb : nI b - nI y = nI (b - y) := nI_sub (by omega)
          have ea : nI a - nI x = nI (a - x) := nI_sub (by omega)
          by_cases c1 : b - y ≤ x
          · have e51 : nI x - (nI b - nI y) = nI (x - min x (b - y)) := by rw [eb, nI_sub (by omega)]; congr 1; omega
            have e52 : nI y + (nI b - nI y) = nI (y + min x (b - y)) := by rw [eb, nI_add]; congr 1; omega
            refine And.intro (fun _ => ?_) (fun h => absurd (by rw [eb]; exact nI_le c1 (by omega)) h)
            by_cases c2 : a - x ≤ y
            · have e61 : nI x + (nI a - nI x) = nI (x + min y (a - x)) := by rw [ea, nI_add]; congr 1; omega
              have e62 : nI y - (nI a - nI x) = nI (y - min y (a - x)) := by rw [ea, nI_sub (by omega)]; congr 1; omega
              refine And.intro (fun _ => ?_) (fun h => absurd (by rw [ea]; exact nI_le c2 (by omega)) h)
              refine And.intro (sw_k hW (Nat.le_of_ble_eq_true rfl) rfl) ?_
              refine s_push (n := 0) (c0 := c0) (d0 := d0) hW ha9 hb9 hB0 hj0 hc0 hd0 hH0 hD0 (by omega) (by rw [hdec]; rfl) (by rw [hdec]; rfl) hfar (fun I2 t1 hB1 hj1 hc1 hd1 hH1 hD1 hG1 => ?_)
              refine And.intro (sw_k hW (Nat.le_of_ble_eq_true rfl) rfl) ?_
              refine s_push (n := 1) (c0 := c0) (d0 := d0) hW ha9 hb9 hB1 hj1 hc1 hd1 hH1 hD1 (by omega) (by rw [hdec]; rfl) (by rw [hdec]; rfl) hfar (fun I3 t2 hB2 hj2 hc2 hd2 hH2 hD2 hG2 => ?_)
              refine And.intro (sw_k hW (Nat.le_of_ble_eq_true rfl) rfl) ?_
              refine s_push (n := 2) (c0 := c0) (d0 := d0) hW ha9 hb9 hB2 hj2 hc2 hd2 hH2 hD2 (by omega) (by rw [hdec]; rfl) (by rw [hdec]; rfl) hfar (fun I4 t3 hB3 hj3 hc3 hd3 hH3 hD3 hG3 => ?_)
              refine And.intro (sw_k hW (Nat.le_of_ble_eq_true rfl) rfl) ?_
              refine s_push (n := 3) (c0 := c0) (d0 := d0) hW ha9 hb9 hB3 hj3 hc3 hd3 hH3 hD3 (by omega) (by rw [hdec]; rfl) (by rw [hdec]; rfl) hfar (fun I5 t4 hB4 hj4 hc4 hd4 hH4 hD4 hG4 => ?_)
              refine And.intro (sw_k hW (Nat.le_of_ble_eq_true rfl) rfl) ?_
              refine s_push (n := 4) (c0 := c0) (d0 := d0) hW ha9 hb9 hB4 hj4 hc4 hd4 hH4 hD4 (by omega) (by rw [hdec]; exact e51) (by rw [hdec]; exact e52) hfar (fun I6 t5 hB5 hj5 hc5 hd5 hH5 hD5 hG5 => ?_)
              refine And.intro (sw_k hW (Nat.le_of_ble_eq_true rfl) rfl) ?_
              refine s_push (n := 5) (c0 := c0) (d0 := d0) hW ha9 hb9 hB5 hj5 hc5 hd5 hH5 hD5 (by omega) (by rw [hdec]; exact e61) (by rw [hdec]; exact e62) hfar (fun I7 t6 hB6 hj6 hc6 hd6 hH6 hD6 hG6 => ?_)
              exact ih (j + 1) _ _ _ _ _ _ _ t6 (nI_1 j) (by omega) (bi_next hB6 hj6 hc6 hd6 hD6 hnv) hH6 (((((((hF.tr hG1).tr hG2).tr hG3).tr hG4).tr hG5).tr hG6)) hQ
            · have e61 : nI x + nI y = nI (x + min y (a - x)) := by rw [nI_add]; congr 1; omega
              have e62 : nI y - nI y = nI (y - min y (a - x)) := by rw [nI_sub (Nat.le_refl _)]; congr 1; omega
              refine And.intro (fun h => absurd h (by rw [ea]; exact nI_ge (by omega) (by omega))) (fun _ => ?_)
              refine And.intro (sw_k hW (Nat.le_of_ble_eq_true rfl) rfl) ?_
              refine s_push (n := 0) (c0 := c0) (d0 := d0) hW ha9 hb9 hB0 hj0 hc0 hd0 hH0 hD0 (by omega) (by rw [hdec]; rfl) (by rw [hdec]; rfl) hfar (fun I2 t1 hB1 hj1 hc1 hd1 hH1 hD1 hG1 => ?_)
              refine And.intro (sw_k hW (Nat.le_of_ble_eq_true rfl) rfl) ?_
              refine s_push (n := 1) (c0 := c0) (d0 := d0) hW ha9 hb9 hB1 hj1 hc1 hd1 hH1 hD1 (by omega) (by rw [hdec]; rfl) (by rw [hdec]; rfl) hfar (fun I3 t2 hB2 hj2 hc2 hd2 hH2 hD2 hG2 => ?_)
              refine And.intro (sw_k hW (Nat.le_of_ble_eq_true rfl) rfl) ?_
              refine s_push (n := 2) (c0 := c0) (d0 := d0) hW ha9 hb9 hB2 hj2 hc2 hd2 hH2 hD2 (by omega) (by rw [hdec]; rfl) (by rw [hdec]; rfl) hfar (fun I4 t3 hB3 hj3 hc3 hd3 hH3 hD3 hG3 => ?_)
              refine And.intro (sw_k hW (Nat.le_of_ble_eq_true rfl) rfl) ?_
              refine s_push (n := 3) (c0 := c0) (d0 := d0) hW ha9 hb9 hB3 hj3 hc3 hd3 hH3 hD3 (by omega) (by rw [hdec]; rfl) (by rw [hdec]; rfl) hfar (fun I5 t4 hB4 hj4 hc4 hd4 hH4 hD4 hG4 => ?_)
              refine And.intro (sw_k hW (Nat.le_of_ble_eq_true rfl) rfl) ?_
              refine s_push (n := 4) (c0 := c0) (d0 := d0) hW ha9 hb9 hB4 hj4 hc4 hd4 hH4 hD4 (by omega) (by rw [hdec]; exact e51) (by rw [hdec]; exact e52) hfar (fun I6 t5 hB5 hj5 hc5 hd5 hH5 hD5 hG5 => ?_)
              refine And.intro (sw_k hW (Nat.le_of_ble_eq_true rfl) rfl) ?_
              refine s_push (n := 5) (c0 := c0) (d0 := d0) hW ha9 hb9 hB5 hj5 hc5 hd5 hH5 hD5 (by omega) (by rw [hdec]; exact e61) (by rw [hdec]; exact e62) hfar (fun I7 t6 hB6 hj6 hc6 hd6 hH6 hD6 hG6 => ?_)
              exact ih (j + 1) _ _ _ _ _ _ _ t6 (nI_1 j) (by omega) (bi_next hB6 hj6 hc6 hd6 hD6 hnv) hH6 (((((((hF.tr hG1).tr hG2).tr hG3).tr hG4).tr hG5).tr hG6)) hQ
          · have e51 : nI x - nI x = nI (x - min x (b - y)) := by rw [nI_sub (Nat.le_refl _)]; congr 1; omega
            have e52 : nI y + nI x = nI (y + min x (b - y)) := by rw [nI_add]; congr 1; omega
            refine And.intro (fun h => absurd h (by rw [eb]; exact nI_ge (by omega) (by omega))) (fun _ => ?_)
            by_cases c2 : a - x ≤ y
            · have e61 : nI x + (nI a - nI x) = nI (x + min y (a - x)) := by rw [ea, nI_add]; congr 1; omega
              have e62 : nI y - (nI a - nI x) = nI (y - min y (a - x)) := by rw [ea, nI_sub (by omega)]; congr 1; omega
              refine And.intro (fun _ => ?_) (fun h => absurd (by rw [ea]; exact nI_le c2 (by omega)) h)
              refine And.intro (sw_k hW (Nat.le_of_ble_eq_true rfl) rfl) ?_
              refine s_push (n := 0) (c0 := c0) (d0 := d0) hW ha9 hb9 hB0 hj0 hc0 hd0 hH0 hD0 (by omega) (by rw [hdec]; rfl) (by rw [hdec]; rfl) hfar (fun I2 t1 hB1 hj1 hc1 hd1 hH1 hD1 hG1 => ?_)
              refine And.intro (sw_k hW (Nat.le_of_ble_eq_true rfl) rfl) ?_
              refine s_push (n := 1) (c0 := c0) (d0 := d0) hW ha9 hb9 hB1 hj1 hc1 hd1 hH1 hD1 (by omega) (by rw [hdec]; rfl) (by rw [hdec]; rfl) hfar (fun I3 t2 hB2 hj2 hc2 hd2 hH2 hD2 hG2 => ?_)
              refine And.intro (sw_k hW (Nat.le_of_ble_eq_true rfl) rfl) ?_
              refine s_push (n := 2) (c0 := c0) (d0 := d0) hW ha9 hb9 hB2 hj2 hc2 hd2 hH2 hD2 (by omega) (by rw [hdec]; rfl) (by rw [hdec]; rfl) hfar (fun I4 t3 hB3 hj3 hc3 hd3 hH3 hD3 hG3 => ?_)
              refine And.intro (sw_k hW (Nat.le_of_ble_eq_true rfl) rfl) ?_
              refine s_push (n := 3) (c0 := c0) (d0 := d0) hW ha9 hb9 hB3 hj3 hc3 hd3 hH3 hD3 (by omega) (by rw [hdec]; rfl) (by rw [hdec]; rfl) hfar (fun I5 t4 hB4 hj4 hc4 hd4 hH4 hD4 hG4 => ?_)
              refine And.intro (sw_k hW (Nat.le_of_ble_eq_true rfl) rfl) ?_
              refine s_push (n := 4) (c0 := c0) (d0 := d0) hW ha9 hb9 hB4 hj4 hc4 hd4 hH4 hD4 (by omega) (by rw [hdec]; exact e51) (by rw [hdec]; exact e52) hfar (fun I6 t5 hB5 hj5 hc5 hd5 hH5 hD5 hG5 => ?_)
              refine And.intro (sw_k hW (Nat.le_of_ble_eq_true rfl) rfl) ?_
              refine s_push (n := 5) (c0 := c0) (d0 := d0) hW ha9 hb9 hB5 hj5 hc5 hd5 hH5 hD5 (by omega) (by rw [hdec]; exact e61) (by rw [hdec]; exact e62) hfar (fun I7 t6 hB6 hj6 hc6 hd6 hH6 hD6 hG6 => ?_)
              exact ih (j + 1) _ _ _ _ _ _ _ t6 (nI_1 j) (by omega) (bi_next hB6 hj6 hc6 hd6 hD6 hnv) hH6 (((((((hF.tr hG1).tr hG2).tr hG3).tr hG4).tr hG5).tr hG6)) hQ
            · have e61 : nI x + nI y = nI (x + min y (a - x)) := by rw [nI_add]; congr 1; omega
              have e62 : nI y - nI y = nI (y - min y (a - x)) := by rw [nI_sub (Nat.le_refl _)]; congr 1; omega
              refine And.intro (fun h => absurd h (by rw [ea]; exact nI_ge (by omega) (by omega))) (fun _ => ?_)
              refine And.intro (sw_k hW (Nat.le_of_ble_eq_true rfl) rfl) ?_
              refine s_push (n := 0) (c0 := c0) (d0 := d0) hW ha9 hb9 hB0 hj0 hc0 hd0 hH0 hD0 (by omega) (by rw [hdec]; rfl) (by rw [hdec]; rfl) hfar (fun I2 t1 hB1 hj1 hc1 hd1 hH1 hD1 hG1 => ?_)
              refine And.intro (sw_k hW (Nat.le_of_ble_eq_true rfl) rfl) ?_
              refine s_push (n := 1) (c0 := c0) (d0 := d0) hW ha9 hb9 hB1 hj1 hc1 hd1 hH1 hD1 (by omega) (by rw [hdec]; rfl) (by rw [hdec]; rfl) hfar (fun I3 t2 hB2 hj2 hc2 hd2 hH2 hD2 hG2 => ?_)
              refine And.intro (sw_k hW (Nat.le_of_ble_eq_true rfl) rfl) ?_
              refine s_push (n := 2) (c0 := c0) (d0 := d0) hW ha9 hb9 hB2 hj2 hc2 hd2 hH2 hD2 (by omega) (by rw [hdec]; rfl) (by rw [hdec]; rfl) hfar (fun I4 t3 hB3 hj3 hc3 hd3 hH3 hD3 hG3 => ?_)
              refine And.intro (sw_k hW (Nat.le_of_ble_eq_true rfl) rfl) ?_
              refine s_push (n := 3) (c0 := c0) (d0 := d0) hW ha9 hb9 hB3 hj3 hc3 hd3 hH3 hD3 (by omega) (by rw [hdec]; rfl) (by rw [hdec]; rfl) hfar (fun I5 t4 hB4 hj4 hc4 hd4 hH4 hD4 hG4 => ?_)
              refine And.intro (sw_k hW (Nat.le_of_ble_eq_true rfl) rfl) ?_
              refine s_push (n := 4) (c0 := c0) (d0 := d0) hW ha9 hb9 hB4 hj4 hc4 hd4 hH4 hD4 (by omega) (by rw [hdec]; exact e51) (by rw [hdec]; exact e52) hfar (fun I6 t5 hB5 hj5 hc5 hd5 hH5 hD5 hG5 => ?_)
              refine And.intro (sw_k hW (Nat.le_of_ble_eq_true rfl) rfl) ?_
              refine s_push (n := 5) (c0 := c0) (d0 := d0) hW ha9 hb9 hB5 hj5 hc5 hd5 hH5 hD5 (by omega) (by rw [hdec]; exact e61) (by rw [hdec]; exact e62) hfar (fun I7 t6 hB6 hj6 hc6 hd6 hH6 hD6 hG6 => ?_)
              exact ih (j + 1) _ _ _ _ _ _ _ t6 (nI_1 j) (by omega) (bi_next hB6 hj6 hc6 hd6 hD6 hnv) hH6 (((((((hF.tr hG1).tr hG2).tr hG3).tr hG4).tr hG5).tr hG6)) hQ
        · exact hit (by rw [hdec]; exact Or.inr ((nI_eq (by omega) (by omega)).mp (Decidable.of_not_not e)))
    · have e : t.1 = j := by omega
      refine And.intro (fun _ => ?_) (fun h => absurd (nI_le (by omega) (by omega)) h)
      rw [← e] at hB0
      exact (hQ I1 hF).2 (bi_end hb9 hB0)
