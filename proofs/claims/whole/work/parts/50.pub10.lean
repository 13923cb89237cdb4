/-! Public methods: a jug's numbers set. -/
theorem up1_2 {T : Nat → Int32} {p : Nat} {v w : Int32} : up1 (up1 T p v) p w = up1 T p w := by
  funext q
  by_cases h : q = p
  · subst h; rw [up1_eq, up1_eq]
  · rw [up1_ne h, up1_ne h, up1_ne h]
theorem up1_self {T : Nat → Int32} {p : Nat} : up1 T p (T p) = T := by
  funext q
  by_cases h : q = p
  · subst h; rw [up1_eq]
  · rw [up1_ne h]
theorem JO.mark {T : Nat → Int32} {j v b : Nat} (h : JO T j) (hb : T (24 + 5 * j + 1) = nI b) (hb9 : b ≤ 99) (hv : v ≤ b) : JO (up1 T (24 + 5 * j + 2) (nI v)) j := by
  obtain ⟨kd, b', mk, hd, fl, j1, j2, j3, j4, j5, j6, j7, j8, j9, j10, j11⟩ := h
  have e : b' = b := (nI_eq (by omega) (by omega)).mp (j3.symm.trans hb)
  subst e
  exact ⟨kd, b', v, hd, fl, by rw [up1_ne (by omega)]; exact j1, j2, by rw [up1_ne (by omega)]; exact j3, j4, j5, up1_eq, hv, by rw [up1_ne (by omega)]; exact j8, j9, by rw [up1_ne (by omega)]; exact j10, j11⟩
theorem it_brim {T : Nat → Int32} {n m j b mk : Nat} (hT : IT T n m) (hj : j < n) (h1 : 1 ≤ b) (h9 : b ≤ 99) (hm : mk ≤ b) : IT (up1 (up1 T (24 + 5 * j + 1) (nI b)) (24 + 5 * j + 2) (nI mk)) n m := by
  obtain ⟨i1, i2, i3, i4, i5, i6, i7, i8, i9⟩ := hT
  refine ⟨by rw [up1_ne (by omega), up1_ne (by omega)]; exact i1, i2, fun q hq => ?_, fun i hi => by rw [up1_lt (by omega), up1_lt (by omega)]; exact i4 i hi, fun i hi => by rw [up1_lt (by omega), up1_lt (by omega)]; exact i5 i hi, by rw [up1_ne (by omega), up1_ne (by omega)]; exact i6, by rw [up1_ne (by omega), up1_ne (by omega)]; exact i7, i8, fun t ht => ((i9 t ht).up (by omega)).up (by omega)⟩
  by_cases hqj : q = j
  · subst hqj
    obtain ⟨kd, b', mk', hd, fl, j1, j2, j3, j4, j5, j6, j7, j8, j9, j10, j11⟩ := i3 q hq
    exact ⟨kd, b, mk, hd, fl, by rw [up1_ne (by omega), up1_ne (by omega)]; exact j1, j2, by rw [up1_ne (by omega), up1_eq], h1, h9, up1_eq, hm, by rw [up1_ne (by omega), up1_ne (by omega)]; exact j8, j9, by rw [up1_ne (by omega), up1_ne (by omega)]; exact j10, j11⟩
  · exact ((i3 q hq).up (by omega)).up (by omega)
theorem pub_set (v w x : Int32) : Pub mX7_set mX8_set [.int v, .int w, .int x] := by
  intro k nx sl ln R I hS
  have hW := hS.1
  have ht := tw5
  have ht2 : Tw 20 := Or.inr (Or.inl rfl)
  obtain ⟨n, m, hT, hC, hL, hG, hZ, hZ7, hZ8, -⟩ := id hS.2.1
  have hn := hT.2.1
  refine Go_wp 100 rfl ?_
  refine And.intro (sw_k hW (Nat.le_of_ble_eq_true rfl) rfl) ?_
  refine c_isJug hW hC hT.1 hn (fun i hi e => ?_) (fun e => ?_)
  · subst e
    refine And.intro (fun _ => ?_) (fun h9 => absurd (by decide) h9)
    obtain ⟨kd, b, mk, hd, fl, j1, j2, j3, j4, j5, j6, j7, j8, j9, j10, j11⟩ := hT.2.2.1 i hi
    have e1 : I (5 + 2 + i) 1 = nI b := by rw [hC.2.1 i hi 1 (by decide)]; exact j3
    have e2 : I (5 + 2 + i) 2 = nI mk := by rw [hC.2.1 i hi 2 (by decide)]; exact j6
    have zb : (nI b).toInt = ((b + 1 : Nat) : Int) - 1 := by rw [tI_nI (by omega)]; omega
    have hi10 : i < 10 := by omega
    refine And.intro (sw_k hW (Nat.le_of_ble_eq_true rfl) rfl) ?_
    refine Exists.intro _ (And.intro (sw_r hW (Nat.le_of_ble_eq_true rfl) rfl rfl) ?_)
    refine And.intro (w_t hW ht) (Exists.intro _ (And.intro (w_r1 hW ht) ?_))
    refine And.intro (w_aj hW ht (hi10)) (Exists.intro _ (And.intro (w_jug hW ht (hi10)) ?_))
    by_cases w1 : w = 1
    · subst w1
      refine And.intro (fun h9 => absurd rfl h9) (fun _ => ?_)
      refine c_isBt (a := 1) (b := 99) rfl rfl (fun c hc0 hc e => ?_) (fun e => ?_)
      · subst e
        refine And.intro (fun h9 => absurd h9 (by decide)) (fun _ => ?_)
        refine And.intro (w_kj hW ht (hi10)) ?_
        refine And.intro (w_kj hW ht (hi10)) ?_
        refine And.intro (w_kj hW ht (hi10)) ?_
        rw [show up2 I (5 + 2 + i) 1 (nI c) (5 + 2 + i) 2 = nI mk by rw [up2_eq, up1_ne (by decide)]; exact e2]
        refine And.intro (w_kj hW ht (hi10)) ?_
        rw [show (if nI c < nI mk then nI c else nI mk) = wi (nI mk) 0 (nI c) from mn_wi (by omega) (by omega)]
        rw [e1]
        refine ⟨_, rfl, ?_⟩
        have hI := it_brim hT hi hc0 hc (show min mk c ≤ c by omega)
        have ew : wi (nI mk) 0 (nI c) = nI (min mk c) := wi_nn (by omega) (by omega)
        rw [← ew] at hI
        have hC2 := (hC.jug (v := nI c) hn hi (w := 1) (by decide)).jug (v := wi (nI mk) 0 (nI c)) hn hi (w := 2) (by decide)
        have hF : Fr 5 I (up2 (up2 I (5 + 2 + i) 1 (nI c)) (5 + 2 + i) 2 (wi (nI mk) 0 (nI c))) := (Fr.up (by omega)).tr (Fr.up (by omega))
        obtain ⟨I2, hI2⟩ : ∃ I2, up2 (up2 I (5 + 2 + i) 1 (nI c)) (5 + 2 + i) 2 (wi (nI mk) 0 (nI c)) = I2 := ⟨_, rfl⟩
        rw [hI2] at hC2 hF ⊢
        have h86 : I2 86 = I 86 := hF 86 (by omega) (by decide) (by decide)
        rw [← nw_is h86]
        refine Go_wp 80 rfl ?_
        refine And.intro (sw_k hW (Nat.le_of_ble_eq_true rfl) rfl) ?_
        refine s_isJug (n := n) hW hT.1 hn (fun _ _ _ => ?_) (fun e => absurd rfl (e i hi))
        refine And.intro (fun _ => ?_) (fun h9 => absurd (by decide) h9)
        refine And.intro (fun h9 => absurd rfl h9) (fun _ => ?_)
        refine s_isBt (a := 1) (b := 99) rfl rfl (fun _ _ _ _ => ?_) (fun e => absurd rfl (e c hc0 hc))
        refine And.intro (fun _ => ?_) (fun h9 => absurd (by decide) h9)
        refine And.intro (fun _ => ?_) (fun h9 => absurd (by decide) h9)
        refine And.intro (sw_k hW (Nat.le_of_ble_eq_true rfl) rfl) ?_
        rw [show (24 : Int32) + 5 * nI i + 1 = nI (24 + 5 * i + 1) from jx i 1]
        refine s_swaps hW (by omega) ?_
        refine And.intro (sw_k hW (Nat.le_of_ble_eq_true rfl) rfl) ?_
        refine s_holdsMark hW hi10 ?_
        rw [show up1 (I 86) (24 + 5 * i + 1) (nI c) (24 + 5 * i + 2) = nI mk by rw [up1_ne (by omega)]; exact j6, show up1 (I 86) (24 + 5 * i + 1) (nI c) (24 + 5 * i + 1) = nI c from up1_eq, j3]
        exact pub_end (sim_now hS hT hF Sc.rf hI hC2 (hG.keep (by rw [up1_ne (by omega), up1_ne (by omega)]) (by rw [up1_ne (by omega), up1_ne (by omega)])) (fun p hp => by rw [up1_ne (by omega), up1_ne (by omega)]))
      · refine And.intro (fun _ => ?_) (fun h9 => absurd rfl h9)
        refine And.intro (fun _ => ?_) (fun h9 => absurd (by decide) h9)
        refine And.intro (fun _ => ?_) (fun h9 => absurd (by decide) h9)
        refine ⟨_, rfl, ?_⟩
        have h86 : I 86 = I 86 := rfl
        rw [← nw_is h86]
        refine Go_wp 80 rfl ?_
        refine And.intro (sw_k hW (Nat.le_of_ble_eq_true rfl) rfl) ?_
        refine s_isJug (n := n) hW hT.1 hn (fun _ _ _ => ?_) (fun e => absurd rfl (e i hi))
        refine And.intro (fun _ => ?_) (fun h9 => absurd (by decide) h9)
        refine And.intro (fun h9 => absurd rfl h9) (fun _ => ?_)
        refine s_isBt (a := 1) (b := 99) rfl rfl (fun i h1 h2 e2 => absurd e2 (e i h1 h2)) (fun _ => ?_)
        refine And.intro (fun h9 => absurd rfl h9) (fun _ => ?_)
        refine And.intro (fun _ => ?_) (fun h9 => absurd (by decide) h9)
        refine And.intro (fun _ => ?_) (fun h9 => absurd (by decide) h9)
        refine And.intro (fun h9 => absurd rfl h9) (fun _ => ?_)
        rw [nw_self]
        exact pub_end hS
    · refine And.intro (fun _ => ?_) (fun h9 => absurd w1 h9)
      by_cases w2 : w = 2
      · subst w2
        refine And.intro (fun h9 => absurd rfl h9) (fun _ => ?_)
        refine And.intro (w_kj hW ht (hi10)) ?_
        rw [e1]
        refine c_isIn (m := 0) (n := b + 1) zb (fun c hc e => ?_) (fun e => ?_)
        · subst e
          refine And.intro (fun h9 => absurd h9 (by decide)) (fun _ => ?_)
          refine And.intro (w_kj hW ht (hi10)) ?_
          refine And.intro (w_kj hW ht (hi10)) ?_
          refine ⟨_, rfl, ?_⟩
          have hF : Fr 5 I (up2 I (5 + 2 + i) 2 (nI c)) := Fr.up (by omega)
          have hC2 := hC.jug (v := nI c) hn hi (w := 2) (by decide)
          obtain ⟨I2, hI2⟩ : ∃ I2, up2 I (5 + 2 + i) 2 (nI c) = I2 := ⟨_, rfl⟩
          rw [hI2] at hC2 hF ⊢
          have h86 : I2 86 = I 86 := hF 86 (by omega) (by decide) (by decide)
          have hI := hT.jug hi (w := 2) (by decide) ((hT.2.2.1 i hi).mark (v := c) j3 j5 (by omega))
          rw [← nw_is h86]
          refine Go_wp 80 rfl ?_
          refine And.intro (sw_k hW (Nat.le_of_ble_eq_true rfl) rfl) ?_
          refine s_isJug (n := n) hW hT.1 hn (fun _ _ _ => ?_) (fun e => absurd rfl (e i hi))
          refine And.intro (fun _ => ?_) (fun h9 => absurd (by decide) h9)
          refine And.intro (fun _ => ?_) (fun h9 => absurd (by decide) h9)
          refine And.intro (fun h9 => absurd rfl h9) (fun _ => ?_)
          refine And.intro (sw_k hW (Nat.le_of_ble_eq_true rfl) rfl) ?_
          refine s_of (w := 1) hW hi10 (by decide) ?_
          rw [j3]
          refine s_isIn (n := b + 1) zb (fun _ _ _ => ?_) (fun e => absurd rfl (e c hc))
          refine And.intro (fun _ => ?_) (fun h9 => absurd (by decide) h9)
          refine And.intro (fun _ => ?_) (fun h9 => absurd (by decide) h9)
          refine And.intro (sw_k hW (Nat.le_of_ble_eq_true rfl) rfl) ?_
          rw [show (24 : Int32) + 5 * nI i + 2 = nI (24 + 5 * i + 2) from jx i 2]
          refine s_swaps hW (by omega) ?_
          refine And.intro (sw_k hW (Nat.le_of_ble_eq_true rfl) rfl) ?_
          refine s_holdsMark hW hi10 ?_
          rw [show up1 (I 86) (24 + 5 * i + 2) (nI c) (24 + 5 * i + 1) = nI b by rw [up1_ne (by omega)]; exact j3, show up1 (I 86) (24 + 5 * i + 2) (nI c) (24 + 5 * i + 2) = nI c from up1_eq, wi_nn (by omega) (by omega), show min c b = c by omega, up1_2, hC.2.1 i hi 2 (by decide)]
          exact pub_end (sim_now hS hT hF Sc.rf hI hC2 (hG.keep (by rw [up1_ne (by omega)]) (by rw [up1_ne (by omega)])) (fun p hp => by rw [up1_ne (by omega)]))
        · refine And.intro (fun _ => ?_) (fun h9 => absurd rfl h9)
          refine And.intro (fun _ => ?_) (fun h9 => absurd (by decide) h9)
          refine ⟨_, rfl, ?_⟩
          have h86 : I 86 = I 86 := rfl
          rw [← nw_is h86]
          refine Go_wp 80 rfl ?_
          refine And.intro (sw_k hW (Nat.le_of_ble_eq_true rfl) rfl) ?_
          refine s_isJug (n := n) hW hT.1 hn (fun _ _ _ => ?_) (fun e => absurd rfl (e i hi))
          refine And.intro (fun _ => ?_) (fun h9 => absurd (by decide) h9)
          refine And.intro (fun _ => ?_) (fun h9 => absurd (by decide) h9)
          refine And.intro (fun h9 => absurd rfl h9) (fun _ => ?_)
          refine And.intro (sw_k hW (Nat.le_of_ble_eq_true rfl) rfl) ?_
          refine s_of (w := 1) hW hi10 (by decide) ?_
          rw [nw_self, j3]
          refine s_isIn (n := b + 1) zb (fun j hj e2 => absurd e2 (e j hj)) (fun _ => ?_)
          refine And.intro (fun h9 => absurd rfl h9) (fun _ => ?_)
          refine And.intro (fun _ => ?_) (fun h9 => absurd (by decide) h9)
          refine And.intro (fun h9 => absurd rfl h9) (fun _ => ?_)
          exact pub_end hS
      · refine And.intro (fun _ => ?_) (fun h9 => absurd w2 h9)
        by_cases w4 : w = 4
        · subst w4
          refine And.intro (fun h9 => absurd rfl h9) (fun _ => ?_)
          refine c_isIn (m := 0) (n := 100) rfl (fun c hc e => ?_) (fun e => ?_)
          · subst e
            refine And.intro (fun h9 => absurd h9 (by decide)) (fun _ => ?_)
            refine And.intro (w_kj hW ht (hi10)) ?_
            refine And.intro (w_kj hW ht (hi10)) ?_
            refine ⟨_, rfl, ?_⟩
            have hF : Fr 5 I (up2 I (5 + 2 + i) 4 (nI c)) := Fr.up (by omega)
            have hC2 := hC.jug (v := nI c) hn hi (w := 4) (by decide)
            obtain ⟨I2, hI2⟩ : ∃ I2, up2 I (5 + 2 + i) 4 (nI c) = I2 := ⟨_, rfl⟩
            rw [hI2] at hC2 hF ⊢
            have h86 : I2 86 = I 86 := hF 86 (by omega) (by decide) (by decide)
            have hI := hT.jug hi (w := 4) (by decide) ((hT.2.2.1 i hi).fills (v := c) (by omega))
            rw [← nw_is h86]
            refine Go_wp 80 rfl ?_
            refine And.intro (sw_k hW (Nat.le_of_ble_eq_true rfl) rfl) ?_
            refine s_isJug (n := n) hW hT.1 hn (fun _ _ _ => ?_) (fun e => absurd rfl (e i hi))
            refine And.intro (fun _ => ?_) (fun h9 => absurd (by decide) h9)
            refine And.intro (fun _ => ?_) (fun h9 => absurd (by decide) h9)
            refine And.intro (fun _ => ?_) (fun h9 => absurd (by decide) h9)
            refine And.intro (fun h9 => absurd rfl h9) (fun _ => ?_)
            refine s_isIn (n := 100) rfl (fun _ _ _ => ?_) (fun e => absurd rfl (e c hc))
            refine And.intro (fun h9 => absurd h9 (by decide)) (fun _ => ?_)
            refine And.intro (fun _ => ?_) (fun h9 => absurd (by decide) h9)
            refine And.intro (sw_k hW (Nat.le_of_ble_eq_true rfl) rfl) ?_
            rw [show (24 : Int32) + 5 * nI i + 4 = nI (24 + 5 * i + 4) from jx i 4]
            refine s_swaps hW (by omega) ?_
            refine And.intro (sw_k hW (Nat.le_of_ble_eq_true rfl) rfl) ?_
            refine s_holdsMark hW hi10 ?_
            have q2 : up1 (I 86) (24 + 5 * i + 4) (nI c) (24 + 5 * i + 2) = nI mk := by rw [up1_ne (by omega)]; exact j6
            rw [show up1 (I 86) (24 + 5 * i + 4) (nI c) (24 + 5 * i + 1) = nI b by rw [up1_ne (by omega)]; exact j3, q2, wi_nn (by omega) (by omega), show min mk b = mk by omega, ← q2, up1_self, hC.2.1 i hi 4 (by decide)]
            exact pub_end (sim_now hS hT hF Sc.rf hI hC2 (hG.keep (by rw [up1_ne (by omega)]) (by rw [up1_ne (by omega)])) (fun p hp => by rw [up1_ne (by omega)]))
          · refine And.intro (fun _ => ?_) (fun h9 => absurd rfl h9)
            refine ⟨_, rfl, ?_⟩
            have h86 : I 86 = I 86 := rfl
            rw [← nw_is h86]
            refine Go_wp 80 rfl ?_
            refine And.intro (sw_k hW (Nat.le_of_ble_eq_true rfl) rfl) ?_
            refine s_isJug (n := n) hW hT.1 hn (fun _ _ _ => ?_) (fun e => absurd rfl (e i hi))
            refine And.intro (fun _ => ?_) (fun h9 => absurd (by decide) h9)
            refine And.intro (fun _ => ?_) (fun h9 => absurd (by decide) h9)
            refine And.intro (fun _ => ?_) (fun h9 => absurd (by decide) h9)
            refine And.intro (fun h9 => absurd rfl h9) (fun _ => ?_)
            refine s_isIn (n := 100) rfl (fun j hj e2 => absurd e2 (e j hj)) (fun _ => ?_)
            refine And.intro (fun _ => ?_) (fun h9 => absurd rfl h9)
            refine And.intro (fun h9 => absurd rfl h9) (fun _ => ?_)
            rw [nw_self]
            exact pub_end hS
        · refine And.intro (fun _ => ?_) (fun h9 => absurd w4 h9)
          refine ⟨_, rfl, ?_⟩
          have h86 : I 86 = I 86 := rfl
          rw [← nw_is h86]
          refine Go_wp 80 rfl ?_
          refine And.intro (sw_k hW (Nat.le_of_ble_eq_true rfl) rfl) ?_
          refine s_isJug (n := n) hW hT.1 hn (fun _ _ _ => ?_) (fun e => absurd rfl (e i hi))
          refine And.intro (fun _ => ?_) (fun h9 => absurd (by decide) h9)
          refine And.intro (fun _ => ?_) (fun h9 => absurd w1 h9)
          refine And.intro (fun _ => ?_) (fun h9 => absurd w2 h9)
          refine And.intro (fun _ => ?_) (fun h9 => absurd w4 h9)
          refine And.intro (fun h9 => absurd rfl h9) (fun _ => ?_)
          rw [nw_self]
          exact pub_end hS
  · refine And.intro (fun h9 => absurd rfl h9) (fun _ => ?_)
    refine ⟨_, rfl, ?_⟩
    rw [← nw_self I]
    refine Go_wp 60 rfl ?_
    refine And.intro (sw_k hW (Nat.le_of_ble_eq_true rfl) rfl) ?_
    refine s_isJug (n := n) hW hT.1 hn (fun i hi e2 => absurd e2 (e i hi)) (fun _ => ?_)
    refine And.intro (fun h9 => absurd rfl h9) (fun _ => ?_)
    rw [nw_self]
    exact pub_end hS
