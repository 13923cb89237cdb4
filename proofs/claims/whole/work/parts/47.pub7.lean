/-! Public methods: a jug comes; a jug's numbers are set; a text told. -/
theorem XO.keep {T T' : Nat → Int32} {t : Nat} (h : XO T t) (hp : ∀ p, 74 ≤ p → T' p = T p) : XO T' t := by
  obtain ⟨key, len, at0, x1, x2, x3, x4, x5, x6⟩ := h
  refine ⟨key, len, at0, by rw [hp _ (by omega)]; exact x1, x2, x3, by rw [hp _ (by omega)]; exact x4, x5, ?_⟩
  rw [show (fun q => T' (102 + 96 * t + q)) = fun q => T (102 + 96 * t + q) from funext fun q => hp _ (by omega)]
  exact x6
theorem cm_lo {T : Nat → Int32} {n p : Nat} {kd b hd mk : Int32} (h1 : ¬ p = 1) (h2 : p < 24 + 5 * n ∨ 24 + 5 * n + 4 < p) : cmF T n kd b hd mk p = T p := by
  unfold cmF
  rw [up1_ne (by omega), up1_ne (by omega), up1_ne (by omega), up1_ne (by omega), up1_ne (by omega), up1_ne h1]
theorem it_cm {T : Nat → Int32} {n m kd b hd mk : Nat} (hT : IT T n m) (hn : n < 10) (hk : kd ≤ 5) (hb0 : 1 ≤ b) (hb : b ≤ 99) (hd7 : hd ≤ 7) (hm : mk ≤ b) : IT (cmF T n (nI kd) (nI b) (nI hd) (nI mk)) (n + 1) m := by
  obtain ⟨i1, i2, i3, i4, i5, i6, i7, i8, i9⟩ := hT
  refine ⟨?_, by omega, fun j hj => ?_, fun i hi => by rw [cm_lo (by omega) (by omega)]; exact i4 i hi, fun i hi => by rw [cm_lo (by omega) (by omega)]; exact i5 i hi, by rw [cm_lo (by omega) (by omega)]; exact i6, by rw [cm_lo (by omega) (by omega)]; exact i7, i8, fun t ht => (i9 t ht).keep (fun p hp => cm_lo (by omega) (by omega))⟩
  · unfold cmF
    rw [up1_ne (by omega), up1_ne (by omega), up1_ne (by omega), up1_ne (by omega), up1_ne (by omega), up1_eq, i1]; exact nI_1 n
  · by_cases e : j = n
    · subst e
      refine ⟨kd, b, mk, hd, 0, ?_, hk, ?_, hb0, hb, ?_, hm, ?_, hd7, ?_, by omega⟩ <;> unfold cmF
      · rw [up1_ne (by omega), up1_ne (by omega), up1_ne (by omega), up1_ne (by omega), up1_eq]
      · rw [up1_ne (by omega), up1_ne (by omega), up1_ne (by omega), up1_eq]
      · rw [up1_ne (by omega), up1_ne (by omega), up1_eq]
      · rw [up1_ne (by omega), up1_eq]
      · rw [up1_eq]; rfl
    · obtain ⟨kd, b, mk, hd, fl, j1, j2, j3, j4, j5, j6, j7, j8, j9, j10, j11⟩ := i3 j (by omega)
      exact ⟨kd, b, mk, hd, fl, by rw [cm_lo (by omega) (by omega)]; exact j1, j2, by rw [cm_lo (by omega) (by omega)]; exact j3, j4, j5, by rw [cm_lo (by omega) (by omega)]; exact j6, j7, by rw [cm_lo (by omega) (by omega)]; exact j8, j9, by rw [cm_lo (by omega) (by omega)]; exact j10, j11⟩
theorem GB.keep {T T' : Nat → Int32} (h : GB T) (h2 : T' 2 = T 2) (h4 : T' 4 = T 4) : GB T' := by
  unfold GB; rw [h2, h4]; exact h
theorem pub_jug (x1 x2 x3 x4 : Int32) : Pub mX7_jug mX8_jug [.int x1, .int x2, .int x3, .int x4] := by
  intro k nx sl ln R I hS
  have hW := hS.1
  have ht := tw5
  have ht2 : Tw 20 := Or.inr (Or.inl rfl)
  obtain ⟨n, m, hT, hC, hL, hG, hZ, hZ7, hZ8, -⟩ := id hS.2.1
  have hn := hT.2.1
  refine Go_wp 60 rfl ?_
  refine c_isKind (fun kd hk e => ?_) (fun e => ?_)
  · subst e
    refine And.intro (fun h9 => absurd h9 (by decide)) (fun _ => ?_)
    refine c_isBt (a := 1) (b := 99) rfl rfl (fun b hb0 hb e => ?_) (fun e => ?_)
    · subst e
      refine And.intro (fun h9 => absurd h9 (by decide)) (fun _ => ?_)
      have zb : (nI b).toInt = ((b + 1 : Nat) : Int) - 1 := by rw [tI_nI (by omega)]; omega
      refine c_isHand (fun hd hh e => ?_) (fun e => ?_)
      · subst e
        refine And.intro (fun h9 => absurd h9 (by decide)) (fun _ => ?_)
        refine c_isIn (m := 0) (n := b + 1) zb (fun mk hm e => ?_) (fun e => ?_)
        · subst e
          refine And.intro (fun _ => ?_) (fun h9 => absurd (by decide) h9)
          refine And.intro (sw_k hW (Nat.le_of_ble_eq_true rfl) rfl) ?_
          refine Exists.intro _ (And.intro (sw_r hW (Nat.le_of_ble_eq_true rfl) rfl rfl) ?_)
          refine And.intro (w_t hW ht) ?_
          rw [show I 5 2 = nI n by rw [hC.1]; exact hT.1]
          refine And.intro (fun hx => ?_) (fun hx => ?_)
          · have hn10 : n < 10 := by rw [tI_lt, tI_nI (by omega)] at hx; have : (10 : Int32).toInt = 10 := rfl; omega
            refine And.intro (sw_k hW (Nat.le_of_ble_eq_true rfl) rfl) ?_
            refine Exists.intro _ (And.intro (sw_r hW (Nat.le_of_ble_eq_true rfl) rfl rfl) ?_)
            refine And.intro (w_t hW ht) ?_
            refine c_addJug hW ht hC hT.1 hn10 (fun I2 hC2 hF => ?_)
            refine And.intro (sw_k hW (Nat.le_of_ble_eq_true rfl) rfl) ?_
            refine Exists.intro _ (And.intro (sw_r hW (Nat.le_of_ble_eq_true rfl) rfl rfl) ?_)
            refine And.intro (w_t hW ht) ?_
            have hI := it_cm hT hn10 (show kd ≤ 5 by omega) hb0 hb (show hd ≤ 7 by omega) (show mk ≤ b by omega)
            rw [show I2 5 2 = nI (n + 1) by rw [hC2.1]; exact hI.1]
            refine ⟨nI n, by show some (Value.int (nI (n + 1) - 1)) = _; rw [nIs], ?_⟩
            have h86 : I2 86 = I 86 := hF 86 (by omega) (by decide) (by decide)
            rw [← nw_is h86]
            refine Go_wp 60 rfl ?_
            refine s_isIn (n := 6) rfl (fun _ _ _ => ?_) (fun e => absurd rfl (e kd hk))
            refine And.intro (fun h9 => absurd h9 (by decide)) (fun _ => ?_)
            refine s_isBt (a := 1) (b := 99) rfl rfl (fun _ _ _ _ => ?_) (fun e => absurd rfl (e b hb0 hb))
            refine And.intro (fun h9 => absurd h9 (by decide)) (fun _ => ?_)
            refine s_isHand (fun _ _ _ => ?_) (fun e => absurd rfl (e hd hh))
            refine And.intro (fun h9 => absurd h9 (by decide)) (fun _ => ?_)
            refine s_isIn (n := b + 1) zb (fun _ _ _ => ?_) (fun e => absurd rfl (e mk hm))
            refine And.intro (fun _ => ?_) (fun h9 => absurd (by decide) h9)
            refine And.intro (sw_k hW (Nat.le_of_ble_eq_true rfl) rfl) ?_
            refine Exists.intro _ (And.intro (sw_r hW (Nat.le_of_ble_eq_true rfl) rfl rfl) ?_)
            refine And.intro (sw_n hW (Nat.le_of_ble_eq_true rfl) rfl rfl ((Nat.le_of_ble_eq_true rfl)) (Nat.le_of_ble_eq_true rfl)) ?_
            rw [show nw I2 (I 86) 86 (1 : Int32).toNatClampNeg = nI n from hT.1]
            refine And.intro (fun _ => ?_) (fun h9 => absurd (fun q => absurd ((nI_eq (b := 10) (by omega) (by decide)).mp q) (by omega)) h9)
            refine And.intro (sw_k hW (Nat.le_of_ble_eq_true rfl) rfl) ?_
            refine s_comes hW hT.1 hn10 ?_
            exact pub_end (sim_now hS hT hF Sc.rf hI hC2 (hG.keep (cm_lo (by omega) (by omega)) (cm_lo (by omega) (by omega))) (fun p hp => cm_lo (by omega) (by omega)))
          · have hn10 : n = 10 := by rw [tI_lt, tI_nI (by omega)] at hx; have : (10 : Int32).toInt = 10 := rfl; omega
            refine ⟨_, rfl, ?_⟩
            refine Go_wp 60 rfl ?_
            refine s_isIn (n := 6) rfl (fun _ _ _ => ?_) (fun e => absurd rfl (e kd hk))
            refine And.intro (fun h9 => absurd h9 (by decide)) (fun _ => ?_)
            refine s_isBt (a := 1) (b := 99) rfl rfl (fun _ _ _ _ => ?_) (fun e => absurd rfl (e b hb0 hb))
            refine And.intro (fun h9 => absurd h9 (by decide)) (fun _ => ?_)
            refine s_isHand (fun _ _ _ => ?_) (fun e => absurd rfl (e hd hh))
            refine And.intro (fun h9 => absurd h9 (by decide)) (fun _ => ?_)
            refine s_isIn (n := b + 1) zb (fun _ _ _ => ?_) (fun e => absurd rfl (e mk hm))
            refine And.intro (fun _ => ?_) (fun h9 => absurd (by decide) h9)
            refine And.intro (sw_k hW (Nat.le_of_ble_eq_true rfl) rfl) ?_
            refine Exists.intro _ (And.intro (sw_r hW (Nat.le_of_ble_eq_true rfl) rfl rfl) ?_)
            refine And.intro (sw_n hW (Nat.le_of_ble_eq_true rfl) rfl rfl ((Nat.le_of_ble_eq_true rfl)) (Nat.le_of_ble_eq_true rfl)) ?_
            rw [show I 86 (1 : Int32).toNatClampNeg = nI n from hT.1, hn10]
            refine And.intro (fun h9 => absurd rfl h9) (fun _ => ?_)
            exact pub_end hS
        · refine And.intro (fun h9 => absurd rfl h9) (fun _ => ?_)
          refine ⟨_, rfl, ?_⟩
          refine Go_wp 60 rfl ?_
          refine s_isIn (n := 6) rfl (fun _ _ _ => ?_) (fun e => absurd rfl (e kd hk))
          refine And.intro (fun h9 => absurd h9 (by decide)) (fun _ => ?_)
          refine s_isBt (a := 1) (b := 99) rfl rfl (fun _ _ _ _ => ?_) (fun e => absurd rfl (e b hb0 hb))
          refine And.intro (fun h9 => absurd h9 (by decide)) (fun _ => ?_)
          refine s_isHand (fun _ _ _ => ?_) (fun e => absurd rfl (e hd hh))
          refine And.intro (fun h9 => absurd h9 (by decide)) (fun _ => ?_)
          refine s_isIn (n := b + 1) zb (fun j hj e2 => absurd e2 (e j hj)) (fun _ => ?_)
          refine And.intro (fun h9 => absurd rfl h9) (fun _ => ?_)
          exact pub_end hS
      · refine And.intro (fun _ => ?_) (fun h9 => absurd rfl h9)
        refine ⟨_, rfl, ?_⟩
        refine Go_wp 60 rfl ?_
        refine s_isIn (n := 6) rfl (fun _ _ _ => ?_) (fun e => absurd rfl (e kd hk))
        refine And.intro (fun h9 => absurd h9 (by decide)) (fun _ => ?_)
        refine s_isBt (a := 1) (b := 99) rfl rfl (fun _ _ _ _ => ?_) (fun e => absurd rfl (e b hb0 hb))
        refine And.intro (fun h9 => absurd h9 (by decide)) (fun _ => ?_)
        refine s_isHand (fun j hj e2 => absurd e2 (e j hj)) (fun _ => ?_)
        refine And.intro (fun _ => ?_) (fun h9 => absurd rfl h9)
        exact pub_end hS
    · refine And.intro (fun _ => ?_) (fun h9 => absurd rfl h9)
      refine ⟨_, rfl, ?_⟩
      refine Go_wp 60 rfl ?_
      refine s_isIn (n := 6) rfl (fun _ _ _ => ?_) (fun e => absurd rfl (e kd hk))
      refine And.intro (fun h9 => absurd h9 (by decide)) (fun _ => ?_)
      refine s_isBt (a := 1) (b := 99) rfl rfl (fun i h1 h2 e2 => absurd e2 (e i h1 h2)) (fun _ => ?_)
      refine And.intro (fun _ => ?_) (fun h9 => absurd rfl h9)
      exact pub_end hS
  · refine And.intro (fun _ => ?_) (fun h9 => absurd rfl h9)
    refine ⟨_, rfl, ?_⟩
    refine Go_wp 60 rfl ?_
    refine s_isIn (n := 6) rfl (fun j hj e2 => absurd e2 (e j hj)) (fun _ => ?_)
    refine And.intro (fun _ => ?_) (fun h9 => absurd rfl h9)
    exact pub_end hS
theorem pub_textTold (v w : Int32) : Pub mX7_textTold mX8_textTold [.int v, .int w] := by
  intro k nx sl ln R I hS
  have hW := hS.1
  have ht := tw5
  have ht2 : Tw 20 := Or.inr (Or.inl rfl)
  obtain ⟨n, m, hT, hC, hL, hG, hZ, hZ7, hZ8, -⟩ := id hS.2.1
  have hn := hT.2.1
  have hm14 := hT.2.2.2.2.2.2.2.1
  have i7 := hT.2.2.2.2.2.2.1
  have em : (nI m - 1).toInt = (m : Int) - 1 := nI_less m (by omega)
  refine Go_wp 60 rfl ?_
  refine And.intro (sw_k hW (Nat.le_of_ble_eq_true rfl) rfl) ?_
  refine Exists.intro _ (And.intro (sw_r hW (Nat.le_of_ble_eq_true rfl) rfl rfl) ?_)
  refine And.intro (w_t hW ht) ?_
  rw [show I 5 11 = nI m by rw [hC.2.2.2.2.2.2.2.2.2.2.1]; exact i7]
  refine c_isIn (m := 0) (n := m) em (fun x hx e => ?_) (fun e => ?_)
  · subst e
    refine And.intro (fun h9 => absurd h9 (by decide)) (fun _ => ?_)
    obtain ⟨q, c, key, len, r1, r2, r3, r4, r5, r6, r7, r8, r9, r10, r11, r12, r13⟩ := hL x hx
    have exx : (nI x).toNatClampNeg = x := ix (by omega)
    have ai : (12 < KD 2 ∧ 2 < nx) ∧ ¬ nI x < 0 ∧ (nI x).toNatClampNeg < ln 2 := ⟨⟨by decide, sw_lt hW (by decide)⟩, (sw_n (i := x) hW (o := 2) (by decide) rfl rfl (show x < 14 by omega) (by decide)).2⟩
    refine c_isIn (m := 0) (n := 2) rfl (fun j hj e => ?_) (fun e => ?_)
    · subst e
      refine And.intro (fun _ => ?_) (fun h9 => absurd (by decide) h9)
      refine And.intro (sw_k hW (Nat.le_of_ble_eq_true rfl) rfl) ?_
      refine Exists.intro _ (And.intro (sw_r hW (Nat.le_of_ble_eq_true rfl) rfl rfl) ?_)
      refine And.intro (sw_k hW (Nat.le_of_ble_eq_true rfl) rfl) ?_
      refine Exists.intro _ (And.intro (sw_r hW (Nat.le_of_ble_eq_true rfl) rfl rfl) ?_)
      refine And.intro ai (Exists.intro (.ref q) (And.intro (by rw [exx, r1]; rfl) ?_))
      rcases (show j = 0 ∨ j = 1 by omega) with rfl | rfl
      · refine And.intro (fun h9 => absurd rfl h9) (fun _ => ?_)
        refine And.intro r2 ?_
        rw [r11]
        refine ⟨_, rfl, ?_⟩
        refine Go_wp 60 rfl ?_
        refine And.intro (sw_k hW (Nat.le_of_ble_eq_true rfl) rfl) ?_
        refine Exists.intro _ (And.intro (sw_r hW (Nat.le_of_ble_eq_true rfl) rfl rfl) ?_)
        refine And.intro (sw_n hW (Nat.le_of_ble_eq_true rfl) rfl rfl ((Nat.le_of_ble_eq_true rfl)) (Nat.le_of_ble_eq_true rfl)) ?_
        rw [show I 86 (7 : Int32).toNatClampNeg = nI m from i7]
        refine s_isIn (n := m) em (fun _ _ _ => ?_) (fun e => absurd rfl (e x hx))
        refine And.intro (fun h9 => absurd h9 (by decide)) (fun _ => ?_)
        refine s_isIn (n := 2) rfl (fun _ _ _ => ?_) (fun e => absurd rfl (e 0 hj))
        refine And.intro (fun _ => ?_) (fun h9 => absurd (by decide) h9)
        refine And.intro (fun h9 => absurd rfl h9) (fun _ => ?_)
        refine And.intro (sw_k hW (Nat.le_of_ble_eq_true rfl) rfl) ?_
        refine Exists.intro _ (And.intro (sw_r hW (Nat.le_of_ble_eq_true rfl) rfl rfl) ?_)
        refine And.intro (by rw [cx]; exact sw_n hW (Nat.le_of_ble_eq_true rfl) rfl rfl (show 74 + 2 * x < 1446 by omega) (Nat.le_of_ble_eq_true rfl)) ?_
        rw [show I 86 ((74 : Int32) + 2 * nI x).toNatClampNeg = nI (1000 * key + len) by rw [cx, ix (by omega)]; exact r8]
        refine And.intro (by decide) ?_
        rw [show nI (1000 * key + len) / 1000 = nI key by rw [show (1000 : Int32) = nI 1000 from rfl, pk_div (by omega) (by decide) (by decide), show (1000 * key + len) / 1000 = key by omega]]
        exact pub_end hS
      · refine And.intro (fun _ => ?_) (fun h9 => absurd (by decide) h9)
        refine And.intro r2 ?_
        rw [r12]
        refine ⟨_, rfl, ?_⟩
        refine Go_wp 60 rfl ?_
        refine And.intro (sw_k hW (Nat.le_of_ble_eq_true rfl) rfl) ?_
        refine Exists.intro _ (And.intro (sw_r hW (Nat.le_of_ble_eq_true rfl) rfl rfl) ?_)
        refine And.intro (sw_n hW (Nat.le_of_ble_eq_true rfl) rfl rfl ((Nat.le_of_ble_eq_true rfl)) (Nat.le_of_ble_eq_true rfl)) ?_
        rw [show I 86 (7 : Int32).toNatClampNeg = nI m from i7]
        refine s_isIn (n := m) em (fun _ _ _ => ?_) (fun e => absurd rfl (e x hx))
        refine And.intro (fun h9 => absurd h9 (by decide)) (fun _ => ?_)
        refine s_isIn (n := 2) rfl (fun _ _ _ => ?_) (fun e => absurd rfl (e 1 hj))
        refine And.intro (fun _ => ?_) (fun h9 => absurd (by decide) h9)
        refine And.intro (fun _ => ?_) (fun h9 => absurd (by decide) h9)
        refine And.intro (sw_k hW (Nat.le_of_ble_eq_true rfl) rfl) ?_
        refine Exists.intro _ (And.intro (sw_r hW (Nat.le_of_ble_eq_true rfl) rfl rfl) ?_)
        refine And.intro (by rw [cx, nI_1]; exact sw_n hW (Nat.le_of_ble_eq_true rfl) rfl rfl (show 74 + 2 * x + 1 < 1446 by omega) (Nat.le_of_ble_eq_true rfl)) ?_
        rw [show I 86 ((74 : Int32) + 2 * nI x + 1).toNatClampNeg = I 86 (74 + 2 * x + 1) by rw [cx, nI_1, ix (by omega)]]
        exact pub_end hS
    · refine And.intro (fun h9 => absurd rfl h9) (fun _ => ?_)
      refine ⟨_, rfl, ?_⟩
      refine Go_wp 60 rfl ?_
      refine And.intro (sw_k hW (Nat.le_of_ble_eq_true rfl) rfl) ?_
      refine Exists.intro _ (And.intro (sw_r hW (Nat.le_of_ble_eq_true rfl) rfl rfl) ?_)
      refine And.intro (sw_n hW (Nat.le_of_ble_eq_true rfl) rfl rfl ((Nat.le_of_ble_eq_true rfl)) (Nat.le_of_ble_eq_true rfl)) ?_
      rw [show I 86 (7 : Int32).toNatClampNeg = nI m from i7]
      refine s_isIn (n := m) em (fun _ _ _ => ?_) (fun e => absurd rfl (e x hx))
      refine And.intro (fun h9 => absurd h9 (by decide)) (fun _ => ?_)
      refine s_isIn (n := 2) rfl (fun j hj e2 => absurd e2 (e j hj)) (fun _ => ?_)
      refine And.intro (fun h9 => absurd rfl h9) (fun _ => ?_)
      exact pub_end hS
  · refine And.intro (fun _ => ?_) (fun h9 => absurd rfl h9)
    refine ⟨_, rfl, ?_⟩
    refine Go_wp 60 rfl ?_
    refine And.intro (sw_k hW (Nat.le_of_ble_eq_true rfl) rfl) ?_
    refine Exists.intro _ (And.intro (sw_r hW (Nat.le_of_ble_eq_true rfl) rfl rfl) ?_)
    refine And.intro (sw_n hW (Nat.le_of_ble_eq_true rfl) rfl rfl ((Nat.le_of_ble_eq_true rfl)) (Nat.le_of_ble_eq_true rfl)) ?_
    rw [show I 86 (7 : Int32).toNatClampNeg = nI m from i7]
    refine s_isIn (n := m) em (fun j hj e2 => absurd e2 (e j hj)) (fun _ => ?_)
    refine And.intro (fun _ => ?_) (fun h9 => absurd rfl h9)
    exact pub_end hS
