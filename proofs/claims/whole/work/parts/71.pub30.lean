/-! Public methods: days told are checked, the model's side. -/
theorem m2 (j : Nat) : (2 : Int32) * nI j = nI (2 * j) := nI_mul 2 j
theorem l_chkX {nx sl : Nat} {ln : Nat → Nat} {R : Nat → Nat → Option Nat} {J : Nat → Nat → Int32} {T : Nat → Int32} {Q : Option Value → Hp → Prop} {k : Nat} (hW : SW nx ln R) {q D e j : Nat} {T0 : Nat → Int32} {x1 : Option Value} {xr xj : Int32} (hxr : xr = nI e) (hxj : xj = nI j) (hz : Zr T) (h88 : J 88 = T0) (hz0 : Zr T0) (hq : q ≤ 60) (hD : D ≤ 30) (he : e < 2 * j) (hj : j ≤ 30) (hQ : Q (some (.int (caF q D e))) (nx, sl, ln, R, nw J T0)) : GoF (k + 6) mX8_check 80 [some (.ref 85), x1, some (.int (nI q)), some (.int (nI (2 * D))), some (.int xr), some (.int xj)] [] (nx, sl, ln, R, nw J T) Q := by
  subst hxr
  subst hxj
  refine GoF_wp1 80 ?_
  refine And.intro (fun _ => ?_) (fun _ => ?_)
  · exact t_chk hW hz h88 hz0 hq hD (by omega) hQ
  · refine And.intro (fun _ => ?_) (fun h => absurd (fun p => by rw [m2] at p; have := (nI_eq (by omega) (by omega)).mp p; omega) h)
    exact t_chk hW hz h88 hz0 hq hD (by omega) hQ
theorem l_chk {nx sl : Nat} {ln : Nat → Nat} {R : Nat → Nat → Option Nat} {I : Nat → Nat → Int32} {Q : Option Value → Hp → Prop} {k : Nat} (hW : SW nx ln R) {n m q D : Nat} {T T0 W : Nat → Int32} {x1 : Option Value} (hT : IT T n m) (hz : Zr T) (h88 : I 88 = T0) (hz0 : Zr T0) (hq : q ≤ 60) (hD : D ≤ 30) (hW8 : ∀ j, j < q → I 108 j = W j) : ∀ (r i n1 : Nat) (xr xi : Int32) (J1 I1 : Nat → Nat → Int32), xi = nI i → xr = nI (2 * i) → I1 = nw J1 (gnF T i) → i + r = D → IT (gnF T i) n1 m → Sc I J1 → (∀ J2, Sc I J2 → Q (some (.int (caF q D (cpF (xdF T) W q (2 * r) (2 * i))))) (nx, sl, ln, R, nw J2 T0)) → GoF (k + 6) mX8_check 80 [some (.ref 85), x1, some (.int (nI q)), some (.int (nI (2 * D))), some (.int xr), some (.int xi)] [] (nx, sl, ln, R, I1) Q := by
  intro r
  induction r with
  | zero =>
    intro i n1 xr xi J1 I1 hxi hxr hI hir hU hF hQ
    subst hxi
    subst hxr
    subst hI
    have hid : i = D := by omega
    subst hid
    refine GoF_wp1 80 ?_
    refine And.intro (fun _ => ?_) (fun h => absurd (by rw [m2]; exact Int32.le_refl _) h)
    exact t_chk hW (gn_zr hT hz i) (by rw [hF 88 (by decide) (by decide)]; exact h88) hz0 hq hD (by omega) (hQ J1 hF)
  | succ r ih =>
    intro i n1 xr xi J1 I1 hxi hxr hI hir hU hF hQ
    subst hxi
    subst hxr
    subst hI
    refine GoF_wp1 80 ?_
    refine And.intro (fun h => absurd h (by rw [m2]; exact nI_ge (by omega) (by omega))) (fun _ => ?_)
    refine And.intro (fun h => absurd (by rw [m2]) h) (fun _ => ?_)
    refine And.intro (sw_k hW (Nat.le_of_ble_eq_true rfl) rfl) ?_
    refine s_day hW hU (fun J2 hJ2 => ?_)
    have hF2 : Sc I J2 := hF.tr hJ2
    obtain ⟨n2, hU2⟩ := gn_up hU
    rw [show dyF (gnF T i) = gnF T (i + 1) from rfl]
    have w8 : ∀ j, j < q → nw J2 (gnF T (i + 1)) 108 j = W j := fun j hj => by rw [nwo _ _ (by decide), hF2 108 (by decide) (by decide)]; exact hW8 j hj
    have j88 : J2 88 = T0 := by rw [hF2 88 (by decide) (by decide)]; exact h88
    have hzU : Zr (gnF T (i + 1)) := gn_zr hT hz (i + 1)
    have n1' : nI (2 * i) + 1 = nI (2 * i + 1) := nI_1 _
    have n0' : nI (2 * i) + 0 = nI (2 * i) := Int32.add_zero _
    have n2' : nI (2 * i) + 1 + 0 = nI (2 * i + 1) := by rw [Int32.add_zero, n1']
    have n3' : nI (2 * i) + 1 + 1 = nI (2 * (i + 1)) := by rw [n1', nI_1]; congr 1
    have hQ2 := fun J hJ => hQ J hJ
    rw [show 2 * (r + 1) = (2 * r + 1) + 1 by omega, cp_s] at hQ2
    by_cases h1 : 2 * i < q
    · refine And.intro (fun h => absurd h (nI_ge h1 (by omega))) (fun _ => ?_)
      refine And.intro (sw_k hW (Nat.le_of_ble_eq_true rfl) rfl) ?_
      refine Exists.intro _ (And.intro (sw_r hW (Nat.le_of_ble_eq_true rfl) rfl rfl) ?_)
      refine And.intro (sw_n hW (Nat.le_of_ble_eq_true rfl) rfl rfl (show 2 * i < 60 by omega) (Nat.le_of_ble_eq_true rfl)) ?_
      rw [ix (show 2 * i < 2147483648 by omega), w8 _ h1]
      refine And.intro (sw_k hW (Nat.le_of_ble_eq_true rfl) rfl) ?_
      refine Exists.intro _ (And.intro (sw_r hW (Nat.le_of_ble_eq_true rfl) rfl rfl) ?_)
      refine And.intro (sw_n hW (Nat.le_of_ble_eq_true rfl) rfl rfl ((Nat.le_of_ble_eq_true rfl)) (Nat.le_of_ble_eq_true rfl)) ?_
      rw [show nw J2 (gnF T (i + 1)) 86 (4 : Int32).toNatClampNeg = xdF T (2 * i) by rw [xd_e]; rfl]
      refine And.intro (fun e => ?_) (fun e => ?_)
      · rw [if_neg (fun h => e h.2)] at hQ2
        refine And.intro (fun _ => ?_) (fun h => absurd (fun p => by rw [n0', m2, nI_1] at p; have := (nI_eq (by omega) (by omega)).mp p; omega) h)
        exact l_chkX (e := 2 * i) (j := i + 1) hW (by rw [n0', Int32.add_zero]) (nI_1 i) hzU j88 hz0 hq hD (by omega) (by omega) (hQ2 J2 hF2)
      · have e := Decidable.of_not_not e
        rw [if_pos ⟨h1, e⟩, cp_s] at hQ2
        refine And.intro (fun h => absurd (by rw [m2]) h) (fun _ => ?_)
        by_cases h2 : 2 * i + 1 < q
        · refine And.intro (fun h => absurd h (by rw [n1']; exact nI_ge h2 (by omega))) (fun _ => ?_)
          refine And.intro (sw_k hW (Nat.le_of_ble_eq_true rfl) rfl) ?_
          refine Exists.intro _ (And.intro (sw_r hW (Nat.le_of_ble_eq_true rfl) rfl rfl) ?_)
          refine And.intro (by rw [n1']; exact sw_n hW (Nat.le_of_ble_eq_true rfl) rfl rfl (show 2 * i + 1 < 60 by omega) (Nat.le_of_ble_eq_true rfl)) ?_
          rw [show nw J2 (gnF T (i + 1)) 108 (nI (2 * i) + 1).toNatClampNeg = W (2 * i + 1) by rw [n1', ix (by omega)]; exact w8 _ h2]
          refine And.intro (sw_k hW (Nat.le_of_ble_eq_true rfl) rfl) ?_
          refine s_marks (n := n2) hW hU2.1 hU2.2.1 ?_
          rw [← xd_o hU2]
          refine And.intro (fun e2 => ?_) (fun e2 => ?_)
          · rw [if_neg (fun h => e2 h.2)] at hQ2
            exact l_chkX (e := 2 * i + 1) (j := i + 1) hW n2' (nI_1 i) hzU j88 hz0 hq hD (by omega) (by omega) (hQ2 J2 hF2)
          · rw [if_pos ⟨h2, Decidable.of_not_not e2⟩] at hQ2
            exact ih (i + 1) n2 _ _ J2 _ (nI_1 i) n3' rfl (by omega) hU2 hF2 hQ2
        · refine And.intro (fun _ => ?_) (fun h => absurd (by rw [n1']; exact nI_le (by omega) (by omega)) h)
          rw [if_neg (fun h => h2 h.1)] at hQ2
          exact l_chkX (e := 2 * i + 1) (j := i + 1) hW n2' (nI_1 i) hzU j88 hz0 hq hD (by omega) (by omega) (hQ2 J2 hF2)
    · refine And.intro (fun _ => ?_) (fun h => absurd (nI_le (by omega) (by omega)) h)
      rw [if_neg (fun h => h1 h.1)] at hQ2
      refine And.intro (fun _ => ?_) (fun h => absurd (fun p => by rw [n0', m2, nI_1] at p; have := (nI_eq (by omega) (by omega)).mp p; omega) h)
      exact l_chkX (e := 2 * i) (j := i + 1) hW (by rw [n0', Int32.add_zero]) (nI_1 i) hzU j88 hz0 hq hD (by omega) (by omega) (hQ2 J2 hF2)
theorem Sim.sn {nx : Nat} {ln : Nat → Nat} {R : Nat → Nat → Option Nat} {I I' : Nat → Nat → Int32} (h : Sim nx ln R I) (ho : ∀ o, ¬ o = 0 → ¬ o = 83 → ¬ o = 85 → ¬ o = 108 → I' o = I o) (h0 : ∀ q, ¬ q = 11 → I' 0 q = I 0 q) (h85 : ∀ q, ¬ q = 35 → I' 85 q = I 85 q) (hs : SN I') : Sim nx ln R I' := by
  obtain ⟨b1, b2, b3, b4, b5, b6, b7⟩ := h
  exact ⟨b1, b2.keep (fun o h => ho o (by omega) (by omega) (by omega) (by omega)) (h0 4 (by decide)) (h85 3 (by decide)), b3.keep (h0 6 (by decide)) (h85 9 (by decide)) (ho 50 (by omega) (by omega) (by omega) (by omega)) (ho 92 (by omega) (by omega) (by omega) (by omega)), b4.keep (fun o h => ho o (by omega) (by omega) (by omega) (by omega)), b5.keep (fun o h => ho o (by omega) (by omega) (by omega) (by omega)), hs, b7.keep (ho 93 (by omega) (by omega) (by omega) (by omega)) (ho 94 (by omega) (by omega) (by omega) (by omega))⟩
theorem sn_0 {nx : Nat} {ln : Nat → Nat} {R : Nat → Nat → Option Nat} {I : Nat → Nat → Int32} (h : Sim nx ln R I) : Sim nx ln R (up2 (up2 I 0 11 0) 85 35 0) := by
  refine h.sn (fun o h1 h2 h3 h4 => by rw [up2_ne h3, up2_ne h1]) (fun q hq => by rw [up2_ne (by decide), up2_eq, up1_ne hq]) (fun q hq => by rw [up2_eq, up1_ne hq, up2_ne (by decide)]) ⟨0, by omega, ?_, ?_, fun i hi => absurd hi (by omega)⟩
  · rw [up2_ne (by decide), up2_eq, up1_eq]; rfl
  · rw [up2_eq, up1_eq]; rfl
theorem pub_check (v : Int32) : Pub mX7_check mX8_check [.int v] := by
  intro k nx sl ln R I hS
  have hW := hS.1
  have ht3 : Tw 35 := Or.inr (Or.inr rfl)
  obtain ⟨n, m, hT, hC, hL, hG, hZ, hZ7, hZ8, hIm⟩ := id hS.2.1
  obtain ⟨q, hq, q1, q2, q3⟩ := id hS.2.2.2.2.2.1
  refine Go_wp 60 rfl ?_
  refine And.intro (sw_k hW (Nat.le_of_ble_eq_true rfl) rfl) ?_
  rw [q1]
  refine And.intro (sw_k hW (Nat.le_of_ble_eq_true rfl) rfl) ?_
  refine c_isBt (a := 1) (b := 30) rfl rfl (fun d h1 h2 e => ?_) (fun e => ?_)
  · subst e
    refine And.intro (fun _ => ?_) (fun h9 => absurd (by decide) h9)
    refine And.intro (sw_k hW (Nat.le_of_ble_eq_true rfl) rfl) ?_
    rw [show up2 I 0 11 0 0 4 = I 0 4 by rw [up2_eq, up1_ne (by decide)]]
    rcases hIm with ⟨i1, i2⟩ | ⟨i1, i2, ni, mi, hmm, hT7, hC7, hL7, hG7⟩
    · rw [i1]
      refine And.intro (fun h9 => absurd rfl h9) (fun _ => ?_)
      refine ⟨_, rfl, ?_⟩
      refine Go_wp 60 rfl ?_
      refine And.intro (sw_k hW (Nat.le_of_ble_eq_true rfl) rfl) ?_
      refine And.intro (sw_k hW (Nat.le_of_ble_eq_true rfl) rfl) ?_
      refine s_isBt (a := 1) (b := 30) rfl rfl (fun _ _ _ _ => ?_) (fun e3 => absurd rfl (e3 d h1 h2))
      refine And.intro (fun _ => ?_) (fun h9 => absurd (by decide) h9)
      refine And.intro (sw_k hW (Nat.le_of_ble_eq_true rfl) rfl) ?_
      rw [show up2 (up2 I 0 11 0) 85 35 0 85 3 = I 85 3 by rw [up2_eq, up1_ne (by decide), up2_ne (by decide)], i2]
      refine And.intro (fun h9 => absurd rfl h9) (fun _ => ?_)
      exact pub_end (sn_0 hS)
    · rw [i1]
      refine And.intro (fun _ => ?_) (fun h9 => absurd (by decide) h9)
      obtain ⟨dy, g, g1, g2, g3, g4⟩ := hG7
      obtain ⟨Ia, hIa⟩ : ∃ Ia, up2 I 0 11 0 = Ia := ⟨_, rfl⟩
      have ea : ∀ o, ¬ o = 0 → Ia o = I o := fun o h => by rw [← hIa, up2_ne h]
      have hn7 := hT7.2.1
      have hC7a : CT Ia 35 (I 87) ni mi := hC7.keep hn7 (fun o h1 h2 => ea o (by omega))
      have hL7a : LT nx ln R Ia (I 87) mi := hL7.keep (fun o h => ea o (by omega)) (fun _ _ => rfl)
      rw [hIa]
      refine And.intro (sw_k hW (Nat.le_of_ble_eq_true rfl) rfl) ?_
      refine Exists.intro _ (And.intro (sw_r hW (Nat.le_of_ble_eq_true rfl) rfl rfl) ?_)
      refine And.intro (w_t hW ht3) ?_
      rw [hC7a.2.2.2.2.2.2.2.2.1, g1]
      obtain ⟨D, hDD⟩ : ∃ D, D = min d (9999 - dy) := ⟨_, rfl⟩
      have eD : mn (nI d) ((9999 : Int32) - nI dy) = nI D := by
        rw [show (9999 : Int32) = nI 9999 from rfl, nI_sub g2, mn_nI (by omega) (by omega), hDD]
      refine And.intro (sw_k hW (Nat.le_of_ble_eq_true rfl) rfl) ?_
      rw [show (if (9999 : Int32) - nI dy < nI d then (9999 : Int32) - nI dy else nI d) = nI D from eD]
      refine c_cmp (W := I 108) hW hT7 hC7a hL7a hq (by omega) (fun j hj => by rw [ea 83 (by omega)]; exact q3 j hj) (fun I2 hF2 => ?_)
      have e2 : ∀ o, 35 ≤ o → I2 o = I o := fun o h => by rw [hF2 o (by omega) (by omega) (by omega), ea o (by omega)]
      refine ⟨_, rfl, ?_⟩
      refine Go_wp 100 rfl ?_
      refine And.intro (sw_k hW (Nat.le_of_ble_eq_true rfl) rfl) ?_
      rw [show I2 85 35 = nI q by rw [e2 85 (by omega)]; exact q2]
      refine And.intro (sw_k hW (Nat.le_of_ble_eq_true rfl) rfl) ?_
      refine s_isBt (a := 1) (b := 30) rfl rfl (fun _ _ _ _ => ?_) (fun e3 => absurd rfl (e3 d h1 h2))
      refine And.intro (fun _ => ?_) (fun h9 => absurd (by decide) h9)
      refine And.intro (sw_k hW (Nat.le_of_ble_eq_true rfl) rfl) ?_
      rw [show up2 I2 85 35 0 85 3 = 1 by rw [up2_eq, up1_ne (by decide), e2 85 (by omega)]; exact i2]
      refine And.intro (fun _ => ?_) (fun h9 => absurd (by decide) h9)
      obtain ⟨Ib, hIb⟩ : ∃ Ib, up2 I2 85 35 0 = Ib := ⟨_, rfl⟩
      have eb : ∀ o, ¬ o = 85 → Ib o = I2 o := fun o h => by rw [← hIb, up2_ne h]
      have b86 : Ib 86 = I 86 := by rw [eb 86 (by omega), e2 86 (by omega)]
      have b87 : Ib 87 = I 87 := by rw [eb 87 (by omega), e2 87 (by omega)]
      have b88 : Ib 88 = I 88 := by rw [eb 88 (by omega), e2 88 (by omega)]
      rw [hIb]
      refine And.intro (sw_k hW (Nat.le_of_ble_eq_true rfl) rfl) ?_
      refine Exists.intro _ (And.intro (sw_r hW (Nat.le_of_ble_eq_true rfl) rfl rfl) ?_)
      refine And.intro (sw_k hW (Nat.le_of_ble_eq_true rfl) rfl) ?_
      refine Exists.intro _ (And.intro (sw_r hW (Nat.le_of_ble_eq_true rfl) rfl rfl) ?_)
      refine s_copyAll hW (Or.inl rfl) (Or.inr (Or.inr rfl)) (by decide) (by rw [b86]; exact hZ) (by rw [b88]; exact hZ8) ?_
      rw [b86]
      refine And.intro (sw_k hW (Nat.le_of_ble_eq_true rfl) rfl) ?_
      refine Exists.intro _ (And.intro (sw_r hW (Nat.le_of_ble_eq_true rfl) rfl rfl) ?_)
      refine And.intro (sw_k hW (Nat.le_of_ble_eq_true rfl) rfl) ?_
      refine Exists.intro _ (And.intro (sw_r hW (Nat.le_of_ble_eq_true rfl) rfl rfl) ?_)
      refine s_copyAll hW (Or.inr (Or.inl rfl)) (Or.inl rfl) (by decide) (by rw [up1_ne (by decide), b87]; exact hZ7) (by rw [up1_ne (by decide), b86]; exact hZ) ?_
      rw [show up1 Ib 88 (I 86) 87 = I 87 by rw [up1_ne (by decide), b87]]
      refine And.intro (sw_k hW (Nat.le_of_ble_eq_true rfl) rfl) ?_
      refine Exists.intro _ (And.intro (sw_r hW (Nat.le_of_ble_eq_true rfl) rfl rfl) ?_)
      refine And.intro (sw_n hW (Nat.le_of_ble_eq_true rfl) rfl rfl ((Nat.le_of_ble_eq_true rfl)) (Nat.le_of_ble_eq_true rfl)) ?_
      rw [show up1 (up1 Ib 88 (I 86)) 86 (I 87) 86 (2 : Int32).toNatClampNeg = nI dy from g1]
      refine s_within ?_
      rw [show wi ((9999 : Int32) - nI dy) 0 (nI d) = nI D by rw [show (9999 : Int32) = nI 9999 from rfl, nI_sub g2, wi_nn (by omega) (by omega), hDD, Nat.min_comm]]
      have fin : ∀ J2, Sc (up1 Ib 88 (I 86)) J2 → Sim nx ln R (nw J2 (I 86)) := fun J2 hJ2 => by
        refine (sn_0 hS).scr8 (fun o h1 h2 => ?_) ?_
        · unfold scO at h1
          by_cases e : o = 86
          · subst e; rw [up2_ne (by decide), up2_ne (by decide)]; exact up1_eq
          · rw [nwo _ _ e, hJ2 o (by omega) (by omega), up1_ne h2]
            by_cases e5 : o = 85
            · subst e5
              rw [← hIb, up2_eq, up2_eq, e2 85 (by omega), up2_ne (by decide)]
            · rw [eb o e5, up2_ne e5]
              rw [hF2 o (by omega) (by omega) (by omega), ← hIa]
        · rw [nwo _ _ (by decide), hJ2 88 (by decide) (by decide), up1_eq]; exact hZ
      have hl := l_chk (k := k + 14) (sl := sl) (Q := fun r2 h2 => r2 = some (.int (caF q D (cpF (xdF (I 87)) (I 108) q (2 * D) 0))) ∧ ∃ (nx2 sl2 : Nat) (ln2 : Nat → Nat) (R2 : Nat → Nat → Option Nat) (I2 : Nat → Nat → Int32), h2 = (nx2, sl2, ln2, R2, I2) ∧ Sim nx2 ln2 R2 I2 ∧ nx2 ≤ nx + 2 ∧ sl2 ≤ sl + 200 ∧ (nx2 = nx ∨ nx2 = nx + 2) ∧ sl ≤ sl2) (I := up1 Ib 88 (I 86)) (T := I 87) (T0 := I 86) (W := I 108) (D := D) (q := q) (x1 := some (.int (nI d))) hW hT7 hZ7 up1_eq hZ hq (by omega) (fun j hj => by rw [up1_ne (by decide), eb 108 (by decide), e2 108 (by omega)]) D 0 ni 0 0 (up1 Ib 88 (I 86)) _ rfl rfl rfl (by omega) hT7 Sc.rf (fun J2 hJ2 => pub_end (fin J2 hJ2))
      rw [← m2] at hl
      exact hl
  · refine And.intro (fun h9 => absurd rfl h9) (fun _ => ?_)
    refine ⟨_, rfl, ?_⟩
    refine Go_wp 60 rfl ?_
    refine And.intro (sw_k hW (Nat.le_of_ble_eq_true rfl) rfl) ?_
    refine And.intro (sw_k hW (Nat.le_of_ble_eq_true rfl) rfl) ?_
    refine s_isBt (a := 1) (b := 30) rfl rfl (fun j h1 h2 e2 => absurd e2 (e j h1 h2)) (fun _ => ?_)
    refine And.intro (fun h9 => absurd rfl h9) (fun _ => ?_)
    exact pub_end (sn_0 hS)
