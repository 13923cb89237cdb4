/-! Public methods: days thought of. -/
theorem Sim.scr8 {nx : Nat} {ln : Nat → Nat} {R : Nat → Nat → Option Nat} {I I' : Nat → Nat → Int32} (h : Sim nx ln R I) (ho : ∀ o, ¬ scO o → ¬ o = 88 → I' o = I o) (h8 : Zr (I' 88)) : Sim nx ln R I' := by
  unfold scO at ho
  obtain ⟨n0, m0, a1, a2, a3, a4, a5, a6, a7, a8⟩ := id h.2.1
  have e86 := ho 86 (by omega) (by omega)
  refine h.town ⟨fun o q => ho o (by unfold keepO at q; omega) (by unfold keepO at q; omega), by rw [ho 0 (by omega) (by omega)], by rw [ho 0 (by omega) (by omega)], by rw [ho 85 (by omega) (by omega)], by rw [ho 85 (by omega) (by omega)]⟩ (SA.now a1 h.2.1 (n' := n0) (by rw [e86]; exact a1) (by rw [e86]; exact a2.keep a1.2.1 (fun o p q => ho o (by omega) (by omega))) (by rw [e86]; exact a4) (by rw [e86]; exact a5) h8 (fun p _ => by rw [e86]) (fun o q => ho o (by omega) (by omega)) (by rw [ho 0 (by omega) (by omega)]) (by rw [ho 85 (by omega) (by omega)]))
theorem s_thinks {nx sl : Nat} {ln : Nat → Nat} {R : Nat → Nat → Option Nat} {I : Nat → Nat → Int32} {Q : Option Value → Hp → Prop} {k : Nat} (hW : SW nx ln R) (h6 : Zr (I 86)) (h8 : Zr (I 88)) (hQ : Q none (nx, sl, ln, R, up1 I 88 (I 86))) : Go (k + 1) mX8_thinks [.ref 85] (nx, sl, ln, R, I) Q := by
  refine Go_wp 20 rfl ?_
  refine And.intro (sw_k hW (Nat.le_of_ble_eq_true rfl) rfl) ?_
  refine Exists.intro _ (And.intro (sw_r hW (Nat.le_of_ble_eq_true rfl) rfl rfl) ?_)
  refine And.intro (sw_k hW (Nat.le_of_ble_eq_true rfl) rfl) ?_
  refine Exists.intro _ (And.intro (sw_r hW (Nat.le_of_ble_eq_true rfl) rfl rfl) ?_)
  exact s_copyAll hW (Or.inl rfl) (Or.inr (Or.inr rfl)) (by decide) h6 h8 hQ
theorem s_putsBack {nx sl : Nat} {ln : Nat → Nat} {R : Nat → Nat → Option Nat} {I : Nat → Nat → Int32} {Q : Option Value → Hp → Prop} {k : Nat} (hW : SW nx ln R) (h6 : Zr (I 86)) (h8 : Zr (I 88)) (hQ : Q none (nx, sl, ln, R, up1 I 86 (I 88))) : Go (k + 1) mX8_putsBack [.ref 85] (nx, sl, ln, R, I) Q := by
  refine Go_wp 20 rfl ?_
  refine And.intro (sw_k hW (Nat.le_of_ble_eq_true rfl) rfl) ?_
  refine Exists.intro _ (And.intro (sw_r hW (Nat.le_of_ble_eq_true rfl) rfl rfl) ?_)
  refine And.intro (sw_k hW (Nat.le_of_ble_eq_true rfl) rfl) ?_
  refine Exists.intro _ (And.intro (sw_r hW (Nat.le_of_ble_eq_true rfl) rfl rfl) ?_)
  exact s_copyAll hW (Or.inr (Or.inr rfl)) (Or.inl rfl) (by decide) h8 h6 hQ
theorem gn_zr {T : Nat → Int32} {n m : Nat} (hT : IT T n m) (hz : Zr T) (i : Nat) : Zr (gnF T i) := fun p hp => by rw [gn_hi hT (by omega)]; exact hz p hp
/-- thought of, and put back -/
theorem sim_think {nx : Nat} {ln : Nat → Nat} {R : Nat → Nat → Option Nat} {I I3 J2 : Nat → Nat → Int32} {T' : Nat → Int32} (hS : Sim nx ln R I) (hF : ∀ o, (o < 20 ∨ 34 < o) → ¬ o = 3 → ¬ o = 4 → I3 o = I o) (hJ : Sc (up1 I3 88 (I 86)) J2) : Sim nx ln R (up1 (nw J2 T') 86 (nw J2 T' 88)) := by
  obtain ⟨n0, m0, a1, a2, a3, a4, a5, a6, a7, a8⟩ := id hS.2.1
  have e88 : nw J2 T' 88 = I 86 := by rw [nwo _ _ (by decide), hJ 88 (by decide) (by decide), up1_eq]
  refine hS.scr8 (fun o h1 h2 => ?_) ?_
  · unfold scO at h1
    by_cases e : o = 86
    · subst e; rw [up1_eq, e88]
    · rw [up1_ne e, nwo _ _ e, hJ o (by omega) (by omega), up1_ne h2, hF o (by omega) (by omega) (by omega)]
  · rw [up1_ne (by decide), e88]; exact a5
theorem pub_behind (v w : Int32) : Pub mX7_behind mX8_behind [.int v, .int w] := by
  intro k nx sl ln R I hS
  have hW := hS.1
  have ht := tw5
  have ht2 : Tw 20 := Or.inr (Or.inl rfl)
  obtain ⟨n, m, hT, hC, hL, hG, hZ, hZ7, hZ8, -⟩ := id hS.2.1
  have hn := hT.2.1
  refine Go_wp 60 rfl ?_
  refine c_isIn (m := 0) (n := 101) rfl (fun i hi e => ?_) (fun e => ?_)
  · subst e
    refine And.intro (fun h9 => absurd h9 (by decide)) (fun _ => ?_)
    refine c_isIn (m := 0) (n := 12) rfl (fun j hj e => ?_) (fun e => ?_)
    · subst e
      refine And.intro (fun _ => ?_) (fun h9 => absurd (by decide) h9)
      refine And.intro (sw_k hW (Nat.le_of_ble_eq_true rfl) rfl) ?_
      refine Exists.intro _ (And.intro (sw_r hW (Nat.le_of_ble_eq_true rfl) rfl rfl) ?_)
      refine And.intro (sw_k hW (Nat.le_of_ble_eq_true rfl) rfl) ?_
      refine Exists.intro _ (And.intro (sw_r hW (Nat.le_of_ble_eq_true rfl) rfl rfl) ?_)
      refine And.intro (w_t hW ht2) ?_
      refine c_become hW ht2 ht (by decide) hC hT.1 hn (fun I2 hC2 hF2 => ?_)
      have hL2 : LT nx ln R I2 (I 86) m := hL.keep (fun o ho => hF2 o (by omega)) (fun _ _ => rfl)
      refine And.intro (sw_k hW (Nat.le_of_ble_eq_true rfl) rfl) ?_
      refine Exists.intro _ (And.intro (sw_r hW (Nat.le_of_ble_eq_true rfl) rfl rfl) ?_)
      refine And.intro (w_t hW ht2) ?_
      refine c_passDays hW ht2 hC2 hT hL2 (show i ≤ 10000 by omega) (fun I3 n3 hC3 hT3 hF3 => ?_)
      have hF : ∀ o, (o < 20 ∨ 34 < o) → ¬ o = 3 → ¬ o = 4 → I3 o = I o := fun o h1 h2 h3 => by rw [hF3 o (by omega) h2 h3]; exact hF2 o (by omega)
      have h86 : I3 86 = I 86 := hF 86 (by omega) (by decide) (by decide)
      have h88 : I3 88 = I 88 := hF 88 (by omega) (by decide) (by decide)
      obtain ⟨T, hTT⟩ : ∃ T, gnF (I 86) i = T := ⟨_, rfl⟩
      have hzT : Zr T := by rw [← hTT]; exact gn_zr hT hZ i
      rw [hTT] at hC3 hT3
      rcases (show j = 0 ∨ j = 1 ∨ j = 2 ∨ j = 3 ∨ 4 ≤ j by omega) with rfl | rfl | rfl | rfl | h4
      · refine And.intro (fun _ => ?_) (fun h9 => absurd rfl h9)
        refine And.intro (sw_k hW (Nat.le_of_ble_eq_true rfl) rfl) ?_
        refine Exists.intro _ (And.intro (sw_r hW (Nat.le_of_ble_eq_true rfl) rfl rfl) ?_)
        refine And.intro (w_t hW ht2) ?_
        rw [hC3.2.2.2.2.2.1]
        refine ⟨_, rfl, ?_⟩
        refine Go_wp 60 rfl ?_
        refine s_isIn (n := 101) rfl (fun _ _ _ => ?_) (fun e => absurd rfl (e i hi))
        refine And.intro (fun h9 => absurd h9 (by decide)) (fun _ => ?_)
        refine s_isIn (n := 12) rfl (fun _ _ _ => ?_) (fun e => absurd rfl (e 0 hj))
        refine And.intro (fun _ => ?_) (fun h9 => absurd (by decide) h9)
        refine And.intro (sw_k hW (Nat.le_of_ble_eq_true rfl) rfl) ?_
        refine s_thinks hW (by rw [h86]; exact hZ) (by rw [h88]; exact hZ8) ?_
        rw [h86, ← nw_is (show up1 I3 88 (I 86) 86 = I 86 by rw [up1_ne (by decide)]; exact h86)]
        refine And.intro (sw_k hW (Nat.le_of_ble_eq_true rfl) rfl) ?_
        refine s_goesOn hW hT (show i ≤ 10000 by omega) (fun J2 hJ2 => ?_)
        rw [hTT]
        have z8 : Zr (nw J2 T 88) := by rw [nwo _ _ (by decide), hJ2 88 (by decide) (by decide), up1_eq]; exact hZ
        refine And.intro (fun h9 => absurd h9 (by decide)) (fun _ => ?_)
        refine And.intro (sw_k hW (Nat.le_of_ble_eq_true rfl) rfl) ?_
        refine Exists.intro _ (And.intro (sw_r hW (Nat.le_of_ble_eq_true rfl) rfl rfl) ?_)
        refine And.intro (sw_n (i := 4) hW (Nat.le_of_ble_eq_true rfl) rfl rfl (Nat.le_of_ble_eq_true rfl) (Nat.le_of_ble_eq_true rfl)) ?_
        refine And.intro (sw_k hW (Nat.le_of_ble_eq_true rfl) rfl) ?_
        refine s_putsBack hW hzT z8 ?_
        exact pub_end (sim_think hS hF hJ2)
      · refine And.intro (fun h9 => absurd h9 (by decide)) (fun _ => ?_)
        refine And.intro (fun _ => ?_) (fun h9 => absurd rfl h9)
        refine And.intro (sw_k hW (Nat.le_of_ble_eq_true rfl) rfl) ?_
        refine Exists.intro _ (And.intro (sw_r hW (Nat.le_of_ble_eq_true rfl) rfl rfl) ?_)
        refine And.intro (w_t hW ht2) ?_
        rw [hC3.2.2.2.2.2.2.1]
        refine ⟨_, rfl, ?_⟩
        refine Go_wp 60 rfl ?_
        refine s_isIn (n := 101) rfl (fun _ _ _ => ?_) (fun e => absurd rfl (e i hi))
        refine And.intro (fun h9 => absurd h9 (by decide)) (fun _ => ?_)
        refine s_isIn (n := 12) rfl (fun _ _ _ => ?_) (fun e => absurd rfl (e 1 hj))
        refine And.intro (fun _ => ?_) (fun h9 => absurd (by decide) h9)
        refine And.intro (sw_k hW (Nat.le_of_ble_eq_true rfl) rfl) ?_
        refine s_thinks hW (by rw [h86]; exact hZ) (by rw [h88]; exact hZ8) ?_
        rw [h86, ← nw_is (show up1 I3 88 (I 86) 86 = I 86 by rw [up1_ne (by decide)]; exact h86)]
        refine And.intro (sw_k hW (Nat.le_of_ble_eq_true rfl) rfl) ?_
        refine s_goesOn hW hT (show i ≤ 10000 by omega) (fun J2 hJ2 => ?_)
        rw [hTT]
        have z8 : Zr (nw J2 T 88) := by rw [nwo _ _ (by decide), hJ2 88 (by decide) (by decide), up1_eq]; exact hZ
        refine And.intro (fun h9 => absurd h9 (by decide)) (fun _ => ?_)
        refine And.intro (sw_k hW (Nat.le_of_ble_eq_true rfl) rfl) ?_
        refine Exists.intro _ (And.intro (sw_r hW (Nat.le_of_ble_eq_true rfl) rfl rfl) ?_)
        refine And.intro (sw_n (i := 5) hW (Nat.le_of_ble_eq_true rfl) rfl rfl (Nat.le_of_ble_eq_true rfl) (Nat.le_of_ble_eq_true rfl)) ?_
        refine And.intro (sw_k hW (Nat.le_of_ble_eq_true rfl) rfl) ?_
        refine s_putsBack hW hzT z8 ?_
        exact pub_end (sim_think hS hF hJ2)
      · refine And.intro (fun h9 => absurd h9 (by decide)) (fun _ => ?_)
        refine And.intro (fun h9 => absurd h9 (by decide)) (fun _ => ?_)
        refine And.intro (fun _ => ?_) (fun h9 => absurd rfl h9)
        refine And.intro (sw_k hW (Nat.le_of_ble_eq_true rfl) rfl) ?_
        refine Exists.intro _ (And.intro (sw_r hW (Nat.le_of_ble_eq_true rfl) rfl rfl) ?_)
        refine And.intro (w_t hW ht2) ?_
        rw [hC3.2.2.2.2.2.2.2.1]
        refine ⟨_, rfl, ?_⟩
        refine Go_wp 60 rfl ?_
        refine s_isIn (n := 101) rfl (fun _ _ _ => ?_) (fun e => absurd rfl (e i hi))
        refine And.intro (fun h9 => absurd h9 (by decide)) (fun _ => ?_)
        refine s_isIn (n := 12) rfl (fun _ _ _ => ?_) (fun e => absurd rfl (e 2 hj))
        refine And.intro (fun _ => ?_) (fun h9 => absurd (by decide) h9)
        refine And.intro (sw_k hW (Nat.le_of_ble_eq_true rfl) rfl) ?_
        refine s_thinks hW (by rw [h86]; exact hZ) (by rw [h88]; exact hZ8) ?_
        rw [h86, ← nw_is (show up1 I3 88 (I 86) 86 = I 86 by rw [up1_ne (by decide)]; exact h86)]
        refine And.intro (sw_k hW (Nat.le_of_ble_eq_true rfl) rfl) ?_
        refine s_goesOn hW hT (show i ≤ 10000 by omega) (fun J2 hJ2 => ?_)
        rw [hTT]
        have z8 : Zr (nw J2 T 88) := by rw [nwo _ _ (by decide), hJ2 88 (by decide) (by decide), up1_eq]; exact hZ
        refine And.intro (fun h9 => absurd h9 (by decide)) (fun _ => ?_)
        refine And.intro (sw_k hW (Nat.le_of_ble_eq_true rfl) rfl) ?_
        refine Exists.intro _ (And.intro (sw_r hW (Nat.le_of_ble_eq_true rfl) rfl rfl) ?_)
        refine And.intro (sw_n (i := 6) hW (Nat.le_of_ble_eq_true rfl) rfl rfl (Nat.le_of_ble_eq_true rfl) (Nat.le_of_ble_eq_true rfl)) ?_
        refine And.intro (sw_k hW (Nat.le_of_ble_eq_true rfl) rfl) ?_
        refine s_putsBack hW hzT z8 ?_
        exact pub_end (sim_think hS hF hJ2)
      · refine And.intro (fun h9 => absurd h9 (by decide)) (fun _ => ?_)
        refine And.intro (fun h9 => absurd h9 (by decide)) (fun _ => ?_)
        refine And.intro (fun h9 => absurd h9 (by decide)) (fun _ => ?_)
        refine And.intro (fun _ => ?_) (fun h9 => absurd rfl h9)
        refine And.intro (sw_k hW (Nat.le_of_ble_eq_true rfl) rfl) ?_
        refine Exists.intro _ (And.intro (sw_r hW (Nat.le_of_ble_eq_true rfl) rfl rfl) ?_)
        refine And.intro (w_t hW ht2) ?_
        rw [hC3.1]
        refine ⟨_, rfl, ?_⟩
        refine Go_wp 60 rfl ?_
        refine s_isIn (n := 101) rfl (fun _ _ _ => ?_) (fun e => absurd rfl (e i hi))
        refine And.intro (fun h9 => absurd h9 (by decide)) (fun _ => ?_)
        refine s_isIn (n := 12) rfl (fun _ _ _ => ?_) (fun e => absurd rfl (e 3 hj))
        refine And.intro (fun _ => ?_) (fun h9 => absurd (by decide) h9)
        refine And.intro (sw_k hW (Nat.le_of_ble_eq_true rfl) rfl) ?_
        refine s_thinks hW (by rw [h86]; exact hZ) (by rw [h88]; exact hZ8) ?_
        rw [h86, ← nw_is (show up1 I3 88 (I 86) 86 = I 86 by rw [up1_ne (by decide)]; exact h86)]
        refine And.intro (sw_k hW (Nat.le_of_ble_eq_true rfl) rfl) ?_
        refine s_goesOn hW hT (show i ≤ 10000 by omega) (fun J2 hJ2 => ?_)
        rw [hTT]
        have z8 : Zr (nw J2 T 88) := by rw [nwo _ _ (by decide), hJ2 88 (by decide) (by decide), up1_eq]; exact hZ
        refine And.intro (fun _ => ?_) (fun h9 => absurd (by decide) h9)
        refine And.intro (fun h9 => absurd rfl h9) (fun _ => ?_)
        refine And.intro (sw_k hW (Nat.le_of_ble_eq_true rfl) rfl) ?_
        refine Exists.intro _ (And.intro (sw_r hW (Nat.le_of_ble_eq_true rfl) rfl rfl) ?_)
        refine And.intro (sw_n hW (Nat.le_of_ble_eq_true rfl) rfl rfl ((Nat.le_of_ble_eq_true rfl)) (Nat.le_of_ble_eq_true rfl)) ?_
        refine And.intro (sw_k hW (Nat.le_of_ble_eq_true rfl) rfl) ?_
        refine s_putsBack hW hzT z8 ?_
        exact pub_end (sim_think hS hF hJ2)
      · refine And.intro (fun h9 => absurd ((nI_eq (b := 0) (by omega) (by decide)).mp h9) (by omega)) (fun _ => And.intro (fun h9 => absurd ((nI_eq (b := 1) (by omega) (by decide)).mp h9) (by omega)) (fun _ => And.intro (fun h9 => absurd ((nI_eq (b := 2) (by omega) (by decide)).mp h9) (by omega)) (fun _ => And.intro (fun h9 => absurd ((nI_eq (b := 3) (by omega) (by decide)).mp h9) (by omega)) (fun _ => ?_))))
        refine And.intro (sw_k hW (Nat.le_of_ble_eq_true rfl) rfl) ?_
        refine Exists.intro _ (And.intro (sw_r hW (Nat.le_of_ble_eq_true rfl) rfl rfl) ?_)
        refine And.intro (w_t hW ht2) (Exists.intro _ (And.intro (w_r4 hW ht2) ?_))
        refine And.intro (by rw [show nI j - 4 = nI (j - 4) from nI_sub h4]; exact w_d hW ht2 (i := j - 4) (by omega)) ?_
        rw [show nI j - 4 = nI (j - 4) from nI_sub h4, ix (show j - 4 < 2147483648 by omega), hC3.2.2.2.1 (j - 4) (by omega)]
        refine ⟨_, rfl, ?_⟩
        refine Go_wp 60 rfl ?_
        refine s_isIn (n := 101) rfl (fun _ _ _ => ?_) (fun e => absurd rfl (e i hi))
        refine And.intro (fun h9 => absurd h9 (by decide)) (fun _ => ?_)
        refine s_isIn (n := 12) rfl (fun _ _ _ => ?_) (fun e => absurd rfl (e j hj))
        refine And.intro (fun _ => ?_) (fun h9 => absurd (by decide) h9)
        refine And.intro (sw_k hW (Nat.le_of_ble_eq_true rfl) rfl) ?_
        refine s_thinks hW (by rw [h86]; exact hZ) (by rw [h88]; exact hZ8) ?_
        rw [h86, ← nw_is (show up1 I3 88 (I 86) 86 = I 86 by rw [up1_ne (by decide)]; exact h86)]
        refine And.intro (sw_k hW (Nat.le_of_ble_eq_true rfl) rfl) ?_
        refine s_goesOn hW hT (show i ≤ 10000 by omega) (fun J2 hJ2 => ?_)
        rw [hTT]
        have z8 : Zr (nw J2 T 88) := by rw [nwo _ _ (by decide), hJ2 88 (by decide) (by decide), up1_eq]; exact hZ
        refine And.intro (fun _ => ?_) (fun h9 => absurd (nI_le (a := 3) (by omega) (by omega)) h9)
        refine And.intro (fun _ => ?_) (fun h9 => absurd (fun h9 => absurd ((nI_eq (b := 3) (by omega) (by decide)).mp h9) (by omega)) h9)
        refine And.intro (sw_k hW (Nat.le_of_ble_eq_true rfl) rfl) ?_
        refine Exists.intro _ (And.intro (sw_r hW (Nat.le_of_ble_eq_true rfl) rfl rfl) ?_)
        have ex : (16 : Int32) + nI j - 4 = nI (16 + (j - 4)) := by rw [hx16, show (4 : Int32) = nI 4 from rfl, nI_sub (by omega)]; congr 1; omega
        refine And.intro (by rw [ex]; exact sw_n hW (Nat.le_of_ble_eq_true rfl) rfl rfl (show 16 + (j - 4) < 1446 by omega) (Nat.le_of_ble_eq_true rfl)) ?_
        rw [show nw J2 T 86 ((16 : Int32) + nI j - 4).toNatClampNeg = T (16 + (j - 4)) by rw [ex, ix (by omega)]; rfl]
        refine And.intro (sw_k hW (Nat.le_of_ble_eq_true rfl) rfl) ?_
        refine s_putsBack hW hzT z8 ?_
        exact pub_end (sim_think hS hF hJ2)
    · refine And.intro (fun h9 => absurd rfl h9) (fun _ => ?_)
      refine ⟨_, rfl, ?_⟩
      refine Go_wp 60 rfl ?_
      refine s_isIn (n := 101) rfl (fun _ _ _ => ?_) (fun e => absurd rfl (e i hi))
      refine And.intro (fun h9 => absurd h9 (by decide)) (fun _ => ?_)
      refine s_isIn (n := 12) rfl (fun j hj e2 => absurd e2 (e j hj)) (fun _ => ?_)
      refine And.intro (fun h9 => absurd rfl h9) (fun _ => ?_)
      exact pub_end hS
  · refine And.intro (fun _ => ?_) (fun h9 => absurd rfl h9)
    refine ⟨_, rfl, ?_⟩
    refine Go_wp 60 rfl ?_
    refine s_isIn (n := 101) rfl (fun j hj e2 => absurd e2 (e j hj)) (fun _ => ?_)
    refine And.intro (fun _ => ?_) (fun h9 => absurd rfl h9)
    exact pub_end hS
