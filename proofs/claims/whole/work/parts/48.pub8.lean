/-! Public methods: jugs dealt. -/
def drF (T : Nat → Int32) : Nat → Int32 := up1 T 0 (zN (T 0))
def rdF (T : Nat → Int32) (b : Nat) : Nat := (dw (T 0)).toNatClampNeg % b
theorem rd_ok (T : Nat → Int32) {b : Nat} (h0 : 0 < b) (hb : b < 2147483648) : irm (dw (T 0)) (nI b) = nI (rdF T b) := by
  obtain ⟨v, h1, h2⟩ := dw_ok (T 0)
  unfold rdF
  rw [h2, irm_nI (by omega) h0 hb, ix (by omega)]
theorem rd_lt (T : Nat → Int32) {b : Nat} (h0 : 0 < b) : rdF T b < b := Nat.mod_lt _ h0
def djF (T : Nat → Int32) (n : Nat) : Nat → Int32 := cmF (drF (drF (drF (drF T)))) n (nI (rdF T 6)) (nI (1 + rdF (drF T) 40)) (nI (rdF (drF (drF T)) 8)) (nI (rdF (drF (drF (drF T))) (2 + rdF (drF T) 40)))
theorem dr_ne {T : Nat → Int32} {p : Nat} (h : ¬ p = 0) : drF T p = T p := up1_ne h
theorem it_dr {T : Nat → Int32} {n m : Nat} (h : IT T n m) : IT (drF T) n m := h.free (Or.inl rfl)
theorem it_dj {T : Nat → Int32} {n m : Nat} (h : IT T n m) (hn : n < 10) : IT (djF T n) (n + 1) m := by
  have h1 := rd_lt T (b := 6) (by decide)
  have h2 := rd_lt (drF T) (b := 40) (by decide)
  have h3 := rd_lt (drF (drF T)) (b := 8) (by decide)
  have h4 := rd_lt (drF (drF (drF T))) (b := 2 + rdF (drF T) 40) (by omega)
  exact it_cm (it_dr (it_dr (it_dr (it_dr h)))) hn (by omega) (by omega) (by omega) (by omega) (by omega)
theorem dj_lo {T : Nat → Int32} {n p : Nat} (h0 : ¬ p = 0) (h1 : ¬ p = 1) (h2 : p < 24 + 5 * n ∨ 24 + 5 * n + 4 < p) : djF T n p = T p := by
  unfold djF
  rw [cm_lo h1 h2, dr_ne h0, dr_ne h0, dr_ne h0, dr_ne h0]
def dlF (T : Nat → Int32) (n : Nat) : Nat → Nat → Int32
  | 0 => T
  | i + 1 => djF (dlF T n i) (n + i)
theorem it_dl {T : Nat → Int32} {n m : Nat} (h : IT T n m) : ∀ i, n + i ≤ 10 → IT (dlF T n i) (n + i) m := by
  intro i
  induction i with
  | zero => intro _; exact h
  | succ i ih => intro hi; exact it_dj (ih (by omega)) (by omega)
theorem dl_lo {T : Nat → Int32} {n p : Nat} (h0 : ¬ p = 0) (h1 : ¬ p = 1) (h2 : p < 24 ∨ 74 ≤ p) : ∀ i, n + i ≤ 10 → dlF T n i p = T p := by
  intro i
  induction i with
  | zero => intro _; rfl
  | succ i ih =>
    intro hi
    show djF (dlF T n i) (n + i) p = T p
    rw [dj_lo h0 h1 (by omega), ih (by omega)]
theorem add1 (r : Nat) : nI r + 1 = nI (1 + r) := by rw [Nat.add_comm 1 r]; exact nI_1 r
theorem add2 (r : Nat) : nI (1 + r) + 1 = nI (2 + r) := by rw [nI_1]; congr 1; omega
theorem c_drawJug {nx sl : Nat} {ln : Nat → Nat} {R : Nat → Nat → Option Nat} {I : Nat → Nat → Int32} {Q : Option Value → Hp → Prop} {k : Nat} (hW : SW nx ln R) {t n m : Nat} {T : Nat → Int32} (ht : Tw t) (hC : CT I t T n m) (hT : T 1 = nI n) (hn : n < 10) (hQ : ∀ I2, CT I2 t (djF T n) (n + 1) m → Fr t I I2 → Q none (nx, sl, ln, R, I2)) : Go (k + 1) mX6_drawJug [.ref t] (nx, sl, ln, R, I) Q := by
  have htl := tw_lt ht
  have hn' : n ≤ 10 := by omega
  refine Go_wp 100 rfl ?_
  refine And.intro (w_t hW ht) ?_
  refine c_drawn hW ht hC.2.2.2.2.2.2.2.2.2.1 ?_
  have hC1 : CT (up2 I t 10 (zN (T 0))) t (drF T) n m := hC.num hn' (by omega)
  have hF1 : Fr t I (up2 I t 10 (zN (T 0))) := Fr.up (by omega)
  obtain ⟨I1, hI1⟩ : ∃ I1, up2 I t 10 (zN (T 0)) = I1 := ⟨_, rfl⟩
  rw [hI1] at hC1 hF1 ⊢
  refine And.intro (by decide) ?_
  rw [show irm (dw (T 0)) 6 = nI (rdF T 6) from rd_ok T (by decide) (by decide)]
  obtain ⟨T1, hT1⟩ : ∃ T1, drF T = T1 := ⟨_, rfl⟩
  have f1 : T1 1 = nI n := by rw [← hT1, dr_ne (by decide)]; exact hT
  rw [hT1] at hC1
  refine And.intro (w_t hW ht) ?_
  refine c_drawn hW ht hC1.2.2.2.2.2.2.2.2.2.1 ?_
  have hC2 : CT (up2 I1 t 10 (zN (T1 0))) t (drF T1) n m := hC1.num hn' (by omega)
  have hF2 : Fr t I1 (up2 I1 t 10 (zN (T1 0))) := Fr.up (by omega)
  obtain ⟨I2, hI2⟩ : ∃ I2, up2 I1 t 10 (zN (T1 0)) = I2 := ⟨_, rfl⟩
  rw [hI2] at hC2 hF2 ⊢
  refine And.intro (by decide) ?_
  rw [show irm (dw (T1 0)) 40 = nI (rdF T1 40) from rd_ok T1 (b := 40) (by decide) (by decide)]
  obtain ⟨T2, hT2⟩ : ∃ T2, drF T1 = T2 := ⟨_, rfl⟩
  have f2 : T2 1 = nI n := by rw [← hT2, dr_ne (by decide)]; exact f1
  rw [hT2] at hC2
  refine And.intro (w_t hW ht) ?_
  rw [add1]
  refine c_drawn hW ht hC2.2.2.2.2.2.2.2.2.2.1 ?_
  have hC3 : CT (up2 I2 t 10 (zN (T2 0))) t (drF T2) n m := hC2.num hn' (by omega)
  have hF3 : Fr t I2 (up2 I2 t 10 (zN (T2 0))) := Fr.up (by omega)
  obtain ⟨I3, hI3⟩ : ∃ I3, up2 I2 t 10 (zN (T2 0)) = I3 := ⟨_, rfl⟩
  rw [hI3] at hC3 hF3 ⊢
  refine And.intro (by decide) ?_
  rw [show irm (dw (T2 0)) 8 = nI (rdF T2 8) from rd_ok T2 (b := 8) (by decide) (by decide)]
  obtain ⟨T3, hT3⟩ : ∃ T3, drF T2 = T3 := ⟨_, rfl⟩
  have f3 : T3 1 = nI n := by rw [← hT3, dr_ne (by decide)]; exact f2
  rw [hT3] at hC3
  refine And.intro (w_t hW ht) ?_
  refine c_drawn hW ht hC3.2.2.2.2.2.2.2.2.2.1 ?_
  have hC4 : CT (up2 I3 t 10 (zN (T3 0))) t (drF T3) n m := hC3.num hn' (by omega)
  have hF4 : Fr t I3 (up2 I3 t 10 (zN (T3 0))) := Fr.up (by omega)
  obtain ⟨I4, hI4⟩ : ∃ I4, up2 I3 t 10 (zN (T3 0)) = I4 := ⟨_, rfl⟩
  rw [hI4] at hC4 hF4 ⊢
  have h40 := rd_lt T1 (b := 40) (by decide)
  refine And.intro (by rw [add2]; exact nI_ne0 (by omega) (by omega)) ?_
  rw [add2, rd_ok T3 (b := 2 + rdF T1 40) (by omega) (by omega)]
  refine And.intro (w_t hW ht) ?_
  obtain ⟨T4, hT4⟩ : ∃ T4, drF T3 = T4 := ⟨_, rfl⟩
  have f4 : T4 1 = nI n := by rw [← hT4, dr_ne (by decide)]; exact f3
  rw [hT4] at hC4
  refine c_addJug hW ht hC4 f4 hn (fun I5 hC5 hF5 => ?_)
  refine hQ I5 ?_ (hF1.tr (hF2.tr (hF3.tr (hF4.tr hF5))))
  unfold djF
  rw [hT1, hT2, hT3, hT4]
  exact hC5
theorem l_cdeal {nx sl : Nat} {ln : Nat → Nat} {R : Nat → Nat → Option Nat} {I : Nat → Nat → Int32} {Q : Option Value → Hp → Prop} {k : Nat} (hW : SW nx ln R) {n m c : Nat} {T : Nat → Int32} {x1 : Value} (hT : IT T n m) (hc : n + c ≤ 10) : ∀ (r i : Nat) (xi : Int32) (I1 : Nat → Nat → Int32), xi = nI i → CT I1 5 (dlF T n i) (n + i) m → Fr 5 I I1 → i + r = c → (∀ I2, CT I2 5 (dlF T n c) (n + c) m → Fr 5 I I2 → Q (some (.int (nI c))) (nx, sl, ln, R, I2)) → GoF (k + 2) mX7_deal 30 [some (.ref 0), some x1, some (.int (nI c)), some (.int xi)] [] (nx, sl, ln, R, I1) Q := by
  have ht := tw5
  intro r
  induction r with
  | zero =>
    intro i xi I1 hxi hC hF hir hQ
    subst hxi
    have e : i = c := by omega
    subst e
    refine GoF_wp1 40 ?_
    exact And.intro (fun _ => hQ I1 hC hF) (fun h9 => absurd (nI_le (Nat.le_refl i) (by omega)) h9)
  | succ r ih =>
    intro i xi I1 hxi hC hF hir hQ
    subst hxi
    refine GoF_wp1 40 ?_
    refine And.intro (fun h9 => absurd h9 (nI_ge (by omega) (by omega))) (fun _ => ?_)
    refine And.intro (sw_k hW (Nat.le_of_ble_eq_true rfl) rfl) ?_
    refine Exists.intro _ (And.intro (sw_r hW (Nat.le_of_ble_eq_true rfl) rfl rfl) ?_)
    refine And.intro (w_t hW ht) ?_
    refine c_drawJug hW ht hC (it_dl hT i (by omega)).1 (by omega) (fun I2 hC2 hF2 => ?_)
    exact ih (i + 1) _ I2 (nI_1 i) hC2 (hF.tr hF2) (by omega) hQ
theorem l_deal {nx sl : Nat} {ln : Nat → Nat} {R : Nat → Nat → Option Nat} {I : Nat → Nat → Int32} {Q : Option Value → Hp → Prop} {k : Nat} (hW : SW nx ln R) {n m c v : Nat} {T : Nat → Int32} (hT : IT T n m) (hn : n ≤ 10) (hv : v ≤ 10) (hc : c = min v (10 - n)) : ∀ (r i : Nat) (xi : Int32) (I1 : Nat → Nat → Int32) (x3 x4 x5 x6 : Option Value), xi = nI i → I1 = nw I (dlF T n i) → i + r = c → Q (some (.int (nI c))) (nx, sl, ln, R, nw I (dlF T n c)) → GoF (k + 2) mX8_deal 15 [some (.ref 85), some (.int (nI v)), some (.int xi), x3, x4, x5, x6] [] (nx, sl, ln, R, I1) Q := by
  intro r
  induction r with
  | zero =>
    intro i xi I1 x3 x4 x5 x6 hxi hI1 hir hQ
    subst hxi
    subst hI1
    have e : i = c := by omega
    rw [← e] at hQ
    have t1 := (it_dl hT i (by omega)).1
    refine GoF_wp1 40 ?_
    refine And.intro (fun _ => hQ) (fun h9 => ?_)
    have h10 : n + i = 10 := by
      rw [tI_le, tI_nI (by omega), tI_nI (by omega)] at h9
      omega
    refine And.intro (sw_k hW (Nat.le_of_ble_eq_true rfl) rfl) ?_
    refine Exists.intro _ (And.intro (sw_r hW (Nat.le_of_ble_eq_true rfl) rfl rfl) ?_)
    refine And.intro (sw_n hW (Nat.le_of_ble_eq_true rfl) rfl rfl ((Nat.le_of_ble_eq_true rfl)) (Nat.le_of_ble_eq_true rfl)) ?_
    rw [show nw I (dlF T n i) 86 (1 : Int32).toNatClampNeg = nI (n + i) from t1, h10]
    exact And.intro (fun _ => hQ) (fun h9 => absurd (by decide) h9)
  | succ r ih =>
    intro i xi I1 x3 x4 x5 x6 hxi hI1 hir hQ
    subst hxi
    subst hI1
    have t1 := (it_dl hT i (by omega)).1
    obtain ⟨U, hU⟩ : ∃ U, dlF T n i = U := ⟨_, rfl⟩
    have hnext : dlF T n (i + 1) = djF U (n + i) := by rw [← hU]; rfl
    rw [hU] at t1 ⊢
    refine GoF_wp1 100 ?_
    refine And.intro (fun h9 => absurd h9 (nI_ge (by omega) (by omega))) (fun _ => ?_)
    refine And.intro (sw_k hW (Nat.le_of_ble_eq_true rfl) rfl) ?_
    refine Exists.intro _ (And.intro (sw_r hW (Nat.le_of_ble_eq_true rfl) rfl rfl) ?_)
    refine And.intro (sw_n hW (Nat.le_of_ble_eq_true rfl) rfl rfl ((Nat.le_of_ble_eq_true rfl)) (Nat.le_of_ble_eq_true rfl)) ?_
    rw [show nw I U 86 (1 : Int32).toNatClampNeg = nI (n + i) from t1]
    refine And.intro (fun h9 => absurd h9 (nI_ge (b := 10) (by omega) (by decide))) (fun _ => ?_)
    refine And.intro (sw_k hW (Nat.le_of_ble_eq_true rfl) rfl) ?_
    refine s_draw hW ?_
    refine And.intro (by decide) ?_
    rw [show irm (dw (U 0)) 6 = nI (rdF U 6) from rd_ok U (b := 6) (by decide) (by decide)]
    obtain ⟨T1, hT1⟩ : ∃ T1, up1 U 0 (zN (U 0)) = T1 := ⟨_, rfl⟩
    have e1 : drF U = T1 := hT1
    rw [hT1]
    refine And.intro (sw_k hW (Nat.le_of_ble_eq_true rfl) rfl) ?_
    refine s_draw hW ?_
    refine And.intro (by decide) ?_
    rw [show irm (dw (T1 0)) 40 = nI (rdF T1 40) from rd_ok T1 (b := 40) (by decide) (by decide)]
    obtain ⟨T2, hT2⟩ : ∃ T2, up1 T1 0 (zN (T1 0)) = T2 := ⟨_, rfl⟩
    have e2 : drF T1 = T2 := hT2
    rw [hT2]
    have a1 : (1 : Int32) + nI (rdF T1 40) = nI (1 + rdF T1 40) := nI_add 1 _
    refine And.intro (sw_k hW (Nat.le_of_ble_eq_true rfl) rfl) ?_
    rw [a1]
    refine s_draw hW ?_
    refine And.intro (by decide) ?_
    rw [show irm (dw (T2 0)) 8 = nI (rdF T2 8) from rd_ok T2 (b := 8) (by decide) (by decide)]
    obtain ⟨T3, hT3⟩ : ∃ T3, up1 T2 0 (zN (T2 0)) = T3 := ⟨_, rfl⟩
    have e3 : drF T2 = T3 := hT3
    rw [hT3]
    refine And.intro (sw_k hW (Nat.le_of_ble_eq_true rfl) rfl) ?_
    refine s_draw hW ?_
    have h40 := rd_lt T1 (b := 40) (by decide)
    refine And.intro (by rw [add2]; exact nI_ne0 (by omega) (by omega)) ?_
    rw [add2, rd_ok T3 (b := 2 + rdF T1 40) (by omega) (by omega)]
    obtain ⟨T4, hT4⟩ : ∃ T4, up1 T3 0 (zN (T3 0)) = T4 := ⟨_, rfl⟩
    have e4 : drF T3 = T4 := hT4
    rw [hT4]
    have f4 : T4 1 = nI (n + i) := by rw [← e4, dr_ne (by decide), ← e3, dr_ne (by decide), ← e2, dr_ne (by decide), ← e1, dr_ne (by decide)]; exact t1
    refine And.intro (sw_k hW (Nat.le_of_ble_eq_true rfl) rfl) ?_
    refine s_comes hW f4 (by omega) ?_
    refine ih (i + 1) _ _ _ _ _ _ (nI_1 i) ?_ (by omega) hQ
    rw [hnext]
    unfold djF
    rw [e1, e2, e3, e4]
theorem pub_deal (v : Int32) : Pub mX7_deal mX8_deal [.int v] := by
  intro k nx sl ln R I hS
  have hW := hS.1
  have ht := tw5
  have ht2 : Tw 20 := Or.inr (Or.inl rfl)
  obtain ⟨n, m, hT, hC, hL, hG, hZ, hZ7, hZ8, -⟩ := id hS.2.1
  have hn := hT.2.1
  refine Go_wp 60 rfl ?_
  refine c_isBt (a := 1) (b := 10) rfl rfl (fun i hi0 hi e => ?_) (fun e => ?_)
  · subst e
    refine And.intro (fun _ => ?_) (fun h9 => absurd (by decide) h9)
    refine And.intro (sw_k hW (Nat.le_of_ble_eq_true rfl) rfl) ?_
    refine Exists.intro _ (And.intro (sw_r hW (Nat.le_of_ble_eq_true rfl) rfl rfl) ?_)
    refine And.intro (w_t hW ht) ?_
    rw [show I 5 2 = nI n by rw [hC.1]; exact hT.1]
    obtain ⟨c, hc⟩ : ∃ c, c = min i (10 - n) := ⟨_, rfl⟩
    have ec : (if (10 : Int32) - nI n < nI i then (10 : Int32) - nI n else nI i) = nI c := by rw [show (10 : Int32) - nI n = nI (10 - n) from nI_sub (a := 10) hn, hc]; exact mn_nI (a := i) (by omega) (by omega)
    have key : GoF (k + 20) mX7_deal 30 [some (.ref 0), some (.int (nI i)), some (.int (nI c)), some (.int 0)] [] (nx, sl, ln, R, I) (fun r h1 => ∃ v : Int32, r = some (.int v) ∧ Go (k + 20) mX8_deal [.ref 85, .int (nI i)] h1 (fun r2 h2 => r2 = some (.int v) ∧ ∃ (nx2 sl2 : Nat) (ln2 : Nat → Nat) (R2 : Nat → Nat → Option Nat) (I2 : Nat → Nat → Int32), h2 = (nx2, sl2, ln2, R2, I2) ∧ Sim nx2 ln2 R2 I2 ∧ nx2 ≤ nx + 2 ∧ sl2 ≤ sl + 200 ∧ (nx2 = nx ∨ nx2 = nx + 2) ∧ sl ≤ sl2)) := by
      refine l_cdeal hW hT (show n + c ≤ 10 by omega) c 0 _ I rfl hC Fr.rf (by omega) (fun I2 hC2 hF => ?_)
      refine ⟨_, rfl, ?_⟩
      have h86 : I2 86 = I 86 := hF 86 (by omega) (by decide) (by decide)
      refine Go_wp 60 rfl ?_
      refine s_isBt (a := 1) (b := 10) rfl rfl (fun _ _ _ _ => ?_) (fun e => absurd rfl (e i hi0 hi))
      refine And.intro (fun _ => ?_) (fun h9 => absurd (by decide) h9)
      refine l_deal (I := I2) (T := I 86) hW hT hn hi hc c 0 _ _ _ _ _ _ rfl (nw_is h86).symm (by omega) ?_
      exact pub_end (sim_now hS hT hF Sc.rf (it_dl hT c (by omega)) hC2 (hG.keep (dl_lo (by decide) (by decide) (by omega) c (by omega)) (dl_lo (by decide) (by decide) (by omega) c (by omega))) (fun p hp => dl_lo (by omega) (by omega) (by omega) c (by omega)))
    rw [← ec] at key
    exact key
  · refine And.intro (fun h9 => absurd rfl h9) (fun _ => ?_)
    refine ⟨_, rfl, ?_⟩
    refine Go_wp 60 rfl ?_
    refine s_isBt (a := 1) (b := 10) rfl rfl (fun i h1 h2 e2 => absurd e2 (e i h1 h2)) (fun _ => ?_)
    refine And.intro (fun h9 => absurd rfl h9) (fun _ => ?_)
    exact pub_end hS
