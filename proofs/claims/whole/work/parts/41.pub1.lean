/-! Public methods: the town's own numbers. -/
theorem s_isIn {k : Nat} {h : Hp} {v hi : Int32} {Q : Option Value → Hp → Prop} {n : Nat} (hn : hi.toInt = (n : Int) - 1) (h1 : ∀ i, i < n → v = nI i → Q (some (.int 1)) h) (h0 : (∀ i, i < n → ¬ v = nI i) → Q (some (.int 0)) h) : Go k mX8_in [.int v, .int 0, .int hi] h Q := by
  have z0 : (0 : Int32).toInt = 0 := rfl
  have hh := tI_hi hi
  refine s_in (fun a b => ?_) (fun a => ?_)
  · have a' := (tI_le _ _).mp a
    have b' := (tI_le _ _).mp b
    exact h1 v.toInt.toNat (by omega) (nI_ofI (by omega))
  · refine h0 (fun i hi2 q => a ?_)
    rw [q, tI_le, tI_le, tI_nI (by omega)]
    omega
theorem nI_less (n : Nat) (h : n < 1000) : (nI n - 1).toInt = (n : Int) - 1 := by
  rw [tI_sub (by rw [tI_nI (by omega)]; have : (1 : Int32).toInt = 1 := rfl; omega) (by rw [tI_nI (by omega)]; have : (1 : Int32).toInt = 1 := rfl; omega), tI_nI (by omega)]; rfl
theorem c_isJug {nx sl : Nat} {ln : Nat → Nat} {R : Nat → Nat → Option Nat} {I : Nat → Nat → Int32} {Q : Option Value → Hp → Prop} {k : Nat} (hW : SW nx ln R) {n m : Nat} {j : Int32} {T : Nat → Int32} (hC : CT I 5 T n m) (hT : T 1 = nI n) (hn : n ≤ 10) (h1 : ∀ i, i < n → j = nI i → Q (some (.int 1)) (nx, sl, ln, R, I)) (h0 : (∀ i, i < n → ¬ j = nI i) → Q (some (.int 0)) (nx, sl, ln, R, I)) : Go (k + 1) mX7_isJug [.ref 0, .int j] (nx, sl, ln, R, I) Q := by
  have ht := tw5
  refine Go_wp 40 rfl ?_
  refine And.intro (sw_k hW (Nat.le_of_ble_eq_true rfl) rfl) ?_
  refine Exists.intro _ (And.intro (sw_r hW (Nat.le_of_ble_eq_true rfl) rfl rfl) ?_)
  refine And.intro (w_t hW ht) ?_
  have e1 : (I 5 2 - 1).toInt = (n : Int) - 1 := by rw [hC.1, hT]; exact nI_less n (by omega)
  exact c_isIn (m := 0) (n := n) e1 (fun i hi e => And.intro (Or.inr rfl) (h1 i hi e)) (fun e => And.intro (Or.inl rfl) (h0 e))
theorem jx0 (n : Nat) : (24 : Int32) + 5 * nI n = nI (24 + 5 * n + 0) := by
  have h := jx n 0
  rw [show nI 0 = 0 from rfl, Int32.add_zero] at h
  exact h
theorem JO.kind {T : Nat → Int32} {j v : Nat} (h : JO T j) (hv : v ≤ 5) : JO (up1 T (24 + 5 * j + 0) (nI v)) j := by
  obtain ⟨kd, b, mk, hd, fl, j1, j2, j3, j4, j5, j6, j7, j8, j9, j10, j11⟩ := h
  exact ⟨v, b, mk, hd, fl, up1_eq, hv, by rw [up1_ne (by omega)]; exact j3, j4, j5, by rw [up1_ne (by omega)]; exact j6, j7, by rw [up1_ne (by omega)]; exact j8, j9, by rw [up1_ne (by omega)]; exact j10, j11⟩
theorem JO.hand {T : Nat → Int32} {j v : Nat} (h : JO T j) (hv : v ≤ 7) : JO (up1 T (24 + 5 * j + 3) (nI v)) j := by
  obtain ⟨kd, b, mk, hd, fl, j1, j2, j3, j4, j5, j6, j7, j8, j9, j10, j11⟩ := h
  exact ⟨kd, b, mk, v, fl, by rw [up1_ne (by omega)]; exact j1, j2, by rw [up1_ne (by omega)]; exact j3, j4, j5, by rw [up1_ne (by omega)]; exact j6, j7, up1_eq, hv, by rw [up1_ne (by omega)]; exact j10, j11⟩
theorem JO.fills {T : Nat → Int32} {j v : Nat} (h : JO T j) (hv : v ≤ 99) : JO (up1 T (24 + 5 * j + 4) (nI v)) j := by
  obtain ⟨kd, b, mk, hd, fl, j1, j2, j3, j4, j5, j6, j7, j8, j9, j10, j11⟩ := h
  exact ⟨kd, b, mk, hd, v, by rw [up1_ne (by omega)]; exact j1, j2, by rw [up1_ne (by omega)]; exact j3, j4, j5, by rw [up1_ne (by omega)]; exact j6, j7, by rw [up1_ne (by omega)]; exact j8, j9, up1_eq, hv⟩
theorem pub_seed (v : Int32) : Pub mX7_seed mX8_seed [.int v] := by
  intro k nx sl ln R I hS
  have hW := hS.1
  have ht := tw5
  obtain ⟨n, m, hT, hC, hL, hG, -⟩ := id hS.2.1
  have hn := hT.2.1
  refine Go_wp 40 rfl ?_
  refine And.intro (sw_k hW (Nat.le_of_ble_eq_true rfl) rfl) ?_
  refine Exists.intro _ (And.intro (sw_r hW (Nat.le_of_ble_eq_true rfl) rfl rfl) ?_)
  refine And.intro (w_t hW ht) ?_
  refine And.intro (sw_k hW (Nat.le_of_ble_eq_true rfl) rfl) ?_
  refine Exists.intro _ (And.intro (sw_r hW (Nat.le_of_ble_eq_true rfl) rfl rfl) ?_)
  refine And.intro (w_t hW ht) ?_
  refine ⟨_, rfl, ?_⟩
  rw [← nw_self (up2 I 5 10 v)]
  refine Go_wp 40 rfl ?_
  refine And.intro (sw_k hW (Nat.le_of_ble_eq_true rfl) rfl) ?_
  refine s_swaps (i := 0) hW (by decide) ?_
  rw [← nw_put, nw_self]
  rw [show up2 I 5 10 v 86 0 = I 5 10 by rw [up2_ne (by decide)]; exact hC.2.2.2.2.2.2.2.2.2.1.symm]
  exact pub_end (sim_up hS hT (by omega) (by decide) (by decide) (by decide) (hT.free (by omega)) (hC.num hn (by omega)))
theorem pub_heart (v w : Int32) : Pub mX7_heart mX8_heart [.int v, .int w] := by
  intro k nx sl ln R I hS
  have hW := hS.1
  have ht := tw5
  obtain ⟨n, m, hT, hC, hL, hG, -⟩ := id hS.2.1
  have hn := hT.2.1
  refine Go_wp 40 rfl ?_
  refine c_isHand (fun i hi e => ?_) (fun e => ?_)
  · subst e
    refine And.intro (fun h9 => absurd h9 (by decide)) (fun _ => ?_)
    refine c_isIn (m := 0) (n := 10) rfl (fun j hj e => ?_) (fun e => ?_)
    · subst e
      refine And.intro (fun _ => ?_) (fun h9 => absurd (by decide) h9)
      refine And.intro (sw_k hW (Nat.le_of_ble_eq_true rfl) rfl) ?_
      refine Exists.intro _ (And.intro (sw_r hW (Nat.le_of_ble_eq_true rfl) rfl rfl) ?_)
      refine And.intro (w_t hW ht) (Exists.intro _ (And.intro (w_r3 hW ht) ?_))
      refine And.intro (w_h hW ht hi) ?_
      refine And.intro (sw_k hW (Nat.le_of_ble_eq_true rfl) rfl) ?_
      refine Exists.intro _ (And.intro (sw_r hW (Nat.le_of_ble_eq_true rfl) rfl rfl) ?_)
      refine And.intro (w_t hW ht) (Exists.intro _ (And.intro (w_r3 hW ht) ?_))
      refine And.intro (w_h hW ht hi) ?_
      rw [ix (show i < 2147483648 by omega)]
      refine ⟨_, rfl, ?_⟩
      rw [← nw_self (up2 I (5 + 12) i (nI j))]
      refine Go_wp 40 rfl ?_
      refine s_isHand (fun _ _ _ => ?_) (fun e => absurd rfl (e i hi))
      refine And.intro (fun h9 => absurd h9 (by decide)) (fun _ => ?_)
      refine s_isIn (n := 10) rfl (fun _ _ _ => ?_) (fun e => absurd rfl (e j hj))
      refine And.intro (fun h9 => absurd h9 (by decide)) (fun _ => ?_)
      refine And.intro (sw_k hW (Nat.le_of_ble_eq_true rfl) rfl) ?_
      rw [hx8]
      refine s_swaps (i := 8 + i) hW (by omega) ?_
      rw [← nw_put, nw_self]
      rw [show up2 I (5 + 12) i (nI j) 86 (8 + i) = I (5 + 12) i by rw [up2_ne (by decide)]; exact (hC.2.2.1 i hi).symm]
      exact pub_end (sim_up hS hT (by omega) (by omega) (by omega) (by omega) (hT.heart hi (by omega)) (hC.heart hn hi))
    · refine And.intro (fun h9 => absurd rfl h9) (fun _ => ?_)
      refine ⟨_, rfl, ?_⟩
      refine Go_wp 40 rfl ?_
      refine s_isHand (fun _ _ _ => ?_) (fun e => absurd rfl (e i hi))
      refine And.intro (fun h9 => absurd h9 (by decide)) (fun _ => ?_)
      refine s_isIn (n := 10) rfl (fun j hj e2 => absurd e2 (e j hj)) (fun _ => ?_)
      refine And.intro (fun _ => ?_) (fun h9 => absurd rfl h9)
      exact pub_end hS
  · refine And.intro (fun _ => ?_) (fun h9 => absurd rfl h9)
    refine ⟨_, rfl, ?_⟩
    refine Go_wp 40 rfl ?_
    refine s_isHand (fun i hi e2 => absurd e2 (e i hi)) (fun _ => ?_)
    refine And.intro (fun _ => ?_) (fun h9 => absurd rfl h9)
    exact pub_end hS
theorem pub_turns (v w : Int32) : Pub mX7_turns mX8_turns [.int v, .int w] := by
  intro k nx sl ln R I hS
  have hW := hS.1
  have ht := tw5
  obtain ⟨n, m, hT, hC, hL, hG, -⟩ := id hS.2.1
  have hn := hT.2.1
  refine Go_wp 60 rfl ?_
  refine And.intro (sw_k hW (Nat.le_of_ble_eq_true rfl) rfl) ?_
  refine c_isJug hW hC hT.1 hn (fun i hi e => ?_) (fun e => ?_)
  · subst e
    refine And.intro (fun h9 => absurd h9 (by decide)) (fun _ => ?_)
    refine c_isKind (fun j hj e => ?_) (fun e => ?_)
    · subst e
      refine And.intro (fun _ => ?_) (fun h9 => absurd (by decide) h9)
      refine And.intro (sw_k hW (Nat.le_of_ble_eq_true rfl) rfl) ?_
      refine Exists.intro _ (And.intro (sw_r hW (Nat.le_of_ble_eq_true rfl) rfl rfl) ?_)
      refine And.intro (w_t hW ht) (Exists.intro _ (And.intro (w_r1 hW ht) ?_))
      refine And.intro (w_aj hW ht (by omega)) (Exists.intro _ (And.intro (w_jug hW ht (by omega)) ?_))
      refine And.intro (w_kj hW ht (by omega)) ?_
      refine And.intro (sw_k hW (Nat.le_of_ble_eq_true rfl) rfl) ?_
      refine Exists.intro _ (And.intro (sw_r hW (Nat.le_of_ble_eq_true rfl) rfl rfl) ?_)
      refine And.intro (w_t hW ht) (Exists.intro _ (And.intro (w_r1 hW ht) ?_))
      refine And.intro (w_aj hW ht (by omega)) (Exists.intro _ (And.intro (w_jug hW ht (by omega)) ?_))
      refine And.intro (w_kj hW ht (by omega)) ?_
      refine ⟨_, rfl, ?_⟩
      rw [← nw_self (up2 I (5 + 2 + i) 0 (nI j))]
      refine Go_wp 60 rfl ?_
      refine And.intro (sw_k hW (Nat.le_of_ble_eq_true rfl) rfl) ?_
      refine s_isJug (n := n) hW (by rw [up2_ne (by omega)]; exact hT.1) hn (fun _ _ _ => ?_) (fun e => absurd rfl (e i hi))
      refine And.intro (fun h9 => absurd h9 (by decide)) (fun _ => ?_)
      refine s_isIn (n := 6) rfl (fun _ _ _ => ?_) (fun e => absurd rfl (e j hj))
      refine And.intro (fun h9 => absurd h9 (by decide)) (fun _ => ?_)
      refine And.intro (sw_k hW (Nat.le_of_ble_eq_true rfl) rfl) ?_
      rw [jx0]
      refine s_swaps (i := 24 + 5 * i + 0) hW (by omega) ?_
      rw [← nw_put, nw_self]
      rw [show up2 I (5 + 2 + i) 0 (nI j) 86 (24 + 5 * i + 0) = I (5 + 2 + i) 0 by rw [up2_ne (by omega)]; exact (hC.2.1 i hi 0 (by decide)).symm]
      exact pub_end (sim_up hS hT (by omega) (by omega) (by omega) (by omega) (hT.jug hi (by decide) (JO.kind (hT.2.2.1 i hi) (by omega))) (hC.jug hn hi (by decide)))
    · refine And.intro (fun h9 => absurd rfl h9) (fun _ => ?_)
      refine ⟨_, rfl, ?_⟩
      rw [← nw_self I]
      refine Go_wp 60 rfl ?_
      refine And.intro (sw_k hW (Nat.le_of_ble_eq_true rfl) rfl) ?_
      refine s_isJug (n := n) hW hT.1 hn (fun _ _ _ => ?_) (fun e => absurd rfl (e i hi))
      refine And.intro (fun h9 => absurd h9 (by decide)) (fun _ => ?_)
      refine s_isIn (n := 6) rfl (fun j hj e2 => absurd e2 (e j hj)) (fun _ => ?_)
      refine And.intro (fun _ => ?_) (fun h9 => absurd rfl h9)
      rw [nw_self]
      exact pub_end hS
  · refine And.intro (fun _ => ?_) (fun h9 => absurd rfl h9)
    refine ⟨_, rfl, ?_⟩
    rw [← nw_self I]
    refine Go_wp 60 rfl ?_
    refine And.intro (sw_k hW (Nat.le_of_ble_eq_true rfl) rfl) ?_
    refine s_isJug (n := n) hW hT.1 hn (fun i hi e2 => absurd e2 (e i hi)) (fun _ => ?_)
    refine And.intro (fun _ => ?_) (fun h9 => absurd rfl h9)
    rw [nw_self]
    exact pub_end hS
theorem pub_gives (v w : Int32) : Pub mX7_gives mX8_gives [.int v, .int w] := by
  intro k nx sl ln R I hS
  have hW := hS.1
  have ht := tw5
  obtain ⟨n, m, hT, hC, hL, hG, -⟩ := id hS.2.1
  have hn := hT.2.1
  refine Go_wp 60 rfl ?_
  refine And.intro (sw_k hW (Nat.le_of_ble_eq_true rfl) rfl) ?_
  refine c_isJug hW hC hT.1 hn (fun i hi e => ?_) (fun e => ?_)
  · subst e
    refine And.intro (fun h9 => absurd h9 (by decide)) (fun _ => ?_)
    refine c_isHand (fun j hj e => ?_) (fun e => ?_)
    · subst e
      refine And.intro (fun _ => ?_) (fun h9 => absurd (by decide) h9)
      refine And.intro (sw_k hW (Nat.le_of_ble_eq_true rfl) rfl) ?_
      refine Exists.intro _ (And.intro (sw_r hW (Nat.le_of_ble_eq_true rfl) rfl rfl) ?_)
      refine And.intro (w_t hW ht) (Exists.intro _ (And.intro (w_r1 hW ht) ?_))
      refine And.intro (w_aj hW ht (by omega)) (Exists.intro _ (And.intro (w_jug hW ht (by omega)) ?_))
      refine And.intro (w_kj hW ht (by omega)) ?_
      refine And.intro (sw_k hW (Nat.le_of_ble_eq_true rfl) rfl) ?_
      refine Exists.intro _ (And.intro (sw_r hW (Nat.le_of_ble_eq_true rfl) rfl rfl) ?_)
      refine And.intro (w_t hW ht) (Exists.intro _ (And.intro (w_r1 hW ht) ?_))
      refine And.intro (w_aj hW ht (by omega)) (Exists.intro _ (And.intro (w_jug hW ht (by omega)) ?_))
      refine And.intro (w_kj hW ht (by omega)) ?_
      refine ⟨_, rfl, ?_⟩
      rw [← nw_self (up2 I (5 + 2 + i) 3 (nI j))]
      refine Go_wp 60 rfl ?_
      refine And.intro (sw_k hW (Nat.le_of_ble_eq_true rfl) rfl) ?_
      refine s_isJug (n := n) hW (by rw [up2_ne (by omega)]; exact hT.1) hn (fun _ _ _ => ?_) (fun e => absurd rfl (e i hi))
      refine And.intro (fun h9 => absurd h9 (by decide)) (fun _ => ?_)
      refine s_isHand (fun _ _ _ => ?_) (fun e => absurd rfl (e j hj))
      refine And.intro (fun h9 => absurd h9 (by decide)) (fun _ => ?_)
      refine And.intro (sw_k hW (Nat.le_of_ble_eq_true rfl) rfl) ?_
      rw [show (24 : Int32) + 5 * nI i + 3 = nI (24 + 5 * i + 3) from jx i 3]
      refine s_swaps (i := 24 + 5 * i + 3) hW (by omega) ?_
      rw [← nw_put, nw_self]
      rw [show up2 I (5 + 2 + i) 3 (nI j) 86 (24 + 5 * i + 3) = I (5 + 2 + i) 3 by rw [up2_ne (by omega)]; exact (hC.2.1 i hi 3 (by decide)).symm]
      exact pub_end (sim_up hS hT (by omega) (by omega) (by omega) (by omega) (hT.jug hi (by decide) (JO.hand (hT.2.2.1 i hi) (by omega))) (hC.jug hn hi (by decide)))
    · refine And.intro (fun h9 => absurd rfl h9) (fun _ => ?_)
      refine ⟨_, rfl, ?_⟩
      rw [← nw_self I]
      refine Go_wp 60 rfl ?_
      refine And.intro (sw_k hW (Nat.le_of_ble_eq_true rfl) rfl) ?_
      refine s_isJug (n := n) hW hT.1 hn (fun _ _ _ => ?_) (fun e => absurd rfl (e i hi))
      refine And.intro (fun h9 => absurd h9 (by decide)) (fun _ => ?_)
      refine s_isHand (fun j hj e2 => absurd e2 (e j hj)) (fun _ => ?_)
      refine And.intro (fun _ => ?_) (fun h9 => absurd rfl h9)
      rw [nw_self]
      exact pub_end hS
  · refine And.intro (fun _ => ?_) (fun h9 => absurd rfl h9)
    refine ⟨_, rfl, ?_⟩
    rw [← nw_self I]
    refine Go_wp 60 rfl ?_
    refine And.intro (sw_k hW (Nat.le_of_ble_eq_true rfl) rfl) ?_
    refine s_isJug (n := n) hW hT.1 hn (fun i hi e2 => absurd e2 (e i hi)) (fun _ => ?_)
    refine And.intro (fun _ => ?_) (fun h9 => absurd rfl h9)
    rw [nw_self]
    exact pub_end hS
