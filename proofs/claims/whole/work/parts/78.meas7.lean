/-! Public methods: measure, both sides. -/
theorem sim_fb {nx : Nat} {ln : Nat → Nat} {R : Nat → Nat → Option Nat} {I I' : Nat → Nat → Int32} (h : Sim nx ln R I) (hF : FB I I') : Sim nx ln R I' :=
  h.town ⟨fun o q => hF.1 o (by unfold keepO at q; omega) (by unfold keepO at q; omega) (by unfold keepO at q; omega), by rw [hF.1 0 (by omega) (by omega) (by omega)], by rw [hF.1 0 (by omega) (by omega) (by omega)], hF.2 9 (by decide), hF.2 35 (by decide)⟩ (h.2.1.keep (fun o q => hF.1 o (by omega) (by omega) (by omega)) (by rw [hF.1 0 (by omega) (by omega) (by omega)]) (hF.2 3 (by decide)))
theorem bi_start {a b v : Nat} (Qu : Nat → Nat) : BI a b v 0 (psh (0, fun _ => 0, Qu) (100 * 0 + 0) 1) := by
  unfold psh
  dsimp only
  rw [if_pos rfl]
  have e0 : up1 (fun _ => 0) (100 * 0 + 0) 1 0 = 1 := up1_eq
  have q0 : up1 Qu 0 (100 * 0 + 0) 0 = 0 := up1_eq
  refine ⟨by dsimp only; omega, ⟨by dsimp only; omega, q0, e0⟩, fun i hi => ?_, fun c hc => ?_, fun i j h1 h2 => ?_, fun i j h1 h2 => ?_, fun j h1 h2 => ?_, fun i hi => absurd hi (by omega), fun i hi => absurd hi (by omega)⟩ <;> dsimp only at *
  · have : i = 0 := by omega
    subst this
    rw [q0, e0]
    exact ⟨by omega, by omega, by omega, by omega, rfl⟩
  · by_cases e : c = 100 * 0 + 0
    · subst e; exact ⟨0, by omega, q0⟩
    · rw [up1_ne e] at hc; exact absurd rfl hc
  · omega
  · have : i = 0 := by omega
    subst this
    have : j = 0 := by omega
    subst this
    omega
  · have : j = 0 := by omega
    subst this
    omega
theorem s_measure {nx sl : Nat} {ln : Nat → Nat} {R : Nat → Nat → Option Nat} {J : Nat → Nat → Int32} {T : Nat → Int32} {Q : Option Value → Hp → Prop} {k : Nat} (hW : SW nx ln R) {n m i j v a b : Nat} (hT : IT T n m) (hi : i < n) (hj : j < n) (hij : ¬ i = j) (hv : v ≤ 99) (ea : T (24 + 5 * i + 1) = nI a) (ha1 : 1 ≤ a) (ha9 : a ≤ 99) (eb : T (24 + 5 * j + 1) = nI b) (hb1 : 1 ≤ b) (hb9 : b ≤ 99) (hQ : ∀ I2, FB (nw J T) I2 → (∀ L p, Rch a b L p → Hv v p → (∀ L' p', Rch a b L' p' → Hv v p' → L ≤ L') → Q (some (.int (nI L))) (nx, sl, ln, R, I2)) ∧ ((∀ L p, Rch a b L p → ¬ Hv v p) → Q (some (.int (-1000000005))) (nx, sl, ln, R, I2))) : Go (k + 2) mX8_measure [.ref 85, .int (nI i), .int (nI j), .int (nI v)] (nx, sl, ln, R, nw J T) Q := by
  have hn := hT.2.1
  refine Go_wp 80 rfl ?_
  refine And.intro (sw_k hW (Nat.le_of_ble_eq_true rfl) rfl) ?_
  refine s_isJug (n := n) hW hT.1 hn (fun _ _ _ => ?_) (fun e => absurd rfl (e i hi))
  refine And.intro (fun h9 => absurd h9 (by decide)) (fun _ => ?_)
  refine And.intro (sw_k hW (Nat.le_of_ble_eq_true rfl) rfl) ?_
  refine s_isJug (n := n) hW hT.1 hn (fun _ _ _ => ?_) (fun e => absurd rfl (e j hj))
  refine And.intro (fun h9 => absurd h9 (by decide)) (fun _ => ?_)
  refine And.intro (fun h => absurd ((nI_eq (by omega) (by omega)).mp h) hij) (fun _ => ?_)
  refine s_isIn (n := 100) rfl (fun _ _ _ => ?_) (fun e => absurd rfl (e v (by omega)))
  refine And.intro (fun _ => ?_) (fun h9 => absurd (by decide) h9)
  refine And.intro (sw_k hW (Nat.le_of_ble_eq_true rfl) rfl) ?_
  refine s_of (w := 1) hW (show i < 10 by omega) (by decide) ?_
  rw [ea]
  refine And.intro (sw_k hW (Nat.le_of_ble_eq_true rfl) rfl) ?_
  refine s_of (w := 1) hW (show j < 10 by omega) (by decide) ?_
  rw [eb]
  refine l_zero (I := nw J T) hW (fun I2 nn x6 z0 z1 => ?_) 10000 0 0 _ rfl (by omega) (fun c hc => absurd hc (by omega)) (fun _ _ => rfl)
  refine And.intro (sw_k hW (Nat.le_of_ble_eq_true rfl) rfl) ?_
  refine And.intro (sw_k hW (Nat.le_of_ble_eq_true rfl) rfl) ?_
  refine s_comesTo (x := 0) (y := 0) (far := 1) (t := (0, fun _ => 0, fun _ => 0)) hW (by omega) (by omega) ⟨fun c hc => by rw [up2_ne (by decide), z0 c hc]; rfl, fun i hi => absurd hi (by dsimp only; omega), by rw [up2_eq, up1_eq]; rfl⟩ (fun _ => by dsimp only; omega) (by dsimp only; omega) (fun I3 hH3 hF3 => ?_)
  refine l_meas (I := nw J T) hW ha9 hb9 hv 10000 0 0 _ _ _ _ _ I3 _ rfl (by omega) (bi_start _) hH3 ?_ hQ
  refine ⟨fun o h1 h2 h3 => ?_, fun q hq => ?_⟩
  · rw [hF3.1 o h1 h2 h3, up2_ne h1, z1 o h2]
  · rw [hF3.2 q hq, up2_eq, up1_ne hq, z1 85 (by decide)]
theorem pub_measure (x y w : Int32) : Pub mX7_measure mX8_measure [.int x, .int y, .int w] := by
  intro k nx sl ln R I hS
  have hW := hS.1
  have ht := tw5
  obtain ⟨n, m, hT, hC, hL, hG, hZ, hZ7, hZ8, -⟩ := id hS.2.1
  have hn := hT.2.1
  refine Go_wp 80 rfl ?_
  refine And.intro (sw_k hW (Nat.le_of_ble_eq_true rfl) rfl) ?_
  refine c_isJug hW hC hT.1 hn (fun i hi e => ?_) (fun e => ?_)
  · subst e
    refine And.intro (fun h9 => absurd h9 (by decide)) (fun _ => ?_)
    refine And.intro (sw_k hW (Nat.le_of_ble_eq_true rfl) rfl) ?_
    refine c_isJug hW hC hT.1 hn (fun j hj e => ?_) (fun e => ?_)
    · subst e
      refine And.intro (fun h9 => absurd h9 (by decide)) (fun _ => ?_)
      by_cases hij : i = j
      · refine And.intro (fun _ => ?_) (fun h => absurd (by rw [hij]) h)
        refine ⟨_, rfl, ?_⟩
        rw [← nw_self I]
        refine Go_wp 60 rfl ?_
        refine And.intro (sw_k hW (Nat.le_of_ble_eq_true rfl) rfl) ?_
        refine s_isJug (n := n) hW hT.1 hn (fun _ _ _ => ?_) (fun e => absurd rfl (e i hi))
        refine And.intro (fun h9 => absurd h9 (by decide)) (fun _ => ?_)
        refine And.intro (sw_k hW (Nat.le_of_ble_eq_true rfl) rfl) ?_
        refine s_isJug (n := n) hW hT.1 hn (fun _ _ _ => ?_) (fun e => absurd rfl (e j hj))
        refine And.intro (fun h9 => absurd h9 (by decide)) (fun _ => ?_)
        refine And.intro (fun _ => ?_) (fun h => absurd (by rw [hij]) h)
        rw [nw_self]
        exact pub_end hS
      · refine And.intro (fun h => absurd ((nI_eq (by omega) (by omega)).mp h) hij) (fun _ => ?_)
        refine c_isIn (m := 0) (n := 100) rfl (fun v hv e => ?_) (fun e => ?_)
        · subst e
          refine And.intro (fun _ => ?_) (fun h9 => absurd (by decide) h9)
          obtain ⟨kd, a, mk, hd, fl, j1, j2, j3, j4, j5, -⟩ := hT.2.2.1 i hi
          obtain ⟨kd', b, mk', hd', fl', i1, i2, i3, i4, i5, -⟩ := hT.2.2.1 j hj
          have ba : I (5 + 2 + i) 1 = nI a := by rw [hC.2.1 i hi 1 (by decide)]; exact j3
          have bb : I (5 + 2 + j) 1 = nI b := by rw [hC.2.1 j hj 1 (by decide)]; exact i3
          refine And.intro (fun hv0 => ?_) (fun hv0 => ?_)
          · have hv1 : 1 ≤ v := by
              rcases Nat.lt_or_ge v 1 with q | q
              · exact absurd (by rw [show v = 0 by omega]; rfl) hv0
              · exact q
            refine And.intro (sw_k hW (Nat.le_of_ble_eq_true rfl) rfl) ?_
            refine Exists.intro _ (And.intro (sw_r hW (Nat.le_of_ble_eq_true rfl) rfl rfl) ?_)
            refine And.intro (w_t hW ht) (Exists.intro _ (And.intro (w_r1 hW ht) ?_))
            refine And.intro (w_aj hW ht (by omega)) (Exists.intro _ (And.intro (w_jug hW ht (by omega)) ?_))
            refine And.intro (w_kj hW ht (by omega)) ?_
            refine And.intro (sw_k hW (Nat.le_of_ble_eq_true rfl) rfl) ?_
            refine Exists.intro _ (And.intro (sw_r hW (Nat.le_of_ble_eq_true rfl) rfl rfl) ?_)
            refine And.intro (w_t hW ht) (Exists.intro _ (And.intro (w_r1 hW ht) ?_))
            refine And.intro (w_aj hW ht (by omega)) (Exists.intro _ (And.intro (w_jug hW ht (by omega)) ?_))
            refine And.intro (w_kj hW ht (by omega)) ?_
            rw [ba, bb]
            refine c_ps j4 i4 j5 i5 (by omega) ?_
            refine And.intro (sw_k hW (Nat.le_of_ble_eq_true rfl) rfl) ?_
            refine Exists.intro _ (And.intro (sw_r hW (Nat.le_of_ble_eq_true rfl) rfl rfl) ?_)
            refine And.intro (w_t hW ht) (Exists.intro _ (And.intro (w_r1 hW ht) ?_))
            refine And.intro (w_aj hW ht (by omega)) (Exists.intro _ (And.intro (w_jug hW ht (by omega)) ?_))
            refine And.intro (w_kj hW ht (by omega)) ?_
            refine And.intro (sw_k hW (Nat.le_of_ble_eq_true rfl) rfl) ?_
            refine Exists.intro _ (And.intro (sw_r hW (Nat.le_of_ble_eq_true rfl) rfl rfl) ?_)
            refine And.intro (w_t hW ht) (Exists.intro _ (And.intro (w_r1 hW ht) ?_))
            refine And.intro (w_aj hW ht (by omega)) (Exists.intro _ (And.intro (w_jug hW ht (by omega)) ?_))
            refine And.intro (w_kj hW ht (by omega)) ?_
            rw [ba, bb]
            refine c_ps i4 j4 i5 j5 (by omega) ?_
            refine ⟨_, rfl, ?_⟩
            rw [← nw_self I]
            refine s_measure hW hT hi hj hij (by omega) j3 j4 j5 i3 i4 i5 (fun I2 hF2 => ⟨fun L p hR hp hm => ?_, fun hno => ?_⟩)
            · rw [← meas_res j4 i4 j5 i5 hv1 hR hp hm]
              rw [nw_self] at hF2
              exact pub_end (sim_fb hS hF2)
            · rw [← meas_no hno]
              rw [nw_self] at hF2
              exact pub_end (sim_fb hS hF2)
          · have hv1 : v = 0 := (nI_eq (b := 0) (by omega) (by decide)).mp (Decidable.of_not_not hv0)
            subst hv1
            refine ⟨_, rfl, ?_⟩
            rw [← nw_self I]
            refine s_measure (v := 0) hW hT hi hj hij (by omega) j3 j4 j5 i3 i4 i5 (fun I2 hF2 => ⟨fun L p hR hp hm => ?_, fun hno => ?_⟩)
            · have h0 := hm 0 (0, 0) rfl (Or.inl rfl)
              have hL0 : L = 0 := by omega
              subst hL0
              rw [nw_self] at hF2
              exact pub_end (sim_fb hS hF2)
            · exact absurd (show Hv 0 (0, 0) from Or.inl rfl) (hno 0 (0, 0) rfl)
        · refine And.intro (fun h9 => absurd rfl h9) (fun _ => ?_)
          refine ⟨_, rfl, ?_⟩
          rw [← nw_self I]
          refine Go_wp 60 rfl ?_
          refine And.intro (sw_k hW (Nat.le_of_ble_eq_true rfl) rfl) ?_
          refine s_isJug (n := n) hW hT.1 hn (fun _ _ _ => ?_) (fun e => absurd rfl (e i hi))
          refine And.intro (fun h9 => absurd h9 (by decide)) (fun _ => ?_)
          refine And.intro (sw_k hW (Nat.le_of_ble_eq_true rfl) rfl) ?_
          refine s_isJug (n := n) hW hT.1 hn (fun _ _ _ => ?_) (fun e => absurd rfl (e j hj))
          refine And.intro (fun h9 => absurd h9 (by decide)) (fun _ => ?_)
          refine And.intro (fun h => absurd ((nI_eq (by omega) (by omega)).mp h) hij) (fun _ => ?_)
          refine s_isIn (n := 100) rfl (fun v hv e2 => absurd e2 (e v hv)) (fun _ => ?_)
          refine And.intro (fun h9 => absurd rfl h9) (fun _ => ?_)
          rw [nw_self]
          exact pub_end hS
    · refine And.intro (fun _ => ?_) (fun h9 => absurd rfl h9)
      refine ⟨_, rfl, ?_⟩
      rw [← nw_self I]
      refine Go_wp 60 rfl ?_
      refine And.intro (sw_k hW (Nat.le_of_ble_eq_true rfl) rfl) ?_
      refine s_isJug (n := n) hW hT.1 hn (fun _ _ _ => ?_) (fun e => absurd rfl (e i hi))
      refine And.intro (fun h9 => absurd h9 (by decide)) (fun _ => ?_)
      refine And.intro (sw_k hW (Nat.le_of_ble_eq_true rfl) rfl) ?_
      refine s_isJug (n := n) hW hT.1 hn (fun j hj e2 => absurd e2 (e j hj)) (fun _ => ?_)
      refine And.intro (fun _ => ?_) (fun h9 => absurd rfl h9)
      rw [nw_self]
      exact pub_end hS
  · refine And.intro (fun _ => ?_) (fun h9 => absurd rfl h9)
    refine ⟨_, rfl, ?_⟩
    rw [← nw_self I]
    refine Go_wp 60 rfl ?_
    refine And.intro (sw_k hW (Nat.le_of_ble_eq_true rfl) rfl) ?_
    refine s_isJug (n := n) hW hT.1 hn (fun j hj e2 => absurd e2 (e j hj)) (fun _ => ?_)
    refine And.intro (fun _ => ?_) (fun h9 => absurd rfl h9)
    rw [nw_self]
    exact pub_end hS
