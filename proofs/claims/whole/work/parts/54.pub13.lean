/-! Public methods: a slot asked. -/
theorem pub_ask (v w : Int32) : Pub mX7_ask mX8_ask [.int v, .int w] := by
  intro k nx sl ln R I hS
  have hW := hS.1
  have ht := tw5
  have ht2 : Tw 20 := Or.inr (Or.inl rfl)
  obtain ⟨n, m, hT, hC, hL, hG, hZ, hZ7, hZ8, -⟩ := id hS.2.1
  have hn := hT.2.1
  refine Go_wp 60 rfl ?_
  refine c_isSlot (fun i hi e => ?_) (fun e => ?_)
  · subst e
    refine And.intro (fun h9 => absurd h9 (by decide)) (fun _ => ?_)
    have m0 : ∀ o, I o (nI i).toNatClampNeg = I o i := fun o => by rw [ix (by omega)]
    obtain ⟨s0, s1⟩ := hS.2.2.2.2.1 i hi
    refine c_isKind (fun j hj e => ?_) (fun e => ?_)
    · subst e
      refine And.intro (fun _ => ?_) (fun h9 => absurd (by decide) h9)
      refine And.intro (sw_k hW (Nat.le_of_ble_eq_true rfl) rfl) ?_
      refine Exists.intro _ (And.intro (sw_r hW (Nat.le_of_ble_eq_true rfl) rfl rfl) ?_)
      refine And.intro (w_asl hW hi) (Exists.intro _ (And.intro (w_rsl hW hi) ?_))
      refine And.intro (w_slk hW hi) ?_
      rw [s0]
      rcases s1 with g0 | ⟨g0, kd, b, mk, k1, k2, k3, k4, k5, k6, k7, k8⟩ | ⟨g0, -⟩ | ⟨g0, -⟩
      · rw [g0]
        refine And.intro (fun h9 => absurd rfl h9) (fun _ => ?_)
        refine ⟨_, rfl, ?_⟩
        refine Go_wp 60 rfl ?_
        refine s_isSlot (fun _ _ _ => ?_) (fun e => absurd rfl (e i hi))
        refine And.intro (fun h9 => absurd h9 (by decide)) (fun _ => ?_)
        refine s_isIn (n := 6) rfl (fun _ _ _ => ?_) (fun e => absurd rfl (e j hj))
        refine And.intro (fun _ => ?_) (fun h9 => absurd (by decide) h9)
        refine And.intro (sw_k hW (Nat.le_of_ble_eq_true rfl) rfl) ?_
        refine Exists.intro _ (And.intro (sw_r hW (Nat.le_of_ble_eq_true rfl) rfl rfl) ?_)
        refine And.intro (sw_n hW (Nat.le_of_ble_eq_true rfl) rfl rfl (hi) (Nat.le_of_ble_eq_true rfl)) ?_
        rw [m0 103, g0]
        refine And.intro (fun h9 => absurd rfl h9) (fun _ => ?_)
        exact pub_end hS
      · rw [g0]
        refine And.intro (fun _ => ?_) (fun h9 => absurd (by decide) h9)
        refine And.intro (w_slk hW hi) ?_
        rw [s0, g0]
        refine And.intro (fun h9 => absurd rfl h9) (fun _ => ?_)
        refine And.intro (w_slk hW hi) (Exists.intro _ (And.intro (w_rj hW hi) ?_))
        refine And.intro (w_slj hW hi) ?_
        refine c_isOf (w_slj hW hi) ?_
        rw [k4]
        rcases of_un kd (by omega) j hj with ⟨o1, o2⟩ | ⟨o1, o2⟩
        · rw [o1]
          refine And.intro (fun _ => ?_) (fun h9 => absurd (by decide) h9)
          refine And.intro (w_slk hW hi) (Exists.intro _ (And.intro (w_rj hW hi) ?_))
          refine And.intro (w_slj hW hi) ?_
          refine c_worth (w_slj hW hi) ?_
          rw [k4, k5, k6, wr_mx k2 k3]
          refine ⟨_, rfl, ?_⟩
          refine Go_wp 60 rfl ?_
          refine s_isSlot (fun _ _ _ => ?_) (fun e => absurd rfl (e i hi))
          refine And.intro (fun h9 => absurd h9 (by decide)) (fun _ => ?_)
          refine s_isIn (n := 6) rfl (fun _ _ _ => ?_) (fun e => absurd rfl (e j hj))
          refine And.intro (fun _ => ?_) (fun h9 => absurd (by decide) h9)
          refine And.intro (sw_k hW (Nat.le_of_ble_eq_true rfl) rfl) ?_
          refine Exists.intro _ (And.intro (sw_r hW (Nat.le_of_ble_eq_true rfl) rfl rfl) ?_)
          refine And.intro (sw_n hW (Nat.le_of_ble_eq_true rfl) rfl rfl (hi) (Nat.le_of_ble_eq_true rfl)) ?_
          rw [m0 103, g0]
          refine And.intro (fun _ => ?_) (fun h9 => absurd (by decide) h9)
          refine And.intro (sw_k hW (Nat.le_of_ble_eq_true rfl) rfl) ?_
          refine Exists.intro _ (And.intro (sw_r hW (Nat.le_of_ble_eq_true rfl) rfl rfl) ?_)
          refine And.intro (sw_n hW (Nat.le_of_ble_eq_true rfl) rfl rfl (hi) (Nat.le_of_ble_eq_true rfl)) ?_
          rw [m0 103, g0]
          refine And.intro (fun h9 => absurd rfl h9) (fun _ => ?_)
          refine And.intro (sw_k hW (Nat.le_of_ble_eq_true rfl) rfl) ?_
          refine Exists.intro _ (And.intro (sw_r hW (Nat.le_of_ble_eq_true rfl) rfl rfl) ?_)
          refine And.intro (sw_n hW (Nat.le_of_ble_eq_true rfl) rfl rfl (hi) (Nat.le_of_ble_eq_true rfl)) ?_
          rw [m0 104, k7]
          refine s_isUnder (fun _ => ?_) (fun h => absurd o2 h)
          refine And.intro (fun h9 => absurd h9 (by decide)) (fun _ => ?_)
          refine And.intro (sw_k hW (Nat.le_of_ble_eq_true rfl) rfl) ?_
          refine Exists.intro _ (And.intro (sw_r hW (Nat.le_of_ble_eq_true rfl) rfl rfl) ?_)
          refine And.intro (sw_n hW (Nat.le_of_ble_eq_true rfl) rfl rfl (hi) (Nat.le_of_ble_eq_true rfl)) ?_
          rw [m0 105, k8]
          exact pub_end hS
        · rw [o1]
          refine And.intro (fun h9 => absurd rfl h9) (fun _ => ?_)
          refine ⟨_, rfl, ?_⟩
          refine Go_wp 60 rfl ?_
          refine s_isSlot (fun _ _ _ => ?_) (fun e => absurd rfl (e i hi))
          refine And.intro (fun h9 => absurd h9 (by decide)) (fun _ => ?_)
          refine s_isIn (n := 6) rfl (fun _ _ _ => ?_) (fun e => absurd rfl (e j hj))
          refine And.intro (fun _ => ?_) (fun h9 => absurd (by decide) h9)
          refine And.intro (sw_k hW (Nat.le_of_ble_eq_true rfl) rfl) ?_
          refine Exists.intro _ (And.intro (sw_r hW (Nat.le_of_ble_eq_true rfl) rfl rfl) ?_)
          refine And.intro (sw_n hW (Nat.le_of_ble_eq_true rfl) rfl rfl (hi) (Nat.le_of_ble_eq_true rfl)) ?_
          rw [m0 103, g0]
          refine And.intro (fun _ => ?_) (fun h9 => absurd (by decide) h9)
          refine And.intro (sw_k hW (Nat.le_of_ble_eq_true rfl) rfl) ?_
          refine Exists.intro _ (And.intro (sw_r hW (Nat.le_of_ble_eq_true rfl) rfl rfl) ?_)
          refine And.intro (sw_n hW (Nat.le_of_ble_eq_true rfl) rfl rfl (hi) (Nat.le_of_ble_eq_true rfl)) ?_
          rw [m0 103, g0]
          refine And.intro (fun h9 => absurd rfl h9) (fun _ => ?_)
          refine And.intro (sw_k hW (Nat.le_of_ble_eq_true rfl) rfl) ?_
          refine Exists.intro _ (And.intro (sw_r hW (Nat.le_of_ble_eq_true rfl) rfl rfl) ?_)
          refine And.intro (sw_n hW (Nat.le_of_ble_eq_true rfl) rfl rfl (hi) (Nat.le_of_ble_eq_true rfl)) ?_
          rw [m0 104, k7]
          refine s_isUnder (fun h => absurd h o2) (fun _ => ?_)
          refine And.intro (fun _ => ?_) (fun h9 => absurd rfl h9)
          exact pub_end hS
      · rw [g0]
        refine And.intro (fun _ => ?_) (fun h9 => absurd (by decide) h9)
        refine And.intro (w_slk hW hi) ?_
        rw [s0, g0]
        refine And.intro (fun _ => ?_) (fun h9 => absurd (by decide) h9)
        refine ⟨_, rfl, ?_⟩
        refine Go_wp 60 rfl ?_
        refine s_isSlot (fun _ _ _ => ?_) (fun e => absurd rfl (e i hi))
        refine And.intro (fun h9 => absurd h9 (by decide)) (fun _ => ?_)
        refine s_isIn (n := 6) rfl (fun _ _ _ => ?_) (fun e => absurd rfl (e j hj))
        refine And.intro (fun _ => ?_) (fun h9 => absurd (by decide) h9)
        refine And.intro (sw_k hW (Nat.le_of_ble_eq_true rfl) rfl) ?_
        refine Exists.intro _ (And.intro (sw_r hW (Nat.le_of_ble_eq_true rfl) rfl rfl) ?_)
        refine And.intro (sw_n hW (Nat.le_of_ble_eq_true rfl) rfl rfl (hi) (Nat.le_of_ble_eq_true rfl)) ?_
        rw [m0 103, g0]
        refine And.intro (fun _ => ?_) (fun h9 => absurd (by decide) h9)
        refine And.intro (sw_k hW (Nat.le_of_ble_eq_true rfl) rfl) ?_
        refine Exists.intro _ (And.intro (sw_r hW (Nat.le_of_ble_eq_true rfl) rfl rfl) ?_)
        refine And.intro (sw_n hW (Nat.le_of_ble_eq_true rfl) rfl rfl (hi) (Nat.le_of_ble_eq_true rfl)) ?_
        rw [m0 103, g0]
        refine And.intro (fun _ => ?_) (fun h9 => absurd (by decide) h9)
        exact pub_end hS
      · rw [g0]
        refine And.intro (fun _ => ?_) (fun h9 => absurd (by decide) h9)
        refine And.intro (w_slk hW hi) ?_
        rw [s0, g0]
        refine And.intro (fun _ => ?_) (fun h9 => absurd (by decide) h9)
        refine ⟨_, rfl, ?_⟩
        refine Go_wp 60 rfl ?_
        refine s_isSlot (fun _ _ _ => ?_) (fun e => absurd rfl (e i hi))
        refine And.intro (fun h9 => absurd h9 (by decide)) (fun _ => ?_)
        refine s_isIn (n := 6) rfl (fun _ _ _ => ?_) (fun e => absurd rfl (e j hj))
        refine And.intro (fun _ => ?_) (fun h9 => absurd (by decide) h9)
        refine And.intro (sw_k hW (Nat.le_of_ble_eq_true rfl) rfl) ?_
        refine Exists.intro _ (And.intro (sw_r hW (Nat.le_of_ble_eq_true rfl) rfl rfl) ?_)
        refine And.intro (sw_n hW (Nat.le_of_ble_eq_true rfl) rfl rfl (hi) (Nat.le_of_ble_eq_true rfl)) ?_
        rw [m0 103, g0]
        refine And.intro (fun _ => ?_) (fun h9 => absurd (by decide) h9)
        refine And.intro (sw_k hW (Nat.le_of_ble_eq_true rfl) rfl) ?_
        refine Exists.intro _ (And.intro (sw_r hW (Nat.le_of_ble_eq_true rfl) rfl rfl) ?_)
        refine And.intro (sw_n hW (Nat.le_of_ble_eq_true rfl) rfl rfl (hi) (Nat.le_of_ble_eq_true rfl)) ?_
        rw [m0 103, g0]
        refine And.intro (fun _ => ?_) (fun h9 => absurd (by decide) h9)
        exact pub_end hS
    · refine And.intro (fun h9 => absurd rfl h9) (fun _ => ?_)
      refine ⟨_, rfl, ?_⟩
      refine Go_wp 60 rfl ?_
      refine s_isSlot (fun _ _ _ => ?_) (fun e => absurd rfl (e i hi))
      refine And.intro (fun h9 => absurd h9 (by decide)) (fun _ => ?_)
      refine s_isIn (n := 6) rfl (fun j hj e2 => absurd e2 (e j hj)) (fun _ => ?_)
      refine And.intro (fun h9 => absurd rfl h9) (fun _ => ?_)
      exact pub_end hS
  · refine And.intro (fun _ => ?_) (fun h9 => absurd rfl h9)
    refine ⟨_, rfl, ?_⟩
    refine Go_wp 60 rfl ?_
    refine s_isSlot (fun j hj e2 => absurd e2 (e j hj)) (fun _ => ?_)
    refine And.intro (fun _ => ?_) (fun h9 => absurd rfl h9)
    exact pub_end hS
