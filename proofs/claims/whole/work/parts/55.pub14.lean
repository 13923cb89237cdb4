/-! Public methods: a place of a slot's sheet. -/
theorem c_hasPlace {nx sl : Nat} {ln : Nat → Nat} {R : Nat → Nat → Option Nat} {I : Nat → Nat → Int32} {Q : Option Value → Hp → Prop} {k : Nat} (hW : SW nx ln R) {o l : Nat} {v : Int32} (ho : KD o = 3 ∧ o < nx) (hl : I o 1 = nI l) (hl4 : l ≤ 24) (h1 : ∀ p, p < l → v = nI p → Q (some (.int 1)) (nx, sl, ln, R, I)) (h0 : (∀ p, p < l → ¬ v = nI p) → Q (some (.int 0)) (nx, sl, ln, R, I)) : Go k mX3_hasPlace [.ref o, .int v] (nx, sl, ln, R, I) Q := by
  have z0 : (0 : Int32).toInt = 0 := rfl
  refine Go_wp 40 rfl ?_
  refine And.intro (fun hb => ?_) (fun hb => ?_)
  · refine And.intro (Or.inl rfl) (h0 (fun p hp e => ?_))
    rw [e, tI_lt, tI_nI (by omega)] at hb
    omega
  · refine And.intro ho ?_
    rw [hl]
    refine And.intro (fun hc => ?_) (fun hc => ?_)
    · refine And.intro (Or.inl rfl) (h0 (fun p hp e => ?_))
      rw [e, tI_le, tI_nI (by omega), tI_nI (by omega)] at hc
      omega
    · rw [tI_lt] at hb
      rw [tI_le, tI_nI (by omega)] at hc
      exact And.intro (Or.inr rfl) (h1 v.toInt.toNat (by omega) (nI_ofI (by omega)))
theorem c_isNumber {nx sl : Nat} {ln : Nat → Nat} {R : Nat → Nat → Option Nat} {I : Nat → Nat → Int32} {Q : Option Value → Hp → Prop} {k : Nat} (hW : SW nx ln R) {o c l p : Nat} (ho : KD o = 3 ∧ o < nx) (hl : I o 1 = nI l) (hl4 : l ≤ 24) (hp : p < l) (hr : rv (R o 2) = .ref c) (hc : (KD c = 11 ∧ c < nx) ∧ ¬ nI p < 0 ∧ (nI p).toNatClampNeg < ln c) (hQ : Q (some (.int (if I c p = -1000000005 then 0 else 1))) (nx, sl, ln, R, I)) : Go (k + 1) mX3_isNumber [.ref o, .int (nI p)] (nx, sl, ln, R, I) Q := by
  refine Go_wp 40 rfl ?_
  refine And.intro ho ?_
  refine c_hasPlace hW ho hl hl4 (fun _ _ _ => ?_) (fun e => absurd rfl (e p hp))
  refine And.intro (fun h9 => absurd h9 (by decide)) (fun _ => ?_)
  refine And.intro ho (Exists.intro _ (And.intro hr ?_))
  refine And.intro hc ?_
  rw [ix (show p < 2147483648 by omega)]
  refine And.intro (fun q => ?_) (fun q => ?_)
  · rw [if_pos q] at hQ; exact And.intro (Or.inl rfl) hQ
  · rw [if_neg q] at hQ; exact And.intro (Or.inr rfl) hQ
theorem w_cel {nx : Nat} {ln : Nat → Nat} {R : Nat → Nat → Option Nat} {i p : Nat} (hW : SW nx ln R) (hi : i < 5) (hp : p < 24) : (KD (66 + 4 * i) = 11 ∧ 66 + 4 * i < nx) ∧ ¬ nI p < 0 ∧ (nI p).toNatClampNeg < ln (66 + 4 * i) := sw_n (i := p) hW (by omega) (sl_all i hi).2.2.2.1 (sl_all i hi).2.2.2.2.2.2.2.2 hp (by decide)
theorem cx24 (i p : Nat) : (24 : Int32) * nI i + nI p = nI (24 * i + p) := by rw [show (24 : Int32) = nI 24 from rfl, nI_mul, nI_add]
theorem pub_item (v w : Int32) : Pub mX7_item mX8_item [.int v, .int w] := by
  intro k nx sl ln R I hS
  have hW := hS.1
  have ht := tw5
  have ht2 : Tw 20 := Or.inr (Or.inl rfl)
  obtain ⟨n, m, hT, hC, hL, hG, hZ, hZ7, hZ8, -⟩ := id hS.2.1
  have hn := hT.2.1
  refine Go_wp 60 rfl ?_
  refine c_isSlot (fun i hi e => ?_) (fun e => ?_)
  · subst e
    refine And.intro (fun _ => ?_) (fun h9 => absurd (by decide) h9)
    have m0 : ∀ o, I o (nI i).toNatClampNeg = I o i := fun o => by rw [ix (by omega)]
    obtain ⟨s0, s1⟩ := hS.2.2.2.2.1 i hi
    refine And.intro (sw_k hW (Nat.le_of_ble_eq_true rfl) rfl) ?_
    refine Exists.intro _ (And.intro (sw_r hW (Nat.le_of_ble_eq_true rfl) rfl rfl) ?_)
    refine And.intro (w_asl hW hi) (Exists.intro _ (And.intro (w_rsl hW hi) ?_))
    refine And.intro (w_slk hW hi) ?_
    rw [s0]
    rcases s1 with g0 | ⟨g0, -⟩ | ⟨g0, l, l4, k6, k7, k8⟩ | ⟨g0, -⟩
    · rw [g0]
      refine And.intro (fun h9 => absurd rfl h9) (fun _ => ?_)
      refine ⟨_, rfl, ?_⟩
      refine Go_wp 60 rfl ?_
      refine s_isSlot (fun _ _ _ => ?_) (fun e => absurd rfl (e i hi))
      refine And.intro (fun _ => ?_) (fun h9 => absurd (by decide) h9)
      refine And.intro (sw_k hW (Nat.le_of_ble_eq_true rfl) rfl) ?_
      refine Exists.intro _ (And.intro (sw_r hW (Nat.le_of_ble_eq_true rfl) rfl rfl) ?_)
      refine And.intro (sw_n hW (Nat.le_of_ble_eq_true rfl) rfl rfl (hi) (Nat.le_of_ble_eq_true rfl)) ?_
      rw [m0 103, g0]
      refine And.intro (fun h9 => absurd rfl h9) (fun _ => ?_)
      exact pub_end hS
    · rw [g0]
      refine And.intro (fun _ => ?_) (fun h9 => absurd (by decide) h9)
      refine And.intro (w_slk hW hi) ?_
      rw [s0, g0]
      refine And.intro (fun h9 => absurd h9 (by decide)) (fun _ => ?_)
      refine ⟨_, rfl, ?_⟩
      refine Go_wp 60 rfl ?_
      refine s_isSlot (fun _ _ _ => ?_) (fun e => absurd rfl (e i hi))
      refine And.intro (fun _ => ?_) (fun h9 => absurd (by decide) h9)
      refine And.intro (sw_k hW (Nat.le_of_ble_eq_true rfl) rfl) ?_
      refine Exists.intro _ (And.intro (sw_r hW (Nat.le_of_ble_eq_true rfl) rfl rfl) ?_)
      refine And.intro (sw_n hW (Nat.le_of_ble_eq_true rfl) rfl rfl (hi) (Nat.le_of_ble_eq_true rfl)) ?_
      rw [m0 103, g0]
      refine And.intro (fun _ => ?_) (fun h9 => absurd (by decide) h9)
      refine And.intro (sw_k hW (Nat.le_of_ble_eq_true rfl) rfl) ?_
      refine Exists.intro _ (And.intro (sw_r hW (Nat.le_of_ble_eq_true rfl) rfl rfl) ?_)
      refine And.intro (sw_n hW (Nat.le_of_ble_eq_true rfl) rfl rfl (hi) (Nat.le_of_ble_eq_true rfl)) ?_
      rw [m0 103, g0]
      refine And.intro (fun h9 => absurd h9 (by decide)) (fun _ => ?_)
      exact pub_end hS
    · rw [g0]
      refine And.intro (fun _ => ?_) (fun h9 => absurd (by decide) h9)
      refine And.intro (w_slk hW hi) ?_
      rw [s0, g0]
      refine And.intro (fun _ => ?_) (fun h9 => absurd rfl h9)
      refine And.intro (w_slk hW hi) (Exists.intro _ (And.intro (w_rs hW hi) ?_))
      refine And.intro (w_sls hW hi) ?_
      refine c_hasPlace hW (w_sls hW hi) k6 l4 (fun p hp e => ?_) (fun e => ?_)
      · subst e
        refine And.intro (fun _ => ?_) (fun h9 => absurd (by decide) h9)
        refine And.intro (w_slk hW hi) (Exists.intro _ (And.intro (w_rs hW hi) ?_))
        refine And.intro (w_sls hW hi) ?_
        refine c_isNumber hW (w_sls hW hi) k6 l4 hp (w_rp hW hi) (w_cel hW hi (by omega)) ?_
        by_cases hq : I (66 + 4 * i) p = -1000000005
        · rw [if_pos hq]
          refine And.intro (fun _ => ?_) (fun h9 => absurd rfl h9)
          refine ⟨_, rfl, ?_⟩
          refine Go_wp 60 rfl ?_
          refine s_isSlot (fun _ _ _ => ?_) (fun e => absurd rfl (e i hi))
          refine And.intro (fun _ => ?_) (fun h9 => absurd (by decide) h9)
          refine And.intro (sw_k hW (Nat.le_of_ble_eq_true rfl) rfl) ?_
          refine Exists.intro _ (And.intro (sw_r hW (Nat.le_of_ble_eq_true rfl) rfl rfl) ?_)
          refine And.intro (sw_n hW (Nat.le_of_ble_eq_true rfl) rfl rfl (hi) (Nat.le_of_ble_eq_true rfl)) ?_
          rw [m0 103, g0]
          refine And.intro (fun _ => ?_) (fun h9 => absurd (by decide) h9)
          refine And.intro (sw_k hW (Nat.le_of_ble_eq_true rfl) rfl) ?_
          refine Exists.intro _ (And.intro (sw_r hW (Nat.le_of_ble_eq_true rfl) rfl rfl) ?_)
          refine And.intro (sw_n hW (Nat.le_of_ble_eq_true rfl) rfl rfl (hi) (Nat.le_of_ble_eq_true rfl)) ?_
          rw [m0 103, g0]
          refine And.intro (fun _ => ?_) (fun h9 => absurd rfl h9)
          refine And.intro (sw_k hW (Nat.le_of_ble_eq_true rfl) rfl) ?_
          refine Exists.intro _ (And.intro (sw_r hW (Nat.le_of_ble_eq_true rfl) rfl rfl) ?_)
          refine And.intro (sw_n hW (Nat.le_of_ble_eq_true rfl) rfl rfl (hi) (Nat.le_of_ble_eq_true rfl)) ?_
          rw [m0 104, k7]
          refine s_isIn (n := l) (nI_less l (by omega)) (fun _ _ _ => ?_) (fun e => absurd rfl (e p hp))
          refine And.intro (fun _ => ?_) (fun h9 => absurd (by decide) h9)
          refine And.intro (sw_k hW (Nat.le_of_ble_eq_true rfl) rfl) ?_
          refine Exists.intro _ (And.intro (sw_r hW (Nat.le_of_ble_eq_true rfl) rfl rfl) ?_)
          refine And.intro (by rw [cx24]; exact sw_n hW (Nat.le_of_ble_eq_true rfl) rfl rfl (show 24 * i + p < 120 by omega) (Nat.le_of_ble_eq_true rfl)) ?_
          rw [show I 106 ((24 : Int32) * nI i + nI p).toNatClampNeg = I (66 + 4 * i) p by rw [cx24, ix (by omega)]; exact (k8 p (by omega)).symm]
          rw [hq]
          refine And.intro (fun h9 => absurd rfl h9) (fun _ => ?_)
          exact pub_end hS
        · rw [if_neg hq]
          refine And.intro (fun h9 => absurd h9 (by decide)) (fun _ => ?_)
          refine And.intro (w_slk hW hi) (Exists.intro _ (And.intro (w_rs hW hi) ?_))
          refine And.intro (w_sls hW hi) (Exists.intro _ (And.intro (w_rp hW hi) ?_))
          refine And.intro (w_cel hW hi (show p < 24 by omega)) ?_
          rw [ix (show p < 2147483648 by omega)]
          refine ⟨_, rfl, ?_⟩
          refine Go_wp 60 rfl ?_
          refine s_isSlot (fun _ _ _ => ?_) (fun e => absurd rfl (e i hi))
          refine And.intro (fun _ => ?_) (fun h9 => absurd (by decide) h9)
          refine And.intro (sw_k hW (Nat.le_of_ble_eq_true rfl) rfl) ?_
          refine Exists.intro _ (And.intro (sw_r hW (Nat.le_of_ble_eq_true rfl) rfl rfl) ?_)
          refine And.intro (sw_n hW (Nat.le_of_ble_eq_true rfl) rfl rfl (hi) (Nat.le_of_ble_eq_true rfl)) ?_
          rw [m0 103, g0]
          refine And.intro (fun _ => ?_) (fun h9 => absurd (by decide) h9)
          refine And.intro (sw_k hW (Nat.le_of_ble_eq_true rfl) rfl) ?_
          refine Exists.intro _ (And.intro (sw_r hW (Nat.le_of_ble_eq_true rfl) rfl rfl) ?_)
          refine And.intro (sw_n hW (Nat.le_of_ble_eq_true rfl) rfl rfl (hi) (Nat.le_of_ble_eq_true rfl)) ?_
          rw [m0 103, g0]
          refine And.intro (fun _ => ?_) (fun h9 => absurd rfl h9)
          refine And.intro (sw_k hW (Nat.le_of_ble_eq_true rfl) rfl) ?_
          refine Exists.intro _ (And.intro (sw_r hW (Nat.le_of_ble_eq_true rfl) rfl rfl) ?_)
          refine And.intro (sw_n hW (Nat.le_of_ble_eq_true rfl) rfl rfl (hi) (Nat.le_of_ble_eq_true rfl)) ?_
          rw [m0 104, k7]
          refine s_isIn (n := l) (nI_less l (by omega)) (fun _ _ _ => ?_) (fun e => absurd rfl (e p hp))
          refine And.intro (fun _ => ?_) (fun h9 => absurd (by decide) h9)
          refine And.intro (sw_k hW (Nat.le_of_ble_eq_true rfl) rfl) ?_
          refine Exists.intro _ (And.intro (sw_r hW (Nat.le_of_ble_eq_true rfl) rfl rfl) ?_)
          refine And.intro (by rw [cx24]; exact sw_n hW (Nat.le_of_ble_eq_true rfl) rfl rfl (show 24 * i + p < 120 by omega) (Nat.le_of_ble_eq_true rfl)) ?_
          rw [show I 106 ((24 : Int32) * nI i + nI p).toNatClampNeg = I (66 + 4 * i) p by rw [cx24, ix (by omega)]; exact (k8 p (by omega)).symm]
          refine And.intro (fun _ => ?_) (fun h9 => absurd hq h9)
          exact pub_end hS
      · refine And.intro (fun h9 => absurd rfl h9) (fun _ => ?_)
        refine ⟨_, rfl, ?_⟩
        refine Go_wp 60 rfl ?_
        refine s_isSlot (fun _ _ _ => ?_) (fun e => absurd rfl (e i hi))
        refine And.intro (fun _ => ?_) (fun h9 => absurd (by decide) h9)
        refine And.intro (sw_k hW (Nat.le_of_ble_eq_true rfl) rfl) ?_
        refine Exists.intro _ (And.intro (sw_r hW (Nat.le_of_ble_eq_true rfl) rfl rfl) ?_)
        refine And.intro (sw_n hW (Nat.le_of_ble_eq_true rfl) rfl rfl (hi) (Nat.le_of_ble_eq_true rfl)) ?_
        rw [m0 103, g0]
        refine And.intro (fun _ => ?_) (fun h9 => absurd (by decide) h9)
        refine And.intro (sw_k hW (Nat.le_of_ble_eq_true rfl) rfl) ?_
        refine Exists.intro _ (And.intro (sw_r hW (Nat.le_of_ble_eq_true rfl) rfl rfl) ?_)
        refine And.intro (sw_n hW (Nat.le_of_ble_eq_true rfl) rfl rfl (hi) (Nat.le_of_ble_eq_true rfl)) ?_
        rw [m0 103, g0]
        refine And.intro (fun _ => ?_) (fun h9 => absurd rfl h9)
        refine And.intro (sw_k hW (Nat.le_of_ble_eq_true rfl) rfl) ?_
        refine Exists.intro _ (And.intro (sw_r hW (Nat.le_of_ble_eq_true rfl) rfl rfl) ?_)
        refine And.intro (sw_n hW (Nat.le_of_ble_eq_true rfl) rfl rfl (hi) (Nat.le_of_ble_eq_true rfl)) ?_
        rw [m0 104, k7]
        refine s_isIn (n := l) (nI_less l (by omega)) (fun p hp e2 => absurd e2 (e p hp)) (fun _ => ?_)
        refine And.intro (fun h9 => absurd rfl h9) (fun _ => ?_)
        exact pub_end hS
    · rw [g0]
      refine And.intro (fun _ => ?_) (fun h9 => absurd (by decide) h9)
      refine And.intro (w_slk hW hi) ?_
      rw [s0, g0]
      refine And.intro (fun h9 => absurd h9 (by decide)) (fun _ => ?_)
      refine ⟨_, rfl, ?_⟩
      refine Go_wp 60 rfl ?_
      refine s_isSlot (fun _ _ _ => ?_) (fun e => absurd rfl (e i hi))
      refine And.intro (fun _ => ?_) (fun h9 => absurd (by decide) h9)
      refine And.intro (sw_k hW (Nat.le_of_ble_eq_true rfl) rfl) ?_
      refine Exists.intro _ (And.intro (sw_r hW (Nat.le_of_ble_eq_true rfl) rfl rfl) ?_)
      refine And.intro (sw_n hW (Nat.le_of_ble_eq_true rfl) rfl rfl (hi) (Nat.le_of_ble_eq_true rfl)) ?_
      rw [m0 103, g0]
      refine And.intro (fun _ => ?_) (fun h9 => absurd (by decide) h9)
      refine And.intro (sw_k hW (Nat.le_of_ble_eq_true rfl) rfl) ?_
      refine Exists.intro _ (And.intro (sw_r hW (Nat.le_of_ble_eq_true rfl) rfl rfl) ?_)
      refine And.intro (sw_n hW (Nat.le_of_ble_eq_true rfl) rfl rfl (hi) (Nat.le_of_ble_eq_true rfl)) ?_
      rw [m0 103, g0]
      refine And.intro (fun h9 => absurd h9 (by decide)) (fun _ => ?_)
      exact pub_end hS
  · refine And.intro (fun h9 => absurd rfl h9) (fun _ => ?_)
    refine ⟨_, rfl, ?_⟩
    refine Go_wp 60 rfl ?_
    refine s_isSlot (fun j hj e2 => absurd e2 (e j hj)) (fun _ => ?_)
    refine And.intro (fun h9 => absurd rfl h9) (fun _ => ?_)
    exact pub_end hS
