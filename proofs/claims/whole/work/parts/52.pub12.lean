/-! Public methods: fine. -/
theorem pub_fine (v : Int32) : Pub mX7_fine mX8_fine [.int v] := by
  intro k nx sl ln R I hS
  have hW := hS.1
  have ht := tw5
  have ht2 : Tw 20 := Or.inr (Or.inl rfl)
  obtain ⟨n, m, hT, hC, hL, hG, hZ, hZ7, hZ8, -⟩ := id hS.2.1
  have hn := hT.2.1
  have i8 := hT.2.2.2.2.2.2.2.1
  refine Go_wp 60 rfl ?_
  refine And.intro (sw_k hW (Nat.le_of_ble_eq_true rfl) rfl) ?_
  refine c_isJug hW hC hT.1 hn (fun i hi e => ?_) (fun e => ?_)
  · subst e
    refine And.intro (fun h9 => absurd h9 (by decide)) (fun _ => ?_)
    obtain ⟨f, hf⟩ : ∃ f : Nat → Int32, f = up1 (up1 (I 99) 0 (I 86 (24 + 5 * i + 2))) 1 (I 86 (24 + 5 * i + 1)) := ⟨_, rfl⟩
    have hi10 : i < 10 := by omega
    refine And.intro (sw_k hW (Nat.le_of_ble_eq_true rfl) rfl) ?_
    refine Exists.intro _ (And.intro (sw_r hW (Nat.le_of_ble_eq_true rfl) rfl rfl) ?_)
    refine And.intro (sw_k hW (Nat.le_of_ble_eq_true rfl) rfl) ?_
    refine Exists.intro _ (And.intro (sw_r hW (Nat.le_of_ble_eq_true rfl) rfl rfl) ?_)
    refine And.intro (w_t hW ht) (Exists.intro _ (And.intro (w_r1 hW ht) ?_))
    refine And.intro (w_aj hW ht (hi10)) (Exists.intro _ (And.intro (w_jug hW ht (hi10)) ?_))
    refine And.intro (w_t hW ht) ?_
    refine c_fineOf (f := f) hW ht hC hT hL hi (by rw [hf]; rfl) (by rw [hf]; rfl) (fun I2 h2 => ?_)
    refine ⟨_, rfl, ?_⟩
    have h86 : I2 86 = I 86 := h2 86 (by decide) (by decide)
    have h99 : I2 99 = I 99 := h2 99 (by decide) (by decide)
    rw [← nw_is h86]
    unfold gfF
    refine Go_wp 80 rfl ?_
    refine And.intro (sw_k hW (Nat.le_of_ble_eq_true rfl) rfl) ?_
    refine s_isJug (n := n) hW hT.1 hn (fun _ _ _ => ?_) (fun e => absurd rfl (e i hi))
    refine And.intro (fun _ => ?_) (fun h9 => absurd (by decide) h9)
    refine And.intro (sw_k hW (Nat.le_of_ble_eq_true rfl) rfl) ?_
    refine s_counts (m := m) hW i8 hT.2.2.2.2.2.2.1 ?_
    refine And.intro (sw_k hW (Nat.le_of_ble_eq_true rfl) rfl) ?_
    refine Exists.intro _ (And.intro (sw_r hW (Nat.le_of_ble_eq_true rfl) rfl rfl) ?_)
    refine And.intro (sw_k hW (Nat.le_of_ble_eq_true rfl) rfl) ?_
    refine s_of (w := 2) hW hi10 (by decide) ?_
    refine And.intro (sw_n hW (Nat.le_of_ble_eq_true rfl) rfl rfl ((Nat.le_of_ble_eq_true rfl)) (Nat.le_of_ble_eq_true rfl)) ?_
    rw [nw_oth _ _ (by decide)]
    refine And.intro (sw_k hW (Nat.le_of_ble_eq_true rfl) rfl) ?_
    refine Exists.intro _ (And.intro (sw_r hW (Nat.le_of_ble_eq_true rfl) rfl rfl) ?_)
    refine And.intro (sw_k hW (Nat.le_of_ble_eq_true rfl) rfl) ?_
    refine s_of (w := 1) hW hi10 (by decide) ?_
    refine And.intro (sw_n hW (Nat.le_of_ble_eq_true rfl) rfl rfl ((Nat.le_of_ble_eq_true rfl)) (Nat.le_of_ble_eq_true rfl)) ?_
    rw [nw_oth _ _ (by decide)]
    obtain ⟨J4, hJ4⟩ : ∃ J4, up2 (up2 I2 99 (0 : Int32).toNatClampNeg (I 86 (24 + 5 * i + 2))) 99 (1 : Int32).toNatClampNeg (I 86 (24 + 5 * i + 1)) = J4 := ⟨_, rfl⟩
    rw [hJ4]
    have hJo : ∀ o, ¬ o = 99 → J4 o = I2 o := fun o ho => by rw [← hJ4, up2_ne ho, up2_ne ho]
    have hJf : ∀ q, q < 4 → J4 99 q = f q := fun q _ => by rw [← hJ4, hf, ← h99]; rfl
    rcases cn_ok (T := I 86) (key := nI 2) m i8 with hc | ⟨x, hx, hc⟩
    · refine And.intro (fun h => absurd ((tI_le _ _).mp h) (by have := (tI_lt _ _).mp hc; have e : cnF (I 86) (nI 2) m = cnF (I 86) 2 m := rfl; rw [e] at this; omega)) (fun _ => ?_)
      rw [if_pos hc]
      refine And.intro (sw_k hW (Nat.le_of_ble_eq_true rfl) rfl) ?_
      refine s_of (w := 2) hW hi10 (by decide) ?_
      exact pub_end (hS.scr (F34.sc h2 (fun o _ h => hJo o h) rfl))
    · rw [show cnF (I 86) 2 m = nI x from hc]
      refine And.intro (fun _ => ?_) (fun h => absurd (nI_pos' (by omega)) h)
      rw [hc, if_neg (nI_pos (by omega)), ix (by omega)]
      refine And.intro (sw_k hW (Nat.le_of_ble_eq_true rfl) rfl) ?_
      refine s_works hW (by omega) (hT.2.2.2.2.2.2.2.2 x hx) hJf (fun J5 h5 => ?_)
      exact pub_end (hS.scr (F34.sc h2 (fun o h1 h3 => (h5 o h1).trans (hJo o h3)) rfl))
  · refine And.intro (fun _ => ?_) (fun h9 => absurd rfl h9)
    refine ⟨_, rfl, ?_⟩
    rw [← nw_self I]
    refine Go_wp 60 rfl ?_
    refine And.intro (sw_k hW (Nat.le_of_ble_eq_true rfl) rfl) ?_
    refine s_isJug (n := n) hW hT.1 hn (fun i hi e2 => absurd e2 (e i hi)) (fun _ => ?_)
    refine And.intro (fun h9 => absurd rfl h9) (fun _ => ?_)
    rw [nw_self]
    exact pub_end hS
