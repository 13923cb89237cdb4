/-! Public methods: fee and fine. -/
/-- what a text gives, or else v -/
def gfF (T : Nat → Int32) (key m : Nat) (f : Nat → Int32) (v : Int32) : Int32 := if cnF T (nI key) m < 0 then v else gvF T (cnF T (nI key) m).toNatClampNeg f
theorem c_feeGiven {nx sl : Nat} {ln : Nat → Nat} {R : Nat → Nat → Option Nat} {I : Nat → Nat → Int32} {Q : Option Value → Hp → Prop} {k : Nat} (hW : SW nx ln R) {t n m : Nat} {T f : Nat → Int32} (ht : Tw t) (hC : CT I t T n m) (hT : IT T n m) (hL : LT nx ln R I T m) (f0 : f 0 = T 4) (f1 : f 1 = T 5) (hQ : ∀ I', F34 I I' → Q (some (.int (gfF T 1 m f (T 4)))) (nx, sl, ln, R, I')) : Go (k + 2) mX6_feeGiven [.ref t] (nx, sl, ln, R, I) Q := by
  have hn10 := hT.2.1
  have htl := tw_lt ht
  have i8 := hT.2.2.2.2.2.2.2.1
  unfold gfF at hQ
  refine Go_wp 100 rfl ?_
  refine And.intro (w_t hW ht) (Exists.intro _ (And.intro (w_r12 hW ht) ?_))
  refine And.intro (w_c hW ht (i := 1) (by decide)) ?_
  rw [show I (t + 14) (1 : Int32).toNatClampNeg = coF T 1 m from hC.2.2.2.2.2.2.2.2.2.2.2 1 (by decide)]
  unfold coF
  rcases cn_ok (T := T) (key := nI 1) m i8 with hc | ⟨x, hx, hc⟩
  · rw [if_pos hc] at hQ
    rw [if_pos hc]
    refine And.intro (fun h => absurd rfl h) (fun _ => ?_)
    refine And.intro (w_t hW ht) ?_
    have := hQ I F34.rf
    rw [← hC.2.2.2.2.2.1] at this
    exact this
  · have hnn : ¬ nI x < 0 := nI_pos (by omega)
    rw [hc, if_neg hnn, ix (by omega)] at hQ
    rw [hc, if_neg hnn]
    refine And.intro (fun _ => ?_) (fun h => absurd (Decidable.of_not_not h) (fun w => absurd (show nI x < 0 by rw [w]; decide) hnn))
    refine And.intro (w_t hW ht) (Exists.intro _ (And.intro (w_r0 hW ht) ?_))
    refine And.intro (w_t hW ht) ?_
    refine And.intro (sw_k hW (Nat.le_of_ble_eq_true rfl) rfl) ?_
    refine c_name (L := 103) hW (by decide) ?_
    refine And.intro (w_t hW ht) (Exists.intro _ (And.intro (w_r0 hW ht) ?_))
    refine And.intro (w_t hW ht) ?_
    refine And.intro (sw_k hW (Nat.le_of_ble_eq_true rfl) rfl) ?_
    refine c_name (L := 115) hW (by decide) ?_
    rw [up2_ne (show ¬ t = 3 by omega), hC.2.2.2.2.2.1, hC.2.2.2.2.2.2.1]
    refine And.intro (w_t hW ht) (Exists.intro _ (And.intro (w_r0 hW ht) ?_))
    obtain ⟨I4, hI4⟩ : ∃ I4, up2 (up2 I 3 (103 - 97) (T 4)) 3 (115 - 97) (T 5) = I4 := ⟨_, rfl⟩
    have h4 : ∀ o, ¬ o = 3 → I4 o = I o := fun o ho => by rw [← hI4, up2_ne ho, up2_ne ho]
    rw [hI4]
    refine And.intro (w_t hW ht) (Exists.intro _ (And.intro (w_r12 hW ht) ?_))
    refine And.intro (w_c hW ht (i := 1) (by decide)) ?_
    rw [show I4 (t + 14) (1 : Int32).toNatClampNeg = nI x by rw [h4 _ (by omega)]; refine (hC.2.2.2.2.2.2.2.2.2.2.2 1 (by decide)).trans ?_; unfold coF; rw [hc, if_neg hnn]]
    have ek := cn_key m i8 hx hc
    refine And.intro (sw_k hW (Nat.le_of_ble_eq_true rfl) rfl) ?_
    refine c_given (f := f) hW (by omega) (hT.2.2.2.2.2.2.2.2 x hx) ?_ ?_ (fun I5 h5 => ?_)
    · exact (hL.keep (fun o ho => h4 o (by omega)) (fun _ _ => rfl)) x hx
    · intro key len hk hl e
      have : key = 1 := key_of e hk hl ek (by omega)
      subst this
      intro q hq
      have hq4 : q < 2 := hq
      rw [← hI4]
      match q, hq4 with
      | 0, _ => exact f0.symm
      | 1, _ => exact f1.symm
    · exact hQ I5 (fun o a b => (h5 o b).trans (h4 o a))
theorem c_fineOf {nx sl : Nat} {ln : Nat → Nat} {R : Nat → Nat → Option Nat} {I : Nat → Nat → Int32} {Q : Option Value → Hp → Prop} {k : Nat} (hW : SW nx ln R) {t n m j : Nat} {T f : Nat → Int32} (ht : Tw t) (hC : CT I t T n m) (hT : IT T n m) (hL : LT nx ln R I T m) (hj : j < n) (f0 : f 0 = T (24 + 5 * j + 2)) (f1 : f 1 = T (24 + 5 * j + 1)) (hQ : ∀ I', F34 I I' → Q (some (.int (gfF T 2 m f (T (24 + 5 * j + 2))))) (nx, sl, ln, R, I')) : Go (k + 2) mX6_fineOf [.ref t, .ref (t + 2 + j)] (nx, sl, ln, R, I) Q := by
  have hn10 := hT.2.1
  have htl := tw_lt ht
  have i8 := hT.2.2.2.2.2.2.2.1
  unfold gfF at hQ
  refine Go_wp 100 rfl ?_
  refine And.intro (w_t hW ht) (Exists.intro _ (And.intro (w_r12 hW ht) ?_))
  refine And.intro (w_c hW ht (i := 2) (by decide)) ?_
  rw [show I (t + 14) (2 : Int32).toNatClampNeg = coF T 2 m from hC.2.2.2.2.2.2.2.2.2.2.2 2 (by decide)]
  unfold coF
  rcases cn_ok (T := T) (key := nI 2) m i8 with hc | ⟨x, hx, hc⟩
  · rw [if_pos hc] at hQ
    rw [if_pos hc]
    refine And.intro (fun h => absurd rfl h) (fun _ => ?_)
    refine And.intro (w_kj hW ht (by omega)) ?_
    have := hQ I F34.rf
    rw [← hC.2.1 j hj 2 (by decide)] at this
    exact this
  · have hnn : ¬ nI x < 0 := nI_pos (by omega)
    rw [hc, if_neg hnn, ix (by omega)] at hQ
    rw [hc, if_neg hnn]
    refine And.intro (fun _ => ?_) (fun h => absurd (Decidable.of_not_not h) (fun w => absurd (show nI x < 0 by rw [w]; decide) hnn))
    refine And.intro (w_t hW ht) (Exists.intro _ (And.intro (w_r0 hW ht) ?_))
    refine And.intro (w_kj hW ht (by omega)) ?_
    refine And.intro (sw_k hW (Nat.le_of_ble_eq_true rfl) rfl) ?_
    refine c_name (L := 109) hW (by decide) ?_
    refine And.intro (w_t hW ht) (Exists.intro _ (And.intro (w_r0 hW ht) ?_))
    refine And.intro (w_kj hW ht (by omega)) ?_
    refine And.intro (sw_k hW (Nat.le_of_ble_eq_true rfl) rfl) ?_
    refine c_name (L := 98) hW (by decide) ?_
    rw [up2_ne (show ¬ t + 2 + j = 3 by omega), hC.2.1 j hj 2 (by decide), hC.2.1 j hj 1 (by decide)]
    refine And.intro (w_t hW ht) (Exists.intro _ (And.intro (w_r0 hW ht) ?_))
    obtain ⟨I4, hI4⟩ : ∃ I4, up2 (up2 I 3 (109 - 97) (T (24 + 5 * j + 2))) 3 (98 - 97) (T (24 + 5 * j + 1)) = I4 := ⟨_, rfl⟩
    have h4 : ∀ o, ¬ o = 3 → I4 o = I o := fun o ho => by rw [← hI4, up2_ne ho, up2_ne ho]
    rw [hI4]
    refine And.intro (w_t hW ht) (Exists.intro _ (And.intro (w_r12 hW ht) ?_))
    refine And.intro (w_c hW ht (i := 2) (by decide)) ?_
    rw [show I4 (t + 14) (2 : Int32).toNatClampNeg = nI x by rw [h4 _ (by omega)]; refine (hC.2.2.2.2.2.2.2.2.2.2.2 2 (by decide)).trans ?_; unfold coF; rw [hc, if_neg hnn]]
    have ek := cn_key m i8 hx hc
    refine And.intro (sw_k hW (Nat.le_of_ble_eq_true rfl) rfl) ?_
    refine c_given (f := f) hW (by omega) (hT.2.2.2.2.2.2.2.2 x hx) ?_ ?_ (fun I5 h5 => ?_)
    · exact (hL.keep (fun o ho => h4 o (by omega)) (fun _ _ => rfl)) x hx
    · intro key len hk hl e
      have : key = 2 := key_of e hk hl ek (by omega)
      subst this
      intro q hq
      have hq4 : q < 2 := hq
      rw [← hI4]
      match q, hq4 with
      | 0, _ => exact f0.symm
      | 1, _ => exact f1.symm
    · exact hQ I5 (fun o a b => (h5 o b).trans (h4 o a))
theorem pub_fee : Pub mX7_fee mX8_fee [] := by
  intro k nx sl ln R I hS
  have hW := hS.1
  have ht := tw5
  have ht2 : Tw 20 := Or.inr (Or.inl rfl)
  obtain ⟨n, m, hT, hC, hL, hG, hZ, hZ7, hZ8, -⟩ := id hS.2.1
  have hn := hT.2.1
  have i8 := hT.2.2.2.2.2.2.2.1
  obtain ⟨f, hf⟩ : ∃ f : Nat → Int32, f = up1 (up1 (I 99) 0 (I 86 4)) 1 (I 86 5) := ⟨_, rfl⟩
  refine Go_wp 60 rfl ?_
  refine And.intro (sw_k hW (Nat.le_of_ble_eq_true rfl) rfl) ?_
  refine Exists.intro _ (And.intro (sw_r hW (Nat.le_of_ble_eq_true rfl) rfl rfl) ?_)
  refine And.intro (w_t hW ht) ?_
  refine c_feeGiven (f := f) hW ht hC hT hL (by rw [hf]; rfl) (by rw [hf]; rfl) (fun I2 h2 => ?_)
  refine ⟨_, rfl, ?_⟩
  have h86 : I2 86 = I 86 := h2 86 (by decide) (by decide)
  have h99 : I2 99 = I 99 := h2 99 (by decide) (by decide)
  rw [← nw_is h86]
  unfold gfF
  refine Go_wp 60 rfl ?_
  refine And.intro (sw_k hW (Nat.le_of_ble_eq_true rfl) rfl) ?_
  refine s_counts (m := m) hW i8 hT.2.2.2.2.2.2.1 ?_
  refine And.intro (sw_k hW (Nat.le_of_ble_eq_true rfl) rfl) ?_
  refine Exists.intro _ (And.intro (sw_r hW (Nat.le_of_ble_eq_true rfl) rfl rfl) ?_)
  refine And.intro (sw_k hW (Nat.le_of_ble_eq_true rfl) rfl) ?_
  refine Exists.intro _ (And.intro (sw_r hW (Nat.le_of_ble_eq_true rfl) rfl rfl) ?_)
  refine And.intro (sw_n hW (Nat.le_of_ble_eq_true rfl) rfl rfl ((Nat.le_of_ble_eq_true rfl)) (Nat.le_of_ble_eq_true rfl)) ?_
  refine And.intro (sw_n hW (Nat.le_of_ble_eq_true rfl) rfl rfl ((Nat.le_of_ble_eq_true rfl)) (Nat.le_of_ble_eq_true rfl)) ?_
  rw [nw_oth _ _ (by decide)]
  refine And.intro (sw_k hW (Nat.le_of_ble_eq_true rfl) rfl) ?_
  refine Exists.intro _ (And.intro (sw_r hW (Nat.le_of_ble_eq_true rfl) rfl rfl) ?_)
  refine And.intro (sw_k hW (Nat.le_of_ble_eq_true rfl) rfl) ?_
  refine Exists.intro _ (And.intro (sw_r hW (Nat.le_of_ble_eq_true rfl) rfl rfl) ?_)
  refine And.intro (sw_n hW (Nat.le_of_ble_eq_true rfl) rfl rfl ((Nat.le_of_ble_eq_true rfl)) (Nat.le_of_ble_eq_true rfl)) ?_
  refine And.intro (sw_n hW (Nat.le_of_ble_eq_true rfl) rfl rfl ((Nat.le_of_ble_eq_true rfl)) (Nat.le_of_ble_eq_true rfl)) ?_
  rw [nw_oth _ _ (by decide)]
  obtain ⟨J4, hJ4⟩ : ∃ J4, up2 (up2 I2 99 (0 : Int32).toNatClampNeg (nw I2 (I 86) 86 (4 : Int32).toNatClampNeg)) 99 (1 : Int32).toNatClampNeg (nw (up2 I2 99 (0 : Int32).toNatClampNeg (nw I2 (I 86) 86 (4 : Int32).toNatClampNeg)) (I 86) 86 (5 : Int32).toNatClampNeg) = J4 := ⟨_, rfl⟩
  rw [hJ4]
  have hJo : ∀ o, ¬ o = 99 → J4 o = I2 o := fun o ho => by rw [← hJ4, up2_ne ho, up2_ne ho]
  have hJf : ∀ q, q < 4 → J4 99 q = f q := fun q _ => by rw [← hJ4, hf, ← h99]; rfl
  rcases cn_ok (T := I 86) (key := nI 1) m i8 with hc | ⟨x, hx, hc⟩
  · refine And.intro (fun h => absurd ((tI_le _ _).mp h) (by have := (tI_lt _ _).mp hc; have e : cnF (I 86) (nI 1) m = cnF (I 86) 1 m := rfl; rw [e] at this; omega)) (fun _ => ?_)
    rw [if_pos hc]
    refine And.intro (sw_k hW (Nat.le_of_ble_eq_true rfl) rfl) ?_
    refine Exists.intro _ (And.intro (sw_r hW (Nat.le_of_ble_eq_true rfl) rfl rfl) ?_)
    refine And.intro (sw_n hW (Nat.le_of_ble_eq_true rfl) rfl rfl ((Nat.le_of_ble_eq_true rfl)) (Nat.le_of_ble_eq_true rfl)) ?_
    exact pub_end (hS.scr (F34.sc h2 (fun o _ h => hJo o h) rfl))
  · rw [show cnF (I 86) 1 m = nI x from hc]
    refine And.intro (fun _ => ?_) (fun h => absurd (nI_pos' (by omega)) h)
    rw [hc, if_neg (nI_pos (by omega)), ix (by omega)]
    refine And.intro (sw_k hW (Nat.le_of_ble_eq_true rfl) rfl) ?_
    refine s_works hW (by omega) (hT.2.2.2.2.2.2.2.2 x hx) hJf (fun J5 h5 => ?_)
    exact pub_end (hS.scr (F34.sc h2 (fun o h1 h3 => (h5 o h1).trans (hJo o h3)) rfl))
