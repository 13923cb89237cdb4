/-! The component's town: selling, breaking, days. -/
theorem wr_ok {kd : Int32} {b m : Nat} (hb : b ≤ 99) (hm : m ≤ b) : ∃ u, u ≤ 200 ∧ wrF kd (nI b) (nI m) = nI u := by
  unfold wrF
  rw [show nI m + 40 = nI (m + 40) from nI_add m 40, nI_sub hm, show nI (m + 40) / 2 = nI ((m + 40) / 2) from pk_div (d := 2) (by omega) (by decide) (by decide)]
  obtain ⟨v, hv, ev⟩ := wi_nI (nI (b - m) - 5) (show 99 < 2147483648 by decide)
  rw [show (99 : Int32) = nI 99 from rfl, ev]
  exact kd_ok (P := fun x => ∃ v, v ≤ 200 ∧ x = nI v) ⟨m, by omega, rfl⟩ ⟨m + 40, by omega, rfl⟩ ⟨b - m, by omega, rfl⟩ ⟨(m + 40) / 2, by omega, rfl⟩ ⟨v, by omega, rfl⟩ ⟨3, by omega, rfl⟩
theorem add_neg {a u : Nat} (h : u ≤ a) : nI a + -nI u = nI (a - u) := by rw [← Int32.sub_eq_add_neg, nI_sub h]
theorem c_worthT {nx sl : Nat} {ln : Nat → Nat} {R : Nat → Nat → Option Nat} {I : Nat → Nat → Int32} {Q : Option Value → Hp → Prop} {k : Nat} (hW : SW nx ln R) {t n m j : Nat} {T : Nat → Int32} (ht : Tw t) (hC : CT I t T n m) (hT : IT T n m) (hj : j < n) (hQ : Q (some (.int (woF T j))) (nx, sl, ln, R, I)) : Go (k + 1) mX0_worth [.ref (t + 2 + j)] (nx, sl, ln, R, I) Q := by
  have hn10 := hT.2.1
  obtain ⟨kd, b, mk, hd, fl, j1, j2, j3, j4, j5, j6, j7, j8, j9, j10, j11⟩ := hT.2.2.1 j hj
  refine c_worth (w_kj hW ht (by omega)) ?_
  rw [hC.2.1 j hj 0 (by decide), hC.2.1 j hj 1 (by decide), hC.2.1 j hj 2 (by decide), j3, j6, wr_mx j5 j7]
  unfold woF at hQ
  rw [j3, j6] at hQ
  exact hQ
set_option maxHeartbeats 1000000 in
theorem tail_csell {nx sl : Nat} {ln : Nat → Nat} {R : Nat → Nat → Option Nat} {I : Nat → Nat → Int32} {Q : Option Value → Hp → Prop} {k : Nat} (hW : SW nx ln R) {t n m j h nn : Nat} {T : Nat → Int32} {x3 : Option Value} (ht : Tw t) (hC : CT I t T n m) (hT : IT T n m) (hj : j < n) (hh : h < 8) (hQ : ∀ I2, CT I2 t (seG T j h) n m → Fr t I I2 → Q none (nx, sl, ln, R, I2)) : wp (nn + 60) (k + 2) mX6_sellOneJug 31 [some (.ref t), some (.ref (t + 2 + j)), none, x3] [.int (nI h)] (nx, sl, ln, R, I) Q := by
  have hn10 := hT.2.1
  have htl := tw_lt ht
  have hj10 : j < 10 := by omega
  obtain ⟨kd, b, mk, hd, fl, j1, j2, j3, j4, j5, j6, j7, j8, j9, j10, j11⟩ := hT.2.2.1 j hj
  obtain ⟨a, ea, ha⟩ := hT.2.2.2.2.1 h hh
  obtain ⟨a2, ea2, ha2⟩ := hT.2.2.2.2.1 hd (by omega)
  obtain ⟨u, hu, eu⟩ : ∃ u, u ≤ 200 ∧ woF T j = nI u := by unfold woF; rw [j3, j6]; exact wr_ok j5 j7
  have exh : (nI h).toNatClampNeg = h := ix (by omega)
  have exd : (nI hd).toNatClampNeg = hd := ix (by omega)
  unfold seG at hQ
  refine And.intro (w_kj hW ht (hj10)) ?_
  refine c_worthT hW ht hC hT hj ?_
  rw [eu]
  refine And.intro (w_kj hW ht (hj10)) ?_
  rw [hC.2.1 j hj 3 (by decide), j8]
  rw [j8, eu, ea] at hQ
  refine And.intro (fun q => ?_) (fun q => ?_)
  · rw [if_pos q] at hQ; exact hQ I hC Fr.rf
  · rw [if_neg q] at hQ
    have hdh : ¬ hd = h := fun w => q (by rw [w])
    refine And.intro (w_t hW ht) (Exists.intro _ (And.intro (w_r4 hW ht) ?_))
    refine And.intro (w_d hW ht hh) ?_
    rw [exh, hC.2.2.2.1 h hh, ea]
    refine And.intro (fun q2 => ?_) (fun q2 => ?_)
    · have hua : u ≤ a := (nI_leI (by omega) (by omega)).mp q2
      rw [if_neg (nI_nlt hua (by omega)), exd] at hQ
      refine And.intro (w_t hW ht) (Exists.intro _ (And.intro (w_r4 hW ht) ?_))
      refine And.intro (w_d hW ht hh) ?_
      rw [exh, hC.2.2.2.1 h hh, ea]
      refine And.intro (w_d hW ht hh) ?_
      rw [exh, nI_sub hua]
      have hC3 := hC.had (v := nI (a - u)) hn10 hh
      have eT3 : up1 T (16 + h) (nI (a - u)) = hsF T h (-nI u) := by unfold hsF; rw [ea, add_neg hua, show (9999 : Int32) = nI 9999 from rfl, wi_nn (by omega) (by omega), Nat.min_eq_left (by omega)]
      rw [eT3] at hC3
      obtain ⟨I3, hI3⟩ : ∃ I3, up2 I (t + 13) h (nI (a - u)) = I3 := ⟨_, rfl⟩
      have hF3 : Fr t I I3 := by rw [← hI3]; exact Fr.up (by omega)
      rw [hI3] at hC3
      rw [hI3]
      have g5 : ∀ p, 24 ≤ p → hsF T h (-nI u) p = T p := fun p hp => by unfold hsF; rw [up1_gt (by omega)]
      have g16 : hsF T h (-nI u) (16 + hd) = nI a2 := by unfold hsF; rw [up1_ne (by omega)]; exact ea2
      refine And.intro (w_t hW ht) (Exists.intro _ (And.intro (w_r4 hW ht) ?_))
      refine And.intro (w_kj hW ht (hj10)) ?_
      refine And.intro (w_t hW ht) (Exists.intro _ (And.intro (w_r4 hW ht) ?_))
      refine And.intro (w_kj hW ht (hj10)) ?_
      rw [hC3.2.1 j hj 3 (by decide), g5 _ (by omega), j8]
      refine And.intro (w_d hW ht (i := hd) (by omega)) ?_
      rw [exd, hC3.2.2.2.1 hd (by omega), g16]
      refine And.intro (w_d hW ht (i := hd) (by omega)) ?_
      rw [exd, nI_add]
      rw [show (if (9999 : Int32) < nI (a2 + u) then (9999 : Int32) else nI (a2 + u)) = wi (nI (a2 + u)) 0 9999 from mn_wi (h := 9999) (by omega) (by omega)]
      have hC4 := hC3.had (v := wi (nI (a2 + u)) 0 9999) hn10 (show hd < 8 by omega)
      have eT4 : up1 (hsF T h (-nI u)) (16 + hd) (wi (nI (a2 + u)) 0 9999) = hsF (hsF T h (-nI u)) hd (nI u) := by
        show _ = up1 (hsF T h (-nI u)) (16 + hd) (wi (hsF T h (-nI u) (16 + hd) + nI u) 0 9999)
        rw [g16, nI_add]
      rw [eT4] at hC4
      obtain ⟨I4, hI4⟩ : ∃ I4, up2 I3 (t + 13) hd (wi (nI (a2 + u)) 0 9999) = I4 := ⟨_, rfl⟩
      have hF4 : Fr t I3 I4 := by rw [← hI4]; exact Fr.up (by omega)
      rw [hI4] at hC4
      rw [hI4]
      refine And.intro (w_kj hW ht (hj10)) ?_
      have hC5 := hC4.jug (v := nI h) hn10 hj (w := 3) (by decide)
      obtain ⟨I5, hI5⟩ : ∃ I5, up2 I4 (t + 2 + j) 3 (nI h) = I5 := ⟨_, rfl⟩
      have hF5 : Fr t I4 I5 := by rw [← hI5]; exact Fr.up (by omega)
      rw [hI5] at hC5
      rw [hI5]
      refine And.intro (w_t hW ht) ?_
      refine And.intro (w_t hW ht) ?_
      have e7 : I5 t 7 = T 5 := by
        rw [hC5.2.2.2.2.2.2.1, up1_lt (by omega)]
        unfold hsF
        rw [up1_lt (by omega), up1_lt (by omega)]
      rw [e7]
      have hC6 := hC5.num (v := T 5 + 1) hn10 (a := 7) (p := 5) (by omega)
      exact hQ _ hC6 ((hF3.tr hF4).tr (hF5.tr (Fr.up (by omega))))
    · have hua : a < u := by
        rcases Nat.lt_or_ge a u with w | w
        · exact w
        · exact absurd (nI_le w (by omega)) q2
      rw [if_pos (nI_lt hua (by omega))] at hQ
      exact hQ I hC Fr.rf
theorem c_sellOneJug {nx sl : Nat} {ln : Nat → Nat} {R : Nat → Nat → Option Nat} {I : Nat → Nat → Int32} {Q : Option Value → Hp → Prop} {k : Nat} (hW : SW nx ln R) {t n m : Nat} {T : Nat → Int32} (ht : Tw t) (hC : CT I t T n m) (hT : IT T n m) (hQ : ∀ I2, CT I2 t (if 0 < n then seF T n else T) n m → Fr t I I2 → Q none (nx, sl, ln, R, I2)) : Go (k + 2) mX6_sellOneJug [.ref t] (nx, sl, ln, R, I) Q := by
  have hn10 := hT.2.1
  have htl := tw_lt ht
  refine Go_wp 120 rfl ?_
  refine And.intro (w_t hW ht) ?_
  rw [hC.1, hT.1]
  refine And.intro (fun h => ?_) (fun h => ?_)
  · have hn : 0 < n := by
      rcases Nat.eq_zero_or_pos n with q | q
      · subst q; exact absurd h (by decide)
      · exact q
    rw [if_pos hn] at hQ
    obtain ⟨v1, w1, w2⟩ := dw_ok (T 0)
    obtain ⟨v2, w3, w4⟩ := dw_ok (zN (T 0))
    have ej : seJ T n = v1 % n := by unfold seJ; rw [w2, ix (by omega)]
    have eh : seH T = v2 % 8 := by unfold seH; rw [w4, ix (by omega)]
    have hjn : seJ T n < n := by rw [ej]; exact Nat.mod_lt _ hn
    have hh8 : seH T < 8 := by rw [eh]; exact Nat.mod_lt _ (by decide)
    refine And.intro (w_t hW ht) (Exists.intro _ (And.intro (w_r1 hW ht) ?_))
    refine And.intro (w_t hW ht) ?_
    refine c_drawn hW ht hC.2.2.2.2.2.2.2.2.2.1 ?_
    have hC1 := hC.num (v := zN (T 0)) hn10 (a := 10) (p := 0) (by omega)
    obtain ⟨I1, hI1⟩ : ∃ I1, up2 I t 10 (zN (T 0)) = I1 := ⟨_, rfl⟩
    have hF1 : Fr t I I1 := by rw [← hI1]; exact Fr.up (by omega)
    rw [hI1] at hC1
    rw [hI1, w2]
    refine And.intro (w_t hW ht) ?_
    rw [hC1.1, up1_gt (show 0 < 1 by decide), hT.1]
    refine And.intro (nI_ne0 hn (by omega)) ?_
    rw [irm_nI (by omega) hn (by omega), ← ej]
    refine And.intro (w_aj hW ht (show seJ T n < 10 by omega)) (Exists.intro _ (And.intro (w_jug hW ht (show seJ T n < 10 by omega)) ?_))
    refine And.intro (w_t hW ht) ?_
    refine c_drawn hW ht (z := zN (T 0)) (by rw [hC1.2.2.2.2.2.2.2.2.2.1, up1_eq]) ?_
    have hC2 := hC1.num (v := zN (zN (T 0))) hn10 (a := 10) (p := 0) (by omega)
    obtain ⟨I2, hI2⟩ : ∃ I2, up2 I1 t 10 (zN (zN (T 0))) = I2 := ⟨_, rfl⟩
    have hF2 : Fr t I1 I2 := by rw [← hI2]; exact Fr.up (by omega)
    rw [hI2] at hC2
    rw [hI2, w4]
    replace hC2 : CT I2 t (seT T) n m := hC2
    refine And.intro (by decide) ?_
    have e8 : irm (nI v2) 8 = nI (seH T) := by rw [eh]; exact irm_nI (b := 8) (by omega) (by decide) (by decide)
    rw [e8]
    exact tail_csell hW ht hC2 hT.seT hjn hh8 (fun I3 a b => hQ I3 a ((hF1.tr hF2).tr b))
  · have hn : ¬ 0 < n := fun q => h (nI_le (a := 1) q (by omega))
    rw [if_neg hn] at hQ
    exact hQ I hC Fr.rf
