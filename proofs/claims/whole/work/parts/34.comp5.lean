/-! The component's town: a day. -/
theorem mn_wi {v : Nat} {h : Nat} (hv : v < 1000000) (hh : h ≤ 1000000) : mn (nI v) (nI h) = wi (nI v) 0 (nI h) := by rw [mn_nI (by omega) (by omega), wi_nn (by omega) (by omega)]
theorem fl_hi {T : Nat → Int32} {n m : Nat} (hT : IT T n m) : ∀ i, i ≤ n → ∀ p, 74 ≤ p → flF T i p = T p := by
  intro i
  induction i with
  | zero => intro _ p _; rfl
  | succ i ih =>
    intro hi p hp
    have hIT := hT.fl i (by omega)
    have hn := hT.2.1
    obtain ⟨kd, b, mk, hd, fl, j1, j2, j3, j4, j5, j6, j7, j8, j9, j10, j11⟩ := hIT.2.2.1 i (by omega)
    show fiF (flF T i) i p = T p
    unfold fiF
    rw [up1_gt (by omega), up1_gt (by omega), up1_gt (by omega)]
    unfold hsF
    rw [up1_gt (by rw [j8, ix (by omega)]; omega)]
    exact ih (by omega) p hp
set_option maxHeartbeats 2000000 in
theorem l_cfills {nx sl : Nat} {ln : Nat → Nat} {R : Nat → Nat → Option Nat} {I : Nat → Nat → Int32} {Q : Option Value → Hp → Prop} {k : Nat} (hW : SW nx ln R) {t n m : Nat} {T : Nat → Int32} (ht : Tw t) (hT : IT T n m) (hL : LT nx ln R I T m) : ∀ (r j : Nat) (x2 x3 : Option Value) (xj : Int32) (I1 : Nat → Nat → Int32), xj = nI j → CT I1 t (flF T j) n m → Fr t I I1 → j + r = n → (∀ I2, CT I2 t (flF T n) n m → Fr t I I2 → Q none (nx, sl, ln, R, I2)) → GoF (k + 3) mX6_fillJugs 2 [some (.ref t), some (.int xj), x2, x3] [] (nx, sl, ln, R, I1) Q := by
  have hn10 := hT.2.1
  have htl := tw_lt ht
  intro r
  induction r with
  | zero =>
    intro j x2 x3 xj I1 hxj hC hF hjr hQ
    subst hxj
    have hjn : j = n := by omega
    subst hjn
    have i1 := (hT.fl j (Nat.le_refl j)).1
    refine GoF_wp1 40 ?_
    refine And.intro (w_t hW ht) ?_
    rw [hC.1, i1]
    exact And.intro (fun _ => hQ I1 hC hF) (fun h => absurd (nI_le (Nat.le_refl j) (by omega)) h)
  | succ r ih =>
    intro j x2 x3 xj I1 hxj hC hF hjr hQ
    subst hxj
    have hit := hT.fl j (by omega)
    have hj : j < n := by omega
    have hj10 : j < 10 := by omega
    obtain ⟨T1, hT1⟩ : ∃ T1, flF T j = T1 := ⟨_, rfl⟩
    have hnext : flF T (j + 1) = fiF T1 j := by rw [← hT1]; rfl
    have hL1 : LT nx ln R I1 T1 m := hL.keep (fun o ho => hF o (by omega) (by omega) (by omega)) (fun p hp => by rw [← hT1]; exact fl_hi hT j (by omega) p hp)
    rw [hT1] at hC hit
    have i1 := hit.1
    obtain ⟨kd, b, mk, hd, fl, j1, j2, j3, j4, j5, j6, j7, j8, j9, j10, j11⟩ := hit.2.2.1 j hj
    obtain ⟨ht9, e8, h89⟩ := hit.2.2.2.1 hd (by omega)
    obtain ⟨hdv, e16, h16⟩ := hit.2.2.2.2.1 hd (by omega)
    have exh : (nI hd).toNatClampNeg = hd := ix (by omega)
    refine GoF_wp1 120 ?_
    refine And.intro (w_t hW ht) ?_
    rw [hC.1, i1]
    refine And.intro (fun h => absurd h (nI_ge hj (by omega))) (fun _ => ?_)
    refine And.intro (fun h => absurd h (nI_ge (b := 10) hj10 (by decide))) (fun _ => ?_)
    refine And.intro (w_t hW ht) (Exists.intro _ (And.intro (w_r1 hW ht) ?_))
    refine And.intro (w_aj hW ht (hj10)) (Exists.intro _ (And.intro (w_jug hW ht (hj10)) ?_))
    refine And.intro (w_t hW ht) ?_
    refine c_plainOf hW ht hC hit hL1 hj (fun I2 h2 => ?_)
    obtain ⟨w, hw, ew⟩ := wn_ok hit hj
    have hC2 : CT I2 t T1 n m := hC.keep hn10 (fun o a b => h2 o (by omega) (by omega))
    rw [ew]
    have hto : kdF (I2 (t + 2 + j) 0) (mn (nI w) (I2 (t + 2 + j) 2)) (mn (mn (nI w) (I2 (t + 2 + j) 2)) (I2 (t + 2 + j) 1 / 2)) (mn (mn (nI w) (I2 (t + 2 + j) 2) + 1) (I2 (t + 2 + j) 1)) (mn (mn (nI w) (I2 (t + 2 + j) 2)) (I2 (t + 2 + j) 1 / 2) - mn (mn (nI w) (I2 (t + 2 + j) 2)) (I2 (t + 2 + j) 1 / 2) / 5) (mn (mn (nI w) (I2 (t + 2 + j) 2) + 1) (I2 (t + 2 + j) 1) / 2) (I2 (t + 2 + j) 1) = toF T1 j := by
      rw [hC2.2.1 j hj 0 (by decide), hC2.2.1 j hj 1 (by decide), hC2.2.1 j hj 2 (by decide), j3, j6, tk_mn j5 j7 (by omega)]
      unfold toF
      rw [j3, j6, ew]
      rfl
    obtain ⟨to, hto9, eto⟩ : ∃ v, v ≤ b ∧ toF T1 j = nI v := by unfold toF; rw [j3, j6]; exact tk_ok j5 j7
    refine And.intro (w_kj hW ht (hj10)) ?_
    refine c_filledTo (w_kj hW ht hj10) ?_
    rw [hto, eto]
    refine And.intro (w_t hW ht) (Exists.intro _ (And.intro (w_r4 hW ht) ?_))
    refine And.intro (w_kj hW ht (hj10)) ?_
    refine And.intro (w_t hW ht) (Exists.intro _ (And.intro (w_r4 hW ht) ?_))
    refine And.intro (w_kj hW ht (hj10)) ?_
    rw [hC2.2.1 j hj 3 (by decide), j8]
    refine And.intro (w_d hW ht (i := hd) (by omega)) ?_
    rw [exh, hC2.2.2.2.1 hd (by omega), e16]
    refine And.intro (w_d hW ht (i := hd) (by omega)) ?_
    rw [exh, nI_add]
    rw [show (if (9999 : Int32) < nI (hdv + to) then (9999 : Int32) else nI (hdv + to)) = wi (nI (hdv + to)) 0 9999 from mn_wi (h := 9999) (by omega) (by omega)]
    have hC3 := hC2.had (v := wi (nI (hdv + to)) 0 9999) hn10 (show hd < 8 by omega)
    have eT3 : up1 T1 (16 + hd) (wi (nI (hdv + to)) 0 9999) = hsF T1 hd (nI to) := by unfold hsF; rw [e16, nI_add]
    rw [eT3] at hC3
    obtain ⟨I3, hI3⟩ : ∃ I3, up2 I2 (t + 13) hd (wi (nI (hdv + to)) 0 9999) = I3 := ⟨_, rfl⟩
    have hF3 : Fr t I2 I3 := by rw [← hI3]; exact Fr.up (by omega)
    rw [hI3] at hC3
    rw [hI3]
    refine And.intro (w_t hW ht) ?_
    refine And.intro (w_t hW ht) ?_
    have eg : I3 t 6 = T1 4 := by rw [hC3.2.2.2.2.2.1]; unfold hsF; rw [up1_lt (by omega)]
    rw [eg]
    have hC4 := hC3.num (v := T1 4 + nI to) hn10 (a := 6) (p := 4) (by omega)
    obtain ⟨I4, hI4⟩ : ∃ I4, up2 I3 t 6 (T1 4 + nI to) = I4 := ⟨_, rfl⟩
    have hF4 : Fr t I3 I4 := by rw [← hI4]; exact Fr.up (by omega)
    rw [hI4] at hC4
    rw [hI4]
    have g5 : ∀ p, 24 ≤ p → up1 (hsF T1 hd (nI to)) 4 (T1 4 + nI to) p = T1 p := fun p hp => by rw [up1_gt (by omega)]; unfold hsF; rw [up1_gt (by omega)]
    have g8 : ∀ p, 8 ≤ p → p < 16 → up1 (hsF T1 hd (nI to)) 4 (T1 4 + nI to) p = T1 p := fun p hp hq => by rw [up1_gt (by omega)]; unfold hsF; rw [up1_lt (by omega)]
    refine And.intro (w_t hW ht) (Exists.intro _ (And.intro (w_r3 hW ht) ?_))
    refine And.intro (w_kj hW ht (hj10)) ?_
    rw [hC4.2.1 j hj 3 (by decide), g5 _ (by omega), j8]
    refine And.intro (w_h hW ht (i := hd) (by omega)) ?_
    rw [exh, hC4.2.2.1 hd (by omega), g8 _ (by omega) (by omega), e8]
    refine And.intro (w_kj hW ht (hj10)) ?_
    refine c_keptBy (w_kj hW ht hj10) ?_
    have hke : kdF (I4 (t + 2 + j) 0) (mn (nI to + nI ht9 / 3) (I4 (t + 2 + j) 1)) (mx (mn (nI to + nI ht9 / 3) (I4 (t + 2 + j) 1)) (I4 (t + 2 + j) 2)) (nI to) (mx (mx (mn (nI to + nI ht9 / 3) (I4 (t + 2 + j) 1)) (I4 (t + 2 + j) 2) - 1) 0) (mx (nI to - 1) 0) (I4 (t + 2 + j) 1) = keF T1 j (nI to) := by
      rw [hC4.2.1 j hj 0 (by decide), hC4.2.1 j hj 1 (by decide), hC4.2.1 j hj 2 (by decide), g5 _ (by omega), g5 _ (by omega), g5 _ (by omega), j3, j6, kp_mn j5 j7 hto9 h89]
      unfold keF
      rw [j8, exh, e8, j3, j6]
      rfl
    rw [hke]
    refine And.intro (w_kj hW ht (hj10)) ?_
    have hC5 := hC4.jug (v := keF T1 j (nI to)) hn10 hj (w := 2) (by decide)
    obtain ⟨I5, hI5⟩ : ∃ I5, up2 I4 (t + 2 + j) 2 (keF T1 j (nI to)) = I5 := ⟨_, rfl⟩
    have hF5 : Fr t I4 I5 := by rw [← hI5]; exact Fr.up (by omega)
    rw [hI5] at hC5
    rw [hI5]
    refine And.intro (w_kj hW ht (hj10)) ?_
    rw [hC5.2.1 j hj 4 (by decide), up1_gt (show 24 + 5 * j + 2 < 24 + 5 * j + 4 by omega), g5 _ (by omega), j10]
    refine And.intro (w_kj hW ht (hj10)) ?_
    rw [show nI fl + 1 = nI (fl + 1) from nI_1 fl]
    rw [show (if (99 : Int32) < nI (fl + 1) then (99 : Int32) else nI (fl + 1)) = wi (nI (fl + 1)) 0 99 from mn_wi (h := 99) (by omega) (by omega)]
    have hC6 := hC5.jug (v := wi (nI (fl + 1)) 0 99) hn10 hj (w := 4) (by decide)
    refine ih (j + 1) _ _ _ _ (nI_1 j) ?_ ?_ (by omega) hQ
    · rw [hnext]
      unfold fiF
      rw [eto, j8, exh, j10, show nI fl + 1 = nI (fl + 1) from nI_1 fl]
      exact hC6
    · refine (hF.tr ((fun o a b c => h2 o b c : Fr t I1 I2))).tr ((hF3.tr hF4).tr (hF5.tr (Fr.up (by omega))))
theorem c_fillJugs {nx sl : Nat} {ln : Nat → Nat} {R : Nat → Nat → Option Nat} {I : Nat → Nat → Int32} {Q : Option Value → Hp → Prop} {k : Nat} (hW : SW nx ln R) {t n m : Nat} {T : Nat → Int32} (ht : Tw t) (hC : CT I t T n m) (hT : IT T n m) (hL : LT nx ln R I T m) (hQ : ∀ I2, CT I2 t (flF T n) n m → Fr t I I2 → Q none (nx, sl, ln, R, I2)) : Go (k + 3) mX6_fillJugs [.ref t] (nx, sl, ln, R, I) Q := by
  refine Go_wp 20 rfl ?_
  exact l_cfills hW ht hT hL n 0 _ _ _ _ rfl hC Fr.rf (by omega) hQ
