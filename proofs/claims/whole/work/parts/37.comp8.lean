/-! The component's days are the model's. -/
theorem se_hi {T : Nat → Int32} {n m j h p : Nat} (hT : IT T n m) (hj : j < n) (hh : h < 8) (hp : 74 ≤ p) : seG T j h p = T p := by
  have hn := hT.2.1
  obtain ⟨kd, b, mk, hd, fl, j1, j2, j3, j4, j5, j6, j7, j8, j9, j10, j11⟩ := hT.2.2.1 j hj
  unfold seG
  split
  · rfl
  · split
    · rfl
    · rw [up1_gt (by omega), up1_gt (by omega), j8, ix (by omega)]
      unfold hsF
      rw [up1_gt (by omega), up1_gt (by omega)]
theorem d2_hi {T : Nat → Int32} {n m p : Nat} (hT : IT T n m) (hp : 74 ≤ p) : d2F T p = T p := by
  have hn := hT.2.1
  unfold d2F
  rw [hT.1, ix (by omega)]
  have hf := fl_hi hT n (Nat.le_refl n) p hp
  split
  · rename_i h
    rw [seF_G, se_hi (hT.fl n (Nat.le_refl n)).seT (show seJ (flF T n) n < n from Nat.mod_lt _ h) (show seH (flF T n) < 8 from Nat.mod_lt _ (by decide)) hp, seT_eq _ (by omega), hf]
  · exact hf
theorem br_hi {T : Nat → Int32} {n p : Nat} (hn : n ≤ 10) (hn0 : 0 < n) (hp : 74 ≤ p) : brF T n p = T p := by
  have hm := mxF_le T (n - 1)
  unfold brF
  split
  · unfold goF gT brA
    rw [if_neg (by omega), up1_gt (by omega), up1_gt (by omega), up1_gt (by omega), up1_gt (by omega)]
  · unfold brA
    rw [up1_gt (by omega), up1_gt (by omega), up1_gt (by omega)]
theorem d3_hi {T : Nat → Int32} {n m p : Nat} (hT : IT T n m) (hp : 74 ≤ p) : d3F T p = T p := by
  have hn := hT.2.1
  unfold d3F
  rw [hT.1, ix (by omega)]
  split
  · rename_i h
    rw [br_hi hn h.2 hp, up1_gt (by omega)]
  · rw [up1_gt (by omega)]
theorem gn_hi {T : Nat → Int32} {n m p : Nat} (hT : IT T n m) (hp : 74 ≤ p) : ∀ i, gnF T i p = T p := by
  intro i
  induction i with
  | zero => rfl
  | succ i ih =>
    obtain ⟨n1, -, h1⟩ := it_gn hT i
    show up1 (d3F (d2F (gnF T i))) 2 _ p = T p
    rw [up1_gt (by omega), d3_hi (it_d2 h1) hp, d2_hi h1 hp, ih]
set_option maxHeartbeats 1000000 in
theorem l_pass {nx sl : Nat} {ln : Nat → Nat} {R : Nat → Nat → Option Nat} {I : Nat → Nat → Int32} {Q : Option Value → Hp → Prop} {k : Nat} (hW : SW nx ln R) {t n m d : Nat} {T : Nat → Int32} (ht : Tw t) (hT : IT T n m) (hL : LT nx ln R I T m) (hd : d ≤ 10000) : ∀ (r i n1 : Nat) (xi : Int32) (I1 : Nat → Nat → Int32), xi = nI i → CT I1 t (gnF T i) n1 m → IT (gnF T i) n1 m → Fr t I I1 → i + r = d → (∀ I2 n2, CT I2 t (gnF T d) n2 m → IT (gnF T d) n2 m → Fr t I I2 → Q none (nx, sl, ln, R, I2)) → GoF (k + 4) mX6_passDays 2 [some (.ref t), some (.int (nI d)), some (.int xi)] [] (nx, sl, ln, R, I1) Q := by
  have htl := tw_lt ht
  intro r
  induction r with
  | zero =>
    intro i n1 xi I1 hxi hC hT1 hF hir hQ
    subst hxi
    have hid : i = d := by omega
    subst hid
    refine GoF_wp1 20 ?_
    exact And.intro (fun _ => hQ I1 n1 hC hT1 hF) (fun h => absurd (nI_le (Nat.le_refl i) (by omega)) h)
  | succ r ih =>
    intro i n1 xi I1 hxi hC hT1 hF hir hQ
    subst hxi
    have hL1 : LT nx ln R I1 (gnF T i) m := hL.keep (fun o ho => hF o (by omega) (by omega) (by omega)) (fun p hp => gn_hi hT hp i)
    have hnx : gnF T (i + 1) = dyF (gnF T i) := rfl
    obtain ⟨T1, eT1⟩ : ∃ T1, gnF T i = T1 := ⟨_, rfl⟩
    rw [eT1] at hC hT1 hL1 hnx
    have hn10 := hT1.2.1
    have e1 : (T1 1).toNatClampNeg = n1 := by rw [hT1.1, ix (by omega)]
    refine GoF_wp1 60 ?_
    refine And.intro (fun h => absurd h (nI_ge (show i < d by omega) (by omega))) (fun _ => ?_)
    refine And.intro (w_t hW ht) ?_
    refine c_fillJugs hW ht hC hT1 hL1 (fun I2 hC2 hF2 => ?_)
    refine And.intro (w_t hW ht) ?_
    refine c_sellOneJug hW ht hC2 (hT1.fl n1 (Nat.le_refl n1)) (fun I3 hC3 hF3 => ?_)
    have hU : (if 0 < n1 then seF (flF T1 n1) n1 else flF T1 n1) = d2F T1 := by unfold d2F; rw [e1]
    rw [hU] at hC3
    have hIU := it_d2 hT1
    unfold dyF at hnx
    obtain ⟨U, eU⟩ : ∃ U, d2F T1 = U := ⟨_, rfl⟩
    rw [eU] at hC3 hIU hnx
    have e1U : (U 1).toNatClampNeg = n1 := by rw [hIU.1, ix (by omega)]
    refine And.intro (w_t hW ht) ?_
    refine c_drawn hW ht hC3.2.2.2.2.2.2.2.2.2.1 ?_
    have hC4 := hC3.num (v := zN (U 0)) hn10 (a := 10) (p := 0) (by omega)
    have hI4 : IT (up1 U 0 (zN (U 0))) n1 m := hIU.free (Or.inl rfl)
    obtain ⟨I4, eI4⟩ : ∃ I4, up2 I3 t 10 (zN (U 0)) = I4 := ⟨_, rfl⟩
    have hF4 : Fr t I3 I4 := by rw [← eI4]; exact Fr.up (by omega)
    rw [eI4] at hC4
    rw [eI4]
    have hd3 : d3F U = if irm (dw (U 0)) 100 < U 3 ∧ 0 < n1 then brF (up1 U 0 (zN (U 0))) n1 else up1 U 0 (zN (U 0)) := by unfold d3F; rw [e1U]
    have e3 : I4 t 5 = U 3 := by rw [hC4.2.2.2.2.1, up1_gt (by decide)]
    have hFa := hF.tr (hF2.tr (hF3.tr hF4))
    have fin : ∀ (I5 : Nat → Nat → Int32) (n2 nn : Nat), CT I5 t (d3F U) n2 m → IT (d3F U) n2 m → Fr t I I5 → wp (nn + 20) (k + 4) mX6_passDays 33 [some (.ref t), some (.int (nI d)), some (.int (nI i))] [] (nx, sl, ln, R, I5) Q := by
      intro I5 n2 nn hC5 hI5 hF5
      refine And.intro (w_t hW ht) ?_
      refine And.intro (w_t hW ht) ?_
      rw [hC5.2.2.2.2.2.2.2.2.1]
      refine ih (i + 1) n2 _ _ (nI_1 i) ?_ ?_ (hF5.tr (Fr.up (by omega))) (by omega) hQ
      · rw [hnx]; exact hC5.num (v := d3F U 2 + 1) hI5.2.1 (a := 9) (p := 2) (by omega)
      · rw [hnx]; exact hI5.free (Or.inr (Or.inl rfl))
    refine And.intro (by decide) ?_
    refine And.intro (w_t hW ht) ?_
    rw [e3]
    refine And.intro (fun h => ?_) (fun h => ?_)
    · have e : d3F U = up1 U 0 (zN (U 0)) := by rw [hd3, if_neg (fun w => by rw [tI_le] at h; have := (tI_lt _ _).mp w.1; omega)]
      exact fin I4 n1 _ (by rw [e]; exact hC4) (by rw [e]; exact hI4) hFa
    · have h' : irm (dw (U 0)) 100 < U 3 := by rw [tI_le] at h; rw [tI_lt]; omega
      refine And.intro (w_t hW ht) ?_
      refine c_breakFullestJug hW ht hC4 hI4 (fun I5 n2 hC5 hI5 hF5 => ?_)
      have e : d3F U = if 0 < n1 then brF (up1 U 0 (zN (U 0))) n1 else up1 U 0 (zN (U 0)) := by
        rw [hd3]
        by_cases h0 : 0 < n1
        · rw [if_pos ⟨h', h0⟩, if_pos h0]
        · rw [if_neg (fun w => h0 w.2), if_neg h0]
      exact fin I5 n2 _ (by rw [e]; exact hC5) (by rw [e]; exact hI5) (hFa.tr hF5)
theorem c_passDays {nx sl : Nat} {ln : Nat → Nat} {R : Nat → Nat → Option Nat} {I : Nat → Nat → Int32} {Q : Option Value → Hp → Prop} {k : Nat} (hW : SW nx ln R) {t n m d : Nat} {T : Nat → Int32} (ht : Tw t) (hC : CT I t T n m) (hT : IT T n m) (hL : LT nx ln R I T m) (hd : d ≤ 10000) (hQ : ∀ I2 n2, CT I2 t (gnF T d) n2 m → IT (gnF T d) n2 m → Fr t I I2 → Q none (nx, sl, ln, R, I2)) : Go (k + 4) mX6_passDays [.ref t, .int (nI d)] (nx, sl, ln, R, I) Q := by
  refine Go_wp 20 rfl ?_
  exact l_pass hW ht hT hL hd d 0 n _ _ rfl hC hT Fr.rf (by omega) hQ
