/-! The component's town: breaking, days. -/
theorem jb_at {I : Nat → Nat → Int32} {o o2 w : Nat} (hw : w < 5) : jbF I o o2 o w = I o2 w := by
  unfold jbF
  rw [up2_eq]
  match w, hw with
  | 0, _ => rw [up1_ne (by decide), up2_eq, up1_ne (by decide), up2_eq, up1_ne (by decide), up2_eq, up1_ne (by decide), up2_eq, up1_eq]
  | 1, _ => rw [up1_ne (by decide), up2_eq, up1_ne (by decide), up2_eq, up1_ne (by decide), up2_eq, up1_eq]
  | 2, _ => rw [up1_ne (by decide), up2_eq, up1_ne (by decide), up2_eq, up1_eq]
  | 3, _ => rw [up1_ne (by decide), up2_eq, up1_eq]
  | 4, _ => rw [up1_eq]
theorem jb_ne {I : Nat → Nat → Int32} {o o2 q : Nat} (h : ¬ q = o) : jbF I o o2 q = I q := by
  unfold jbF
  rw [up2_ne h, up2_ne h, up2_ne h, up2_ne h, up2_ne h]
theorem l_remove {nx sl : Nat} {ln : Nat → Nat} {R : Nat → Nat → Option Nat} {I : Nat → Nat → Int32} {Q : Option Value → Hp → Prop} {k : Nat} (hW : SW nx ln R) {t n m j : Nat} {U : Nat → Int32} (ht : Tw t) (hn : n ≤ 10) (hU : U 1 = nI n) (hC : CT I t U n m) (hj : j < n) : ∀ (r i : Nat) (xi : Int32) (I1 : Nat → Nat → Int32), xi = nI i → i + 1 + r = n → j ≤ i → (∀ q, q < n → ∀ w, w < 5 → I1 (t + 2 + q) w = if j ≤ q ∧ q < i then U (24 + 5 * (q + 1) + w) else U (24 + 5 * q + w)) → (∀ o, ¬ (t + 2 ≤ o ∧ o < t + 12) → I1 o = I o) → (∀ I2, CT I2 t (goF U j n) (n - 1) m → Fr t I I2 → Q none (nx, sl, ln, R, I2)) → GoF (k + 1) mX6_removeJug 2 [some (.ref t), some (.int (nI j)), some (.int xi)] [] (nx, sl, ln, R, I1) Q := by
  have htl := tw_lt ht
  obtain ⟨c1, c2, c3, c4, c5, c6, c7, c8, c9, c10, c11, c12⟩ := hC
  intro r
  induction r with
  | zero =>
    intro i xi I1 hxi hir hji h1 h2 hQ
    subst hxi
    have hi : n = i + 1 := by omega
    subst hi
    refine GoF_wp1 40 ?_
    refine And.intro (w_t hW ht) ?_
    rw [h2 t (by omega), c1, hU]
    refine And.intro (fun _ => ?_) (fun (h : ¬ nI (i + 1) ≤ nI i + 1) => absurd (by rw [nI_1]; exact nI_le (Nat.le_refl _) (by omega)) h)
    refine And.intro (w_t hW ht) ?_
    refine And.intro (w_t hW ht) ?_
    rw [h2 t (by omega), c1, hU, nIs]
    have hp : ∀ p, ¬ p = 1 → ¬ (24 + 5 * j ≤ p ∧ p < 24 + 5 * i) → goF U j (i + 1) p = U p := by
      intro p a b; unfold goF gT; rw [if_neg (by omega), up1_ne a]
    have hs : ∀ p, 24 + 5 * j ≤ p → p < 24 + 5 * i → goF U j (i + 1) p = U (p + 5) := by
      intro p a b; unfold goF gT; rw [if_pos (by omega), up1_ne (by omega)]
    have hcn : ∀ (key : Int32) q, cnF (goF U j (i + 1)) key q = cnF U key q := by
      intro key q
      induction q with
      | zero => rfl
      | succ q ih => unfold cnF; rw [hp _ (by omega) (by omega), ih]
    have ht2 : ∀ a, ¬ a = 2 → up2 I1 t 2 (nI i) t a = I t a := fun a ha => by rw [up2_eq, up1_ne ha, h2 t (by omega)]
    have ho2 : ∀ o, ¬ o = t → ¬ (t + 2 ≤ o ∧ o < t + 12) → up2 I1 t 2 (nI i) o = I o := fun o a b => by rw [up2_ne a, h2 o b]
    refine hQ _ ⟨?_, fun q hq w hw => ?_, fun q hq => ?_, fun q hq => ?_, ?_, ?_, ?_, ?_, ?_, ?_, ?_, fun q hq => ?_⟩ ?_
    · rw [up2_eq, up1_eq]; unfold goF gT; rw [if_neg (by omega), up1_eq, hU, nIs]
    · rw [up2_ne (by omega), h1 q (by omega) w hw]
      by_cases hjq : j ≤ q
      · rw [if_pos ⟨hjq, by omega⟩, hs _ (by omega) (by omega)]; congr 1; omega
      · rw [if_neg (by omega), hp _ (by omega) (by omega)]
    · rw [ho2 _ (by omega) (by omega), hp _ (by omega) (by omega)]; exact c3 q hq
    · rw [ho2 _ (by omega) (by omega), hp _ (by omega) (by omega)]; exact c4 q hq
    · rw [ht2 5 (by decide), hp _ (by omega) (by omega)]; exact c5
    · rw [ht2 6 (by decide), hp _ (by omega) (by omega)]; exact c6
    · rw [ht2 7 (by decide), hp _ (by omega) (by omega)]; exact c7
    · rw [ht2 8 (by decide), hp _ (by omega) (by omega)]; exact c8
    · rw [ht2 9 (by decide), hp _ (by omega) (by omega)]; exact c9
    · rw [ht2 10 (by decide), hp _ (by omega) (by omega)]; exact c10
    · rw [ht2 11 (by decide), hp _ (by omega) (by omega)]; exact c11
    · rw [ho2 _ (by omega) (by omega)]; unfold coF; rw [hcn]; exact c12 q hq
    · intro o a b c
      rw [up2_ne (by omega), h2 o (by omega)]
  | succ r ih =>
    intro i xi I1 hxi hir hji h1 h2 hQ
    subst hxi
    refine GoF_wp1 40 ?_
    refine And.intro (w_t hW ht) ?_
    rw [h2 t (by omega), c1, hU]
    refine And.intro (fun (h : nI n ≤ nI i + 1) => absurd (by rw [nI_1] at h; exact h) (nI_ge (show i + 1 < n by omega) (by omega))) (fun _ => ?_)
    refine And.intro (w_t hW ht) (Exists.intro _ (And.intro (w_r1 hW ht) ?_))
    refine And.intro (w_aj hW ht (show i < 10 by omega)) (Exists.intro _ (And.intro (w_jug hW ht (show i < 10 by omega)) ?_))
    refine And.intro (w_t hW ht) (Exists.intro _ (And.intro (w_r1 hW ht) ?_))
    refine And.intro (by rw [nI_1]; exact w_aj hW ht (j := i + 1) (by omega)) (Exists.intro (.ref (t + 2 + (i + 1))) (And.intro (by rw [nI_1]; exact w_jug hW ht (by omega)) ?_))
    refine And.intro (w_kj hW ht (show i < 10 by omega)) ?_
    refine c_jbecome (w_kj hW ht (j := i) (by omega)) (w_kj hW ht (j := i + 1) (by omega)) (by omega) ?_
    refine ih (i + 1) _ _ (nI_1 i) (by omega) (by omega) (fun q hq w hw => ?_) (fun o ho => ?_) hQ
    · by_cases hqi : q = i
      · subst hqi
        rw [jb_at hw, h1 (q + 1) (by omega) w hw, if_neg (by omega), if_pos (by omega)]
      · rw [jb_ne (by omega), h1 q hq w hw]
        by_cases hc : j ≤ q ∧ q < i
        · rw [if_pos hc, if_pos (by omega)]
        · rw [if_neg hc, if_neg (by omega)]
    · rw [jb_ne (by omega), h2 o ho]
theorem c_removeJug {nx sl : Nat} {ln : Nat → Nat} {R : Nat → Nat → Option Nat} {I : Nat → Nat → Int32} {Q : Option Value → Hp → Prop} {k : Nat} (hW : SW nx ln R) {t n m j : Nat} {U : Nat → Int32} (ht : Tw t) (hn : n ≤ 10) (hU : U 1 = nI n) (hC : CT I t U n m) (hj : j < n) (hQ : ∀ I2, CT I2 t (goF U j n) (n - 1) m → Fr t I I2 → Q none (nx, sl, ln, R, I2)) : Go (k + 1) mX6_removeJug [.ref t, .int (nI j)] (nx, sl, ln, R, I) Q := by
  refine Go_wp 20 rfl ?_
  refine l_remove hW ht hn hU hC hj (n - 1 - j) j _ I rfl (by omega) (Nat.le_refl j) (fun q hq w hw => ?_) (fun _ _ => rfl) hQ
  rw [if_neg (by omega)]
  exact hC.2.1 q hq w hw
theorem l_cbreaks {nx sl : Nat} {ln : Nat → Nat} {R : Nat → Nat → Option Nat} {I : Nat → Nat → Int32} {Q : Option Value → Hp → Prop} {k : Nat} (hW : SW nx ln R) {t n m : Nat} {T : Nat → Int32} (ht : Tw t) (hC : CT I t T n m) (hT : IT T n m) : ∀ (r q j : Nat) (xj xq : Int32), xq = nI (q + 1) → xj = nI j → j = mxF T q → q + 1 + r = n → wp1 80 (k + 2) mX6_breakFullestJug 13 [some (.ref t), some (.int (nI (mxF T (n - 1)))), some (.int (nI n))] [] (nx, sl, ln, R, I) Q → GoF (k + 2) mX6_breakFullestJug 13 [some (.ref t), some (.int xj), some (.int xq)] [] (nx, sl, ln, R, I) Q := by
  have hn10 := hT.2.1
  intro r
  induction r with
  | zero =>
    intro q j xj xq hxq hxj hj hqr hQ
    subst hxq
    subst hxj
    have hn : n = q + 1 := by omega
    subst hn
    rw [hj]
    exact GoF_wp1 80 hQ
  | succ r ih =>
    intro q j xj xq hxq hxj hj hqr hQ
    subst hxq
    subst hxj
    have hjq : j ≤ q := by rw [hj]; exact mxF_le T q
    refine GoF_wp1 60 ?_
    refine And.intro (w_t hW ht) ?_
    rw [hC.1, hT.1]
    refine And.intro (fun h => absurd h (nI_ge (show q + 1 < n by omega) (by omega))) (fun _ => ?_)
    refine And.intro (w_t hW ht) (Exists.intro _ (And.intro (w_r1 hW ht) ?_))
    refine And.intro (w_aj hW ht (show q + 1 < 10 by omega)) (Exists.intro _ (And.intro (w_jug hW ht (show q + 1 < 10 by omega)) ?_))
    refine And.intro (w_kj hW ht (show q + 1 < 10 by omega)) ?_
    refine And.intro (w_t hW ht) (Exists.intro _ (And.intro (w_r1 hW ht) ?_))
    refine And.intro (w_aj hW ht (show j < 10 by omega)) (Exists.intro _ (And.intro (w_jug hW ht (show j < 10 by omega)) ?_))
    refine And.intro (w_kj hW ht (show j < 10 by omega)) ?_
    rw [hC.2.1 (q + 1) (by omega) 4 (by decide), hC.2.1 j (by omega) 4 (by decide)]
    refine And.intro (fun h => ?_) (fun h => ?_)
    · refine ih (q + 1) j _ _ (nI_1 (q + 1)) rfl ?_ (by omega) hQ
      unfold mxF
      rw [← hj, if_neg (fun w => by rw [tI_le] at h; rw [tI_lt] at w; omega)]
    · refine ih (q + 1) (q + 1) _ _ (nI_1 (q + 1)) rfl ?_ (by omega) hQ
      unfold mxF
      rw [← hj, if_pos (by rw [tI_le] at h; rw [tI_lt]; omega)]
set_option maxHeartbeats 1000000 in
theorem c_breakFullestJug {nx sl : Nat} {ln : Nat → Nat} {R : Nat → Nat → Option Nat} {I : Nat → Nat → Int32} {Q : Option Value → Hp → Prop} {k : Nat} (hW : SW nx ln R) {t n m : Nat} {T : Nat → Int32} (ht : Tw t) (hC : CT I t T n m) (hT : IT T n m) (hQ : ∀ I2 n2, CT I2 t (if 0 < n then brF T n else T) n2 m → IT (if 0 < n then brF T n else T) n2 m → Fr t I I2 → Q none (nx, sl, ln, R, I2)) : Go (k + 2) mX6_breakFullestJug [.ref t] (nx, sl, ln, R, I) Q := by
  have hn10 := hT.2.1
  have htl := tw_lt ht
  refine Go_wp 60 rfl ?_
  refine And.intro (w_t hW ht) ?_
  rw [hC.1, hT.1]
  refine And.intro (fun h => ?_) (fun h => ?_)
  · have hn : 0 < n := by
      rcases Nat.eq_zero_or_pos n with q | q
      · subst q; exact absurd h (by decide)
      · exact q
    rw [if_pos hn] at hQ
    refine l_cbreaks hW ht hC hT (n - 1) 0 0 _ _ rfl rfl rfl (by omega) ?_
    obtain ⟨n2, hn2, hIT2⟩ := it_brF hT hn
    have hm := mxF_le T (n - 1)
    unfold brF at hQ hIT2
    obtain ⟨j, hj⟩ : ∃ j, mxF T (n - 1) = j := ⟨_, rfl⟩
    rw [hj] at hm hQ hIT2
    rw [hj]
    have hjn : j < n := by omega
    have hj10 : j < 10 := by omega
    obtain ⟨kd, b, mk, hd, fl, j1, j2, j3, j4, j5, j6, j7, j8, j9, j10, j11⟩ := hT.2.2.1 j hjn
    have eb : T (24 + 5 * j + 1) - 1 = nI (b - 1) := by rw [j3]; exact nI_sub (b := 1) (by omega)
    refine And.intro (w_t hW ht) ?_
    rw [hC.1, hT.1]
    refine And.intro (fun _ => ?_) (fun h => absurd (nI_le (Nat.le_refl n) (by omega)) h)
    refine And.intro (w_t hW ht) (Exists.intro _ (And.intro (w_r1 hW ht) ?_))
    refine And.intro (w_aj hW ht (hj10)) (Exists.intro _ (And.intro (w_jug hW ht (hj10)) ?_))
    refine And.intro (w_kj hW ht (hj10)) ?_
    refine And.intro (w_kj hW ht (hj10)) ?_
    rw [hC.2.1 j hjn 1 (by decide), eb]
    have hC3 := hC.jug (v := nI (b - 1)) hn10 hjn (w := 1) (by decide)
    obtain ⟨I3, hI3⟩ : ∃ I3, up2 I (t + 2 + j) 1 (nI (b - 1)) = I3 := ⟨_, rfl⟩
    have hF3 : Fr t I I3 := by rw [← hI3]; exact Fr.up (by omega)
    rw [hI3] at hC3
    rw [hI3]
    refine And.intro (w_kj hW ht (hj10)) ?_
    refine And.intro (w_kj hW ht (hj10)) ?_
    refine And.intro (w_kj hW ht (hj10)) ?_
    rw [hC3.2.1 j hjn 2 (by decide), hC3.2.1 j hjn 1 (by decide), up1_eq, up1_gt (show 24 + 5 * j + 1 < 24 + 5 * j + 2 by omega), j6]
    rw [show (if nI (b - 1) < nI mk then nI (b - 1) else nI mk) = wi (nI mk) 0 (nI (b - 1)) from mn_wi (by omega) (by omega)]
    have hC4 := hC3.jug (v := wi (nI mk) 0 (nI (b - 1))) hn10 hjn (w := 2) (by decide)
    obtain ⟨I4, hI4⟩ : ∃ I4, up2 I3 (t + 2 + j) 2 (wi (nI mk) 0 (nI (b - 1))) = I4 := ⟨_, rfl⟩
    have hF4 : Fr t I3 I4 := by rw [← hI4]; exact Fr.up (by omega)
    rw [hI4] at hC4
    rw [hI4]
    refine And.intro (w_t hW ht) ?_
    refine And.intro (w_t hW ht) ?_
    have e8 : I4 t 8 = T 6 := by rw [hC4.2.2.2.2.2.2.2.1, up1_lt (by omega), up1_lt (by omega)]
    rw [e8]
    have hC5 := hC4.num (v := T 6 + 1) hn10 (a := 8) (p := 6) (by omega)
    have eT5 : up1 (up1 (up1 T (24 + 5 * j + 1) (nI (b - 1))) (24 + 5 * j + 2) (wi (nI mk) 0 (nI (b - 1)))) 6 (T 6 + 1) = brA T j := by unfold brA; rw [eb, j6]
    rw [eT5] at hC5
    obtain ⟨I5, hI5⟩ : ∃ I5, up2 I4 t 8 (T 6 + 1) = I5 := ⟨_, rfl⟩
    have hF5 : Fr t I4 I5 := by rw [← hI5]; exact Fr.up (by omega)
    rw [hI5] at hC5
    rw [hI5]
    have hb1 : brA T j (24 + 5 * j + 1) = nI (b - 1) := by unfold brA; rw [up1_gt (by omega), up1_lt (by omega), up1_eq]; exact eb
    have hb0 : brA T j 1 = nI n := by unfold brA; rw [up1_lt (by omega), up1_lt (by omega), up1_lt (by omega)]; exact hT.1
    rw [eb] at hQ hIT2
    refine And.intro (w_kj hW ht (hj10)) ?_
    rw [hC5.2.1 j hjn 1 (by decide), hb1]
    refine And.intro (fun h => ?_) (fun h => ?_)
    · have hne : ¬ nI (b - 1) = 0 := fun w => by rw [w] at h; exact absurd h (by decide)
      rw [if_neg hne] at hQ hIT2
      have hnn : n2 = n := by
        have := hIT2.1
        rw [hb0] at this
        exact ((nI_eq (by omega) (by omega)).mp this).symm
      subst hnn
      exact hQ I5 _ hC5 hIT2 (hF3.tr (hF4.tr hF5))
    · have he : b - 1 = 0 := by
        rcases Nat.eq_zero_or_pos (b - 1) with q | q
        · exact q
        · exact absurd (nI_le (a := 1) q (by omega)) h
      have he0 : nI (b - 1) = 0 := by rw [he]; rfl
      rw [if_pos he0] at hQ hIT2
      have hnn : n2 = n - 1 := by
        have := hIT2.1
        unfold goF gT at this
        rw [if_neg (by omega), up1_eq, hb0, show nI n - 1 = nI (n - 1) from nI_sub (b := 1) (by omega)] at this
        exact ((nI_eq (by omega) (by omega)).mp this).symm
      subst hnn
      refine And.intro (w_t hW ht) ?_
      exact c_removeJug hW ht hn10 hb0 hC5 hjn (fun I6 a b => hQ I6 _ a hIT2 ((hF3.tr (hF4.tr hF5)).tr b))
  · have hn : ¬ 0 < n := fun q => h (nI_le (a := 1) q (by omega))
    rw [if_neg hn] at hQ
    exact hQ I n hC hT Fr.rf
