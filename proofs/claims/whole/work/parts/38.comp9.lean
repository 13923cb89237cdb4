/-! The component's town: what it tells, jugs that come. -/
theorem l_cmarks {nx sl : Nat} {ln : Nat → Nat} {R : Nat → Nat → Option Nat} {I : Nat → Nat → Int32} {Q : Option Value → Hp → Prop} {k : Nat} (hW : SW nx ln R) {t n m : Nat} {T : Nat → Int32} (ht : Tw t) (hC : CT I t T n m) (hT : T 1 = nI n) (hn : n ≤ 10) : ∀ (r i : Nat) (xs xi : Int32), xs = maF T i → xi = nI i → i + r = n → Q (some (.int (maF T n))) (nx, sl, ln, R, I) → GoF k mX6_allMarks 4 [some (.ref t), some (.int xs), some (.int xi)] [] (nx, sl, ln, R, I) Q := by
  intro r
  induction r with
  | zero =>
    intro i xs xi hxs hxi hir hQ
    subst hxs
    subst hxi
    have hid : i = n := by omega
    subst hid
    refine GoF_wp1 20 ?_
    refine And.intro (w_t hW ht) ?_
    rw [hC.1, hT]
    exact And.intro (fun _ => hQ) (fun h => absurd (nI_le (Nat.le_refl i) (by omega)) h)
  | succ r ih =>
    intro i xs xi hxs hxi hir hQ
    subst hxs
    subst hxi
    refine GoF_wp1 20 ?_
    refine And.intro (w_t hW ht) ?_
    rw [hC.1, hT]
    refine And.intro (fun h => absurd h (nI_ge (show i < n by omega) (by omega))) (fun _ => ?_)
    refine And.intro (w_t hW ht) (Exists.intro _ (And.intro (w_r1 hW ht) ?_))
    refine And.intro (w_aj hW ht (show i < 10 by omega)) (Exists.intro _ (And.intro (w_jug hW ht (show i < 10 by omega)) ?_))
    refine And.intro (w_kj hW ht (show i < 10 by omega)) ?_
    rw [hC.2.1 i (by omega) 2 (by decide)]
    exact ih (i + 1) _ _ rfl (nI_1 i) (by omega) hQ
theorem c_allMarks {nx sl : Nat} {ln : Nat → Nat} {R : Nat → Nat → Option Nat} {I : Nat → Nat → Int32} {Q : Option Value → Hp → Prop} {k : Nat} (hW : SW nx ln R) {t n m : Nat} {T : Nat → Int32} (ht : Tw t) (hC : CT I t T n m) (hT : T 1 = nI n) (hn : n ≤ 10) (hQ : Q (some (.int (maF T n))) (nx, sl, ln, R, I)) : Go k mX6_allMarks [.ref t] (nx, sl, ln, R, I) Q := by
  refine Go_wp 20 rfl ?_
  exact l_cmarks hW ht hC hT hn n 0 _ _ rfl rfl (by omega) hQ
theorem l_crich {nx sl : Nat} {ln : Nat → Nat} {R : Nat → Nat → Option Nat} {I : Nat → Nat → Int32} {Q : Option Value → Hp → Prop} {k : Nat} (hW : SW nx ln R) {t n m : Nat} {T : Nat → Int32} (ht : Tw t) (hC : CT I t T n m) : ∀ (r q j : Nat) (xj xq : Int32), xj = nI j → xq = nI (q + 1) → j = gmF (fun i => T (16 + i)) q → q + 1 + r = 8 → Q (some (.int (nI (gmF (fun i => T (16 + i)) 7)))) (nx, sl, ln, R, I) → GoF k mX6_richest 4 [some (.ref t), some (.int xj), some (.int xq)] [] (nx, sl, ln, R, I) Q := by
  intro r
  induction r with
  | zero =>
    intro q j xj xq hxj hxq hj hqr hQ
    subst hxj
    subst hxq
    have hq : q = 7 := by omega
    subst hq
    subst hj
    refine GoF_wp1 40 ?_
    exact And.intro (fun _ => hQ) (fun h => absurd (by decide) h)
  | succ r ih =>
    intro q j xj xq hxj hxq hj hqr hQ
    subst hxj
    subst hxq
    have hjq : j ≤ q := by rw [hj]; exact gmF_le _ q
    refine GoF_wp1 40 ?_
    refine And.intro (fun h => absurd h (nI_ge (show q + 1 < 8 by omega) (by decide))) (fun _ => ?_)
    refine And.intro (w_t hW ht) (Exists.intro _ (And.intro (w_r4 hW ht) ?_))
    refine And.intro (w_d hW ht (i := q + 1) (by omega)) ?_
    refine And.intro (w_t hW ht) (Exists.intro _ (And.intro (w_r4 hW ht) ?_))
    refine And.intro (w_d hW ht (i := j) (by omega)) ?_
    rw [ix (show q + 1 < 2147483648 by omega), ix (show j < 2147483648 by omega), hC.2.2.2.1 (q + 1) (by omega), hC.2.2.2.1 j (by omega)]
    refine And.intro (fun h => ?_) (fun h => ?_)
    · refine ih (q + 1) j _ _ rfl (nI_1 (q + 1)) ?_ (by omega) hQ
      unfold gmF
      rw [← hj, if_neg (fun w => by rw [tI_le] at h; rw [tI_lt] at w; omega)]
    · refine ih (q + 1) (q + 1) _ _ rfl (nI_1 (q + 1)) ?_ (by omega) hQ
      unfold gmF
      rw [← hj, if_pos (by rw [tI_le] at h; rw [tI_lt]; omega)]
theorem c_richest {nx sl : Nat} {ln : Nat → Nat} {R : Nat → Nat → Option Nat} {I : Nat → Nat → Int32} {Q : Option Value → Hp → Prop} {k : Nat} (hW : SW nx ln R) {t n m : Nat} {T : Nat → Int32} (ht : Tw t) (hC : CT I t T n m) (hQ : Q (some (.int (nI (gmF (fun i => T (16 + i)) 7)))) (nx, sl, ln, R, I)) : Go k mX6_richest [.ref t] (nx, sl, ln, R, I) Q := by
  refine Go_wp 20 rfl ?_
  exact l_crich hW ht hC 7 0 0 _ _ rfl rfl rfl (by omega) hQ
theorem l_cbest {nx sl : Nat} {ln : Nat → Nat} {R : Nat → Nat → Option Nat} {I : Nat → Nat → Int32} {Q : Option Value → Hp → Prop} {k : Nat} (hW : SW nx ln R) {t n m : Nat} {T : Nat → Int32} (ht : Tw t) (hC : CT I t T n m) (hT : IT T n m) : ∀ (r q j : Nat) (xj xq : Int32), xj = nI j → xq = nI (q + 1) → j = gmF (woF T) q → q + 1 + r = n → Q (some (.int (nI (gmF (woF T) (n - 1))))) (nx, sl, ln, R, I) → GoF (k + 2) mX6_bestJug 15 [some (.ref t), some (.int xj), some (.int xq)] [] (nx, sl, ln, R, I) Q := by
  have hn := hT.2.1
  intro r
  induction r with
  | zero =>
    intro q j xj xq hxj hxq hj hqr hQ
    subst hxj
    subst hxq
    have hq : n = q + 1 := by omega
    subst hq
    subst hj
    refine GoF_wp1 40 ?_
    refine And.intro (w_t hW ht) ?_
    rw [hC.1, hT.1]
    exact And.intro (fun _ => hQ) (fun h => absurd (nI_le (Nat.le_refl _) (by omega)) h)
  | succ r ih =>
    intro q j xj xq hxj hxq hj hqr hQ
    subst hxj
    subst hxq
    have hjq : j ≤ q := by rw [hj]; exact gmF_le _ q
    refine GoF_wp1 40 ?_
    refine And.intro (w_t hW ht) ?_
    rw [hC.1, hT.1]
    refine And.intro (fun h => absurd h (nI_ge (show q + 1 < n by omega) (by omega))) (fun _ => ?_)
    refine And.intro (w_t hW ht) (Exists.intro _ (And.intro (w_r1 hW ht) ?_))
    refine And.intro (w_aj hW ht (show q + 1 < 10 by omega)) (Exists.intro _ (And.intro (w_jug hW ht (show q + 1 < 10 by omega)) ?_))
    refine And.intro (w_kj hW ht (show q + 1 < 10 by omega)) ?_
    refine c_worthT hW ht hC hT (show q + 1 < n by omega) ?_
    refine And.intro (w_t hW ht) (Exists.intro _ (And.intro (w_r1 hW ht) ?_))
    refine And.intro (w_aj hW ht (show j < 10 by omega)) (Exists.intro _ (And.intro (w_jug hW ht (show j < 10 by omega)) ?_))
    refine And.intro (w_kj hW ht (show j < 10 by omega)) ?_
    refine c_worthT hW ht hC hT (show j < n by omega) ?_
    refine And.intro (fun h => ?_) (fun h => ?_)
    · refine ih (q + 1) j _ _ rfl (nI_1 (q + 1)) ?_ (by omega) hQ
      unfold gmF
      rw [← hj, if_neg (fun w => by rw [tI_le] at h; rw [tI_lt] at w; omega)]
    · refine ih (q + 1) (q + 1) _ _ rfl (nI_1 (q + 1)) ?_ (by omega) hQ
      unfold gmF
      rw [← hj, if_pos (by rw [tI_le] at h; rw [tI_lt]; omega)]
theorem c_bestJug {nx sl : Nat} {ln : Nat → Nat} {R : Nat → Nat → Option Nat} {I : Nat → Nat → Int32} {Q : Option Value → Hp → Prop} {k : Nat} (hW : SW nx ln R) {t n m : Nat} {T : Nat → Int32} (ht : Tw t) (hC : CT I t T n m) (hT : IT T n m) (hQ : Q (some (.int (if n = 0 then -1000000005 else nI (gmF (woF T) (n - 1))))) (nx, sl, ln, R, I)) : Go (k + 2) mX6_bestJug [.ref t] (nx, sl, ln, R, I) Q := by
  have hn := hT.2.1
  refine Go_wp 20 rfl ?_
  refine And.intro (w_t hW ht) ?_
  rw [hC.1, hT.1]
  refine And.intro (fun h => ?_) (fun h => ?_)
  · have hn0 : ¬ n = 0 := fun q => by subst q; exact absurd h (by decide)
    rw [if_neg hn0] at hQ
    exact l_cbest hW ht hC hT (n - 1) 0 0 _ _ rfl rfl rfl (by omega) hQ
  · have hn0 : n = 0 := by
      rcases Nat.eq_zero_or_pos n with q | q
      · exact q
      · exact absurd (nI_le (a := 1) q (by omega)) h
    rw [if_pos hn0] at hQ
    exact hQ
/-- one more jug -/
theorem c_addJug {nx sl : Nat} {ln : Nat → Nat} {R : Nat → Nat → Option Nat} {I : Nat → Nat → Int32} {Q : Option Value → Hp → Prop} {k : Nat} (hW : SW nx ln R) {t n m : Nat} {T : Nat → Int32} {kd b hd mk : Int32} (ht : Tw t) (hC : CT I t T n m) (hT : T 1 = nI n) (hn : n < 10) (hQ : ∀ I2, CT I2 t (cmF T n kd b hd mk) (n + 1) m → Fr t I I2 → Q none (nx, sl, ln, R, I2)) : Go k mX6_addJug [.ref t, .int kd, .int b, .int hd, .int mk] (nx, sl, ln, R, I) Q := by
  have htl := tw_lt ht
  obtain ⟨c1, c2, c3, c4, c5, c6, c7, c8, c9, c10, c11, c12⟩ := hC
  refine Go_wp 60 rfl ?_
  refine And.intro (w_t hW ht) ?_
  rw [c1, hT]
  refine And.intro (fun h => absurd h (nI_ge (b := 10) hn (by decide))) (fun _ => ?_)
  refine And.intro (w_t hW ht) (Exists.intro _ (And.intro (w_r1 hW ht) ?_))
  refine And.intro (w_t hW ht) ?_
  rw [c1, hT]
  refine And.intro (w_aj hW ht (hn)) (Exists.intro _ (And.intro (w_jug hW ht (hn)) ?_))
  refine And.intro (w_kj hW ht (hn)) ?_
  refine And.intro (w_kj hW ht (hn)) ?_
  refine And.intro (w_kj hW ht (hn)) ?_
  refine And.intro (w_kj hW ht (hn)) ?_
  refine And.intro (w_kj hW ht (hn)) ?_
  refine And.intro (w_t hW ht) ?_
  refine And.intro (w_t hW ht) ?_
  have et : up2 (up2 (up2 (up2 (up2 I (t + 2 + n) 0 kd) (t + 2 + n) 1 b) (t + 2 + n) 3 hd) (t + 2 + n) 2 mk) (t + 2 + n) 4 0 t 2 = nI n := by
    rw [up2_ne (by omega), up2_ne (by omega), up2_ne (by omega), up2_ne (by omega), up2_ne (by omega), c1, hT]
  rw [et]
  obtain ⟨I2, e2⟩ : ∃ I2, up2 (up2 (up2 (up2 (up2 (up2 I (t + 2 + n) 0 kd) (t + 2 + n) 1 b) (t + 2 + n) 3 hd) (t + 2 + n) 2 mk) (t + 2 + n) 4 0) t 2 (nI n + 1) = I2 := ⟨_, rfl⟩
  rw [e2]
  have ho : ∀ o, ¬ o = t → ¬ o = t + 2 + n → I2 o = I o := fun o a b => by rw [← e2, up2_ne a, up2_ne b, up2_ne b, up2_ne b, up2_ne b, up2_ne b]
  have hta : ∀ a, ¬ a = 2 → I2 t a = I t a := fun a ha => by rw [← e2, up2_eq, up1_ne ha, up2_ne (by omega), up2_ne (by omega), up2_ne (by omega), up2_ne (by omega), up2_ne (by omega)]
  have ht2 : I2 t 2 = nI n + 1 := by rw [← e2, up2_eq, up1_eq]
  have hp : ∀ p, ¬ p = 1 → (p < 24 + 5 * n ∨ 24 + 5 * n + 4 < p) → cmF T n kd b hd mk p = T p := by
    intro p a b; unfold cmF; rw [up1_ne (by omega), up1_ne (by omega), up1_ne (by omega), up1_ne (by omega), up1_ne (by omega), up1_ne a]
  have hcn : ∀ (key : Int32) q, cnF (cmF T n kd b hd mk) key q = cnF T key q := by
    intro key q
    induction q with
    | zero => rfl
    | succ q ih => unfold cnF; rw [hp _ (by omega) (by omega), ih]
  have hjn : ∀ w, w < 5 → I2 (t + 2 + n) w = cmF T n kd b hd mk (24 + 5 * n + w) := by
    intro w hw
    rw [← e2, up2_ne (by omega)]
    unfold cmF
    rw [up2_eq]
    match w, hw with
    | 0, _ => rw [up1_ne (by decide), up2_eq, up1_ne (by decide), up2_eq, up1_ne (by decide), up2_eq, up1_ne (by decide), up2_eq, up1_eq, up1_lt (by omega), up1_lt (by omega), up1_lt (by omega), up1_lt (by omega)]; show _ = up1 _ (24 + 5 * n) kd (24 + 5 * n); rw [up1_eq]
    | 1, _ => rw [up1_ne (by decide), up2_eq, up1_ne (by decide), up2_eq, up1_ne (by decide), up2_eq, up1_eq, up1_lt (by omega), up1_lt (by omega), up1_lt (by omega), up1_eq]
    | 2, _ => rw [up1_ne (by decide), up2_eq, up1_eq, up1_lt (by omega), up1_lt (by omega), up1_eq]
    | 3, _ => rw [up1_ne (by decide), up2_eq, up1_ne (by decide), up2_eq, up1_eq, up1_lt (by omega), up1_eq]
    | 4, _ => rw [up1_eq, up1_eq]
  refine hQ I2 ⟨?_, fun q hq w hw => ?_, fun q hq => ?_, fun q hq => ?_, ?_, ?_, ?_, ?_, ?_, ?_, ?_, fun q hq => ?_⟩ (fun o a _ _ => ho o (by omega) (by omega))
  · rw [ht2]; unfold cmF; rw [up1_ne (by omega), up1_ne (by omega), up1_ne (by omega), up1_ne (by omega), up1_ne (by omega), up1_eq, hT]
  · by_cases hqn : q = n
    · subst hqn; exact hjn w hw
    · rw [ho _ (by omega) (by omega), hp _ (by omega) (by omega)]; exact c2 q (by omega) w hw
  · rw [ho _ (by omega) (by omega), hp _ (by omega) (by omega)]; exact c3 q hq
  · rw [ho _ (by omega) (by omega), hp _ (by omega) (by omega)]; exact c4 q hq
  · rw [hta 5 (by decide), hp _ (by omega) (by omega)]; exact c5
  · rw [hta 6 (by decide), hp _ (by omega) (by omega)]; exact c6
  · rw [hta 7 (by decide), hp _ (by omega) (by omega)]; exact c7
  · rw [hta 8 (by decide), hp _ (by omega) (by omega)]; exact c8
  · rw [hta 9 (by decide), hp _ (by omega) (by omega)]; exact c9
  · rw [hta 10 (by decide), hp _ (by omega) (by omega)]; exact c10
  · rw [hta 11 (by decide), hp _ (by omega) (by omega)]; exact c11
  · rw [ho _ (by omega) (by omega)]; unfold coF; rw [hcn]; exact c12 q hq
