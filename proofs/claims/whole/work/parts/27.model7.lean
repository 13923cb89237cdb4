/-! The model's day; what it tells of the town; copies. -/
theorem tail_day46 {nx sl : Nat} {ln : Nat → Nat} {R : Nat → Nat → Option Nat} {J : Nat → Nat → Int32} {T : Nat → Int32} {Q : Option Value → Hp → Prop} {k : Nat} (hW : SW nx ln R) {nn : Nat} (hQ : Q none (nx, sl, ln, R, nw J (up1 T 2 (T 2 + 1)))) : wp (nn + 20) (k + 4) mX8_day 46 [some (.ref 85)] [] (nx, sl, ln, R, nw J T) Q := by
  refine And.intro (sw_k hW (Nat.le_of_ble_eq_true rfl) rfl) ?_
  refine Exists.intro _ (And.intro (sw_r hW (Nat.le_of_ble_eq_true rfl) rfl rfl) ?_)
  refine And.intro (sw_n hW (Nat.le_of_ble_eq_true rfl) rfl rfl ((Nat.le_of_ble_eq_true rfl)) (Nat.le_of_ble_eq_true rfl)) ?_
  refine And.intro (sw_n hW (Nat.le_of_ble_eq_true rfl) rfl rfl ((Nat.le_of_ble_eq_true rfl)) (Nat.le_of_ble_eq_true rfl)) ?_
  rw [nw_put' _ _ (i := 2) (x := 2) rfl]
  exact hQ
theorem tail_day17 {nx sl : Nat} {ln : Nat → Nat} {R : Nat → Nat → Option Nat} {J : Nat → Nat → Int32} {T : Nat → Int32} {Q : Option Value → Hp → Prop} {k : Nat} (hW : SW nx ln R) {n m nn : Nat} (hT : IT T n m) (hQ : Q none (nx, sl, ln, R, nw J (up1 (d3F T) 2 (d3F T 2 + 1)))) : wp (nn + 60) (k + 4) mX8_day 17 [some (.ref 85)] [] (nx, sl, ln, R, nw J T) Q := by
  have hn10 := hT.2.1
  unfold d3F at hQ
  rw [hT.1, ix (by omega)] at hQ
  refine And.intro (sw_k hW (Nat.le_of_ble_eq_true rfl) rfl) ?_
  refine s_draw hW ?_
  obtain ⟨T1, hT1⟩ : ∃ T1, up1 T 0 (zN (T 0)) = T1 := ⟨_, rfl⟩
  have hIT : IT T1 n m := by rw [← hT1]; exact hT.free (Or.inl rfl)
  have g3 : T1 3 = T 3 := by rw [← hT1, up1_gt (by decide)]
  rw [hT1] at hQ
  rw [hT1]
  refine And.intro (by decide) ?_
  refine And.intro (sw_k hW (Nat.le_of_ble_eq_true rfl) rfl) ?_
  refine Exists.intro _ (And.intro (sw_r hW (Nat.le_of_ble_eq_true rfl) rfl rfl) ?_)
  refine And.intro (sw_n hW (Nat.le_of_ble_eq_true rfl) rfl rfl ((Nat.le_of_ble_eq_true rfl)) (Nat.le_of_ble_eq_true rfl)) ?_
  rw [show nw J T1 86 (3 : Int32).toNatClampNeg = T 3 from g3]
  refine And.intro (fun h => ?_) (fun h => ?_)
  · rw [if_neg (fun w => by rw [tI_le] at h; have := (tI_lt _ _).mp w.1; omega)] at hQ
    exact tail_day46 hW hQ
  · have h' : irm (dw (T 0)) 100 < T 3 := by rw [tI_le] at h; rw [tI_lt]; omega
    refine And.intro (sw_k hW (Nat.le_of_ble_eq_true rfl) rfl) ?_
    refine Exists.intro _ (And.intro (sw_r hW (Nat.le_of_ble_eq_true rfl) rfl rfl) ?_)
    refine And.intro (sw_n hW (Nat.le_of_ble_eq_true rfl) rfl rfl ((Nat.le_of_ble_eq_true rfl)) (Nat.le_of_ble_eq_true rfl)) ?_
    rw [show nw J T1 86 (1 : Int32).toNatClampNeg = nI n from hIT.1]
    refine And.intro (fun h2 => ?_) (fun h2 => ?_)
    · rw [if_neg (fun w => absurd h2 (nI_nle w.2 (by omega)))] at hQ
      exact tail_day46 hW hQ
    · have hn0 : 0 < n := by
        rcases Nat.eq_zero_or_pos n with q | q
        · subst q; exact absurd (by decide) h2
        · exact q
      rw [if_pos ⟨h', hn0⟩] at hQ
      refine And.intro (sw_k hW (Nat.le_of_ble_eq_true rfl) rfl) ?_
      refine s_breaksOne hW hIT hn0 ?_
      exact tail_day46 hW hQ
theorem s_day {nx sl : Nat} {ln : Nat → Nat} {R : Nat → Nat → Option Nat} {J : Nat → Nat → Int32} {T : Nat → Int32} {Q : Option Value → Hp → Prop} {k : Nat} (hW : SW nx ln R) {n m : Nat} (hT : IT T n m) (hQ : ∀ J2, Sc J J2 → Q none (nx, sl, ln, R, nw J2 (dyF T))) : Go (k + 4) mX8_day [.ref 85] (nx, sl, ln, R, nw J T) Q := by
  have hn10 := hT.2.1
  have h2 := it_d2 hT
  unfold dyF at hQ
  refine Go_wp 100 rfl ?_
  refine And.intro (sw_k hW (Nat.le_of_ble_eq_true rfl) rfl) ?_
  refine s_fills hW (n := n) hT.fl (fun J2 hJ2 => ?_)
  have e1 : flF T n 1 = nI n := (hT.fl n (Nat.le_refl n)).1
  have hQ2 := hQ J2 hJ2
  refine And.intro (sw_k hW (Nat.le_of_ble_eq_true rfl) rfl) ?_
  refine Exists.intro _ (And.intro (sw_r hW (Nat.le_of_ble_eq_true rfl) rfl rfl) ?_)
  refine And.intro (sw_n hW (Nat.le_of_ble_eq_true rfl) rfl rfl ((Nat.le_of_ble_eq_true rfl)) (Nat.le_of_ble_eq_true rfl)) ?_
  rw [show nw J2 (flF T n) 86 (1 : Int32).toNatClampNeg = nI n from e1]
  refine And.intro (fun h => ?_) (fun h => ?_)
  · have hn0 : n = 0 := by
      rcases Nat.eq_zero_or_pos n with q | q
      · exact q
      · exact absurd h (nI_nle q (by omega))
    have e2 : d2F T = flF T n := by unfold d2F; rw [hT.1, ix (by omega), if_neg (by omega)]
    rw [e2] at hQ2 h2
    exact tail_day17 hW h2 hQ2
  · have hn0 : 0 < n := by
      rcases Nat.eq_zero_or_pos n with q | q
      · subst q; exact absurd (by decide) h
      · exact q
    have e2 : d2F T = seF (flF T n) n := by unfold d2F; rw [hT.1, ix (by omega), if_pos hn0]
    rw [e2] at hQ2 h2
    refine And.intro (sw_k hW (Nat.le_of_ble_eq_true rfl) rfl) ?_
    refine s_sells hW (hT.fl n (Nat.le_refl n)) hn0 ?_
    exact tail_day17 hW h2 hQ2
/-- days, one behind the other -/
def gnF (T : Nat → Int32) : Nat → (Nat → Int32)
  | 0 => T
  | i + 1 => dyF (gnF T i)
theorem it_gn {T : Nat → Int32} {n m : Nat} (hT : IT T n m) : ∀ i, ∃ n', n' ≤ n ∧ IT (gnF T i) n' m := by
  intro i
  induction i with
  | zero => exact ⟨n, Nat.le_refl n, hT⟩
  | succ i ih =>
    obtain ⟨n1, a, b⟩ := ih
    obtain ⟨n2, c, d⟩ := it_dy b
    exact ⟨n2, by omega, d⟩
theorem l_goesOn {nx sl : Nat} {ln : Nat → Nat} {R : Nat → Nat → Option Nat} {J : Nat → Nat → Int32} {T : Nat → Int32} {Q : Option Value → Hp → Prop} {k : Nat} (hW : SW nx ln R) {n m d : Nat} (hT : IT T n m) (hd : d ≤ 10000) : ∀ (r i : Nat) (J1 : Nat → Nat → Int32) (xi : Int32) (I1 : Nat → Nat → Int32), xi = nI i → I1 = nw J1 (gnF T i) → i + r = d → Sc J J1 → (∀ J2, Sc J J2 → Q none (nx, sl, ln, R, nw J2 (gnF T d))) → GoF (k + 5) mX8_goesOn 2 [some (.ref 85), some (.int (nI d)), some (.int xi)] [] (nx, sl, ln, R, I1) Q := by
  intro r
  induction r with
  | zero =>
    intro i J1 xi I1 hxi hI hir hSc hQ
    subst hxi
    subst hI
    have hid : i = d := by omega
    subst hid
    refine GoF_wp1 20 ?_
    exact And.intro (fun _ => hQ J1 hSc) (fun h => absurd (nI_le (Nat.le_refl i) (by omega)) h)
  | succ r ih =>
    intro i J1 xi I1 hxi hI hir hSc hQ
    subst hxi
    subst hI
    obtain ⟨n1, -, hT1⟩ := it_gn hT i
    refine GoF_wp1 20 ?_
    refine And.intro (fun h => absurd h (nI_ge (show i < d by omega) (by omega))) (fun _ => ?_)
    refine And.intro (sw_k hW (Nat.le_of_ble_eq_true rfl) rfl) ?_
    refine s_day hW hT1 (fun J2 hJ2 => ?_)
    exact ih (i + 1) J2 _ _ (nI_1 i) rfl (by omega) (hSc.tr hJ2) hQ
theorem s_goesOn {nx sl : Nat} {ln : Nat → Nat} {R : Nat → Nat → Option Nat} {J : Nat → Nat → Int32} {T : Nat → Int32} {Q : Option Value → Hp → Prop} {k : Nat} (hW : SW nx ln R) {n m d : Nat} (hT : IT T n m) (hd : d ≤ 10000) (hQ : ∀ J2, Sc J J2 → Q none (nx, sl, ln, R, nw J2 (gnF T d))) : Go (k + 5) mX8_goesOn [.ref 85, .int (nI d)] (nx, sl, ln, R, nw J T) Q := by
  refine Go_wp 20 rfl ?_
  exact l_goesOn hW hT hd d 0 J _ _ rfl rfl (by omega) Sc.rf hQ
/-- the marks of the first i -/
def maF (T : Nat → Int32) : Nat → Int32
  | 0 => 0
  | i + 1 => maF T i + T (24 + 5 * i + 2)
theorem l_marks {nx sl : Nat} {ln : Nat → Nat} {R : Nat → Nat → Option Nat} {J : Nat → Nat → Int32} {T : Nat → Int32} {Q : Option Value → Hp → Prop} {k : Nat} (hW : SW nx ln R) {n : Nat} (hT : T 1 = nI n) (hn : n ≤ 10) : ∀ (r i : Nat) (xs xi : Int32), xs = maF T i → xi = nI i → i + r = n → Q (some (.int (maF T n))) (nx, sl, ln, R, nw J T) → GoF (k + 1) mX8_marks 4 [some (.ref 85), some (.int xs), some (.int xi)] [] (nx, sl, ln, R, nw J T) Q := by
  intro r
  induction r with
  | zero =>
    intro i xs xi hxs hxi hir hQ
    subst hxs
    subst hxi
    have hid : i = n := by omega
    subst hid
    refine GoF_wp1 20 ?_
    refine And.intro (sw_k hW (Nat.le_of_ble_eq_true rfl) rfl) ?_
    refine Exists.intro _ (And.intro (sw_r hW (Nat.le_of_ble_eq_true rfl) rfl rfl) ?_)
    refine And.intro (sw_n hW (Nat.le_of_ble_eq_true rfl) rfl rfl ((Nat.le_of_ble_eq_true rfl)) (Nat.le_of_ble_eq_true rfl)) ?_
    rw [show nw J T 86 (1 : Int32).toNatClampNeg = nI i from hT]
    exact And.intro (fun _ => hQ) (fun h => absurd (nI_le (Nat.le_refl i) (by omega)) h)
  | succ r ih =>
    intro i xs xi hxs hxi hir hQ
    subst hxs
    subst hxi
    refine GoF_wp1 20 ?_
    refine And.intro (sw_k hW (Nat.le_of_ble_eq_true rfl) rfl) ?_
    refine Exists.intro _ (And.intro (sw_r hW (Nat.le_of_ble_eq_true rfl) rfl rfl) ?_)
    refine And.intro (sw_n hW (Nat.le_of_ble_eq_true rfl) rfl rfl ((Nat.le_of_ble_eq_true rfl)) (Nat.le_of_ble_eq_true rfl)) ?_
    rw [show nw J T 86 (1 : Int32).toNatClampNeg = nI n from hT]
    refine And.intro (fun h => absurd h (nI_ge (show i < n by omega) (by omega))) (fun _ => ?_)
    refine And.intro (sw_k hW (Nat.le_of_ble_eq_true rfl) rfl) ?_
    refine s_of (w := 2) hW (show i < 10 by omega) (by decide) ?_
    exact ih (i + 1) _ _ rfl (nI_1 i) (by omega) hQ
theorem s_marks {nx sl : Nat} {ln : Nat → Nat} {R : Nat → Nat → Option Nat} {J : Nat → Nat → Int32} {T : Nat → Int32} {Q : Option Value → Hp → Prop} {k : Nat} (hW : SW nx ln R) {n : Nat} (hT : T 1 = nI n) (hn : n ≤ 10) (hQ : Q (some (.int (maF T n))) (nx, sl, ln, R, nw J T)) : Go (k + 1) mX8_marks [.ref 85] (nx, sl, ln, R, nw J T) Q := by
  refine Go_wp 20 rfl ?_
  exact l_marks hW hT hn n 0 _ _ rfl rfl (by omega) hQ
/-- the first of the greatest among f 0 .. f k -/
def gmF (f : Nat → Int32) : Nat → Nat
  | 0 => 0
  | k + 1 => if f (gmF f k) < f (k + 1) then k + 1 else gmF f k
theorem gmF_le (f : Nat → Int32) : ∀ k, gmF f k ≤ k := by
  intro k
  induction k with
  | zero => exact Nat.le_refl 0
  | succ k ih => unfold gmF; split <;> omega
theorem l_richest {nx sl : Nat} {ln : Nat → Nat} {R : Nat → Nat → Option Nat} {J : Nat → Nat → Int32} {T : Nat → Int32} {Q : Option Value → Hp → Prop} {k : Nat} (hW : SW nx ln R) : ∀ (r q j : Nat) (xj xq : Int32), xj = nI j → xq = nI (q + 1) → j = gmF (fun i => T (16 + i)) q → q + 1 + r = 8 → Q (some (.int (nI (gmF (fun i => T (16 + i)) 7)))) (nx, sl, ln, R, nw J T) → GoF k mX8_richest 4 [some (.ref 85), some (.int xj), some (.int xq)] [] (nx, sl, ln, R, nw J T) Q := by
  intro r
  induction r with
  | zero =>
    intro q j xj xq hxj hxq hj hqr hQ
    subst hxj
    subst hxq
    have hq : q = 7 := by omega
    subst hq
    subst hj
    refine GoF_wp1 40 ?_
    exact And.intro (fun _ => hQ) (fun h => absurd (by decide) h)
  | succ r ih =>
    intro q j xj xq hxj hxq hj hqr hQ
    subst hxj
    subst hxq
    have hjq : j ≤ q := by rw [hj]; exact gmF_le _ q
    refine GoF_wp1 40 ?_
    refine And.intro (fun h => absurd h (nI_ge (show q + 1 < 8 by omega) (by decide))) (fun _ => ?_)
    refine And.intro (sw_k hW (Nat.le_of_ble_eq_true rfl) rfl) ?_
    refine Exists.intro _ (And.intro (sw_r hW (Nat.le_of_ble_eq_true rfl) rfl rfl) ?_)
    refine And.intro (by rw [hx16]; exact sw_n hW (Nat.le_of_ble_eq_true rfl) rfl rfl (show 16 + (q + 1) < 1446 by omega) (Nat.le_of_ble_eq_true rfl)) ?_
    refine And.intro (sw_k hW (Nat.le_of_ble_eq_true rfl) rfl) ?_
    refine Exists.intro _ (And.intro (sw_r hW (Nat.le_of_ble_eq_true rfl) rfl rfl) ?_)
    refine And.intro (by rw [hx16]; exact sw_n hW (Nat.le_of_ble_eq_true rfl) rfl rfl (show 16 + j < 1446 by omega) (Nat.le_of_ble_eq_true rfl)) ?_
    rw [show nw J T 86 ((16 : Int32) + nI (q + 1)).toNatClampNeg = T (16 + (q + 1)) by rw [hx16, ix (by omega)]; rfl, show nw J T 86 ((16 : Int32) + nI j).toNatClampNeg = T (16 + j) by rw [hx16, ix (by omega)]; rfl]
    refine And.intro (fun h => ?_) (fun h => ?_)
    · refine ih (q + 1) j _ _ rfl (nI_1 (q + 1)) ?_ (by omega) hQ
      unfold gmF
      rw [← hj, if_neg (fun w => by rw [tI_le] at h; rw [tI_lt] at w; omega)]
    · refine ih (q + 1) (q + 1) _ _ rfl (nI_1 (q + 1)) ?_ (by omega) hQ
      unfold gmF
      rw [← hj, if_pos (by rw [tI_le] at h; rw [tI_lt]; omega)]
theorem s_richest {nx sl : Nat} {ln : Nat → Nat} {R : Nat → Nat → Option Nat} {J : Nat → Nat → Int32} {T : Nat → Int32} {Q : Option Value → Hp → Prop} {k : Nat} (hW : SW nx ln R) (hQ : Q (some (.int (nI (gmF (fun i => T (16 + i)) 7)))) (nx, sl, ln, R, nw J T)) : Go k mX8_richest [.ref 85] (nx, sl, ln, R, nw J T) Q := by
  refine Go_wp 20 rfl ?_
  exact l_richest hW 7 0 0 _ _ rfl rfl rfl (by omega) hQ
theorem l_bestJug {nx sl : Nat} {ln : Nat → Nat} {R : Nat → Nat → Option Nat} {J : Nat → Nat → Int32} {T : Nat → Int32} {Q : Option Value → Hp → Prop} {k : Nat} (hW : SW nx ln R) {n : Nat} (hT : T 1 = nI n) (hn : n ≤ 10) (hn0 : 0 < n) : ∀ (r q j : Nat) (xj xq : Int32), xj = nI j → xq = nI (q + 1) → j = gmF (woF T) q → q + 1 + r = n → Q (some (.int (nI (gmF (woF T) (n - 1))))) (nx, sl, ln, R, nw J T) → GoF (k + 2) mX8_bestJug 4 [some (.ref 85), some (.int xj), some (.int xq)] [] (nx, sl, ln, R, nw J T) Q := by
  intro r
  induction r with
  | zero =>
    intro q j xj xq hxj hxq hj hqr hQ
    subst hxj
    subst hxq
    have hq : n = q + 1 := by omega
    subst hq
    subst hj
    refine GoF_wp1 40 ?_
    refine And.intro (sw_k hW (Nat.le_of_ble_eq_true rfl) rfl) ?_
    refine Exists.intro _ (And.intro (sw_r hW (Nat.le_of_ble_eq_true rfl) rfl rfl) ?_)
    refine And.intro (sw_n hW (Nat.le_of_ble_eq_true rfl) rfl rfl ((Nat.le_of_ble_eq_true rfl)) (Nat.le_of_ble_eq_true rfl)) ?_
    rw [show nw J T 86 (1 : Int32).toNatClampNeg = nI (q + 1) from hT]
    refine And.intro (fun _ => ?_) (fun h => absurd (nI_le (Nat.le_refl _) (by omega)) h)
    refine And.intro (sw_k hW (Nat.le_of_ble_eq_true rfl) rfl) ?_
    refine Exists.intro _ (And.intro (sw_r hW (Nat.le_of_ble_eq_true rfl) rfl rfl) ?_)
    refine And.intro (sw_n hW (Nat.le_of_ble_eq_true rfl) rfl rfl ((Nat.le_of_ble_eq_true rfl)) (Nat.le_of_ble_eq_true rfl)) ?_
    rw [show nw J T 86 (1 : Int32).toNatClampNeg = nI (q + 1) from hT]
    exact And.intro (fun _ => hQ) (fun h => absurd (nI_ne0 hn0 (by omega)) h)
  | succ r ih =>
    intro q j xj xq hxj hxq hj hqr hQ
    subst hxj
    subst hxq
    have hjq : j ≤ q := by rw [hj]; exact gmF_le _ q
    refine GoF_wp1 40 ?_
    refine And.intro (sw_k hW (Nat.le_of_ble_eq_true rfl) rfl) ?_
    refine Exists.intro _ (And.intro (sw_r hW (Nat.le_of_ble_eq_true rfl) rfl rfl) ?_)
    refine And.intro (sw_n hW (Nat.le_of_ble_eq_true rfl) rfl rfl ((Nat.le_of_ble_eq_true rfl)) (Nat.le_of_ble_eq_true rfl)) ?_
    rw [show nw J T 86 (1 : Int32).toNatClampNeg = nI n from hT]
    refine And.intro (fun h => absurd h (nI_ge (show q + 1 < n by omega) (by omega))) (fun _ => ?_)
    refine And.intro (sw_k hW (Nat.le_of_ble_eq_true rfl) rfl) ?_
    refine s_worthOf hW (show q + 1 < 10 by omega) ?_
    refine And.intro (sw_k hW (Nat.le_of_ble_eq_true rfl) rfl) ?_
    refine s_worthOf hW (show j < 10 by omega) ?_
    refine And.intro (fun h => ?_) (fun h => ?_)
    · refine ih (q + 1) j _ _ rfl (nI_1 (q + 1)) ?_ (by omega) hQ
      unfold gmF
      rw [← hj, if_neg (fun w => by rw [tI_le] at h; rw [tI_lt] at w; omega)]
    · refine ih (q + 1) (q + 1) _ _ rfl (nI_1 (q + 1)) ?_ (by omega) hQ
      unfold gmF
      rw [← hj, if_pos (by rw [tI_le] at h; rw [tI_lt]; omega)]
theorem s_bestJug {nx sl : Nat} {ln : Nat → Nat} {R : Nat → Nat → Option Nat} {J : Nat → Nat → Int32} {T : Nat → Int32} {Q : Option Value → Hp → Prop} {k : Nat} (hW : SW nx ln R) {n : Nat} (hT : T 1 = nI n) (hn : n ≤ 10) (hQ : Q (some (.int (if n = 0 then -1000000005 else nI (gmF (woF T) (n - 1))))) (nx, sl, ln, R, nw J T)) : Go (k + 2) mX8_bestJug [.ref 85] (nx, sl, ln, R, nw J T) Q := by
  refine Go_wp 20 rfl ?_
  by_cases h0 : n = 0
  · subst h0
    rw [if_pos rfl] at hQ
    refine GoF_wp1 40 ?_
    refine And.intro (sw_k hW (Nat.le_of_ble_eq_true rfl) rfl) ?_
    refine Exists.intro _ (And.intro (sw_r hW (Nat.le_of_ble_eq_true rfl) rfl rfl) ?_)
    refine And.intro (sw_n hW (Nat.le_of_ble_eq_true rfl) rfl rfl ((Nat.le_of_ble_eq_true rfl)) (Nat.le_of_ble_eq_true rfl)) ?_
    rw [show nw J T 86 (1 : Int32).toNatClampNeg = nI 0 from hT]
    refine And.intro (fun _ => ?_) (fun h => absurd (by decide) h)
    refine And.intro (sw_k hW (Nat.le_of_ble_eq_true rfl) rfl) ?_
    refine Exists.intro _ (And.intro (sw_r hW (Nat.le_of_ble_eq_true rfl) rfl rfl) ?_)
    refine And.intro (sw_n hW (Nat.le_of_ble_eq_true rfl) rfl rfl ((Nat.le_of_ble_eq_true rfl)) (Nat.le_of_ble_eq_true rfl)) ?_
    rw [show nw J T 86 (1 : Int32).toNatClampNeg = nI 0 from hT]
    exact And.intro (fun h => absurd rfl h) (fun _ => hQ)
  · rw [if_neg h0] at hQ
    exact l_bestJug hW hT hn (by omega) (n - 1) 0 0 _ _ rfl rfl rfl (by omega) hQ
theorem l_copyAll {nx sl : Nat} {ln : Nat → Nat} {R : Nat → Nat → Option Nat} {I : Nat → Nat → Int32} {Q : Option Value → Hp → Prop} {k : Nat} (hW : SW nx ln R) {a b : Nat} (ha : a = 86 ∨ a = 87 ∨ a = 88) (hb : b = 86 ∨ b = 87 ∨ b = 88) (hab : ¬ a = b) : ∀ (r i : Nat) (xi : Int32) (I1 : Nat → Nat → Int32), xi = nI i → I1 = up1 I b (fun p => if p < i then I a p else I b p) → i + r = 1446 → Q none (nx, sl, ln, R, up1 I b (fun p => if p < 1446 then I a p else I b p)) → GoF k mX8_copyAll 2 [some (.ref a), some (.ref b), some (.int xi)] [] (nx, sl, ln, R, I1) Q := by
  have ka : KD a = 11 := by rcases ha with q | q | q <;> rw [q] <;> rfl
  have kb : KD b = 11 := by rcases hb with q | q | q <;> rw [q] <;> rfl
  have na : LN a = 1446 := by rcases ha with q | q | q <;> rw [q] <;> rfl
  have nb : LN b = 1446 := by rcases hb with q | q | q <;> rw [q] <;> rfl
  intro r
  induction r with
  | zero =>
    intro i xi I1 hxi hI hir hQ
    subst hxi
    have hid : i = 1446 := by omega
    subst hid
    subst hI
    refine GoF_wp1 20 ?_
    exact And.intro (fun _ => hQ) (fun h => absurd (by decide) h)
  | succ r ih =>
    intro i xi I1 hxi hI hir hQ
    subst hxi
    subst hI
    refine GoF_wp1 20 ?_
    refine And.intro (fun h => absurd h (nI_ge (show i < 1446 by omega) (by decide))) (fun _ => ?_)
    refine And.intro (sw_n hW (by omega) ka na (show i < 1446 by omega) (by decide)) ?_
    refine And.intro (sw_n hW (by omega) kb nb (show i < 1446 by omega) (by decide)) ?_
    refine ih (i + 1) _ _ (nI_1 i) ?_ (by omega) hQ
    rw [ix (by omega)]
    funext q
    by_cases hq : q = b
    · subst hq
      rw [up2_eq, up1_eq, up1_eq, up1_ne hab]
      funext p
      by_cases hp : p = i
      · subst hp; rw [up1_eq, if_pos (by omega)]
      · rw [up1_ne hp]
        by_cases hl : p < i
        · rw [if_pos hl, if_pos (by omega)]
        · rw [if_neg hl, if_neg (by omega)]
    · rw [up2_ne hq, up1_ne hq, up1_ne hq]
theorem s_copyAll {nx sl : Nat} {ln : Nat → Nat} {R : Nat → Nat → Option Nat} {I : Nat → Nat → Int32} {Q : Option Value → Hp → Prop} {k : Nat} (hW : SW nx ln R) {a b : Nat} (ha : a = 86 ∨ a = 87 ∨ a = 88) (hb : b = 86 ∨ b = 87 ∨ b = 88) (hab : ¬ a = b) (hza : Zr (I a)) (hzb : Zr (I b)) (hQ : Q none (nx, sl, ln, R, up1 I b (I a))) : Go k mX8_copyAll [.ref a, .ref b] (nx, sl, ln, R, I) Q := by
  refine Go_wp 20 rfl ?_
  refine l_copyAll (I := I) hW ha hb hab 1446 0 _ _ rfl ?_ (by omega) ?_
  · funext q
    by_cases hq : q = b
    · subst hq; rw [up1_eq]; funext p; rw [if_neg (by omega)]
    · rw [up1_ne hq]
  · rw [show (fun p => if p < 1446 then I a p else I b p) = I a from funext fun p => by
      by_cases hl : p < 1446
      · rw [if_pos hl]
      · rw [if_neg hl, hzb p (by omega), hza p (by omega)]]
    exact hQ
