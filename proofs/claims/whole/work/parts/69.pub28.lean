/-! Public methods: which jug is like a sheet. -/
def lsF (D : Nat → Int32) : Nat → Nat
  | 0 => 0
  | i + 1 => if D (i + 1) < D (lsF D i) then i + 1 else lsF D i
theorem ls_le (D : Nat → Int32) : ∀ i, lsF D i ≤ i := by
  intro i
  induction i with
  | zero => exact Nat.le_refl 0
  | succ i ih =>
    unfold lsF
    split
    · exact Nat.le_refl _
    · omega
theorem ls_s (D : Nat → Int32) (i : Nat) : lsF D (i + 1) = if D (i + 1) < D (lsF D i) then i + 1 else lsF D i := rfl
theorem ls_eq {D E : Nat → Int32} {n : Nat} (h : ∀ j, j < n → D j = E j) : ∀ i, i < n → lsF D i = lsF E i := by
  intro i
  induction i with
  | zero => intro _; rfl
  | succ i ih =>
    intro hi
    have := ls_le E i
    rw [ls_s, ls_s, ih (by omega), h (i + 1) hi, h _ (by omega)]
theorem ab_off (c m : Int32) : (if 0 ≤ c - m then c - m else -(c - m)) = abF (m - c) := by
  have z0 : (0 : Int32).toInt = 0 := rfl
  obtain ⟨x, hx⟩ : ∃ x, m - c = x := ⟨_, rfl⟩
  have h1 : c - m = -x := by rw [← hx, Int32.neg_sub]
  rw [h1, hx]
  unfold abF
  by_cases hm : x = -2147483648
  · subst hm; decide
  · have hlo := tI_lo x
    have hne : ¬ x.toInt = -2147483648 := fun q => hm ((tI_eq _ _).mpr q)
    have hn := tI_neg (a := x) (by omega)
    by_cases h0 : x.toInt = 0
    · have : x = 0 := (tI_eq _ _).mpr h0
      subst this; decide
    · by_cases hp : 0 ≤ x
      · have hp' := (tI_le _ _).mp hp
        rw [if_pos hp, if_neg (by rw [tI_le, hn]; omega), Int32.neg_neg]
      · have hp' : ¬ (0 : Int32).toInt ≤ x.toInt := fun q => hp ((tI_le _ _).mpr q)
        rw [if_neg hp, if_pos (by rw [tI_le, hn]; omega), Int32.zero_sub]
theorem l_cleast {nx sl : Nat} {ln : Nat → Nat} {R : Nat → Nat → Option Nat} {I : Nat → Nat → Int32} {Q : Option Value → Hp → Prop} {k : Nat} (hW : SW nx ln R) {n : Nat} {D : Nat → Int32} {x1 : Option Value} {w : Int32} (hn : n ≤ 10) (h5 : I 5 2 = nI n) (hD : ∀ j, j < n → I 84 j = D j) (hQ : Q (some (.int (if w = 0 then nI (lsF D (n - 1)) else D (lsF D (n - 1))))) (nx, sl, ln, R, I)) : ∀ (r i : Nat) (xl xi : Int32), xl = nI (lsF D i) → xi = nI (i + 1) → i + 1 + r = n → GoF k mX7_like 62 [some (.ref 0), x1, some (.int w), some (.int xl), some (.int xi)] [] (nx, sl, ln, R, I) Q := by
  have ht := tw5
  intro r
  induction r with
  | zero =>
    intro i xl xi hxl hxi hir
    subst hxl
    subst hxi
    have hl := ls_le D i
    refine GoF_wp1 40 ?_
    refine And.intro (sw_k hW (Nat.le_of_ble_eq_true rfl) rfl) ?_
    refine Exists.intro _ (And.intro (sw_r hW (Nat.le_of_ble_eq_true rfl) rfl rfl) ?_)
    refine And.intro (w_t hW ht) ?_
    rw [h5]
    refine And.intro (fun _ => ?_) (fun h => absurd (nI_le (by omega) (by omega)) h)
    rw [show n - 1 = i by omega] at hQ
    refine And.intro (fun hw => ?_) (fun hw => ?_)
    · rw [if_neg hw] at hQ
      refine And.intro (sw_k hW (Nat.le_of_ble_eq_true rfl) rfl) ?_
      refine Exists.intro _ (And.intro (sw_r hW (Nat.le_of_ble_eq_true rfl) rfl rfl) ?_)
      refine And.intro (sw_n hW (Nat.le_of_ble_eq_true rfl) rfl rfl (show lsF D i < 10 by omega) (Nat.le_of_ble_eq_true rfl)) ?_
      rw [ix (show lsF D i < 2147483648 by omega), hD _ (by omega)]
      exact hQ
    · rw [if_pos (Decidable.of_not_not hw)] at hQ
      exact hQ
  | succ r ih =>
    intro i xl xi hxl hxi hir
    subst hxl
    subst hxi
    have hl := ls_le D i
    refine GoF_wp1 40 ?_
    refine And.intro (sw_k hW (Nat.le_of_ble_eq_true rfl) rfl) ?_
    refine Exists.intro _ (And.intro (sw_r hW (Nat.le_of_ble_eq_true rfl) rfl rfl) ?_)
    refine And.intro (w_t hW ht) ?_
    rw [h5]
    refine And.intro (fun h => absurd h (nI_ge (by omega) (by omega))) (fun _ => ?_)
    refine And.intro (sw_k hW (Nat.le_of_ble_eq_true rfl) rfl) ?_
    refine Exists.intro _ (And.intro (sw_r hW (Nat.le_of_ble_eq_true rfl) rfl rfl) ?_)
    refine And.intro (sw_n hW (Nat.le_of_ble_eq_true rfl) rfl rfl (show i + 1 < 10 by omega) (Nat.le_of_ble_eq_true rfl)) ?_
    refine And.intro (sw_k hW (Nat.le_of_ble_eq_true rfl) rfl) ?_
    refine Exists.intro _ (And.intro (sw_r hW (Nat.le_of_ble_eq_true rfl) rfl rfl) ?_)
    refine And.intro (sw_n hW (Nat.le_of_ble_eq_true rfl) rfl rfl (show lsF D i < 10 by omega) (Nat.le_of_ble_eq_true rfl)) ?_
    rw [ix (show lsF D i < 2147483648 by omega), hD _ (by omega), ix (show i + 1 < 2147483648 by omega), hD _ (by omega)]
    refine And.intro (fun h => ?_) (fun h => ?_)
    · exact ih (i + 1) _ _ (by rw [ls_s, if_neg (Int32.not_lt.mpr h)]) (nI_1 _) (by omega)
    · exact ih (i + 1) _ _ (by rw [ls_s, if_pos (Int32.not_le.mp h)]) (nI_1 _) (by omega)
theorem l_least {nx sl : Nat} {ln : Nat → Nat} {R : Nat → Nat → Option Nat} {I : Nat → Nat → Int32} {Q : Option Value → Hp → Prop} {k : Nat} (hW : SW nx ln R) {n : Nat} {D : Nat → Int32} {x1 x6 : Option Value} {w : Int32} (hn : n ≤ 10) (hn0 : 0 < n) (hD : ∀ j, j < n → I 91 j = D j) (hQ : Q (some (.int (if w = 0 then nI (lsF D (n - 1)) else D (lsF D (n - 1))))) (nx, sl, ln, R, I)) : ∀ (r i : Nat) (xl xi : Int32), xl = nI (lsF D i) → xi = nI (i + 1) → i + 1 + r = n → GoF k mX8_like 171 [some (.ref 85), x1, some (.int w), some (.int (nI n)), some (.int xl), some (.int xi), x6] [] (nx, sl, ln, R, I) Q := by
  intro r
  induction r with
  | zero =>
    intro i xl xi hxl hxi hir
    subst hxl
    subst hxi
    have hl := ls_le D i
    refine GoF_wp1 40 ?_
    refine And.intro (fun _ => ?_) (fun h => absurd (nI_le (by omega) (by omega)) h)
    refine And.intro (fun _ => ?_) (fun h => absurd (fun q => absurd ((nI_eq (b := 0) (by omega) (by decide)).mp q) (by omega)) h)
    rw [show n - 1 = i by omega] at hQ
    refine And.intro (fun hw => ?_) (fun hw => ?_)
    · rw [if_neg hw] at hQ
      refine And.intro (sw_k hW (Nat.le_of_ble_eq_true rfl) rfl) ?_
      refine Exists.intro _ (And.intro (sw_r hW (Nat.le_of_ble_eq_true rfl) rfl rfl) ?_)
      refine And.intro (sw_n hW (Nat.le_of_ble_eq_true rfl) rfl rfl (show lsF D i < 10 by omega) (Nat.le_of_ble_eq_true rfl)) ?_
      rw [ix (show lsF D i < 2147483648 by omega), hD _ (by omega)]
      exact hQ
    · rw [if_pos (Decidable.of_not_not hw)] at hQ
      exact hQ
  | succ r ih =>
    intro i xl xi hxl hxi hir
    subst hxl
    subst hxi
    have hl := ls_le D i
    refine GoF_wp1 40 ?_
    refine And.intro (fun h => absurd h (nI_ge (by omega) (by omega))) (fun _ => ?_)
    refine And.intro (sw_k hW (Nat.le_of_ble_eq_true rfl) rfl) ?_
    refine Exists.intro _ (And.intro (sw_r hW (Nat.le_of_ble_eq_true rfl) rfl rfl) ?_)
    refine And.intro (sw_n hW (Nat.le_of_ble_eq_true rfl) rfl rfl (show i + 1 < 10 by omega) (Nat.le_of_ble_eq_true rfl)) ?_
    refine And.intro (sw_k hW (Nat.le_of_ble_eq_true rfl) rfl) ?_
    refine Exists.intro _ (And.intro (sw_r hW (Nat.le_of_ble_eq_true rfl) rfl rfl) ?_)
    refine And.intro (sw_n hW (Nat.le_of_ble_eq_true rfl) rfl rfl (show lsF D i < 10 by omega) (Nat.le_of_ble_eq_true rfl)) ?_
    rw [ix (show lsF D i < 2147483648 by omega), hD _ (by omega), ix (show i + 1 < 2147483648 by omega), hD _ (by omega)]
    refine And.intro (fun h => ?_) (fun h => ?_)
    · exact ih (i + 1) _ _ (by rw [ls_s, if_neg (Int32.not_lt.mpr h)]) (nI_1 _) (by omega)
    · exact ih (i + 1) _ _ (by rw [ls_s, if_pos (Int32.not_le.mp h)]) (nI_1 _) (by omega)
def FdM (I I' : Nat → Nat → Int32) : Prop := ∀ o, ¬ o = 91 → ¬ o = 98 → ¬ o = 99 → I' o = I o
theorem l_like2 {nx sl : Nat} {ln : Nat → Nat} {R : Nat → Nat → Option Nat} {I : Nat → Nat → Int32} {Q : Option Value → Hp → Prop} {k : Nat} (hW : SW nx ln R) {s n m n1 d : Nat} {C T : Nat → Int32} {w : Int32} (hn : n ≤ 10) (hU : IT (gnF T d) n1 m) (hN : ¬ C d = -1000000005) : ∀ (r i : Nat) (xi : Int32) (J1 I1 : Nat → Nat → Int32), xi = nI i → I1 = nw J1 (gnF T d) → i + r = n → FdM I J1 → (∀ j, j < n → J1 91 j = if j < i then dfF C T (d + 1) j else dfF C T d j) → (∀ (J2 : Nat → Nat → Int32) (x6 : Option Value) (nn : Nat), FdM I J2 → (∀ j, j < n → J2 91 j = dfF C T (d + 1) j) → wp (nn + 20) (k + 7) mX8_like 151 [some (.ref 85), some (.int (nI s)), some (.int w), some (.int (nI n)), some (.int (nI d)), some (.int (C d)), x6] [] (nx, sl, ln, R, nw J2 (gnF T d)) Q) → GoF (k + 7) mX8_like 96 [some (.ref 85), some (.int (nI s)), some (.int w), some (.int (nI n)), some (.int (nI d)), some (.int (C d)), some (.int xi)] [] (nx, sl, ln, R, I1) Q := by
  have hn1 := hU.2.1
  intro r
  induction r with
  | zero =>
    intro i xi J1 I1 hxi hI hir hF c91' hQ
    subst hxi
    subst hI
    have hid : i = n := by omega
    subst hid
    refine GoF_wp1 60 ?_
    refine And.intro (fun _ => ?_) (fun h => absurd (Int32.le_refl _) h)
    exact hQ J1 _ _ hF (fun j hj => by rw [c91' j hj, if_pos hj])
  | succ r ih =>
    intro i xi J1 I1 hxi hI hir hF c91' hQ
    subst hxi
    subst hI
    have c91 : nw J1 (gnF T d) 91 i = dfF C T d i := by rw [nwo _ _ (by decide), c91' i (by omega), if_neg (by omega)]
    refine GoF_wp1 60 ?_
    refine And.intro (fun h => absurd h (nI_ge (show i < n by omega) (by omega))) (fun _ => ?_)
    refine And.intro (fun h => absurd h hN) (fun _ => ?_)
    refine And.intro (sw_k hW (Nat.le_of_ble_eq_true rfl) rfl) ?_
    refine Exists.intro _ (And.intro (sw_r hW (Nat.le_of_ble_eq_true rfl) rfl rfl) ?_)
    refine And.intro (sw_n hW (Nat.le_of_ble_eq_true rfl) rfl rfl (show i < 10 by omega) (Nat.le_of_ble_eq_true rfl)) ?_
    refine And.intro (sw_k hW (Nat.le_of_ble_eq_true rfl) rfl) ?_
    refine s_isJug (n := n1) hW hU.1 hn1 (fun j hj e => ?_) (fun e => ?_)
    · have hji : i = j := (nI_eq (by omega) (by omega)).mp e
      subst hji
      refine And.intro (fun h9 => absurd h9 (by decide)) (fun _ => ?_)
      refine And.intro (sw_k hW (Nat.le_of_ble_eq_true rfl) rfl) ?_
      refine s_of (w := 2) hW (show i < 10 by omega) (by decide) ?_
      refine s_off ?_
      have hmk : gnF T d (24 + 5 * i + 2) = mkF T d i := by unfold mkF; rw [hU.1, ix (by omega), if_pos hj]
      rw [ab_off, hmk]
      refine And.intro (sw_n hW (Nat.le_of_ble_eq_true rfl) rfl rfl (show i < 10 by omega) (Nat.le_of_ble_eq_true rfl)) ?_
      rw [ix (show i < 2147483648 by omega), c91, nw_oth _ _ (by decide)]
      refine ih (i + 1) _ _ _ (nI_1 i) rfl (by omega) (fun q h1 h2 h3 => by rw [up2_ne h1]; exact hF q h1 h2 h3) (fun j hj => ?_) hQ
      rw [up2_eq]
      by_cases hj2 : j = i
      · subst hj2
        rw [up1_eq, if_pos (show j < j + 1 by omega), df_s, if_neg hN]
      · rw [up1_ne hj2, c91' j hj]
        by_cases hj3 : j < i
        · rw [if_pos hj3, if_pos (by omega)]
        · rw [if_neg hj3, if_neg (by omega)]
    · refine And.intro (fun _ => ?_) (fun h9 => absurd rfl h9)
      refine s_off ?_
      have hmk : (0 : Int32) = mkF T d i := by unfold mkF; rw [hU.1, ix (by omega), if_neg (fun q => e i q rfl)]
      rw [ab_off, hmk]
      refine And.intro (sw_n hW (Nat.le_of_ble_eq_true rfl) rfl rfl (show i < 10 by omega) (Nat.le_of_ble_eq_true rfl)) ?_
      rw [ix (show i < 2147483648 by omega), c91, nw_oth _ _ (by decide)]
      refine ih (i + 1) _ _ _ (nI_1 i) rfl (by omega) (fun q h1 h2 h3 => by rw [up2_ne h1]; exact hF q h1 h2 h3) (fun j hj => ?_) hQ
      rw [up2_eq]
      by_cases hj2 : j = i
      · subst hj2
        rw [up1_eq, if_pos (show j < j + 1 by omega), df_s, if_neg hN]
      · rw [up1_ne hj2, c91' j hj]
        by_cases hj3 : j < i
        · rw [if_pos hj3, if_pos (by omega)]
        · rw [if_neg hj3, if_neg (by omega)]
theorem l_like1 {nx sl : Nat} {ln : Nat → Nat} {R : Nat → Nat → Option Nat} {I : Nat → Nat → Int32} {Q : Option Value → Hp → Prop} {k : Nat} (hW : SW nx ln R) {s l n m : Nat} {C T : Nat → Int32} {w : Int32} (hs : s < 4) (l4 : l ≤ 24) (k7 : I 101 s = nI l) (hT : IT T n m) (hz : Zr T) (h88 : I 88 = T) (hCC : ∀ i, i < 24 → C i = I 102 (24 * s + i)) : ∀ (r d n1 : Nat) (xd : Int32) (x5 x6 : Option Value) (J1 I1 : Nat → Nat → Int32), xd = nI d → I1 = nw J1 (gnF T d) → d + r = l → IT (gnF T d) n1 m → FdM I J1 → (∀ j, j < n → J1 91 j = dfF C T d j) → (∀ (J2 : Nat → Nat → Int32), FdM I J2 → (∀ j, j < n → J2 91 j = dfF C T l j) → (n = 0 → Q (some (.int (-1000000005))) (nx, sl, ln, R, nw J2 T)) ∧ (0 < n → Q (some (.int (if w = 0 then nI (lsF (dfF C T l) (n - 1)) else dfF C T l (lsF (dfF C T l) (n - 1))))) (nx, sl, ln, R, nw J2 T))) → GoF (k + 7) mX8_like 68 [some (.ref 85), some (.int (nI s)), some (.int w), some (.int (nI n)), some (.int xd), x5, x6] [] (nx, sl, ln, R, I1) Q := by
  have hn := hT.2.1
  intro r
  induction r with
  | zero =>
    intro d n1 xd x5 x6 J1 I1 hxd hI hdr hU hF c91 hQ
    subst hxd
    subst hI
    have hid : d = l := by omega
    subst hid
    have e88 : nw J1 (gnF T d) 88 = T := by rw [nwo _ _ (by decide), hF 88 (by decide) (by decide) (by decide), h88]
    refine GoF_wp1 60 ?_
    refine And.intro (sw_k hW (Nat.le_of_ble_eq_true rfl) rfl) ?_
    refine Exists.intro _ (And.intro (sw_r hW (Nat.le_of_ble_eq_true rfl) rfl rfl) ?_)
    refine And.intro (sw_n hW (Nat.le_of_ble_eq_true rfl) rfl rfl (hs) (Nat.le_of_ble_eq_true rfl)) ?_
    rw [show nw J1 (gnF T d) 101 (nI s).toNatClampNeg = nI d by rw [ix (by omega), nwo _ _ (by decide), hF 101 (by decide) (by decide) (by decide)]; exact k7]
    refine And.intro (fun _ => ?_) (fun h => absurd (Int32.le_refl _) h)
    refine And.intro (sw_k hW (Nat.le_of_ble_eq_true rfl) rfl) ?_
    refine s_putsBack hW (gn_zr hT hz d) (by rw [e88]; exact hz) ?_
    rw [e88, nw_2]
    obtain ⟨q0, q1⟩ := hQ J1 hF c91
    by_cases hn0 : n = 0
    · refine GoF_wp1 40 ?_
      refine And.intro (fun _ => ?_) (fun h => absurd (by rw [hn0]; decide) h)
      refine And.intro (fun h => absurd (by rw [hn0]; rfl) h) (fun _ => ?_)
      exact q0 hn0
    · exact l_least (D := dfF C T d) hW hn (by omega) (fun j hj => by rw [nwo _ _ (by decide)]; exact c91 j hj) (q1 (by omega)) (n - 1) 0 0 1 rfl rfl (by omega)
  | succ r ih =>
    intro d n1 xd x5 x6 J1 I1 hxd hI hdr hU hF c91 hQ
    subst hxd
    subst hI
    have tl : ∀ (J2 : Nat → Nat → Int32) (x5 x6 : Option Value) (nn : Nat), FdM I J2 → (∀ j, j < n → J2 91 j = dfF C T (d + 1) j) → wp (nn + 20) (k + 7) mX8_like 151 [some (.ref 85), some (.int (nI s)), some (.int w), some (.int (nI n)), some (.int (nI d)), x5, x6] [] (nx, sl, ln, R, nw J2 (gnF T d)) Q := by
      intro J2 x5 x6 nn hF2 d91
      refine And.intro (sw_k hW (Nat.le_of_ble_eq_true rfl) rfl) ?_
      refine s_day hW hU (fun J3 hJ3 => ?_)
      obtain ⟨n2, hU2⟩ := gn_up hU
      refine ih (d + 1) n2 _ _ _ J3 _ (nI_1 d) rfl (by omega) hU2 (fun q h1 h2 h3 => by rw [hJ3 q h2 h3]; exact hF2 q h1 h2 h3) (fun j hj => by rw [hJ3 91 (by decide) (by decide)]; exact d91 j hj) hQ
    refine GoF_wp1 60 ?_
    refine And.intro (sw_k hW (Nat.le_of_ble_eq_true rfl) rfl) ?_
    refine Exists.intro _ (And.intro (sw_r hW (Nat.le_of_ble_eq_true rfl) rfl rfl) ?_)
    refine And.intro (sw_n hW (Nat.le_of_ble_eq_true rfl) rfl rfl (hs) (Nat.le_of_ble_eq_true rfl)) ?_
    rw [show nw J1 (gnF T d) 101 (nI s).toNatClampNeg = nI l by rw [ix (by omega), nwo _ _ (by decide), hF 101 (by decide) (by decide) (by decide)]; exact k7]
    refine And.intro (fun h => absurd h (nI_ge (show d < l by omega) (by omega))) (fun _ => ?_)
    refine And.intro (sw_k hW (Nat.le_of_ble_eq_true rfl) rfl) ?_
    refine Exists.intro _ (And.intro (sw_r hW (Nat.le_of_ble_eq_true rfl) rfl rfl) ?_)
    refine And.intro (by rw [cx24]; exact sw_n hW (Nat.le_of_ble_eq_true rfl) rfl rfl (show 24 * s + d < 96 by omega) (Nat.le_of_ble_eq_true rfl)) ?_
    rw [show nw J1 (gnF T d) 102 ((24 : Int32) * nI s + nI d).toNatClampNeg = C d by rw [cx24, ix (by omega), nwo _ _ (by decide), hF 102 (by decide) (by decide) (by decide)]; exact (hCC d (by omega)).symm]
    by_cases hN : C d = -1000000005
    · have d91 : ∀ j, j < n → J1 91 j = dfF C T (d + 1) j := fun j hj => by rw [df_s, if_pos hN]; exact c91 j hj
      refine GoF_wp1 60 ?_
      refine And.intro (fun _ => tl J1 _ _ _ hF d91) (fun _ => ?_)
      refine And.intro (fun _ => tl J1 _ _ _ hF d91) (fun h => absurd hN h)
    · exact l_like2 hW hn hU hN n 0 0 J1 _ rfl rfl (by omega) hF (fun j hj => by rw [if_neg (by omega)]; exact c91 j hj) (fun J2 x6 nn hF2 d91 => tl J2 _ x6 nn hF2 d91)
theorem l_like0 {nx sl : Nat} {ln : Nat → Nat} {R : Nat → Nat → Option Nat} {I : Nat → Nat → Int32} {Q : Option Value → Hp → Prop} {k : Nat} (hW : SW nx ln R) {n : Nat} {x1 x2 x5 x6 : Option Value} (hn : n ≤ 10) (hQ : ∀ I2, FdM I I2 → (∀ j, j < n → I2 91 j = 0) → GoF k mX8_like 68 [some (.ref 85), x1, x2, some (.int (nI n)), some (.int 0), x5, x6] [] (nx, sl, ln, R, I2) Q) : ∀ (r i : Nat) (xi : Int32) (I1 : Nat → Nat → Int32), xi = nI i → i + r = n → FdM I I1 → (∀ j, j < i → I1 91 j = 0) → GoF k mX8_like 45 [some (.ref 85), x1, x2, some (.int (nI n)), some (.int xi), x5, x6] [] (nx, sl, ln, R, I1) Q := by
  intro r
  induction r with
  | zero =>
    intro i xi I1 hxi hir hF h0
    subst hxi
    have hid : i = n := by omega
    subst hid
    refine GoF_wp1 40 ?_
    exact And.intro (fun _ => hQ I1 hF h0) (fun h => absurd (Int32.le_refl _) h)
  | succ r ih =>
    intro i xi I1 hxi hir hF h0
    subst hxi
    refine GoF_wp1 40 ?_
    refine And.intro (fun h => absurd h (nI_ge (show i < n by omega) (by omega))) (fun _ => ?_)
    refine And.intro (sw_k hW (Nat.le_of_ble_eq_true rfl) rfl) ?_
    refine Exists.intro _ (And.intro (sw_r hW (Nat.le_of_ble_eq_true rfl) rfl rfl) ?_)
    refine And.intro (sw_n hW (Nat.le_of_ble_eq_true rfl) rfl rfl (show i < 10 by omega) (Nat.le_of_ble_eq_true rfl)) ?_
    rw [ix (show i < 2147483648 by omega)]
    refine ih (i + 1) _ _ (nI_1 i) (by omega) (fun q h1 h2 h3 => by rw [up2_ne h1]; exact hF q h1 h2 h3) (fun j hj => ?_)
    rw [up2_eq]
    by_cases e : j = i
    · subst e; rw [up1_eq]
    · rw [up1_ne e]; exact h0 j (by omega)
theorem pub_like (v w : Int32) : Pub mX7_like mX8_like [.int v, .int w] := by
  intro k nx sl ln R I hS
  have hW := hS.1
  have ht := tw5
  obtain ⟨n, m, hT, hC, hL, hG, hZ, hZ7, hZ8, -⟩ := id hS.2.1
  have hn := hT.2.1
  refine Go_wp 60 rfl ?_
  refine c_isSheet (fun s hs e => ?_) (fun e => ?_)
  · subst e
    refine And.intro (fun h9 => absurd h9 (by decide)) (fun _ => ?_)
    obtain ⟨s0, s1, ⟨l, l4, k6, k7⟩, k8⟩ := hS.2.2.2.1 s hs
    refine c_isIn (m := 0) (n := 2) rfl (fun a ha e => ?_) (fun e => ?_)
    · refine And.intro (fun _ => ?_) (fun h9 => absurd (by decide) h9)
      refine And.intro (sw_k hW (Nat.le_of_ble_eq_true rfl) rfl) ?_
      refine Exists.intro _ (And.intro (sw_r hW (Nat.le_of_ble_eq_true rfl) rfl rfl) ?_)
      refine And.intro (w_ash hW hs) (Exists.intro _ (And.intro (w_rsh hW hs) ?_))
      refine And.intro (w_shk hW hs) ?_
      refine c_isMissing hW (w_shk hW hs) (fun c => ?_) (fun c => ?_)
      · rw [s0] at c
        have n100 : I 100 (nI s).toNatClampNeg = I 100 s := by rw [ix (by omega)]
        refine And.intro (fun h9 => absurd h9 (by decide)) (fun _ => ?_)
        refine ⟨_, rfl, ?_⟩
        refine Go_wp 60 rfl ?_
        refine s_isSheet (fun _ _ _ => ?_) (fun e => absurd rfl (e s hs))
        refine And.intro (fun h9 => absurd h9 (by decide)) (fun _ => ?_)
        refine s_isIn (n := 2) rfl (fun _ _ _ => ?_) (fun e2 => absurd e (e2 a ha))
        refine And.intro (fun _ => ?_) (fun h9 => absurd (by decide) h9)
        refine And.intro (sw_k hW (Nat.le_of_ble_eq_true rfl) rfl) ?_
        refine Exists.intro _ (And.intro (sw_r hW (Nat.le_of_ble_eq_true rfl) rfl rfl) ?_)
        refine And.intro (sw_n hW (Nat.le_of_ble_eq_true rfl) rfl rfl (hs) (Nat.le_of_ble_eq_true rfl)) ?_
        rw [n100, c]
        refine And.intro (fun h9 => absurd h9 (by decide)) (fun _ => ?_)
        exact pub_end hS
      · rw [s0] at c
        have hg2 : (0 : Int32) ≤ I 100 s := by
          rcases s1 with q | q | q
          · exact absurd q c
          · rw [q]; decide
          · rw [q]; decide
        have mdl : ∀ (I2 : Nat → Nat → Int32) (x : Int32), Fdd I I2 → (n = 0 → x = -1000000005) → (0 < n → x = (if w = 0 then nI (lsF (dfF (I (55 + 2 * s)) (I 86) l) (n - 1)) else dfF (I (55 + 2 * s)) (I 86) l (lsF (dfF (I (55 + 2 * s)) (I 86) l) (n - 1)))) → Go (k + 20) mX8_like [.ref 85, .int (nI s), .int w] (nx, sl, ln, R, I2) (fun r2 h2 => r2 = some (.int x) ∧ ∃ (nx2 sl2 : Nat) (ln2 : Nat → Nat) (R2 : Nat → Nat → Option Nat) (I2 : Nat → Nat → Int32), h2 = (nx2, sl2, ln2, R2, I2) ∧ Sim nx2 ln2 R2 I2 ∧ nx2 ≤ nx + 2 ∧ sl2 ≤ sl + 200 ∧ (nx2 = nx ∨ nx2 = nx + 2) ∧ sl ≤ sl2) := by
          intro I2 x hF2 hx0 hx1
          have h86 : I2 86 = I 86 := hF2 86 (by omega) (by omega) (by omega) (by omega)
          have h88 : I2 88 = I 88 := hF2 88 (by omega) (by omega) (by omega) (by omega)
          have n100 : I2 100 (nI s).toNatClampNeg = I 100 s := by rw [ix (by omega), hF2 100 (by omega) (by omega) (by omega) (by omega)]
          refine Go_wp 60 rfl ?_
          refine s_isSheet (fun _ _ _ => ?_) (fun e => absurd rfl (e s hs))
          refine And.intro (fun h9 => absurd h9 (by decide)) (fun _ => ?_)
          refine s_isIn (n := 2) rfl (fun _ _ _ => ?_) (fun e2 => absurd e (e2 a ha))
          refine And.intro (fun _ => ?_) (fun h9 => absurd (by decide) h9)
          refine And.intro (sw_k hW (Nat.le_of_ble_eq_true rfl) rfl) ?_
          refine Exists.intro _ (And.intro (sw_r hW (Nat.le_of_ble_eq_true rfl) rfl rfl) ?_)
          refine And.intro (sw_n hW (Nat.le_of_ble_eq_true rfl) rfl rfl (hs) (Nat.le_of_ble_eq_true rfl)) ?_
          rw [n100]
          refine And.intro (fun _ => ?_) (fun h9 => absurd hg2 h9)
          refine And.intro (sw_k hW (Nat.le_of_ble_eq_true rfl) rfl) ?_
          refine s_thinks hW (by rw [h86]; exact hZ) (by rw [h88]; exact hZ8) ?_
          rw [h86]
          refine And.intro (sw_k hW (Nat.le_of_ble_eq_true rfl) rfl) ?_
          refine Exists.intro _ (And.intro (sw_r hW (Nat.le_of_ble_eq_true rfl) rfl rfl) ?_)
          refine And.intro (sw_n hW (Nat.le_of_ble_eq_true rfl) rfl rfl ((Nat.le_of_ble_eq_true rfl)) (Nat.le_of_ble_eq_true rfl)) ?_
          rw [show up1 I2 88 (I 86) 86 (1 : Int32).toNatClampNeg = nI n by rw [up1_ne (by decide), h86]; exact hT.1]
          refine l_like0 (I := up1 I2 88 (I 86)) hW hn (fun I4 hF4 h0 => ?_) n 0 0 _ rfl (by omega) (fun _ _ _ _ => rfl) (fun j hj => absurd hj (by omega))
          refine l_like1 (I := up1 I2 88 (I 86)) (C := I (55 + 2 * s)) (T := I 86) hW hs l4 (by rw [up1_ne (by decide), hF2 101 (by omega) (by omega) (by omega) (by omega)]; exact k7) hT hZ up1_eq (fun i hi => by rw [up1_ne (by decide), hF2 102 (by omega) (by omega) (by omega) (by omega)]; exact k8 i hi) l 0 n 0 _ _ I4 I4 rfl (nw_is (by rw [hF4 86 (by decide) (by decide) (by decide), up1_ne (by decide)]; exact h86)).symm (by omega) hT hF4 (fun j hj => by rw [h0 j hj]; rfl) (fun J2 hJ2 d91 => ?_)
          have hsim : Sim nx ln R (nw J2 (I 86)) := by
            refine hS.scr8 (fun o h1 h2 => ?_) ?_
            · unfold scO at h1
              by_cases e : o = 86
              · subst e; exact up1_eq
              · rw [nwo _ _ e, hJ2 o (by omega) (by omega) (by omega), up1_ne h2, hF2 o (by omega) (by omega) (by omega) (by omega)]
            · rw [nwo _ _ (by decide), hJ2 88 (by decide) (by decide) (by decide), up1_eq]; exact hZ
          refine ⟨fun h => ?_, fun h => ?_⟩
          · rw [hx0 h]; exact pub_end hsim
          · rw [hx1 h]; exact pub_end hsim
        refine And.intro (fun _ => ?_) (fun h9 => absurd rfl h9)
        refine And.intro (sw_k hW (Nat.le_of_ble_eq_true rfl) rfl) ?_
        refine Exists.intro _ (And.intro (sw_r hW (Nat.le_of_ble_eq_true rfl) rfl rfl) ?_)
        refine And.intro (w_t hW ht) ?_
        rw [hC.1, hT.1]
        by_cases hn0 : n = 0
        · refine And.intro (fun h => absurd (by rw [hn0]; rfl) h) (fun _ => ?_)
          exact ⟨_, rfl, mdl I _ (fun _ _ _ _ _ => rfl) (fun _ => rfl) (fun h => absurd h (by omega))⟩
        · refine And.intro (fun _ => ?_) (fun h => absurd (fun q => absurd ((nI_eq (b := 0) (by omega) (by decide)).mp q) (by omega)) h)
          refine And.intro (sw_k hW (Nat.le_of_ble_eq_true rfl) rfl) ?_
          refine Exists.intro _ (And.intro (sw_r hW (Nat.le_of_ble_eq_true rfl) rfl rfl) ?_)
          refine And.intro (w_ash hW hs) (Exists.intro _ (And.intro (w_rsh hW hs) ?_))
          refine And.intro (sw_k hW (Nat.le_of_ble_eq_true rfl) rfl) ?_
          refine c_difs (C := I (55 + 2 * s)) hW hs l4 k6 hC hT hL (fun _ _ => rfl) (fun I2 hF2 d84 => ?_)
          refine l_cleast (D := dfF (I (55 + 2 * s)) (I 86) l) hW hn (by rw [hF2 5 (by omega) (by omega) (by omega) (by omega), hC.1]; exact hT.1) d84 ?_ (n - 1) 0 0 1 rfl rfl (by omega)
          exact ⟨_, rfl, mdl I2 _ hF2 (fun h => absurd h hn0) (fun _ => rfl)⟩
    · refine And.intro (fun h9 => absurd rfl h9) (fun _ => ?_)
      refine ⟨_, rfl, ?_⟩
      refine Go_wp 60 rfl ?_
      refine s_isSheet (fun _ _ _ => ?_) (fun e => absurd rfl (e s hs))
      refine And.intro (fun h9 => absurd h9 (by decide)) (fun _ => ?_)
      refine s_isIn (n := 2) rfl (fun j hj e3 => absurd e3 (e j hj)) (fun _ => ?_)
      refine And.intro (fun h9 => absurd rfl h9) (fun _ => ?_)
      exact pub_end hS
  · refine And.intro (fun _ => ?_) (fun h9 => absurd rfl h9)
    refine ⟨_, rfl, ?_⟩
    refine Go_wp 60 rfl ?_
    refine s_isSheet (fun j hj e2 => absurd e2 (e j hj)) (fun _ => ?_)
    refine And.intro (fun _ => ?_) (fun h9 => absurd rfl h9)
    exact pub_end hS
