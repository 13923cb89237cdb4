/-! Public methods: which jug is like a sheet: the component's sums. -/
def abF (x : Int32) : Int32 := if 0 ≤ x then x else 0 - x
def mkF (T : Nat → Int32) (d j : Nat) : Int32 := if j < (gnF T d 1).toNatClampNeg then gnF T d (24 + 5 * j + 2) else 0
def dfF (C T : Nat → Int32) : Nat → Nat → Int32
  | 0, _ => 0
  | d + 1, j => if C d = -1000000005 then dfF C T d j else dfF C T d j + abF (mkF T d j - C d)
theorem df_s (C T : Nat → Int32) (d j : Nat) : dfF C T (d + 1) j = if C d = -1000000005 then dfF C T d j else dfF C T d j + abF (mkF T d j - C d) := rfl
def Fdd (I I' : Nat → Nat → Int32) : Prop := ∀ o, (o < 20 ∨ 34 < o) → ¬ o = 3 → ¬ o = 4 → ¬ o = 84 → I' o = I o
theorem l_dif2 {nx sl : Nat} {ln : Nat → Nat} {R : Nat → Nat → Option Nat} {I : Nat → Nat → Int32} {Q : Option Value → Hp → Prop} {k : Nat} (hW : SW nx ln R) {s n m n1 d : Nat} {C T : Nat → Int32} {xd : Int32} (hs : s < 4) (hd : d < 24) (hC5 : I 5 2 = nI n) (hn : n ≤ 10) (hU : IT (gnF T d) n1 m) (hCC : ∀ i, i < 24 → I (55 + 2 * s) i = C i) (hN : ¬ C d = -1000000005) : ∀ (r i : Nat) (xi : Int32) (x4 : Option Value) (I1 : Nat → Nat → Int32), xi = nI i → i + r = n → CT I1 20 (gnF T d) n1 m → Fdd I I1 → (∀ j, j < n → I1 84 j = if j < i then dfF C T (d + 1) j else dfF C T d j) → (∀ I2 x3 x4, CT I2 20 (gnF T d) n1 m → Fdd I I2 → (∀ j, j < n → I2 84 j = dfF C T (d + 1) j) → GoF (k + 6) mX7_sumDifferences 21 [some (.ref 0), some (.ref (54 + 2 * s)), some (.int (nI d + 1)), x3, x4] [] (nx, sl, ln, R, I2) Q) → GoF (k + 6) mX7_sumDifferences 51 [some (.ref 0), some (.ref (54 + 2 * s)), some (.int (nI d)), some (.int xi), x4] [] (nx, sl, ln, R, I1) Q := by
  have ht := tw5
  have ht2 : Tw 20 := Or.inr (Or.inl rfl)
  have hn1 := hU.2.1
  intro r
  induction r with
  | zero =>
    intro i xi x4 I1 hxi hir hC hF c84' hQ
    subst hxi
    have hid : i = n := by omega
    subst hid
    refine GoF_wp1 60 ?_
    refine And.intro (sw_k hW (Nat.le_of_ble_eq_true rfl) rfl) ?_
    refine Exists.intro _ (And.intro (sw_r hW (Nat.le_of_ble_eq_true rfl) rfl rfl) ?_)
    refine And.intro (w_t hW ht) ?_
    rw [show I1 5 2 = nI i by rw [hF 5 (by omega) (by omega) (by omega) (by omega)]; exact hC5]
    refine And.intro (fun _ => ?_) (fun h => absurd (Int32.le_refl _) h)
    exact hQ I1 _ _ hC hF (fun j hj => by rw [c84' j hj, if_pos hj])
  | succ r ih =>
    intro i xi x4 I1 hxi hir hC hF c84' hQ
    subst hxi
    have c84 : I1 84 i = dfF C T d i := by rw [c84' i (by omega), if_neg (by omega)]
    have cC : I1 (55 + 2 * s) d = C d := by rw [hF _ (by omega) (by omega) (by omega) (by omega)]; exact hCC d hd
    refine GoF_wp1 60 ?_
    refine And.intro (sw_k hW (Nat.le_of_ble_eq_true rfl) rfl) ?_
    refine Exists.intro _ (And.intro (sw_r hW (Nat.le_of_ble_eq_true rfl) rfl rfl) ?_)
    refine And.intro (w_t hW ht) ?_
    rw [show I1 5 2 = nI n by rw [hF 5 (by omega) (by omega) (by omega) (by omega)]; exact hC5]
    refine And.intro (fun h => absurd h (nI_ge (show i < n by omega) (by omega))) (fun _ => ?_)
    refine And.intro (sw_k hW (Nat.le_of_ble_eq_true rfl) rfl) ?_
    refine Exists.intro _ (And.intro (sw_r hW (Nat.le_of_ble_eq_true rfl) rfl rfl) ?_)
    refine And.intro (w_t hW ht2) ?_
    rw [hC.1, hU.1]
    by_cases hi : i < n1
    · refine And.intro (fun h => absurd h (nI_ge hi (by omega))) (fun _ => ?_)
      refine And.intro (sw_k hW (Nat.le_of_ble_eq_true rfl) rfl) ?_
      refine Exists.intro _ (And.intro (sw_r hW (Nat.le_of_ble_eq_true rfl) rfl rfl) ?_)
      refine And.intro (w_t hW ht2) (Exists.intro _ (And.intro (w_r1 hW ht2) ?_))
      refine And.intro (w_aj hW ht2 (show i < 10 by omega)) (Exists.intro _ (And.intro (w_jug hW ht2 (show i < 10 by omega)) ?_))
      refine And.intro (w_kj hW ht2 (show i < 10 by omega)) ?_
      rw [hC.2.1 i hi 2 (by decide)]
      have hmk : gnF T d (24 + 5 * i + 2) = mkF T d i := by unfold mkF; rw [hU.1, ix (by omega), if_pos hi]
      refine And.intro (sw_k hW (Nat.le_of_ble_eq_true rfl) rfl) ?_
      refine Exists.intro _ (And.intro (sw_r hW (Nat.le_of_ble_eq_true rfl) rfl rfl) ?_)
      refine And.intro (sw_n hW (Nat.le_of_ble_eq_true rfl) rfl rfl (show i < 10 by omega) (Nat.le_of_ble_eq_true rfl)) ?_
      refine And.intro (w_shk hW hs) (Exists.intro _ (And.intro (w_rq hW hs) ?_))
      refine And.intro (w_ceq hW hs (show d < 24 by omega)) ?_
      rw [ix (show d < 2147483648 by omega), ix (show i < 2147483648 by omega), c84, cC]
      refine And.intro (sw_n hW (Nat.le_of_ble_eq_true rfl) rfl rfl (show i < 10 by omega) (Nat.le_of_ble_eq_true rfl)) ?_
      rw [ix (show i < 2147483648 by omega)]
      refine ih (i + 1) _ _ _ (nI_1 i) (by omega) (hC.keep hn1 (fun q h1 h2 => up2_ne (by omega))) (fun q h1 h2 h3 h4 => by rw [up2_ne h4]; exact hF q h1 h2 h3 h4) (fun j hj => ?_) hQ
      rw [up2_eq]
      by_cases hj2 : j = i
      · subst hj2
        rw [up1_eq, if_pos (show j < j + 1 by omega), df_s, if_neg hN, ← hmk]
        rfl
      · rw [up1_ne hj2, c84' j hj]
        by_cases hj3 : j < i
        · rw [if_pos hj3, if_pos (by omega)]
        · rw [if_neg hj3, if_neg (by omega)]
    · refine And.intro (fun _ => ?_) (fun h => absurd (nI_le (by omega) (by omega)) h)
      have hmk : 0 = mkF T d i := by unfold mkF; rw [hU.1, ix (by omega), if_neg hi]
      refine And.intro (sw_k hW (Nat.le_of_ble_eq_true rfl) rfl) ?_
      refine Exists.intro _ (And.intro (sw_r hW (Nat.le_of_ble_eq_true rfl) rfl rfl) ?_)
      refine And.intro (sw_n hW (Nat.le_of_ble_eq_true rfl) rfl rfl (show i < 10 by omega) (Nat.le_of_ble_eq_true rfl)) ?_
      refine And.intro (w_shk hW hs) (Exists.intro _ (And.intro (w_rq hW hs) ?_))
      refine And.intro (w_ceq hW hs (show d < 24 by omega)) ?_
      rw [ix (show d < 2147483648 by omega), ix (show i < 2147483648 by omega), c84, cC]
      refine And.intro (sw_n hW (Nat.le_of_ble_eq_true rfl) rfl rfl (show i < 10 by omega) (Nat.le_of_ble_eq_true rfl)) ?_
      rw [ix (show i < 2147483648 by omega)]
      refine ih (i + 1) _ _ _ (nI_1 i) (by omega) (hC.keep hn1 (fun q h1 h2 => up2_ne (by omega))) (fun q h1 h2 h3 h4 => by rw [up2_ne h4]; exact hF q h1 h2 h3 h4) (fun j hj => ?_) hQ
      rw [up2_eq]
      by_cases hj2 : j = i
      · subst hj2
        rw [up1_eq, if_pos (show j < j + 1 by omega), df_s, if_neg hN, ← hmk]
        rfl
      · rw [up1_ne hj2, c84' j hj]
        by_cases hj3 : j < i
        · rw [if_pos hj3, if_pos (by omega)]
        · rw [if_neg hj3, if_neg (by omega)]
theorem gn_up {T : Nat → Int32} {m n1 d : Nat} (h : IT (gnF T d) n1 m) : ∃ n2, IT (gnF T (d + 1)) n2 m := by
  obtain ⟨n2, -, h2⟩ := it_gn h 1
  exact ⟨n2, h2⟩
theorem l_dif1 {nx sl : Nat} {ln : Nat → Nat} {R : Nat → Nat → Option Nat} {I : Nat → Nat → Int32} {Q : Option Value → Hp → Prop} {k : Nat} (hW : SW nx ln R) {s l n m : Nat} {C T : Nat → Int32} (hs : s < 4) (l4 : l ≤ 24) (k6 : I (54 + 2 * s) 1 = nI l) (hC5 : I 5 2 = nI n) (hT : IT T n m) (hL : LT nx ln R I T m) (hCC : ∀ i, i < 24 → I (55 + 2 * s) i = C i) : ∀ (r d n1 : Nat) (xd : Int32) (x3 x4 : Option Value) (I1 : Nat → Nat → Int32), xd = nI d → d + r = l → CT I1 20 (gnF T (d - 1)) n1 m → IT (gnF T (d - 1)) n1 m → Fdd I I1 → (∀ j, j < n → I1 84 j = dfF C T d j) → (∀ I2, Fdd I I2 → (∀ j, j < n → I2 84 j = dfF C T l j) → Q none (nx, sl, ln, R, I2)) → GoF (k + 6) mX7_sumDifferences 21 [some (.ref 0), some (.ref (54 + 2 * s)), some (.int xd), x3, x4] [] (nx, sl, ln, R, I1) Q := by
  have ht := tw5
  have ht2 : Tw 20 := Or.inr (Or.inl rfl)
  have hn := hT.2.1
  intro r
  induction r with
  | zero =>
    intro d n1 xd x3 x4 I1 hxd hdr hC hU hF c84 hQ
    subst hxd
    have hid : d = l := by omega
    subst hid
    refine GoF_wp1 60 ?_
    refine And.intro (w_shk hW hs) ?_
    rw [show I1 (54 + 2 * s) 1 = nI d by rw [hF _ (by omega) (by omega) (by omega) (by omega)]; exact k6]
    refine And.intro (fun _ => ?_) (fun h => absurd (Int32.le_refl _) h)
    exact hQ I1 hF c84
  | succ r ih =>
    intro d n1 xd x3 x4 I1 hxd hdr hC hU hF c84 hQ
    subst hxd
    have tl : ∀ (I2 : Nat → Nat → Int32) (n2 nn : Nat), CT I2 20 (gnF T d) n2 m → IT (gnF T d) n2 m → Fdd I I2 → (∀ j, j < n → I2 84 j = dfF C T d j) → wp (nn + 40) (k + 6) mX7_sumDifferences 41 [some (.ref 0), some (.ref (54 + 2 * s)), some (.int (nI d)), x3, x4] [] (nx, sl, ln, R, I2) Q := by
      intro I2 n2 nn hC2 hU2 hF2 d84
      refine And.intro (w_shk hW hs) ?_
      refine c_isNumber hW (w_shk hW hs) (show I2 (54 + 2 * s) 1 = nI l by rw [hF2 _ (by omega) (by omega) (by omega) (by omega)]; exact k6) l4 (show d < l by omega) (w_rq hW hs) (w_ceq hW hs (by omega)) ?_
      rw [show I2 (55 + 2 * s) d = C d by rw [hF2 _ (by omega) (by omega) (by omega) (by omega)]; exact hCC d (by omega)]
      by_cases hN : C d = -1000000005
      · rw [if_pos hN]
        refine And.intro (fun _ => ?_) (fun h9 => absurd rfl h9)
        refine ih (d + 1) n2 _ _ _ I2 (nI_1 d) (by omega) hC2 hU2 hF2 (fun j hj => ?_) hQ
        rw [df_s, if_pos hN]
        exact d84 j hj
      · rw [if_neg hN]
        refine And.intro (fun h9 => absurd h9 (by decide)) (fun _ => ?_)
        refine l_dif2 (xd := 0) (n1 := n2) hW hs (by omega) hC5 hn hU2 hCC hN n 0 0 _ I2 rfl (by omega) hC2 hF2 (fun j hj => by rw [if_neg (by omega)]; exact d84 j hj) (fun I3 x3 x4 hC3 hF3 e84 => ?_)
        exact ih (d + 1) n2 _ _ _ I3 (nI_1 d) (by omega) hC3 hU2 hF3 e84 hQ
    refine GoF_wp1 80 ?_
    refine And.intro (w_shk hW hs) ?_
    rw [show I1 (54 + 2 * s) 1 = nI l by rw [hF _ (by omega) (by omega) (by omega) (by omega)]; exact k6]
    refine And.intro (fun h => absurd h (nI_ge (show d < l by omega) (by omega))) (fun _ => ?_)
    by_cases hd0 : d = 0
    · refine And.intro (fun _ => ?_) (fun h => absurd (by rw [hd0]; decide) h)
      rw [show d - 1 = d by omega] at hC hU
      exact tl I1 n1 _ hC hU hF c84
    · refine And.intro (fun h => absurd h (nI_nle (by omega) (by omega))) (fun _ => ?_)
      refine And.intro (sw_k hW (Nat.le_of_ble_eq_true rfl) rfl) ?_
      refine Exists.intro _ (And.intro (sw_r hW (Nat.le_of_ble_eq_true rfl) rfl rfl) ?_)
      refine And.intro (w_t hW ht2) ?_
      have hL1 : LT nx ln R I1 (gnF T (d - 1)) m := hL.keep (fun o ho => hF o (by omega) (by omega) (by omega) (by omega)) (fun p hp => gn_hi hT hp _)
      refine c_passDays (d := 1) hW ht2 hC hU hL1 (by decide) (fun I2 n2 hC2 hU2 hF2 => ?_)
      rw [gn_1, show d - 1 + 1 = d by omega] at hC2 hU2
      refine tl I2 n2 _ hC2 hU2 (fun q h1 h2 h3 h4 => ?_) (fun j hj => ?_)
      · rw [hF2 q (by omega) h2 h3]; exact hF q h1 h2 h3 h4
      · rw [hF2 84 (by omega) (by omega) (by omega)]; exact c84 j hj
theorem c_difs {nx sl : Nat} {ln : Nat → Nat} {R : Nat → Nat → Option Nat} {I : Nat → Nat → Int32} {Q : Option Value → Hp → Prop} {k : Nat} (hW : SW nx ln R) {s l n m : Nat} {C T : Nat → Int32} (hs : s < 4) (l4 : l ≤ 24) (k6 : I (54 + 2 * s) 1 = nI l) (hC : CT I 5 T n m) (hT : IT T n m) (hL : LT nx ln R I T m) (hCC : ∀ i, i < 24 → I (55 + 2 * s) i = C i) (hQ : ∀ I2, Fdd I I2 → (∀ j, j < n → I2 84 j = dfF C T l j) → Q none (nx, sl, ln, R, I2)) : Go (k + 6) mX7_sumDifferences [.ref 0, .ref (54 + 2 * s)] (nx, sl, ln, R, I) Q := by
  have ht := tw5
  have ht2 : Tw 20 := Or.inr (Or.inl rfl)
  have hn := hT.2.1
  refine Go_wp 60 rfl ?_
  refine And.intro (sw_k hW (Nat.le_of_ble_eq_true rfl) rfl) ?_
  refine Exists.intro _ (And.intro (sw_r hW (Nat.le_of_ble_eq_true rfl) rfl rfl) ?_)
  refine c_fill (L := 10) hW ⟨rfl, sw_lt hW (by decide)⟩ (by rw [hW.2.1 84 (by decide)]; rfl) (by omega) ?_
  refine And.intro (sw_k hW (Nat.le_of_ble_eq_true rfl) rfl) ?_
  refine Exists.intro _ (And.intro (sw_r hW (Nat.le_of_ble_eq_true rfl) rfl rfl) ?_)
  refine And.intro (sw_k hW (Nat.le_of_ble_eq_true rfl) rfl) ?_
  refine Exists.intro _ (And.intro (sw_r hW (Nat.le_of_ble_eq_true rfl) rfl rfl) ?_)
  refine And.intro (w_t hW ht2) ?_
  have hC1 : CT (up1 I 84 (fun p => if p < 10 then 0 else I 84 p)) 5 T n m := hC.keep hn (fun q h1 h2 => up1_ne (by omega))
  refine c_become hW ht2 ht (by decide) hC1 hT.1 hn (fun I2 hC2 hF2 => ?_)
  have hF3 : Fdd I I2 := fun q h1 h2 h3 h4 => by rw [hF2 q (by omega), up1_ne h4]
  refine l_dif1 (I := I) (C := C) hW hs l4 k6 (by rw [hC.1]; exact hT.1) hT hL hCC l 0 n 0 _ _ I2 rfl (by omega) hC2 hT hF3 (fun j hj => ?_) hQ
  rw [hF2 84 (by omega), up1_eq, if_pos (by omega)]
  rfl
