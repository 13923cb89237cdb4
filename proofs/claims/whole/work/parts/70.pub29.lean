/-! Public methods: days told are checked. -/
/-- what is due: GOT and MARKS behind each day -/
def xdF (T : Nat → Int32) (j : Nat) : Int32 := if j % 2 = 0 then gnF T (j / 2 + 1) 4 else maF (gnF T (j / 2 + 1)) (gnF T (j / 2 + 1) 1).toNatClampNeg
def cpF (X W : Nat → Int32) (q : Nat) : Nat → Nat → Nat
  | 0, j => j
  | r + 1, j => if j < q ∧ W j = X j then cpF X W q r (j + 1) else j
theorem cp_s (X W : Nat → Int32) (q r j : Nat) : cpF X W q (r + 1) j = if j < q ∧ W j = X j then cpF X W q r (j + 1) else j := rfl
def caF (q D e : Nat) : Int32 := if e = q ∧ e = 2 * D then 0 else nI (1 + e)
theorem xd_e (T : Nat → Int32) (i : Nat) : xdF T (2 * i) = gnF T (i + 1) 4 := by
  unfold xdF
  rw [if_pos (by omega), show 2 * i / 2 = i by omega]
theorem xd_o {T : Nat → Int32} {i n m : Nat} (h : IT (gnF T (i + 1)) n m) : xdF T (2 * i + 1) = maF (gnF T (i + 1)) n := by
  have := h.2.1
  unfold xdF
  rw [if_neg (by omega), show (2 * i + 1) / 2 = i by omega, h.1, ix (by omega)]
theorem one_add (e : Nat) : (1 : Int32) + nI e = nI (1 + e) := nI_add 1 e
theorem l_ccmp {nx sl : Nat} {ln : Nat → Nat} {R : Nat → Nat → Option Nat} {I : Nat → Nat → Int32} {Q : Option Value → Hp → Prop} {k : Nat} (hW : SW nx ln R) {n m q D : Nat} {T W : Nat → Int32} (hT : IT T n m) (hL : LT nx ln R I T m) (hq : q ≤ 60) (hD : D ≤ 30) (hW8 : ∀ j, j < q → I 83 j = W j) : ∀ (r i n1 : Nat) (xr xi : Int32) (I1 : Nat → Nat → Int32), xi = nI i → xr = nI (2 * i) → i + r = D → CT I1 20 (gnF T i) n1 m → IT (gnF T i) n1 m → Fr 20 I I1 → 2 * i ≤ q → (∀ I2, Fr 20 I I2 → Q (some (.int (caF q D (cpF (xdF T) W q (2 * r) (2 * i))))) (nx, sl, ln, R, I2)) → GoF (k + 6) mX7_comparedWithDays 16 [some (.ref 0), some (.int (nI q)), some (.int (nI D)), some (.int xr), some (.int xi)] [] (nx, sl, ln, R, I1) Q := by
  have ht2 : Tw 20 := Or.inr (Or.inl rfl)
  intro r
  induction r with
  | zero =>
    intro i n1 xr xi I1 hxi hxr hir hC hU hF hiq hQ
    subst hxi
    subst hxr
    have hid : i = D := by omega
    subst hid
    have hQ2 := hQ I1 hF
    rw [show cpF (xdF T) W q (2 * 0) (2 * i) = 2 * i from rfl] at hQ2
    unfold caF at hQ2
    refine GoF_wp1 60 ?_
    refine And.intro (fun _ => ?_) (fun h => absurd (Int32.le_refl _) h)
    by_cases e : 2 * i = q
    · rw [if_pos ⟨e, rfl⟩] at hQ2
      refine And.intro (fun _ => ?_) (fun h => absurd (nI_le (by omega) (by omega)) h)
      exact hQ2
    · rw [if_neg (fun h => e h.1), ← one_add] at hQ2
      refine And.intro (fun h => absurd h (nI_ge (by omega) (by omega))) (fun _ => ?_)
      exact hQ2
  | succ r ih =>
    intro i n1 xr xi I1 hxi hxr hir hC hU hF hiq hQ
    subst hxi
    subst hxr
    refine GoF_wp1 80 ?_
    refine And.intro (fun h => absurd h (nI_ge (show i < D by omega) (by omega))) (fun _ => ?_)
    refine And.intro (sw_k hW (Nat.le_of_ble_eq_true rfl) rfl) ?_
    refine Exists.intro _ (And.intro (sw_r hW (Nat.le_of_ble_eq_true rfl) rfl rfl) ?_)
    refine And.intro (w_t hW ht2) ?_
    have hL1 : LT nx ln R I1 (gnF T i) m := hL.keep (fun o ho => hF o (by omega) (by omega) (by omega)) (fun p hp => gn_hi hT hp i)
    refine c_passDays (d := 1) hW ht2 hC hU hL1 (by decide) (fun I2 n2 hC2 hU2 hF2 => ?_)
    rw [gn_1] at hC2 hU2
    have hF3 := hF.tr hF2
    have hQ2 := hQ I2 hF3
    have w83 : ∀ j, j < q → I2 83 j = W j := fun j hj => by rw [hF3 83 (by omega) (by omega) (by omega)]; exact hW8 j hj
    rw [show 2 * (r + 1) = (2 * r + 1) + 1 by omega, cp_s] at hQ2
    have bad : ∀ e, e < 2 * D → caF q D e = 1 + nI e := fun e he => by unfold caF; rw [if_neg (fun h => by omega), one_add]
    by_cases h1 : 2 * i < q
    · refine And.intro (fun h => absurd h (nI_ge h1 (by omega))) (fun _ => ?_)
      refine And.intro (sw_k hW (Nat.le_of_ble_eq_true rfl) rfl) ?_
      refine Exists.intro _ (And.intro (sw_r hW (Nat.le_of_ble_eq_true rfl) rfl rfl) ?_)
      refine And.intro (sw_n hW (Nat.le_of_ble_eq_true rfl) rfl rfl (show 2 * i < 60 by omega) (Nat.le_of_ble_eq_true rfl)) ?_
      rw [ix (show 2 * i < 2147483648 by omega), w83 _ h1]
      refine And.intro (sw_k hW (Nat.le_of_ble_eq_true rfl) rfl) ?_
      refine Exists.intro _ (And.intro (sw_r hW (Nat.le_of_ble_eq_true rfl) rfl rfl) ?_)
      refine And.intro (w_t hW ht2) ?_
      rw [hC2.2.2.2.2.2.1]
      refine And.intro (fun e => ?_) (fun e => ?_)
      · rw [if_pos ⟨h1, by rw [xd_e]; exact e⟩, cp_s] at hQ2
        have n1' : nI (2 * i) + 1 = nI (2 * i + 1) := nI_1 _
        by_cases h2 : 2 * i + 1 < q
        · refine And.intro (fun h => absurd h (by rw [n1']; exact nI_ge h2 (by omega))) (fun _ => ?_)
          refine And.intro (sw_k hW (Nat.le_of_ble_eq_true rfl) rfl) ?_
          refine Exists.intro _ (And.intro (sw_r hW (Nat.le_of_ble_eq_true rfl) rfl rfl) ?_)
          refine And.intro (by rw [n1']; exact sw_n hW (Nat.le_of_ble_eq_true rfl) rfl rfl (show 2 * i + 1 < 60 by omega) (Nat.le_of_ble_eq_true rfl)) ?_
          rw [show I2 83 (nI (2 * i) + 1).toNatClampNeg = W (2 * i + 1) by rw [n1', ix (by omega)]; exact w83 _ h2]
          refine And.intro (sw_k hW (Nat.le_of_ble_eq_true rfl) rfl) ?_
          refine Exists.intro _ (And.intro (sw_r hW (Nat.le_of_ble_eq_true rfl) rfl rfl) ?_)
          refine And.intro (w_t hW ht2) ?_
          refine c_allMarks hW ht2 hC2 hU2.1 hU2.2.1 ?_
          refine And.intro (fun e2 => ?_) (fun e2 => ?_)
          · rw [if_pos ⟨h2, by rw [xd_o hU2]; exact e2⟩] at hQ2
            refine ih (i + 1) n2 _ _ I2 (nI_1 i) ?_ (by omega) hC2 hU2 hF3 (by omega) ?_
            · rw [n1', nI_1]; congr 1
            · intro I3 hF4
              have hQ3 := hQ I3 hF4
              rw [show 2 * (r + 1) = (2 * r + 1) + 1 by omega, cp_s, if_pos ⟨h1, by rw [xd_e]; exact e⟩, cp_s, if_pos ⟨h2, by rw [xd_o hU2]; exact e2⟩] at hQ3
              exact hQ3
          · rw [if_neg (fun h => e2 (by rw [← xd_o hU2]; exact h.2)), bad _ (by omega), ← nI_1] at hQ2
            exact hQ2
        · refine And.intro (fun _ => ?_) (fun h => absurd (by rw [n1']; exact nI_le (by omega) (by omega)) h)
          rw [if_neg (fun h => h2 h.1), bad _ (by omega), ← nI_1] at hQ2
          exact hQ2
      · rw [if_neg (fun h => e (by rw [← xd_e]; exact h.2)), bad _ (by omega)] at hQ2
        exact hQ2
    · refine And.intro (fun _ => ?_) (fun h => absurd (nI_le (by omega) (by omega)) h)
      rw [if_neg (fun h => h1 h.1), bad _ (by omega)] at hQ2
      exact hQ2
theorem c_cmp {nx sl : Nat} {ln : Nat → Nat} {R : Nat → Nat → Option Nat} {I : Nat → Nat → Int32} {Q : Option Value → Hp → Prop} {k : Nat} (hW : SW nx ln R) {n m q D : Nat} {T W : Nat → Int32} (hT : IT T n m) (hC : CT I 35 T n m) (hL : LT nx ln R I T m) (hq : q ≤ 60) (hD : D ≤ 30) (hW8 : ∀ j, j < q → I 83 j = W j) (hQ : ∀ I2, Fr 20 I I2 → Q (some (.int (caF q D (cpF (xdF T) W q (2 * D) 0)))) (nx, sl, ln, R, I2)) : Go (k + 6) mX7_comparedWithDays [.ref 0, .int (nI q), .int (nI D)] (nx, sl, ln, R, I) Q := by
  have ht2 : Tw 20 := Or.inr (Or.inl rfl)
  have ht3 : Tw 35 := Or.inr (Or.inr rfl)
  refine Go_wp 40 rfl ?_
  refine And.intro (sw_k hW (Nat.le_of_ble_eq_true rfl) rfl) ?_
  refine Exists.intro _ (And.intro (sw_r hW (Nat.le_of_ble_eq_true rfl) rfl rfl) ?_)
  refine And.intro (sw_k hW (Nat.le_of_ble_eq_true rfl) rfl) ?_
  refine Exists.intro _ (And.intro (sw_r hW (Nat.le_of_ble_eq_true rfl) rfl rfl) ?_)
  refine And.intro (w_t hW ht2) ?_
  refine c_become hW ht2 ht3 (by decide) hC hT.1 hT.2.1 (fun I2 hC2 hF2 => ?_)
  exact l_ccmp hW hT hL hq hD hW8 D 0 n 0 0 I2 rfl rfl (by omega) hC2 hT (fun o h1 _ _ => hF2 o h1) (by omega) hQ
/-- the model's end of it -/
theorem t_chk {nx sl : Nat} {ln : Nat → Nat} {R : Nat → Nat → Option Nat} {J : Nat → Nat → Int32} {T : Nat → Int32} {Q : Option Value → Hp → Prop} {k : Nat} (hW : SW nx ln R) {q D e nn : Nat} {T0 : Nat → Int32} {x1 x5 : Option Value} (hz : Zr T) (h88 : J 88 = T0) (hz0 : Zr T0) (hq : q ≤ 60) (hD : D ≤ 30) (he : e ≤ 60) (hQ : Q (some (.int (caF q D e))) (nx, sl, ln, R, nw J T0)) : wp (nn + 40) (k + 6) mX8_check 180 [some (.ref 85), x1, some (.int (nI q)), some (.int (nI (2 * D))), some (.int (nI e)), x5] [] (nx, sl, ln, R, nw J T) Q := by
  have e88 : nw J T 88 = T0 := by rw [nwo _ _ (by decide), h88]
  refine And.intro (sw_k hW (Nat.le_of_ble_eq_true rfl) rfl) ?_
  refine Exists.intro _ (And.intro (sw_r hW (Nat.le_of_ble_eq_true rfl) rfl rfl) ?_)
  refine And.intro (sw_k hW (Nat.le_of_ble_eq_true rfl) rfl) ?_
  refine Exists.intro _ (And.intro (sw_r hW (Nat.le_of_ble_eq_true rfl) rfl rfl) ?_)
  refine s_copyAll hW (Or.inr (Or.inr rfl)) (Or.inl rfl) (by decide) (by rw [e88]; exact hz0) hz ?_
  rw [e88, nw_2]
  unfold caF at hQ
  by_cases h1 : e = q
  · refine And.intro (fun h => absurd (by rw [h1]) h) (fun _ => ?_)
    by_cases h2 : e = 2 * D
    · refine And.intro (fun h => absurd (by rw [h2]) h) (fun _ => ?_)
      rw [if_pos ⟨h1, h2⟩] at hQ
      exact hQ
    · refine And.intro (fun _ => ?_) (fun h => absurd (fun q => absurd ((nI_eq (by omega) (by omega)).mp q) h2) h)
      rw [if_neg (fun h => h2 h.2), ← one_add] at hQ
      exact hQ
  · refine And.intro (fun _ => ?_) (fun h => absurd (fun q => absurd ((nI_eq (by omega) (by omega)).mp q) h1) h)
    rw [if_neg (fun h => h1 h.1), ← one_add] at hQ
    exact hQ
