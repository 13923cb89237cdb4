/-! Public methods: what is best changed. -/
/-- GOT behind d days, with v at the place p -/
def geF (T : Nat → Int32) (p d v : Nat) : Int32 := gnF (up1 T p (nI v)) d 4
def bmM (G : Nat → Int32) : Nat → Int32
  | 0 => -1
  | v + 1 => if bmM G v < G v then G v else bmM G v
def bmB (G : Nat → Int32) : Nat → Int32
  | 0 => 0
  | v + 1 => if bmM G v < G v then nI v else bmB G v
theorem bmM_s (G : Nat → Int32) (v : Nat) : bmM G (v + 1) = if bmM G v < G v then G v else bmM G v := rfl
theorem bmB_s (G : Nat → Int32) (v : Nat) : bmB G (v + 1) = if bmM G v < G v then nI v else bmB G v := rfl
theorem t_best {nx sl : Nat} {ln : Nat → Nat} {R : Nat → Nat → Option Nat} {I : Nat → Nat → Int32} {Q : Option Value → Hp → Prop} {k : Nat} (hW : SW nx ln R) {n m d v nn : Nat} {U : Nat → Int32} {x1 x2 x4 x5 : Option Value} {xb xm : Int32} (hU : IT U n m) (hC : CT I 20 U n m) (hL : LT nx ln R I U m) (hd : d ≤ 60) (hv : v < 100)
    (hk : ∀ I2, Fr 20 I I2 → GoF (k + 6) mX7_bestChange 55 [some (.ref 0), x1, x2, some (.int (nI d)), x4, x5, some (.int (if v = 0 ∨ xm < gnF U d 4 then nI v else xb)), some (.int (if v = 0 ∨ xm < gnF U d 4 then gnF U d 4 else xm)), some (.int (nI (v + 1)))] [] (nx, sl, ln, R, I2) Q) :
    wp (nn + 40) (k + 6) mX7_bestChange 127 [some (.ref 0), x1, x2, some (.int (nI d)), x4, x5, some (.int xb), some (.int xm), some (.int (nI v))] [] (nx, sl, ln, R, I) Q := by
  have ht2 : Tw 20 := Or.inr (Or.inl rfl)
  refine And.intro (sw_k hW (Nat.le_of_ble_eq_true rfl) rfl) ?_
  refine Exists.intro _ (And.intro (sw_r hW (Nat.le_of_ble_eq_true rfl) rfl rfl) ?_)
  refine And.intro (w_t hW ht2) ?_
  refine c_passDays hW ht2 hC hU hL (show d ≤ 10000 by omega) (fun I2 n2 hC2 hU2 hF2 => ?_)
  have eg : I2 20 6 = gnF U d 4 := hC2.2.2.2.2.2.1
  by_cases hv0 : v = 0
  · have hk2 := hk I2 hF2
    rw [if_pos (Or.inl hv0), if_pos (Or.inl hv0), ← nI_1] at hk2
    refine And.intro (fun _ => ?_) (fun h => absurd (by rw [hv0]; rfl) h)
    refine And.intro (sw_k hW (Nat.le_of_ble_eq_true rfl) rfl) ?_
    refine Exists.intro _ (And.intro (sw_r hW (Nat.le_of_ble_eq_true rfl) rfl rfl) ?_)
    refine And.intro (w_t hW ht2) ?_
    rw [eg]
    exact hk2
  · refine And.intro (fun h => absurd ((nI_eq (b := 0) (by omega) (by decide)).mp h) hv0) (fun _ => ?_)
    refine And.intro (sw_k hW (Nat.le_of_ble_eq_true rfl) rfl) ?_
    refine Exists.intro _ (And.intro (sw_r hW (Nat.le_of_ble_eq_true rfl) rfl rfl) ?_)
    refine And.intro (w_t hW ht2) ?_
    rw [eg]
    refine And.intro (fun h => ?_) (fun h => ?_)
    · have hk2 := hk I2 hF2
      have hn : ¬ (v = 0 ∨ xm < gnF U d 4) := fun q => q.elim hv0 (fun q => absurd h (Int32.not_le.mpr q))
      rw [if_neg hn, if_neg hn, ← nI_1] at hk2
      exact hk2
    · have hk2 := hk I2 hF2
      have hn : v = 0 ∨ xm < gnF U d 4 := Or.inr (Int32.not_le.mp h)
      rw [if_pos hn, if_pos hn, ← nI_1] at hk2
      refine And.intro (sw_k hW (Nat.le_of_ble_eq_true rfl) rfl) ?_
      refine Exists.intro _ (And.intro (sw_r hW (Nat.le_of_ble_eq_true rfl) rfl rfl) ?_)
      refine And.intro (w_t hW ht2) ?_
      rw [eg]
      exact hk2
/-- which change, of what, at which place of the row, how many values -/
def chOk (n : Nat) (c : Int32) (o p tr : Nat) : Prop := (c = 0 ∧ o < n ∧ p = 24 + 5 * o + 3 ∧ tr = 8) ∨ (c = 1 ∧ o < 8 ∧ p = 8 + o ∧ tr = 10) ∨ (c = 2 ∧ o < n ∧ p = 24 + 5 * o + 0 ∧ tr = 6)
theorem ch_it {T : Nat → Int32} {n m o p tr : Nat} {c : Int32} (hT : IT T n m) (h : chOk n c o p tr) {v : Nat} (hv : v < tr) : IT (up1 T p (nI v)) n m := by
  rcases h with ⟨-, h1, h2, h3⟩ | ⟨-, h1, h2, h3⟩ | ⟨-, h1, h2, h3⟩ <;> subst h2
  · exact hT.hand h1 (by omega)
  · exact hT.heart h1 (by omega)
  · exact hT.kind h1 (by omega)
theorem ch_p {n o p tr : Nat} {c : Int32} (h : chOk n c o p tr) (hn : n ≤ 10) : 8 ≤ p ∧ p < 74 ∧ 6 ≤ tr ∧ tr ≤ 10 := by
  rcases h with ⟨-, h1, h2, h3⟩ | ⟨-, h1, h2, h3⟩ | ⟨-, h1, h2, h3⟩ <;> omega
theorem l_cchg {nx sl : Nat} {ln : Nat → Nat} {R : Nat → Nat → Option Nat} {I : Nat → Nat → Int32} {Q : Option Value → Hp → Prop} {k : Nat} (hW : SW nx ln R) {n m d o p tr : Nat} {T : Nat → Int32} {c w : Int32} (hT : IT T n m) (hC : CT I 5 T n m) (hL : LT nx ln R I T m) (hd : d ≤ 60) (hch : chOk n c o p tr) (hg : ∀ v, v < tr → -1 < geF T p d v) : ∀ (r v : Nat) (xb xm xv : Int32) (I1 : Nat → Nat → Int32), xv = nI v → v + r = tr → Fr 20 I I1 → (v = 0 ∨ (xb = bmB (geF T p d) v ∧ xm = bmM (geF T p d) v)) → (∀ I2, Fr 20 I I2 → Q (some (.int (if w = 0 then bmB (geF T p d) tr else bmM (geF T p d) tr))) (nx, sl, ln, R, I2)) → GoF (k + 6) mX7_bestChange 55 [some (.ref 0), some (.int c), some (.int (nI o)), some (.int (nI d)), some (.int w), some (.int (nI tr)), some (.int xb), some (.int xm), some (.int xv)] [] (nx, sl, ln, R, I1) Q := by
  have ht := tw5
  have ht2 : Tw 20 := Or.inr (Or.inl rfl)
  have hn := hT.2.1
  obtain ⟨p1, p2, p3, p4⟩ := ch_p hch hn
  intro r
  induction r with
  | zero =>
    intro v xb xm xv I1 hxv hvr hF hs hQ
    subst hxv
    have hv : v = tr := by omega
    subst hv
    have hQ2 := hQ I1 hF
    rcases hs with h | ⟨h1, h2⟩
    · omega
    · refine GoF_wp1 40 ?_
      refine And.intro (fun _ => ?_) (fun h => absurd (Int32.le_refl _) h)
      refine And.intro (fun h => ?_) (fun h => ?_)
      · rw [if_neg h] at hQ2
        rw [h2]
        exact hQ2
      · rw [if_pos (Decidable.of_not_not h)] at hQ2
        rw [h1]
        exact hQ2
  | succ r ih =>
    intro v xb xm xv I1 hxv hvr hF hs hQ
    subst hxv
    have hv : v < tr := by omega
    have hC1 : CT I1 5 T n m := hC.keep hn (fun q h1 h2 => hF q (by omega) (by omega) (by omega))
    have hU := ch_it hT hch hv
    have nxt : ∀ I3 : Nat → Nat → Int32, Fr 20 I I3 → GoF (k + 6) mX7_bestChange 55 [some (.ref 0), some (.int c), some (.int (nI o)), some (.int (nI d)), some (.int w), some (.int (nI tr)), some (.int (if v = 0 ∨ xm < geF T p d v then nI v else xb)), some (.int (if v = 0 ∨ xm < geF T p d v then geF T p d v else xm)), some (.int (nI (v + 1)))] [] (nx, sl, ln, R, I3) Q := by
      intro I3 hF3
      refine ih (v + 1) _ _ _ I3 rfl (by omega) hF3 (Or.inr ?_) hQ
      rw [bmB_s, bmM_s]
      rcases hs with h | ⟨h1, h2⟩
      · subst h
        have := hg 0 hv
        rw [if_pos (Or.inl rfl), if_pos (Or.inl rfl), if_pos (show bmM (geF T p d) 0 < geF T p d 0 from this), if_pos (show bmM (geF T p d) 0 < geF T p d 0 from this)]
        exact ⟨rfl, rfl⟩
      · by_cases h0 : v = 0
        · subst h0
          have := hg 0 hv
          rw [if_pos (Or.inl rfl), if_pos (Or.inl rfl), if_pos (show bmM (geF T p d) 0 < geF T p d 0 from this), if_pos (show bmM (geF T p d) 0 < geF T p d 0 from this)]
          exact ⟨rfl, rfl⟩
        · rw [h2]
          by_cases hlt : bmM (geF T p d) v < geF T p d v
          · rw [if_pos (Or.inr hlt), if_pos (Or.inr hlt), if_pos hlt, if_pos hlt]
            exact ⟨rfl, rfl⟩
          · have hno : ¬ (v = 0 ∨ bmM (geF T p d) v < geF T p d v) := fun q => q.elim h0 hlt
            rw [if_neg hno, if_neg hno, if_neg hlt, if_neg hlt]
            exact ⟨h1, rfl⟩
    refine GoF_wp1 80 ?_
    refine And.intro (fun h => absurd h (nI_ge hv (by omega))) (fun _ => ?_)
    refine And.intro (sw_k hW (Nat.le_of_ble_eq_true rfl) rfl) ?_
    refine Exists.intro _ (And.intro (sw_r hW (Nat.le_of_ble_eq_true rfl) rfl rfl) ?_)
    refine And.intro (sw_k hW (Nat.le_of_ble_eq_true rfl) rfl) ?_
    refine Exists.intro _ (And.intro (sw_r hW (Nat.le_of_ble_eq_true rfl) rfl rfl) ?_)
    refine And.intro (w_t hW ht2) ?_
    refine c_become hW ht2 ht (by decide) hC1 hT.1 hn (fun I2 hC2 hF2 => ?_)
    have hFa : Fr 20 I I2 := hF.tr (fun q h1 _ _ => hF2 q h1)
    rcases hch with ⟨c0, h1, h2, h3⟩ | ⟨c0, h1, h2, h3⟩ | ⟨c0, h1, h2, h3⟩
    · subst c0
      subst h2
      refine And.intro (fun h9 => absurd rfl h9) (fun _ => ?_)
      refine And.intro (sw_k hW (Nat.le_of_ble_eq_true rfl) rfl) ?_
      refine Exists.intro _ (And.intro (sw_r hW (Nat.le_of_ble_eq_true rfl) rfl rfl) ?_)
      refine And.intro (w_t hW ht2) (Exists.intro _ (And.intro (w_r1 hW ht2) ?_))
      refine And.intro (w_aj hW ht2 (show o < 10 by omega)) (Exists.intro _ (And.intro (w_jug hW ht2 (show o < 10 by omega)) ?_))
      refine And.intro (w_kj hW ht2 (show o < 10 by omega)) ?_
      have hFb : Fr 20 I (up2 I2 (20 + 2 + o) 3 (nI v)) := hFa.tr (Fr.up (by omega))
      refine wp_goto rfl ?_
      refine t_best hW hU (hC2.jug hn h1 (by decide)) (hL.keep (fun q hq => hFb q (by omega) (by omega) (by omega)) (fun q hq => up1_ne (by omega))) hd (by omega) (fun I3 hF3 => nxt I3 (hFb.tr hF3))
    · subst c0
      subst h2
      refine And.intro (fun _ => ?_) (fun h9 => absurd (by decide) h9)
      refine And.intro (fun h9 => absurd rfl h9) (fun _ => ?_)
      refine And.intro (sw_k hW (Nat.le_of_ble_eq_true rfl) rfl) ?_
      refine Exists.intro _ (And.intro (sw_r hW (Nat.le_of_ble_eq_true rfl) rfl rfl) ?_)
      refine And.intro (w_t hW ht2) (Exists.intro _ (And.intro (w_r3 hW ht2) ?_))
      refine And.intro (w_h hW ht2 h1) ?_
      rw [ix (show o < 2147483648 by omega)]
      have hFb : Fr 20 I (up2 I2 (20 + 12) o (nI v)) := hFa.tr (Fr.up (by omega))
      refine wp_goto rfl ?_
      refine t_best hW hU (hC2.heart hn h1) (hL.keep (fun q hq => hFb q (by omega) (by omega) (by omega)) (fun q hq => up1_ne (by omega))) hd (by omega) (fun I3 hF3 => nxt I3 (hFb.tr hF3))
    · subst c0
      subst h2
      refine And.intro (fun _ => ?_) (fun h9 => absurd (by decide) h9)
      refine And.intro (fun _ => ?_) (fun h9 => absurd (by decide) h9)
      refine And.intro (sw_k hW (Nat.le_of_ble_eq_true rfl) rfl) ?_
      refine Exists.intro _ (And.intro (sw_r hW (Nat.le_of_ble_eq_true rfl) rfl rfl) ?_)
      refine And.intro (w_t hW ht2) (Exists.intro _ (And.intro (w_r1 hW ht2) ?_))
      refine And.intro (w_aj hW ht2 (show o < 10 by omega)) (Exists.intro _ (And.intro (w_jug hW ht2 (show o < 10 by omega)) ?_))
      refine And.intro (w_kj hW ht2 (show o < 10 by omega)) ?_
      have hFb : Fr 20 I (up2 I2 (20 + 2 + o) 0 (nI v)) := hFa.tr (Fr.up (by omega))
      refine t_best hW hU (hC2.jug hn h1 (by decide)) (hL.keep (fun q hq => hFb q (by omega) (by omega) (by omega)) (fun q hq => up1_ne (by omega))) hd (by omega) (fun I3 hF3 => nxt I3 (hFb.tr hF3))
theorem c_chg {nx sl : Nat} {ln : Nat → Nat} {R : Nat → Nat → Option Nat} {I : Nat → Nat → Int32} {Q : Option Value → Hp → Prop} {k : Nat} (hW : SW nx ln R) {n m o p tr : Nat} {T : Nat → Int32} {c w x : Int32} (hT : IT T n m) (hC : CT I 5 T n m) (hL : LT nx ln R I T m) (hch : chOk n c o p tr) (hg : ∀ d, d ≤ 60 → ∀ v, v < tr → -1 < geF T p d v)
    (q0 : (∀ d, 1 ≤ d → d ≤ 60 → ¬ x = nI d) → Q (some (.int (-1000000001))) (nx, sl, ln, R, I))
    (q1 : ∀ d, 1 ≤ d → d ≤ 60 → x = nI d → (∀ a, a < 2 → ¬ w = nI a) → Q (some (.int (-1000000001))) (nx, sl, ln, R, I))
    (q2 : ∀ d, 1 ≤ d → d ≤ 60 → x = nI d → ∀ a, a < 2 → w = nI a → ∀ I2, Fr 20 I I2 → Q (some (.int (if w = 0 then bmB (geF T p d) tr else bmM (geF T p d) tr))) (nx, sl, ln, R, I2)) :
    Go (k + 6) mX7_bestChange [.ref 0, .int c, .int (nI o), .int x, .int w] (nx, sl, ln, R, I) Q := by
  have cz : c = 0 ∨ c = 1 ∨ c = 2 := by
    rcases hch with ⟨c0, -⟩ | ⟨c0, -⟩ | ⟨c0, -⟩
    · exact Or.inl c0
    · exact Or.inr (Or.inl c0)
    · exact Or.inr (Or.inr c0)
  have ctr : (c = 0 → tr = 8) ∧ (c = 1 → tr = 10) ∧ (c = 2 → tr = 6) := by
    rcases hch with ⟨c0, -, -, h3⟩ | ⟨c0, -, -, h3⟩ | ⟨c0, -, -, h3⟩ <;> subst c0
    · exact ⟨fun _ => h3, fun h => absurd h (by decide), fun h => absurd h (by decide)⟩
    · exact ⟨fun h => absurd h (by decide), fun _ => h3, fun h => absurd h (by decide)⟩
    · exact ⟨fun h => absurd h (by decide), fun h => absurd h (by decide), fun _ => h3⟩
  refine Go_wp 60 rfl ?_
  refine c_isBt (a := 1) (b := 60) rfl rfl (fun d h1 h2 e => ?_) (fun e => ?_)
  · refine And.intro (fun h9 => absurd h9 (by decide)) (fun _ => ?_)
    refine c_isIn (m := 0) (n := 2) rfl (fun a ha e2 => ?_) (fun e2 => ?_)
    · refine And.intro (fun _ => ?_) (fun h9 => absurd (by decide) h9)
      have hQ2 := q2 d h1 h2 e a ha e2
      subst e
      rcases cz with e3 | e3 | e3 <;> subst e3
      · have e8 := ctr.1 rfl
        subst e8
        refine And.intro (fun h9 => absurd rfl h9) (fun _ => ?_)
        exact l_cchg hW hT hC hL h2 hch (hg d h2) 8 0 0 0 0 I rfl (by omega) Fr.rf (Or.inl rfl) hQ2
      · have e8 := ctr.2.1 rfl
        subst e8
        refine And.intro (fun _ => ?_) (fun h9 => absurd (by decide) h9)
        refine And.intro (fun h9 => absurd rfl h9) (fun _ => ?_)
        exact l_cchg hW hT hC hL h2 hch (hg d h2) 10 0 0 0 0 I rfl (by omega) Fr.rf (Or.inl rfl) hQ2
      · have e8 := ctr.2.2 rfl
        subst e8
        refine And.intro (fun _ => ?_) (fun h9 => absurd (by decide) h9)
        refine And.intro (fun _ => ?_) (fun h9 => absurd (by decide) h9)
        exact l_cchg hW hT hC hL h2 hch (hg d h2) 6 0 0 0 0 I rfl (by omega) Fr.rf (Or.inl rfl) hQ2
    · refine And.intro (fun h9 => absurd rfl h9) (fun _ => ?_)
      exact q1 d h1 h2 e e2
  · refine And.intro (fun _ => ?_) (fun h9 => absurd rfl h9)
    exact q0 e
