/-! Public methods: a sheet begun. -/
/-- sheets alone are otherwise -/
theorem Sim.ss {nx : Nat} {ln : Nat → Nat} {R : Nat → Nat → Option Nat} {I I' : Nat → Nat → Int32} (h : Sim nx ln R I) (ho : ∀ o, ¬ (54 ≤ o ∧ o ≤ 61) → ¬ (100 ≤ o ∧ o ≤ 102) → ¬ o = 107 → I' o = I o) (hs : SS I') : Sim nx ln R I' := by
  obtain ⟨b1, b2, b3, b4, b5, b6, b7⟩ := h
  exact ⟨b1, b2.keep (fun o h => ho o (by omega) (by omega) (by omega)) (by rw [ho 0 (by omega) (by omega) (by omega)]) (by rw [ho 85 (by omega) (by omega) (by omega)]), b3.keep (by rw [ho 0 (by omega) (by omega) (by omega)]) (by rw [ho 85 (by omega) (by omega) (by omega)]) (ho 50 (by omega) (by omega) (by omega)) (ho 92 (by omega) (by omega) (by omega)), hs, b5.keep (fun o h => ho o (by omega) (by omega) (by omega)), b6.keep (by rw [ho 0 (by omega) (by omega) (by omega)]) (by rw [ho 85 (by omega) (by omega) (by omega)]) (ho 83 (by omega) (by omega) (by omega)) (ho 108 (by omega) (by omega) (by omega)), b7.keep (ho 93 (by omega) (by omega) (by omega)) (ho 94 (by omega) (by omega) (by omega))⟩
theorem l_fill {nx sl : Nat} {ln : Nat → Nat} {R : Nat → Nat → Option Nat} {I : Nat → Nat → Int32} {Q : Option Value → Hp → Prop} {k : Nat} (hW : SW nx ln R) {o L : Nat} {v : Int32} (ho : KD o = 11 ∧ o < nx) (hl : ln o = L) (hL : L ≤ 100) : ∀ (r i : Nat) (xi : Int32) (I1 : Nat → Nat → Int32), xi = nI i → I1 = up1 I o (fun p => if p < i then v else I o p) → i + r = L → Q none (nx, sl, ln, R, up1 I o (fun p => if p < L then v else I o p)) → GoF k mJ7_fill_53178 5 [some (.ref o), some (.int v), some (.int xi), some (.int (nI L))] [] (nx, sl, ln, R, I1) Q := by
  intro r
  induction r with
  | zero =>
    intro i xi I1 hxi hI hir hQ
    subst hxi
    have hid : i = L := by omega
    subst hid
    subst hI
    refine GoF_wp1 20 ?_
    exact And.intro (fun _ => hQ) (fun h => absurd (Int32.le_refl _) h)
  | succ r ih =>
    intro i xi I1 hxi hI hir hQ
    subst hxi
    subst hI
    refine GoF_wp1 20 ?_
    refine And.intro (fun h => absurd h (nI_ge (show i < L by omega) (by omega))) (fun _ => ?_)
    refine And.intro ⟨ho, nI_pos (by omega), by rw [ix (by omega), hl]; omega⟩ ?_
    refine ih (i + 1) _ _ (nI_1 i) ?_ (by omega) hQ
    rw [ix (by omega)]
    funext q
    by_cases hq : q = o
    · subst hq
      rw [up2_eq, up1_eq, up1_eq]
      funext p
      by_cases hp : p = i
      · subst hp; rw [up1_eq, if_pos (by omega)]
      · rw [up1_ne hp]
        by_cases hl : p < i
        · rw [if_pos hl, if_pos (by omega)]
        · rw [if_neg hl, if_neg (by omega)]
    · rw [up2_ne hq, up1_ne hq, up1_ne hq]
theorem c_fill {nx sl : Nat} {ln : Nat → Nat} {R : Nat → Nat → Option Nat} {I : Nat → Nat → Int32} {Q : Option Value → Hp → Prop} {k : Nat} (hW : SW nx ln R) {o L : Nat} {v : Int32} (ho : KD o = 11 ∧ o < nx) (hl : ln o = L) (hL : L ≤ 100) (hQ : Q none (nx, sl, ln, R, up1 I o (fun p => if p < L then v else I o p))) : Go k mJ7_fill_53178 [.ref o, .int v] (nx, sl, ln, R, I) Q := by
  refine Go_wp 20 rfl ?_
  refine And.intro ⟨by rw [ho.1]; decide, by rw [ho.1]; decide, ho.2⟩ ?_
  rw [hl]
  refine l_fill hW ho hl hL L 0 0 I rfl ?_ (by omega) hQ
  funext q
  by_cases hq : q = o
  · subst hq
    rw [up1_eq]
    funext p
    rw [if_neg (by omega)]
  · rw [up1_ne hq]
theorem c_begin {nx sl : Nat} {ln : Nat → Nat} {R : Nat → Nat → Option Nat} {I : Nat → Nat → Int32} {Q : Option Value → Hp → Prop} {k : Nat} (hW : SW nx ln R) {s l : Nat} {g : Int32} (hs : s < 4) (hQ : Q none (nx, sl, ln, R, up1 (up2 (up2 I (54 + 2 * s) 0 g) (54 + 2 * s) 1 (nI l)) (55 + 2 * s) (fun p => if p < 24 then 0 else I (55 + 2 * s) p))) : Go (k + 1) mX3_begin [.ref (54 + 2 * s), .int g, .int (nI l)] (nx, sl, ln, R, I) Q := by
  refine Go_wp 20 rfl ?_
  refine And.intro (w_shk hW hs) ?_
  refine And.intro (w_shk hW hs) ?_
  refine And.intro (w_shk hW hs) (Exists.intro _ (And.intro (w_rq hW hs) ?_))
  refine c_fill (L := 24) hW ⟨(sh_all s hs).2.1, sw_lt hW (by omega)⟩ (by rw [hW.2.1 _ (by omega)]; exact (sh_all s hs).2.2.2.2) (by omega) ?_
  rw [up2_ne (by omega), up2_ne (by omega)]
  exact hQ
theorem in3 {w : Int32} (h1 : -1 ≤ w) (h2 : w ≤ 1) : w = -1 ∨ w = 0 ∨ w = 1 := by
  rw [tI_le] at h1 h2
  have e1 : (-1 : Int32).toInt = -1 := rfl
  have e2 : (1 : Int32).toInt = 1 := rfl
  have e3 : (0 : Int32).toInt = 0 := rfl
  rw [tI_eq, tI_eq w 0, tI_eq w 1]
  omega
theorem c_sheet {nx sl : Nat} {ln : Nat → Nat} {R : Nat → Nat → Option Nat} {I : Nat → Nat → Int32} {Q : Option Value → Hp → Prop} {k : Nat} (hW : SW nx ln R) {s : Nat} {w x : Int32} (hs : s < 4)
    (q0 : ¬ (-1 ≤ w ∧ w ≤ 1) → Q (some (.int (-1000000001))) (nx, sl, ln, R, I))
    (q1 : (-1 ≤ w ∧ w ≤ 1) → ¬ w = -1 → 24 < x → Q (some (.int (-1000000001))) (nx, sl, ln, R, I))
    (q2 : (-1 ≤ w ∧ w ≤ 1) → ¬ w = -1 → x < 0 → Q (some (.int (-1000000014))) (nx, sl, ln, R, I))
    (q3 : (-1 ≤ w ∧ w ≤ 1) → ∀ l, l ≤ 24 → (w = -1 ∧ l = 0 ∨ ¬ w = -1 ∧ x = nI l) → Q (some (.int (nI l))) (nx, sl, ln, R, up1 (up2 (up2 I (54 + 2 * s) 0 w) (54 + 2 * s) 1 (nI l)) (55 + 2 * s) (fun p => if p < 24 then 0 else I (55 + 2 * s) p))) :
    Go (k + 2) mX7_sheet [.ref 0, .int (nI s), .int w, .int x] (nx, sl, ln, R, I) Q := by
  refine Go_wp 60 rfl ?_
  refine c_isSheet (fun _ _ _ => ?_) (fun e => absurd rfl (e s hs))
  refine And.intro (fun h9 => absurd h9 (by decide)) (fun _ => ?_)
  refine c_within (fun a1 a2 => ?_) (fun a1 => ?_)
  · refine And.intro (fun _ => ?_) (fun h9 => absurd (by decide) h9)
    refine And.intro (fun hw => ?_) (fun hw => ?_)
    · refine And.intro (fun hx => ?_) (fun hx => ?_)
      · refine And.intro (fun h0 => ?_) (fun h0 => ?_)
        · have e0 : (0 : Int32).toInt = 0 := rfl
          have e24 : (24 : Int32).toInt = 24 := rfl
          rw [tI_le] at h0 hx
          obtain ⟨l, hl, rfl⟩ : ∃ l, l ≤ 24 ∧ x = nI l := ⟨x.toInt.toNat, by omega, nI_ofI (by omega)⟩
          refine And.intro (sw_k hW (Nat.le_of_ble_eq_true rfl) rfl) ?_
          refine Exists.intro _ (And.intro (sw_r hW (Nat.le_of_ble_eq_true rfl) rfl rfl) ?_)
          refine And.intro (w_ash hW hs) (Exists.intro _ (And.intro (w_rsh hW hs) ?_))
          refine And.intro (w_shk hW hs) ?_
          refine c_begin hW hs ?_
          exact q3 ⟨a1, a2⟩ l hl (Or.inr ⟨hw, rfl⟩)
        · exact q2 ⟨a1, a2⟩ hw (Int32.not_le.mp h0)
      · exact q1 ⟨a1, a2⟩ hw (Int32.not_le.mp hx)
    · have hw := Decidable.of_not_not hw
      refine And.intro (fun _ => ?_) (fun h9 => absurd (by decide) h9)
      refine And.intro (fun _ => ?_) (fun h9 => absurd (by decide) h9)
      refine And.intro (sw_k hW (Nat.le_of_ble_eq_true rfl) rfl) ?_
      refine Exists.intro _ (And.intro (sw_r hW (Nat.le_of_ble_eq_true rfl) rfl rfl) ?_)
      refine And.intro (w_ash hW hs) (Exists.intro _ (And.intro (w_rsh hW hs) ?_))
      refine And.intro (w_shk hW hs) ?_
      refine c_begin (l := 0) hW hs ?_
      exact q3 ⟨a1, a2⟩ 0 (by omega) (Or.inl ⟨hw, rfl⟩)
  · refine And.intro (fun h9 => absurd rfl h9) (fun _ => ?_)
    exact q0 a1
theorem l_sheet {nx sl : Nat} {ln : Nat → Nat} {R : Nat → Nat → Option Nat} {I : Nat → Nat → Int32} {Q : Option Value → Hp → Prop} {k : Nat} (hW : SW nx ln R) {s l : Nat} {x2 x3 : Option Value} (hs : s < 4) (h1 : I 101 s = nI l) : ∀ (r i : Nat) (xi : Int32) (I1 : Nat → Nat → Int32), xi = nI i → I1 = up1 I 102 (fun p => if 24 * s ≤ p ∧ p < 24 * s + i then 0 else I 102 p) → i + r = 24 → Q (some (.int (nI l))) (nx, sl, ln, R, up1 I 102 (fun p => if 24 * s ≤ p ∧ p < 24 * s + 24 then 0 else I 102 p)) → GoF k mX8_sheet 66 [some (.ref 85), some (.int (nI s)), x2, x3, some (.int xi)] [] (nx, sl, ln, R, I1) Q := by
  intro r
  induction r with
  | zero =>
    intro i xi I1 hxi hI hir hQ
    subst hxi
    have hid : i = 24 := by omega
    subst hid
    subst hI
    refine GoF_wp1 20 ?_
    refine And.intro (fun _ => ?_) (fun h9 => absurd (by decide) h9)
    refine And.intro (sw_k hW (Nat.le_of_ble_eq_true rfl) rfl) ?_
    refine Exists.intro _ (And.intro (sw_r hW (Nat.le_of_ble_eq_true rfl) rfl rfl) ?_)
    refine And.intro (sw_n hW (Nat.le_of_ble_eq_true rfl) rfl rfl (hs) (Nat.le_of_ble_eq_true rfl)) ?_
    rw [up1_ne (by decide), ix (by omega), h1]
    exact hQ
  | succ r ih =>
    intro i xi I1 hxi hI hir hQ
    subst hxi
    subst hI
    refine GoF_wp1 20 ?_
    refine And.intro (fun h => absurd h (nI_ge (show i < 24 by omega) (by decide))) (fun _ => ?_)
    refine And.intro (sw_k hW (Nat.le_of_ble_eq_true rfl) rfl) ?_
    refine Exists.intro _ (And.intro (sw_r hW (Nat.le_of_ble_eq_true rfl) rfl rfl) ?_)
    refine And.intro (by rw [cx24]; exact sw_n hW (Nat.le_of_ble_eq_true rfl) rfl rfl (show 24 * s + i < 96 by omega) (Nat.le_of_ble_eq_true rfl)) ?_
    refine ih (i + 1) _ _ (nI_1 i) ?_ (by omega) hQ
    rw [cx24, ix (by omega)]
    funext q
    by_cases hq : q = 102
    · subst hq
      rw [up2_eq, up1_eq, up1_eq]
      funext p
      by_cases hp : p = 24 * s + i
      · subst hp; rw [up1_eq, if_pos (by omega)]
      · rw [up1_ne hp]
        by_cases hl : 24 * s ≤ p ∧ p < 24 * s + i
        · rw [if_pos hl, if_pos (by omega)]
        · rw [if_neg hl, if_neg (by omega)]
    · rw [up2_ne hq, up1_ne hq, up1_ne hq]
theorem s_sheet {nx sl : Nat} {ln : Nat → Nat} {R : Nat → Nat → Option Nat} {I : Nat → Nat → Int32} {Q : Option Value → Hp → Prop} {k : Nat} (hW : SW nx ln R) {s : Nat} {w x : Int32} (hs : s < 4)
    (q0 : ¬ (-1 ≤ w ∧ w ≤ 1) → Q (some (.int (-1000000001))) (nx, sl, ln, R, I))
    (q1 : (-1 ≤ w ∧ w ≤ 1) → ¬ w = -1 → 24 < x → Q (some (.int (-1000000001))) (nx, sl, ln, R, I))
    (q2 : (-1 ≤ w ∧ w ≤ 1) → ¬ w = -1 → x < 0 → Q (some (.int (-1000000014))) (nx, sl, ln, R, I))
    (q3 : (-1 ≤ w ∧ w ≤ 1) → ∀ l, l ≤ 24 → (w = -1 ∧ l = 0 ∨ ¬ w = -1 ∧ x = nI l) → Q (some (.int (nI l))) (nx, sl, ln, R, up1 (up2 (up2 I 100 s w) 101 s (nI l)) 102 (fun p => if 24 * s ≤ p ∧ p < 24 * s + 24 then 0 else I 102 p))) :
    Go (k + 2) mX8_sheet [.ref 85, .int (nI s), .int w, .int x] (nx, sl, ln, R, I) Q := by
  refine Go_wp 60 rfl ?_
  refine s_isSheet (fun _ _ _ => ?_) (fun e => absurd rfl (e s hs))
  refine And.intro (fun h9 => absurd h9 (by decide)) (fun _ => ?_)
  refine s_in (fun a1 a2 => ?_) (fun a1 => ?_)
  · refine And.intro (fun h9 => absurd h9 (by decide)) (fun _ => ?_)
    have lp : ∀ l, l ≤ 24 → (w = -1 ∧ l = 0 ∨ ¬ w = -1 ∧ x = nI l) → GoF (k + 2) mX8_sheet 66 [some (.ref 85), some (.int (nI s)), some (.int w), some (.int x), some (.int 0)] [] (nx, sl, ln, R, up2 (up2 I 100 s w) 101 s (nI l)) Q := by
      intro l hl hh
      refine l_sheet (l := l) (I := up2 (up2 I 100 s w) 101 s (nI l)) hW hs (by rw [up2_eq, up1_eq]) 24 0 0 _ rfl ?_ (by omega) ?_
      · funext q
        by_cases hq : q = 102
        · subst hq
          rw [up1_eq]
          funext p
          rw [if_neg (by omega)]
        · rw [up1_ne hq]
      · rw [up2_ne (show ¬ 102 = 101 by decide), up2_ne (show ¬ 102 = 100 by decide)]
        exact q3 ⟨a1, a2⟩ l hl hh
    rcases in3 a1 a2 with hw | hw | hw
    · subst hw
      refine And.intro (fun _ => ?_) (fun h9 => absurd (by decide) h9)
      refine And.intro (fun _ => ?_) (fun h9 => absurd (by decide) h9)
      refine And.intro (sw_k hW (Nat.le_of_ble_eq_true rfl) rfl) ?_
      refine Exists.intro _ (And.intro (sw_r hW (Nat.le_of_ble_eq_true rfl) rfl rfl) ?_)
      refine And.intro (sw_n hW (Nat.le_of_ble_eq_true rfl) rfl rfl (hs) (Nat.le_of_ble_eq_true rfl)) ?_
      rw [ix (show s < 2147483648 by omega)]
      refine And.intro (sw_k hW (Nat.le_of_ble_eq_true rfl) rfl) ?_
      refine Exists.intro _ (And.intro (sw_r hW (Nat.le_of_ble_eq_true rfl) rfl rfl) ?_)
      refine And.intro (fun h9 => absurd h9 (by decide)) (fun _ => ?_)
      refine And.intro (sw_n hW (Nat.le_of_ble_eq_true rfl) rfl rfl (hs) (Nat.le_of_ble_eq_true rfl)) ?_
      rw [ix (show s < 2147483648 by omega)]
      exact lp 0 (by omega) (Or.inl ⟨rfl, rfl⟩)
    all_goals subst hw
    all_goals refine And.intro (fun h9 => absurd h9 (by decide)) (fun _ => ?_)
    all_goals refine And.intro (fun hx => ?_) (fun hx => ?_)
    · refine And.intro (fun h9 => absurd h9 (by decide)) (fun _ => ?_)
      refine And.intro (fun h0 => ?_) (fun h0 => ?_)
      · have e0 : (0 : Int32).toInt = 0 := rfl
        have e24 : (24 : Int32).toInt = 24 := rfl
        rw [tI_le] at h0 hx
        obtain ⟨l, hl, rfl⟩ : ∃ l, l ≤ 24 ∧ x = nI l := ⟨x.toInt.toNat, by omega, nI_ofI (by omega)⟩
        refine And.intro (sw_k hW (Nat.le_of_ble_eq_true rfl) rfl) ?_
        refine Exists.intro _ (And.intro (sw_r hW (Nat.le_of_ble_eq_true rfl) rfl rfl) ?_)
        refine And.intro (sw_n hW (Nat.le_of_ble_eq_true rfl) rfl rfl (hs) (Nat.le_of_ble_eq_true rfl)) ?_
        rw [ix (show s < 2147483648 by omega)]
        refine And.intro (sw_k hW (Nat.le_of_ble_eq_true rfl) rfl) ?_
        refine Exists.intro _ (And.intro (sw_r hW (Nat.le_of_ble_eq_true rfl) rfl rfl) ?_)
        refine And.intro (fun _ => ?_) (fun h9 => absurd (by decide) h9)
        refine And.intro (sw_n hW (Nat.le_of_ble_eq_true rfl) rfl rfl (hs) (Nat.le_of_ble_eq_true rfl)) ?_
        rw [ix (show s < 2147483648 by omega)]
        exact lp l hl (Or.inr ⟨by decide, rfl⟩)
      · exact q2 ⟨a1, a2⟩ (by decide) (Int32.not_le.mp h0)
    · exact q1 ⟨a1, a2⟩ (by decide) (Int32.not_le.mp hx)
    · refine And.intro (fun h9 => absurd h9 (by decide)) (fun _ => ?_)
      refine And.intro (fun h0 => ?_) (fun h0 => ?_)
      · have e0 : (0 : Int32).toInt = 0 := rfl
        have e24 : (24 : Int32).toInt = 24 := rfl
        rw [tI_le] at h0 hx
        obtain ⟨l, hl, rfl⟩ : ∃ l, l ≤ 24 ∧ x = nI l := ⟨x.toInt.toNat, by omega, nI_ofI (by omega)⟩
        refine And.intro (sw_k hW (Nat.le_of_ble_eq_true rfl) rfl) ?_
        refine Exists.intro _ (And.intro (sw_r hW (Nat.le_of_ble_eq_true rfl) rfl rfl) ?_)
        refine And.intro (sw_n hW (Nat.le_of_ble_eq_true rfl) rfl rfl (hs) (Nat.le_of_ble_eq_true rfl)) ?_
        rw [ix (show s < 2147483648 by omega)]
        refine And.intro (sw_k hW (Nat.le_of_ble_eq_true rfl) rfl) ?_
        refine Exists.intro _ (And.intro (sw_r hW (Nat.le_of_ble_eq_true rfl) rfl rfl) ?_)
        refine And.intro (fun _ => ?_) (fun h9 => absurd (by decide) h9)
        refine And.intro (sw_n hW (Nat.le_of_ble_eq_true rfl) rfl rfl (hs) (Nat.le_of_ble_eq_true rfl)) ?_
        rw [ix (show s < 2147483648 by omega)]
        exact lp l hl (Or.inr ⟨by decide, rfl⟩)
      · exact q2 ⟨a1, a2⟩ (by decide) (Int32.not_le.mp h0)
    · exact q1 ⟨a1, a2⟩ (by decide) (Int32.not_le.mp hx)
  · refine And.intro (fun _ => ?_) (fun h9 => absurd rfl h9)
    exact q0 a1
theorem ss_new {nx : Nat} {ln : Nat → Nat} {R : Nat → Nat → Option Nat} {I I' : Nat → Nat → Int32} {s l : Nat} {w : Int32} (hS : Sim nx ln R I) (hs : s < 4) (hw : w = -1 ∨ w = 0 ∨ w = 1) (hl : l ≤ 24) (e0 : ∀ o, ¬ o = 54 + 2 * s → ¬ o = 55 + 2 * s → ¬ o = 100 → ¬ o = 101 → ¬ o = 102 → I' o = I o) (a0 : I' (54 + 2 * s) 0 = w) (a1 : I' (54 + 2 * s) 1 = nI l) (a2 : ∀ i, i < 24 → I' (55 + 2 * s) i = 0) (b0 : I' 100 = up1 (I 100) s w) (b1 : I' 101 = up1 (I 101) s (nI l)) (b2 : ∀ p, I' 102 p = if 24 * s ≤ p ∧ p < 24 * s + 24 then 0 else I 102 p) : Sim nx ln R I' := by
  refine hS.ss (fun o h1 h2 h3 => e0 o (by omega) (by omega) (by omega) (by omega) (by omega)) (fun s' hs' => ?_)
  obtain ⟨c1, c2, c3, c4⟩ := hS.2.2.2.1 s' hs'
  by_cases e : s' = s
  · subst e
    rw [b0, b1, up1_eq, up1_eq]
    exact ⟨a0, hw, ⟨l, hl, a1, rfl⟩, fun i hi => by rw [a2 i hi, b2, if_pos (by omega)]⟩
  · rw [b0, b1, up1_ne e, up1_ne e, e0 (54 + 2 * s') (by omega) (by omega) (by omega) (by omega) (by omega), e0 (55 + 2 * s') (by omega) (by omega) (by omega) (by omega) (by omega)]
    exact ⟨c1, c2, c3, fun i hi => by rw [b2, if_neg (by omega)]; exact c4 i hi⟩
theorem pub_sheet (v w x : Int32) : Pub mX7_sheet mX8_sheet [.int v, .int w, .int x] := by
  intro k nx sl ln R I hS
  have hW := hS.1
  by_cases hv : ∃ s, s < 4 ∧ v = nI s
  · obtain ⟨s, hs, rfl⟩ := hv
    have nx0 : ∀ l, l ≤ 24 → x = nI l → ¬ 24 < x ∧ ¬ x < 0 := fun l hl e => by
      rw [e]
      exact ⟨Int32.not_lt.mpr (nI_le (b := 24) (by omega) (by decide)), nI_pos (by omega)⟩
    refine c_sheet hW hs (fun a => ?_) (fun a b c => ?_) (fun a b c => ?_) (fun a l hl c => ?_)
    · exact ⟨_, rfl, s_sheet hW hs (fun _ => pub_end hS) (fun a' _ _ => absurd a' a) (fun a' _ _ => absurd a' a) (fun a' _ _ _ => absurd a' a)⟩
    · refine ⟨_, rfl, s_sheet hW hs (fun a' => absurd a a') (fun _ _ _ => pub_end hS) (fun _ _ c' => absurd (Int32.lt_trans c c') (by decide)) (fun _ l hl c' => ?_)⟩
      rcases c' with ⟨d, -⟩ | ⟨-, d⟩
      · exact absurd d b
      · exact absurd c (nx0 l hl d).1
    · refine ⟨_, rfl, s_sheet hW hs (fun a' => absurd a a') (fun _ _ c' => absurd (Int32.lt_trans c' c) (by decide)) (fun _ _ _ => pub_end hS) (fun _ l hl c' => ?_)⟩
      rcases c' with ⟨d, -⟩ | ⟨-, d⟩
      · exact absurd d b
      · exact absurd c (nx0 l hl d).2
    · have dd : ∀ (P : Prop), ¬ w = -1 → (24 < x ∨ x < 0) → P := fun P h1 h2 => by
        rcases c with ⟨d, -⟩ | ⟨-, d⟩
        · exact absurd d h1
        · exact absurd h2 (fun h => h.elim (nx0 l hl d).1 (nx0 l hl d).2)
      refine ⟨_, rfl, s_sheet hW hs (fun a' => absurd a a') (fun _ b' c' => dd _ b' (Or.inl c')) (fun _ b' c' => dd _ b' (Or.inr c')) (fun _ l' hl' c' => ?_)⟩
      have hll : l' = l := by
        rcases c with ⟨d, d2⟩ | ⟨d, d2⟩
        · rcases c' with ⟨-, d4⟩ | ⟨d3, -⟩
          · omega
          · exact absurd d d3
        · rcases c' with ⟨d3, -⟩ | ⟨-, d4⟩
          · exact absurd d3 d
          · exact (nI_eq (by omega) (by omega)).mp (d4.symm.trans d2)
      subst hll
      refine pub_end (ss_new (l := l') hS hs (in3 a.1 a.2) hl (fun o h1 h2 h3 h4 h5 => ?_) ?_ ?_ (fun i hi => ?_) ?_ ?_ (fun p => ?_))
      · rw [up1_ne h5, up2_ne h4, up2_ne h3, up1_ne h2, up2_ne h1, up2_ne h1]
      · rw [up1_ne (by omega), up2_ne (by omega), up2_ne (by omega), up1_ne (by omega), up2_eq, up1_ne (by decide), up2_eq, up1_eq]
      · rw [up1_ne (by omega), up2_ne (by omega), up2_ne (by omega), up1_ne (by omega), up2_eq, up1_eq]
      · rw [up1_ne (by omega), up2_ne (by omega), up2_ne (by omega), up1_eq, if_pos hi]
      · rw [up1_ne (by omega), up2_ne (by omega), up2_eq, up1_ne (by omega), up2_ne (by omega), up2_ne (by omega)]
      · rw [up1_ne (by omega), up2_eq, up2_ne (by omega), up1_ne (by omega), up2_ne (by omega), up2_ne (by omega)]
      · rw [up1_eq, up1_ne (by omega), up2_ne (by omega), up2_ne (by omega)]
  · refine Go_wp 60 rfl ?_
    refine c_isSheet (fun i hi e => absurd ⟨i, hi, e⟩ hv) (fun _ => ?_)
    refine And.intro (fun _ => ?_) (fun h9 => absurd rfl h9)
    refine ⟨_, rfl, ?_⟩
    refine Go_wp 60 rfl ?_
    refine s_isSheet (fun i hi e => absurd ⟨i, hi, e⟩ hv) (fun _ => ?_)
    refine And.intro (fun _ => ?_) (fun h9 => absurd rfl h9)
    exact pub_end hS
