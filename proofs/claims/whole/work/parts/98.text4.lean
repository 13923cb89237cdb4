/-! Public methods: text. -/
theorem txC_0 (U C : Nat → Int32) (m : Nat) : txC U C m 0 = U := by
  funext p
  unfold txC
  rw [if_neg (by omega)]
theorem txC_s (U C : Nat → Int32) (m i : Nat) : up1 (txC U C m i) (102 + 96 * m + i) (C i) = txC U C m (i + 1) := by
  funext p
  by_cases e : p = 102 + 96 * m + i
  · subst e
    rw [up1_eq]
    unfold txC
    rw [if_pos (by omega)]
    congr 1
    omega
  · rw [up1_ne e]
    unfold txC
    by_cases h : 102 + 96 * m ≤ p ∧ p < 102 + 96 * m + i
    · rw [if_pos h, if_pos (by omega)]
    · rw [if_neg h, if_neg (by omega)]
theorem l_text {nx sl : Nat} {ln : Nat → Nat} {R : Nat → Nat → Option Nat} {I : Nat → Nat → Int32} {Q : Option Value → Hp → Prop} {k : Nat} (hW : SW nx ln R) {U C : Nat → Int32} {J : Nat → Nat → Int32} {m len : Nat} {x1 : Option Value} (hm : m < 14) (hl : len ≤ 96) (h7 : U 7 = nI m) (h19 : J 85 19 = nI len) (hC : ∀ q, q < len → J 95 q = C q) (hQ : Q (some (.int (nI m))) (nx, sl, ln, R, nw J (up1 (txC U C m len) 7 (nI (m + 1))))) : ∀ (r i : Nat) (xi : Int32) (I1 : Nat → Nat → Int32), xi = nI i → I1 = nw J (txC U C m i) → i + r = len → GoF k mX8_text 117 [some (.ref 85), x1, some (.int (nI m)), some (.int xi)] [] (nx, sl, ln, R, I1) Q := by
  have c7 : ∀ i, i ≤ 96 → txC U C m i 7 = nI m := fun i hi => by unfold txC; rw [if_neg (by omega)]; exact h7
  intro r
  induction r with
  | zero =>
    intro i xi I1 hxi hI hir
    subst hxi
    subst hI
    have : i = len := by omega
    subst this
    refine GoF_wp1 40 ?_
    refine And.intro (sw_k hW (Nat.le_of_ble_eq_true rfl) rfl) ?_
    rw [show nw J (txC U C m i) 85 19 = nI i by rw [nwo _ _ (by decide)]; exact h19]
    refine And.intro (fun _ => ?_) (fun h => absurd (Int32.le_refl _) h)
    refine And.intro (sw_k hW (Nat.le_of_ble_eq_true rfl) rfl) ?_
    refine Exists.intro _ (And.intro (sw_r hW (Nat.le_of_ble_eq_true rfl) rfl rfl) ?_)
    refine And.intro (sw_n hW (Nat.le_of_ble_eq_true rfl) rfl rfl ((Nat.le_of_ble_eq_true rfl)) (Nat.le_of_ble_eq_true rfl)) ?_
    rw [show nw J (txC U C m i) 86 (7 : Int32).toNatClampNeg = nI m from c7 i hl]
    refine And.intro (sw_n hW (Nat.le_of_ble_eq_true rfl) rfl rfl ((Nat.le_of_ble_eq_true rfl)) (Nat.le_of_ble_eq_true rfl)) ?_
    rw [nI_1, show (7 : Int32).toNatClampNeg = 7 from rfl, nw_put]
    exact hQ
  | succ r ih =>
    intro i xi I1 hxi hI hir
    subst hxi
    subst hI
    refine GoF_wp1 40 ?_
    refine And.intro (sw_k hW (Nat.le_of_ble_eq_true rfl) rfl) ?_
    rw [show nw J (txC U C m i) 85 19 = nI len by rw [nwo _ _ (by decide)]; exact h19]
    refine And.intro (fun h => absurd h (nI_ge (show i < len by omega) (by omega))) (fun _ => ?_)
    refine And.intro (sw_k hW (Nat.le_of_ble_eq_true rfl) rfl) ?_
    refine Exists.intro _ (And.intro (sw_r hW (Nat.le_of_ble_eq_true rfl) rfl rfl) ?_)
    refine And.intro (sw_k hW (Nat.le_of_ble_eq_true rfl) rfl) ?_
    refine Exists.intro _ (And.intro (sw_r hW (Nat.le_of_ble_eq_true rfl) rfl rfl) ?_)
    refine And.intro (sw_n hW (Nat.le_of_ble_eq_true rfl) rfl rfl (show i < 96 by omega) (Nat.le_of_ble_eq_true rfl)) ?_
    rw [show nw J (txC U C m i) 95 (nI i).toNatClampNeg = C i by rw [nwo _ _ (by decide), ix (by omega)]; exact hC i (by omega)]
    refine And.intro (by rw [wx]; exact sw_n hW (Nat.le_of_ble_eq_true rfl) rfl rfl (show 102 + 96 * m + i < 1446 by omega) (Nat.le_of_ble_eq_true rfl)) ?_
    rw [wx, ix (show 102 + 96 * m + i < 2147483648 by omega), nw_put, txC_s]
    exact ih (i + 1) _ _ (nI_1 i) rfl (by omega)
theorem t_text {nx sl : Nat} {ln : Nat → Nat} {R : Nat → Nat → Option Nat} {J : Nat → Nat → Int32} {T : Nat → Int32} {Q : Option Value → Hp → Prop} {k : Nat} (hW : SW nx ln R) {C : Nat → Int32} {m key len a nn : Nat} {x1 x2 x3 : Option Value} (hm : m ≤ 14) (hk : key ≤ 2) (hl : len ≤ 96) (h7 : T 7 = nI m) (h15 : J 85 15 = nI key) (h19 : J 85 19 = nI len) (h20 : J 85 20 = nI a) (hC : ∀ q, q < len → J 95 q = C q) (q14 : m = 14 → Q (some (.int (-1000000003))) (nx, sl, ln, R, nw J T)) (qm : m < 14 → Q (some (.int (nI m))) (nx, sl, ln, R, nw J (txF T C m key len a))) : wp (nn + 60) k mX8_text 51 [some (.ref 85), x1, x2, x3] [] (nx, sl, ln, R, nw J T) Q := by
  refine And.intro (sw_k hW (Nat.le_of_ble_eq_true rfl) rfl) ?_
  refine Exists.intro _ (And.intro (sw_r hW (Nat.le_of_ble_eq_true rfl) rfl rfl) ?_)
  refine And.intro (sw_n hW (Nat.le_of_ble_eq_true rfl) rfl rfl ((Nat.le_of_ble_eq_true rfl)) (Nat.le_of_ble_eq_true rfl)) ?_
  rw [show nw J T 86 (7 : Int32).toNatClampNeg = nI m from h7]
  by_cases e : m = 14
  · refine And.intro (fun h => absurd (by rw [e]; rfl) h) (fun _ => ?_)
    exact q14 e
  · refine And.intro (fun _ => ?_) (fun h => absurd (fun q => absurd ((nI_eq (b := 14) (by omega) (by decide)).mp q) e) h)
    refine And.intro (sw_k hW (Nat.le_of_ble_eq_true rfl) rfl) ?_
    refine Exists.intro _ (And.intro (sw_r hW (Nat.le_of_ble_eq_true rfl) rfl rfl) ?_)
    refine And.intro (sw_n hW (Nat.le_of_ble_eq_true rfl) rfl rfl ((Nat.le_of_ble_eq_true rfl)) (Nat.le_of_ble_eq_true rfl)) ?_
    rw [show nw J T 86 (7 : Int32).toNatClampNeg = nI m from h7]
    refine And.intro (sw_k hW (Nat.le_of_ble_eq_true rfl) rfl) ?_
    refine Exists.intro _ (And.intro (sw_r hW (Nat.le_of_ble_eq_true rfl) rfl rfl) ?_)
    refine And.intro (sw_k hW (Nat.le_of_ble_eq_true rfl) rfl) ?_
    rw [show nw J T 85 15 = nI key by rw [nwo _ _ (by decide)]; exact h15]
    refine And.intro (sw_k hW (Nat.le_of_ble_eq_true rfl) rfl) ?_
    rw [show nw J T 85 19 = nI len by rw [nwo _ _ (by decide)]; exact h19]
    refine And.intro (by rw [cx]; exact sw_n hW (Nat.le_of_ble_eq_true rfl) rfl rfl (show 74 + 2 * m < 1446 by omega) (Nat.le_of_ble_eq_true rfl)) ?_
    rw [cx, ix (show 74 + 2 * m < 2147483648 by omega), nw_put, show (1000 : Int32) * nI key + nI len = nI (1000 * key + len) by rw [show (1000 : Int32) = nI 1000 from rfl, nI_mul, nI_add]]
    refine And.intro (sw_k hW (Nat.le_of_ble_eq_true rfl) rfl) ?_
    refine Exists.intro _ (And.intro (sw_r hW (Nat.le_of_ble_eq_true rfl) rfl rfl) ?_)
    have ec1 : (74 : Int32) + 2 * nI m + 1 = nI (74 + 2 * m + 1) := by rw [cx]; exact nI_1 _
    refine And.intro (sw_k hW (Nat.le_of_ble_eq_true rfl) rfl) ?_
    rw [show nw J (up1 T (74 + 2 * m) (nI (1000 * key + len))) 85 20 = nI a by rw [nwo _ _ (by decide)]; exact h20]
    refine And.intro (by rw [ec1]; exact sw_n hW (Nat.le_of_ble_eq_true rfl) rfl rfl (show 74 + 2 * m + 1 < 1446 by omega) (Nat.le_of_ble_eq_true rfl)) ?_
    rw [ec1, ix (show 74 + 2 * m + 1 < 2147483648 by omega), nw_put]
    refine l_text (I := J) (J := J) (U := txA T m key len a) (C := C) hW (by omega) hl (by unfold txA; rw [up1_ne (by omega), up1_ne (by omega)]; exact h7) h19 hC (qm (by omega)) len 0 0 _ rfl ?_ (by omega)
    rw [txC_0]
    rfl
