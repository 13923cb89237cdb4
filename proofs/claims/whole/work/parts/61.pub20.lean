/-! Public methods: places copied. -/
theorem c_hasPlaces {nx sl : Nat} {ln : Nat → Nat} {R : Nat → Nat → Option Nat} {I : Nat → Nat → Int32} {Q : Option Value → Hp → Prop} {k : Nat} (hW : SW nx ln R) {o l : Nat} {v c : Int32} (ho : KD o = 3 ∧ o < nx) (hl : I o 1 = nI l) (hl4 : l ≤ 24) (h1 : ∀ p q, p + q ≤ l → v = nI p → c = nI q → Q (some (.int 1)) (nx, sl, ln, R, I)) (h0 : (∀ p q, p + q ≤ l → v = nI p → ¬ c = nI q) → Q (some (.int 0)) (nx, sl, ln, R, I)) : Go k mX3_hasPlaces [.ref o, .int v, .int c] (nx, sl, ln, R, I) Q := by
  have z0 : (0 : Int32).toInt = 0 := rfl
  refine Go_wp 40 rfl ?_
  refine And.intro (fun hb => ?_) (fun hb => ?_)
  · refine And.intro (Or.inl rfl) (h0 (fun p q hp e e2 => ?_))
    rw [e, tI_lt, tI_nI (by omega)] at hb
    omega
  · refine And.intro (fun hc => ?_) (fun hc => ?_)
    · refine And.intro (Or.inl rfl) (h0 (fun p q hp e e2 => ?_))
      rw [e2, tI_lt, tI_nI (by omega)] at hc
      omega
    · rw [tI_lt] at hb hc
      obtain ⟨p, hp, rfl⟩ : ∃ p, p < 2147483648 ∧ v = nI p := ⟨v.toInt.toNat, by have := tI_hi v; omega, nI_ofI (by omega)⟩
      obtain ⟨q, hq, rfl⟩ : ∃ p, p < 2147483648 ∧ c = nI p := ⟨c.toInt.toNat, by have := tI_hi c; omega, nI_ofI (by omega)⟩
      refine And.intro ho ?_
      rw [hl]
      refine And.intro (fun hd => ?_) (fun hd => ?_)
      · refine And.intro (Or.inl rfl) (h0 (fun p' q' hp' e e2 => ?_))
        have a1 := (nI_eq hp (by omega)).mp e
        rw [tI_lt, tI_nI (by omega), tI_nI (by omega)] at hd
        omega
      · rw [tI_lt, tI_nI (by omega), tI_nI (by omega)] at hd
        refine And.intro ho ?_
        rw [hl]
        refine And.intro (fun hf => ?_) (fun hf => ?_)
        · refine And.intro (Or.inl rfl) (h0 (fun p' q' hp' e e2 => ?_))
          have a1 := (nI_eq hp (by omega)).mp e
          have a2 := (nI_eq hq (by omega)).mp e2
          rw [nI_sub (show p ≤ l by omega), tI_lt, tI_nI (by omega), tI_nI (by omega)] at hf
          omega
        · rw [nI_sub (show p ≤ l by omega), tI_lt, tI_nI (by omega), tI_nI (by omega)] at hf
          exact And.intro (Or.inr rfl) (h1 p q (by omega) rfl rfl)
/-- that so many places are there on both sides -/
def cpOk (lf lt : Nat) (x y z : Int32) (p a c : Nat) : Prop := p + c ≤ lf ∧ a + c ≤ lt ∧ x = nI p ∧ y = nI a ∧ z = nI c
theorem c_copy {nx sl : Nat} {ln : Nat → Nat} {R : Nat → Nat → Option Nat} {I : Nat → Nat → Int32} {Q : Option Value → Hp → Prop} {k : Nat} (hW : SW nx ln R) {f t lf lt : Nat} {gf gt x y z : Int32} (hf : f < 4) (ht : t < 4) (s0 : I (54 + 2 * f) 0 = gf) (t0 : I (54 + 2 * t) 0 = gt) (lf4 : lf ≤ 24) (kf : I (54 + 2 * f) 1 = nI lf) (lt4 : lt ≤ 24) (kt : I (54 + 2 * t) 1 = nI lt)
    (q1 : gf = -1 ∨ gt = -1 → Q (some (.int (-1000000011))) (nx, sl, ln, R, I))
    (q2 : ¬ (gf = -1 ∨ gt = -1) → ¬ gf = gt → Q (some (.int (-1000000012))) (nx, sl, ln, R, I))
    (q3 : ¬ (gf = -1 ∨ gt = -1) → gf = gt → (∀ p a c, ¬ cpOk lf lt x y z p a c) → Q (some (.int (-1000000013))) (nx, sl, ln, R, I))
    (q4 : ¬ (gf = -1 ∨ gt = -1) → gf = gt → ∀ p a c, cpOk lf lt x y z p a c → Q (some (.int (nI c))) (nx, sl, ln, R, up1 I (55 + 2 * t) (va_cpy (I (55 + 2 * f)) (I (55 + 2 * t)) p a c))) :
    Go (k + 2) mX7_copy [.ref 0, .int (nI f), .int x, .int (nI t), .int y, .int z] (nx, sl, ln, R, I) Q := by
  refine Go_wp 80 rfl ?_
  refine c_isSheet (fun _ _ _ => ?_) (fun e => absurd rfl (e f hf))
  refine And.intro (fun h9 => absurd h9 (by decide)) (fun _ => ?_)
  refine c_isSheet (fun _ _ _ => ?_) (fun e => absurd rfl (e t ht))
  refine And.intro (fun _ => ?_) (fun h9 => absurd (by decide) h9)
  refine And.intro (sw_k hW (Nat.le_of_ble_eq_true rfl) rfl) ?_
  refine Exists.intro _ (And.intro (sw_r hW (Nat.le_of_ble_eq_true rfl) rfl rfl) ?_)
  refine And.intro (w_ash hW hf) (Exists.intro _ (And.intro (w_rsh hW hf) ?_))
  refine And.intro (sw_k hW (Nat.le_of_ble_eq_true rfl) rfl) ?_
  refine Exists.intro _ (And.intro (sw_r hW (Nat.le_of_ble_eq_true rfl) rfl rfl) ?_)
  refine And.intro (w_ash hW ht) (Exists.intro _ (And.intro (w_rsh hW ht) ?_))
  refine And.intro (w_shk hW hf) ?_
  refine c_isMissing hW (w_shk hW hf) (fun c => ?_) (fun c => ?_)
  · rw [s0] at c
    refine And.intro (fun _ => ?_) (fun h9 => absurd (by decide) h9)
    exact q1 (Or.inl c)
  · rw [s0] at c
    refine And.intro (fun h9 => absurd rfl h9) (fun _ => ?_)
    refine And.intro (w_shk hW ht) ?_
    refine c_isMissing hW (w_shk hW ht) (fun d => ?_) (fun d => ?_)
    · rw [t0] at d
      refine And.intro (fun h9 => absurd h9 (by decide)) (fun _ => ?_)
      exact q1 (Or.inr d)
    · rw [t0] at d
      have hnm : ¬ (gf = -1 ∨ gt = -1) := fun h => h.elim c d
      refine And.intro (fun _ => ?_) (fun h9 => absurd rfl h9)
      refine And.intro (w_shk hW hf) ?_
      refine And.intro (w_shk hW ht) ?_
      rw [s0, t0]
      refine And.intro (fun e => ?_) (fun e => ?_)
      · refine And.intro (w_shk hW hf) ?_
        refine c_hasPlaces hW (w_shk hW hf) kf lf4 (fun p c1 hp ep ec => ?_) (fun hno => ?_)
        · subst ep
          subst ec
          refine And.intro (fun h9 => absurd h9 (by decide)) (fun _ => ?_)
          refine And.intro (w_shk hW ht) ?_
          refine c_hasPlaces hW (w_shk hW ht) kt lt4 (fun a c2 ha ea ec => ?_) (fun hno => ?_)
          · subst ea
            have hcc : c1 = c2 := (nI_eq (by omega) (by omega)).mp ec
            subst hcc
            refine And.intro (fun _ => ?_) (fun h9 => absurd (by decide) h9)
            refine And.intro (w_shk hW hf) (Exists.intro _ (And.intro (w_rq hW hf) ?_))
            refine And.intro (w_shk hW ht) (Exists.intro _ (And.intro (w_rq hW ht) ?_))
            have kF := sh_all f hf
            have kT := sh_all t ht
            refine And.intro ⟨⟨kF.2.1, sw_lt hW (by omega)⟩, ⟨kT.2.1, sw_lt hW (by omega)⟩, nI_pos (by omega), nI_pos (by omega), nI_pos (by omega), by rw [ix (by omega), ix (by omega), hW.2.1 _ (by omega), kF.2.2.2.2]; omega, by rw [ix (by omega), ix (by omega), hW.2.1 _ (by omega), kT.2.2.2.2]; omega⟩ ?_
            rw [ix (show p < 2147483648 by omega), ix (show a < 2147483648 by omega), ix (show c1 < 2147483648 by omega)]
            exact q4 hnm e p a c1 ⟨hp, ha, rfl, rfl, rfl⟩
          · refine And.intro (fun h9 => absurd rfl h9) (fun _ => ?_)
            exact q3 hnm e (fun p' a c' h => hno a c' h.2.1 h.2.2.2.1 h.2.2.2.2)
        · refine And.intro (fun _ => ?_) (fun h9 => absurd rfl h9)
          exact q3 hnm e (fun p a c' h => hno p c' h.1 h.2.2.1 h.2.2.2.2)
      · exact q2 hnm e
theorem l_copy2 {nx sl : Nat} {ln : Nat → Nat} {R : Nat → Nat → Option Nat} {I : Nat → Nat → Int32} {Q : Option Value → Hp → Prop} {k : Nat} (hW : SW nx ln R) {f t p a c : Nat} {M : Nat → Int32} {x1 x2 : Option Value} (ht : t < 4) (ha : a + c ≤ 24) (hM : ∀ q, q < c → I 107 q = M q) : ∀ (r i : Nat) (xi : Int32) (I1 : Nat → Nat → Int32), xi = nI i → I1 = up1 I 102 (fun q => if 24 * t + a ≤ q ∧ q < 24 * t + a + i then M (q - (24 * t + a)) else I 102 q) → i + r = c → Q (some (.int (nI c))) (nx, sl, ln, R, up1 I 102 (fun q => if 24 * t + a ≤ q ∧ q < 24 * t + a + c then M (q - (24 * t + a)) else I 102 q)) → GoF k mX8_copy 141 [some (.ref 85), x1, x2, some (.int (nI t)), some (.int (nI a)), some (.int (nI c)), some (.int xi)] [] (nx, sl, ln, R, I1) Q := by
  intro r
  induction r with
  | zero =>
    intro i xi I1 hxi hI hir hQ
    subst hxi
    have hid : i = c := by omega
    subst hid
    subst hI
    refine GoF_wp1 40 ?_
    exact And.intro (fun _ => hQ) (fun h => absurd (Int32.le_refl _) h)
  | succ r ih =>
    intro i xi I1 hxi hI hir hQ
    subst hxi
    subst hI
    refine GoF_wp1 40 ?_
    refine And.intro (fun h => absurd h (nI_ge (show i < c by omega) (by omega))) (fun _ => ?_)
    refine And.intro (sw_k hW (Nat.le_of_ble_eq_true rfl) rfl) ?_
    refine Exists.intro _ (And.intro (sw_r hW (Nat.le_of_ble_eq_true rfl) rfl rfl) ?_)
    refine And.intro (sw_k hW (Nat.le_of_ble_eq_true rfl) rfl) ?_
    refine Exists.intro _ (And.intro (sw_r hW (Nat.le_of_ble_eq_true rfl) rfl rfl) ?_)
    refine And.intro (sw_n hW (Nat.le_of_ble_eq_true rfl) rfl rfl (show i < 24 by omega) (Nat.le_of_ble_eq_true rfl)) ?_
    have ex : (24 : Int32) * nI t + nI a + nI i = nI (24 * t + a + i) := by rw [cx24, nI_add]
    refine And.intro (by rw [ex]; exact sw_n hW (Nat.le_of_ble_eq_true rfl) rfl rfl (show 24 * t + a + i < 96 by omega) (Nat.le_of_ble_eq_true rfl)) ?_
    rw [ex, ix (show 24 * t + a + i < 2147483648 by omega), ix (show i < 2147483648 by omega)]
    refine ih (i + 1) _ _ (nI_1 i) ?_ (by omega) hQ
    funext q
    by_cases hq : q = 102
    · subst hq
      rw [up2_eq, up1_eq, up1_eq, up1_ne (by decide), hM i (by omega)]
      funext p
      by_cases hp : p = 24 * t + a + i
      · subst hp; rw [up1_eq, if_pos (by omega)]; congr 1; omega
      · rw [up1_ne hp]
        by_cases hl : 24 * t + a ≤ p ∧ p < 24 * t + a + i
        · rw [if_pos hl, if_pos (by omega)]
        · rw [if_neg hl, if_neg (by omega)]
    · rw [up2_ne hq, up1_ne hq, up1_ne hq]
theorem l_copy1 {nx sl : Nat} {ln : Nat → Nat} {R : Nat → Nat → Option Nat} {I : Nat → Nat → Int32} {Q : Option Value → Hp → Prop} {k : Nat} (hW : SW nx ln R) {f t p a c : Nat} (hf : f < 4) (ht : t < 4) (hp : p + c ≤ 24) (ha : a + c ≤ 24) : ∀ (r i : Nat) (xi : Int32) (I1 : Nat → Nat → Int32), xi = nI i → I1 = up1 I 107 (fun q => if q < i then I 102 (24 * f + p + q) else I 107 q) → i + r = c → Q (some (.int (nI c))) (nx, sl, ln, R, up1 (up1 I 107 (fun q => if q < c then I 102 (24 * f + p + q) else I 107 q)) 102 (fun q => if 24 * t + a ≤ q ∧ q < 24 * t + a + c then I 102 (24 * f + p + (q - (24 * t + a))) else I 102 q)) → GoF k mX8_copy 104 [some (.ref 85), some (.int (nI f)), some (.int (nI p)), some (.int (nI t)), some (.int (nI a)), some (.int (nI c)), some (.int xi)] [] (nx, sl, ln, R, I1) Q := by
  intro r
  induction r with
  | zero =>
    intro i xi I1 hxi hI hir hQ
    subst hxi
    have hid : i = c := by omega
    subst hid
    subst hI
    refine GoF_wp1 40 ?_
    refine And.intro (fun _ => ?_) (fun h => absurd (Int32.le_refl _) h)
    refine l_copy2 (I := up1 I 107 (fun q => if q < i then I 102 (24 * f + p + q) else I 107 q)) (f := f) (p := p) (M := fun q => I 102 (24 * f + p + q)) hW ht ha (fun q hq => by rw [up1_eq, if_pos hq]) i 0 0 _ rfl ?_ (by omega) ?_
    · funext q
      by_cases hq : q = 102
      · subst hq
        rw [up1_eq]
        funext p
        rw [if_neg (by omega)]
      · rw [up1_ne (f := up1 I 107 _) hq]
    · rw [up1_ne (j := 102) (k := 107) (by decide)]
      exact hQ
  | succ r ih =>
    intro i xi I1 hxi hI hir hQ
    subst hxi
    subst hI
    refine GoF_wp1 40 ?_
    refine And.intro (fun h => absurd h (nI_ge (show i < c by omega) (by omega))) (fun _ => ?_)
    have ex : (24 : Int32) * nI f + nI p + nI i = nI (24 * f + p + i) := by rw [cx24, nI_add]
    refine And.intro (sw_k hW (Nat.le_of_ble_eq_true rfl) rfl) ?_
    refine Exists.intro _ (And.intro (sw_r hW (Nat.le_of_ble_eq_true rfl) rfl rfl) ?_)
    refine And.intro (sw_k hW (Nat.le_of_ble_eq_true rfl) rfl) ?_
    refine Exists.intro _ (And.intro (sw_r hW (Nat.le_of_ble_eq_true rfl) rfl rfl) ?_)
    refine And.intro (by rw [ex]; exact sw_n hW (Nat.le_of_ble_eq_true rfl) rfl rfl (show 24 * f + p + i < 96 by omega) (Nat.le_of_ble_eq_true rfl)) ?_
    refine And.intro (sw_n hW (Nat.le_of_ble_eq_true rfl) rfl rfl (show i < 24 by omega) (Nat.le_of_ble_eq_true rfl)) ?_
    rw [ex, ix (show 24 * f + p + i < 2147483648 by omega), ix (show i < 2147483648 by omega)]
    refine ih (i + 1) _ _ (nI_1 i) ?_ (by omega) hQ
    funext q
    by_cases hq : q = 107
    · subst hq
      rw [up2_eq, up1_eq, up1_eq, up1_ne (by decide)]
      funext p'
      by_cases hp : p' = i
      · subst hp; rw [up1_eq, if_pos (by omega)]
      · rw [up1_ne hp]
        by_cases hl : p' < i
        · rw [if_pos hl, if_pos (by omega)]
        · rw [if_neg hl, if_neg (by omega)]
    · rw [up2_ne hq, up1_ne hq, up1_ne hq]
