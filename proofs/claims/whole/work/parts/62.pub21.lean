/-! Public methods: places copied, the model's side. -/
theorem tI_m1 {g : Int32} (h : g = -1 ∨ g = 0 ∨ g = 1) : (g < 0 ↔ g = -1) := by
  rcases h with q | q | q <;> subst q <;> decide
theorem s_copyX {nx sl : Nat} {ln : Nat → Nat} {R : Nat → Nat → Option Nat} {I : Nat → Nat → Int32} {Q : Option Value → Hp → Prop} {k : Nat} (hW : SW nx ln R) {f t lf lt nn : Nat} {x y z : Int32} (hf : f < 4) (ht : t < 4) (lf4 : lf ≤ 24) (kf : I 101 f = nI lf) (lt4 : lt ≤ 24) (kt : I 101 t = nI lt)
    (q3 : (∀ p a c, ¬ cpOk lf lt x y z p a c) → Q (some (.int (-1000000013))) (nx, sl, ln, R, I))
    (q4 : ∀ p a c, cpOk lf lt x y z p a c → Q (some (.int (nI c))) (nx, sl, ln, R, up1 (up1 I 107 (fun q => if q < c then I 102 (24 * f + p + q) else I 107 q)) 102 (fun q => if 24 * t + a ≤ q ∧ q < 24 * t + a + c then I 102 (24 * f + p + (q - (24 * t + a))) else I 102 q))) :
    wp (nn + 60) (k + 2) mX8_copy 56 [some (.ref 85), some (.int (nI f)), some (.int x), some (.int (nI t)), some (.int y), some (.int z), none] [] (nx, sl, ln, R, I) Q := by
  have z0 : (0 : Int32).toInt = 0 := rfl
  have m0 : ∀ i, i < 4 → I 101 (nI i).toNatClampNeg = I 101 i := fun o _ => by rw [ix (by omega)]
  refine And.intro (fun hx => ?_) (fun hx => ?_)
  · refine q3 (fun p a c h => ?_)
    obtain ⟨h1, h2, h3, h4, h5⟩ := h
    rw [h3, tI_lt, tI_nI (by omega)] at hx
    omega
  · refine And.intro (fun hy => ?_) (fun hy => ?_)
    · refine q3 (fun p a c h => ?_)
      obtain ⟨h1, h2, h3, h4, h5⟩ := h
      rw [h4, tI_lt, tI_nI (by omega)] at hy
      omega
    · refine And.intro (fun hz => ?_) (fun hz => ?_)
      · refine q3 (fun p a c h => ?_)
        obtain ⟨h1, h2, h3, h4, h5⟩ := h
        rw [h5, tI_lt, tI_nI (by omega)] at hz
        omega
      · rw [tI_lt] at hx hy hz
        have hx2 := tI_hi x
        have hy2 := tI_hi y
        have hz2 := tI_hi z
        have e1 : (nI lf - z).toInt = (lf : Int) - z.toInt := by rw [tI_sub (by rw [tI_nI (by omega)]; omega) (by rw [tI_nI (by omega)]; omega), tI_nI (by omega)]
        have e2 : (nI lt - z).toInt = (lt : Int) - z.toInt := by rw [tI_sub (by rw [tI_nI (by omega)]; omega) (by rw [tI_nI (by omega)]; omega), tI_nI (by omega)]
        refine And.intro (sw_k hW (Nat.le_of_ble_eq_true rfl) rfl) ?_
        refine Exists.intro _ (And.intro (sw_r hW (Nat.le_of_ble_eq_true rfl) rfl rfl) ?_)
        refine And.intro (sw_n hW (Nat.le_of_ble_eq_true rfl) rfl rfl (hf) (Nat.le_of_ble_eq_true rfl)) ?_
        rw [m0 f hf, kf]
        refine And.intro (fun hd => ?_) (fun hd => ?_)
        · refine q3 (fun p a c h => ?_)
          obtain ⟨h1, h2, h3, h4, h5⟩ := h
          rw [tI_lt, e1, h3, h5, tI_nI (by omega), tI_nI (by omega)] at hd
          omega
        · refine And.intro (sw_k hW (Nat.le_of_ble_eq_true rfl) rfl) ?_
          refine Exists.intro _ (And.intro (sw_r hW (Nat.le_of_ble_eq_true rfl) rfl rfl) ?_)
          refine And.intro (sw_n hW (Nat.le_of_ble_eq_true rfl) rfl rfl (ht) (Nat.le_of_ble_eq_true rfl)) ?_
          rw [m0 t ht, kt]
          rw [tI_lt, e1] at hd
          refine And.intro (fun he => ?_) (fun he => ?_)
          · rw [tI_le, e2] at he
            obtain ⟨p, hp, rfl⟩ : ∃ p, p < 2147483648 ∧ x = nI p := ⟨x.toInt.toNat, by omega, nI_ofI (by omega)⟩
            obtain ⟨a, ha, rfl⟩ : ∃ p, p < 2147483648 ∧ y = nI p := ⟨y.toInt.toNat, by omega, nI_ofI (by omega)⟩
            obtain ⟨c, hc, rfl⟩ : ∃ p, p < 2147483648 ∧ z = nI p := ⟨z.toInt.toNat, by omega, nI_ofI (by omega)⟩
            rw [tI_nI hp, tI_nI hc] at hd
            rw [tI_nI ha, tI_nI hc] at he
            refine l_copy1 hW hf ht (by omega) (by omega) c 0 0 _ rfl ?_ (by omega) (q4 p a c ⟨by omega, by omega, rfl, rfl, rfl⟩)
            funext q
            by_cases hq : q = 107
            · subst hq
              rw [up1_eq]
              funext p'
              rw [if_neg (by omega)]
            · rw [up1_ne hq]
          · refine q3 (fun p a c h => ?_)
            obtain ⟨h1, h2, h3, h4, h5⟩ := h
            rw [tI_le, e2, h4, h5, tI_nI (by omega), tI_nI (by omega)] at he
            omega
theorem s_copy {nx sl : Nat} {ln : Nat → Nat} {R : Nat → Nat → Option Nat} {I : Nat → Nat → Int32} {Q : Option Value → Hp → Prop} {k : Nat} (hW : SW nx ln R) {f t lf lt : Nat} {gf gt x y z : Int32} (hf : f < 4) (ht : t < 4) (s0 : I 100 f = gf) (t0 : I 100 t = gt) (s3 : gf = -1 ∨ gf = 0 ∨ gf = 1) (t3 : gt = -1 ∨ gt = 0 ∨ gt = 1) (lf4 : lf ≤ 24) (kf : I 101 f = nI lf) (lt4 : lt ≤ 24) (kt : I 101 t = nI lt)
    (q1 : gf = -1 ∨ gt = -1 → Q (some (.int (-1000000011))) (nx, sl, ln, R, I))
    (q2 : ¬ (gf = -1 ∨ gt = -1) → ¬ gf = gt → Q (some (.int (-1000000012))) (nx, sl, ln, R, I))
    (q3 : ¬ (gf = -1 ∨ gt = -1) → gf = gt → (∀ p a c, ¬ cpOk lf lt x y z p a c) → Q (some (.int (-1000000013))) (nx, sl, ln, R, I))
    (q4 : ¬ (gf = -1 ∨ gt = -1) → gf = gt → ∀ p a c, cpOk lf lt x y z p a c → Q (some (.int (nI c))) (nx, sl, ln, R, up1 (up1 I 107 (fun q => if q < c then I 102 (24 * f + p + q) else I 107 q)) 102 (fun q => if 24 * t + a ≤ q ∧ q < 24 * t + a + c then I 102 (24 * f + p + (q - (24 * t + a))) else I 102 q))) :
    Go (k + 2) mX8_copy [.ref 85, .int (nI f), .int x, .int (nI t), .int y, .int z] (nx, sl, ln, R, I) Q := by
  have m0 : ∀ i, i < 4 → I 100 (nI i).toNatClampNeg = I 100 i := fun o _ => by rw [ix (by omega)]
  refine Go_wp 100 rfl ?_
  refine s_isSheet (fun _ _ _ => ?_) (fun e => absurd rfl (e f hf))
  refine And.intro (fun h9 => absurd h9 (by decide)) (fun _ => ?_)
  refine s_isSheet (fun _ _ _ => ?_) (fun e => absurd rfl (e t ht))
  refine And.intro (fun _ => ?_) (fun h9 => absurd (by decide) h9)
  refine And.intro (sw_k hW (Nat.le_of_ble_eq_true rfl) rfl) ?_
  refine Exists.intro _ (And.intro (sw_r hW (Nat.le_of_ble_eq_true rfl) rfl rfl) ?_)
  refine And.intro (sw_n hW (Nat.le_of_ble_eq_true rfl) rfl rfl (hf) (Nat.le_of_ble_eq_true rfl)) ?_
  rw [m0 f hf, s0]
  refine And.intro (fun h => q1 (Or.inl ((tI_m1 s3).mp h))) (fun h => ?_)
  refine And.intro (sw_k hW (Nat.le_of_ble_eq_true rfl) rfl) ?_
  refine Exists.intro _ (And.intro (sw_r hW (Nat.le_of_ble_eq_true rfl) rfl rfl) ?_)
  refine And.intro (sw_n hW (Nat.le_of_ble_eq_true rfl) rfl rfl (ht) (Nat.le_of_ble_eq_true rfl)) ?_
  rw [m0 t ht, t0]
  have hf1 : ¬ gf = -1 := fun q => h ((tI_m1 s3).mpr q)
  refine And.intro (fun h2 => ?_) (fun h2 => q1 (Or.inr ((tI_m1 t3).mp (Int32.not_le.mp h2))))
  have hnm : ¬ (gf = -1 ∨ gt = -1) := fun q => q.elim hf1 (fun q => absurd h2 (Int32.not_le.mpr ((tI_m1 t3).mpr q)))
  refine And.intro (sw_k hW (Nat.le_of_ble_eq_true rfl) rfl) ?_
  refine Exists.intro _ (And.intro (sw_r hW (Nat.le_of_ble_eq_true rfl) rfl rfl) ?_)
  refine And.intro (sw_n hW (Nat.le_of_ble_eq_true rfl) rfl rfl (hf) (Nat.le_of_ble_eq_true rfl)) ?_
  rw [m0 f hf, s0]
  refine And.intro (sw_k hW (Nat.le_of_ble_eq_true rfl) rfl) ?_
  refine Exists.intro _ (And.intro (sw_r hW (Nat.le_of_ble_eq_true rfl) rfl rfl) ?_)
  refine And.intro (sw_n hW (Nat.le_of_ble_eq_true rfl) rfl rfl (ht) (Nat.le_of_ble_eq_true rfl)) ?_
  rw [m0 t ht, t0]
  refine And.intro (fun h3 => ?_) (fun h3 => q2 hnm h3)
  exact s_copyX hW hf ht lf4 kf lt4 kt (q3 hnm h3) (q4 hnm h3)
theorem pub_copy (v x w y z : Int32) : Pub mX7_copy mX8_copy [.int v, .int x, .int w, .int y, .int z] := by
  intro k nx sl ln R I hS
  have hW := hS.1
  by_cases hv : ∃ s, s < 4 ∧ v = nI s
  · obtain ⟨f, hf, rfl⟩ := hv
    by_cases hw : ∃ s, s < 4 ∧ w = nI s
    · obtain ⟨t, ht, rfl⟩ := hw
      obtain ⟨s0, s1, ⟨lf, lf4, kf, kf2⟩, kf8⟩ := hS.2.2.2.1 f hf
      obtain ⟨t0, t1, ⟨lt, lt4, kt, kt2⟩, kt8⟩ := hS.2.2.2.1 t ht
      refine c_copy hW hf ht s0 t0 lf4 kf lt4 kt (fun a => ?_) (fun a b => ?_) (fun a b c => ?_) (fun a b p q c hok => ?_)
      · exact ⟨_, rfl, s_copy hW hf ht rfl rfl s1 t1 lf4 kf2 lt4 kt2 (fun _ => pub_end hS) (fun a' => absurd a a') (fun a' => absurd a a') (fun a' => absurd a a')⟩
      · exact ⟨_, rfl, s_copy hW hf ht rfl rfl s1 t1 lf4 kf2 lt4 kt2 (fun a' => absurd a' a) (fun _ _ => pub_end hS) (fun _ b' => absurd b' b) (fun _ b' => absurd b' b)⟩
      · exact ⟨_, rfl, s_copy hW hf ht rfl rfl s1 t1 lf4 kf2 lt4 kt2 (fun a' => absurd a' a) (fun _ b' => absurd b b') (fun _ _ _ => pub_end hS) (fun _ _ p' q' c' h => absurd h (c p' q' c'))⟩
      · obtain ⟨I1, hI1⟩ : ∃ I1, up1 I (55 + 2 * t) (va_cpy (I (55 + 2 * f)) (I (55 + 2 * t)) p q c) = I1 := ⟨_, rfl⟩
        have e0 : ∀ o, ¬ o = 55 + 2 * t → I1 o = I o := fun o h => by rw [← hI1, up1_ne h]
        have e1 : I1 (55 + 2 * t) = va_cpy (I (55 + 2 * f)) (I (55 + 2 * t)) p q c := by rw [← hI1, up1_eq]
        rw [hI1]
        refine ⟨_, rfl, s_copy (gf := I 100 f) (gt := I 100 t) (lf := lf) (lt := lt) hW hf ht (by rw [e0 100 (by omega)]) (by rw [e0 100 (by omega)]) s1 t1 lf4 (by rw [e0 101 (by omega)]; exact kf2) lt4 (by rw [e0 101 (by omega)]; exact kt2) (fun a' => absurd a' a) (fun _ b' => absurd b b') (fun _ _ h => absurd hok (h p q c)) (fun _ _ p' q' c' hok' => ?_)⟩
        obtain ⟨g1, g2, g3, g4, g5⟩ := hok
        obtain ⟨k1, k2, k3, k4, k5⟩ := hok'
        have hpp : p' = p := (nI_eq (by omega) (by omega)).mp (k3.symm.trans g3)
        have hqq : q' = q := (nI_eq (by omega) (by omega)).mp (k4.symm.trans g4)
        have hcc : c' = c := (nI_eq (by omega) (by omega)).mp (k5.symm.trans g5)
        subst hpp
        subst hqq
        subst hcc
        rw [e0 102 (by omega), e0 107 (by omega)]
        refine pub_end (hS.ss (fun o h1 h2 h3 => by rw [up1_ne (by omega), up1_ne h3, e0 o (by omega)]) (fun s hs => ?_))
        obtain ⟨c1, c2, c3, c4⟩ := hS.2.2.2.1 s hs
        rw [up1_ne (show ¬ 54 + 2 * s = 102 by omega), up1_ne (show ¬ 54 + 2 * s = 107 by omega), e0 (54 + 2 * s) (by omega), up1_ne (show ¬ 100 = 102 by omega), up1_ne (show ¬ 100 = 107 by omega), e0 100 (by omega), up1_ne (show ¬ 101 = 102 by omega), up1_ne (show ¬ 101 = 107 by omega), e0 101 (by omega), up1_ne (show ¬ 55 + 2 * s = 102 by omega), up1_ne (show ¬ 55 + 2 * s = 107 by omega), up1_eq]
        refine ⟨c1, c2, c3, fun i hi => ?_⟩
        by_cases hst : s = t
        · subst hst
          rw [e1]
          show (if q' ≤ i ∧ i < q' + c' then I (55 + 2 * f) (p' + (i - q')) else I (55 + 2 * s) i) = _
          by_cases hi2 : q' ≤ i ∧ i < q' + c'
          · rw [if_pos hi2, if_pos (by omega), kf8 _ (by omega)]
            congr 1
            omega
          · rw [if_neg hi2, if_neg (by omega)]
            exact kt8 i hi
        · rw [e0 (55 + 2 * s) (by omega), if_neg (by omega)]
          exact c4 i hi
    · refine Go_wp 60 rfl ?_
      refine c_isSheet (fun _ _ _ => ?_) (fun e => absurd rfl (e f hf))
      refine And.intro (fun h9 => absurd h9 (by decide)) (fun _ => ?_)
      refine c_isSheet (fun i hi e => absurd ⟨i, hi, e⟩ hw) (fun _ => ?_)
      refine And.intro (fun h9 => absurd rfl h9) (fun _ => ?_)
      refine ⟨_, rfl, ?_⟩
      refine Go_wp 60 rfl ?_
      refine s_isSheet (fun _ _ _ => ?_) (fun e => absurd rfl (e f hf))
      refine And.intro (fun h9 => absurd h9 (by decide)) (fun _ => ?_)
      refine s_isSheet (fun i hi e => absurd ⟨i, hi, e⟩ hw) (fun _ => ?_)
      refine And.intro (fun h9 => absurd rfl h9) (fun _ => ?_)
      exact pub_end hS
  · refine Go_wp 60 rfl ?_
    refine c_isSheet (fun i hi e => absurd ⟨i, hi, e⟩ hv) (fun _ => ?_)
    refine And.intro (fun _ => ?_) (fun h9 => absurd rfl h9)
    refine ⟨_, rfl, ?_⟩
    refine Go_wp 60 rfl ?_
    refine s_isSheet (fun i hi e => absurd ⟨i, hi, e⟩ hv) (fun _ => ?_)
    refine And.intro (fun _ => ?_) (fun h9 => absurd rfl h9)
    exact pub_end hS
