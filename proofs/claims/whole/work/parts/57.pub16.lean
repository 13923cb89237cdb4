/-! Public methods: a place of a sheet marked. -/
theorem c_mark {nx sl : Nat} {ln : Nat → Nat} {R : Nat → Nat → Option Nat} {I : Nat → Nat → Int32} {Q : Option Value → Hp → Prop} {k : Nat} (hW : SW nx ln R) {s l : Nat} {g w x : Int32} (hs : s < 4) (s0 : I (54 + 2 * s) 0 = g) (s1 : g = -1 ∨ g = 0 ∨ g = 1) (l4 : l ≤ 24) (k6 : I (54 + 2 * s) 1 = nI l)
    (q1 : g = -1 → Q (some (.int (-1000000011))) (nx, sl, ln, R, I))
    (q2 : ¬ g = -1 → (∀ p, p < l → ¬ w = nI p) → Q (some (.int (-1000000013))) (nx, sl, ln, R, I))
    (q3 : g = 0 → ∀ p, p < l → w = nI p → x = -1000000005 → Q (some (.int (-1000000012))) (nx, sl, ln, R, I))
    (q4 : g = 0 → ∀ p, p < l → w = nI p → ¬ x = -1000000005 → Q (some (.int 1)) (nx, sl, ln, R, up2 I (55 + 2 * s) p x.toInt16.toInt32))
    (q5 : g = 1 → ∀ p, p < l → w = nI p → (x = -1000000005 ∨ (-99999 ≤ x ∧ x ≤ 99999)) → Q (some (.int 1)) (nx, sl, ln, R, up2 I (55 + 2 * s) p x))
    (q6 : g = 1 → ∀ p, p < l → w = nI p → ¬ (x = -1000000005 ∨ (-99999 ≤ x ∧ x ≤ 99999)) → Q (some (.int (-1000000001))) (nx, sl, ln, R, I)) :
    Go (k + 2) mX7_mark [.ref 0, .int (nI s), .int w, .int x] (nx, sl, ln, R, I) Q := by
  refine Go_wp 80 rfl ?_
  refine c_isSheet (fun _ _ _ => ?_) (fun e => absurd rfl (e s hs))
  refine And.intro (fun _ => ?_) (fun h9 => absurd (by decide) h9)
  refine And.intro (sw_k hW (Nat.le_of_ble_eq_true rfl) rfl) ?_
  refine Exists.intro _ (And.intro (sw_r hW (Nat.le_of_ble_eq_true rfl) rfl rfl) ?_)
  refine And.intro (w_ash hW hs) (Exists.intro _ (And.intro (w_rsh hW hs) ?_))
  refine And.intro (w_shk hW hs) ?_
  refine c_isMissing hW (w_shk hW hs) (fun c => ?_) (fun c => ?_)
  · rw [s0] at c
    refine And.intro (fun h9 => absurd h9 (by decide)) (fun _ => ?_)
    exact q1 c
  · rw [s0] at c
    refine And.intro (fun _ => ?_) (fun h9 => absurd rfl h9)
    refine And.intro (w_shk hW hs) ?_
    refine c_hasPlace hW (w_shk hW hs) k6 l4 (fun p hp e => ?_) (fun e => ?_)
    · subst e
      refine And.intro (fun _ => ?_) (fun h9 => absurd (by decide) h9)
      refine And.intro (w_shk hW hs) ?_
      rw [s0]
      refine And.intro (fun g0 => ?_) (fun g0 => ?_)
      · have g1 : g = 1 := by
          rcases s1 with q | q | q
          · exact absurd q c
          · exact absurd q g0
          · exact q
        refine And.intro (fun hx => ?_) (fun hx => ?_)
        · refine And.intro (w_shk hW hs) (Exists.intro _ (And.intro (w_rq hW hs) ?_))
          refine And.intro (w_ceq hW hs (show p < 24 by omega)) ?_
          rw [ix (show p < 2147483648 by omega)]
          exact q5 g1 p hp rfl (Or.inl hx)
        · refine c_within (fun a1 a2 => ?_) (fun a1 => ?_)
          · refine And.intro (fun _ => ?_) (fun h9 => absurd (by decide) h9)
            refine And.intro (w_shk hW hs) (Exists.intro _ (And.intro (w_rq hW hs) ?_))
            refine And.intro (w_ceq hW hs (show p < 24 by omega)) ?_
            rw [ix (show p < 2147483648 by omega)]
            exact q5 g1 p hp rfl (Or.inr ⟨a1, a2⟩)
          · refine And.intro (fun h9 => absurd rfl h9) (fun _ => ?_)
            exact q6 g1 p hp rfl (fun z => z.elim hx a1)
      · have g0 := Decidable.of_not_not g0
        refine And.intro (fun hx => ?_) (fun hx => ?_)
        · refine And.intro (w_shk hW hs) (Exists.intro _ (And.intro (w_rq hW hs) ?_))
          refine And.intro (w_ceq hW hs (show p < 24 by omega)) ?_
          rw [ix (show p < 2147483648 by omega)]
          exact q4 g0 p hp rfl hx
        · exact q3 g0 p hp rfl (Decidable.of_not_not hx)
    · refine And.intro (fun h9 => absurd rfl h9) (fun _ => ?_)
      exact q2 c e
theorem s_mark {nx sl : Nat} {ln : Nat → Nat} {R : Nat → Nat → Option Nat} {I : Nat → Nat → Int32} {Q : Option Value → Hp → Prop} {k : Nat} (hW : SW nx ln R) {s l : Nat} {g w x : Int32} (hs : s < 4) (s0 : I 100 s = g) (s1 : g = -1 ∨ g = 0 ∨ g = 1) (l4 : l ≤ 24) (k6 : I 101 s = nI l)
    (q1 : g = -1 → Q (some (.int (-1000000011))) (nx, sl, ln, R, I))
    (q2 : ¬ g = -1 → (∀ p, p < l → ¬ w = nI p) → Q (some (.int (-1000000013))) (nx, sl, ln, R, I))
    (q3 : g = 0 → ∀ p, p < l → w = nI p → x = -1000000005 → Q (some (.int (-1000000012))) (nx, sl, ln, R, I))
    (q4 : g = 0 → ∀ p, p < l → w = nI p → ¬ x = -1000000005 → Q (some (.int 1)) (nx, sl, ln, R, up2 I 102 (24 * s + p) x.toInt16.toInt32))
    (q5 : g = 1 → ∀ p, p < l → w = nI p → (x = -1000000005 ∨ (-99999 ≤ x ∧ x ≤ 99999)) → Q (some (.int 1)) (nx, sl, ln, R, up2 I 102 (24 * s + p) x))
    (q6 : g = 1 → ∀ p, p < l → w = nI p → ¬ (x = -1000000005 ∨ (-99999 ≤ x ∧ x ≤ 99999)) → Q (some (.int (-1000000001))) (nx, sl, ln, R, I)) :
    Go (k + 2) mX8_mark [.ref 85, .int (nI s), .int w, .int x] (nx, sl, ln, R, I) Q := by
  have n100 : I 100 (nI s).toNatClampNeg = g := by rw [ix (by omega)]; exact s0
  have n101 : I 101 (nI s).toNatClampNeg = nI l := by rw [ix (by omega)]; exact k6
  refine Go_wp 80 rfl ?_
  refine s_isSheet (fun _ _ _ => ?_) (fun e => absurd rfl (e s hs))
  refine And.intro (fun _ => ?_) (fun h9 => absurd (by decide) h9)
  refine And.intro (sw_k hW (Nat.le_of_ble_eq_true rfl) rfl) ?_
  refine Exists.intro _ (And.intro (sw_r hW (Nat.le_of_ble_eq_true rfl) rfl rfl) ?_)
  refine And.intro (sw_n hW (Nat.le_of_ble_eq_true rfl) rfl rfl (hs) (Nat.le_of_ble_eq_true rfl)) ?_
  rw [n100]
  rcases s1 with q | q | q
  · subst q
    refine And.intro (fun h9 => absurd h9 (by decide)) (fun _ => ?_)
    exact q1 rfl
  · subst q
    refine And.intro (fun _ => ?_) (fun h9 => absurd (by decide) h9)
    refine And.intro (sw_k hW (Nat.le_of_ble_eq_true rfl) rfl) ?_
    refine Exists.intro _ (And.intro (sw_r hW (Nat.le_of_ble_eq_true rfl) rfl rfl) ?_)
    refine And.intro (sw_n hW (Nat.le_of_ble_eq_true rfl) rfl rfl (hs) (Nat.le_of_ble_eq_true rfl)) ?_
    rw [n101]
    refine s_isIn (n := l) (nI_less l (by omega)) (fun p hp e => ?_) (fun e => ?_)
    · subst e
      refine And.intro (fun _ => ?_) (fun h9 => absurd (by decide) h9)
      refine And.intro (sw_k hW (Nat.le_of_ble_eq_true rfl) rfl) ?_
      refine Exists.intro _ (And.intro (sw_r hW (Nat.le_of_ble_eq_true rfl) rfl rfl) ?_)
      refine And.intro (sw_n hW (Nat.le_of_ble_eq_true rfl) rfl rfl (hs) (Nat.le_of_ble_eq_true rfl)) ?_
      rw [n100]
      refine And.intro (fun h9 => absurd rfl h9) (fun _ => ?_)
      refine And.intro (fun hx => ?_) (fun hx => ?_)
      · refine And.intro (sw_k hW (Nat.le_of_ble_eq_true rfl) rfl) ?_
        refine Exists.intro _ (And.intro (sw_r hW (Nat.le_of_ble_eq_true rfl) rfl rfl) ?_)
        refine And.intro (sw_n hW (Nat.le_of_ble_eq_true rfl) rfl rfl (hs) (Nat.le_of_ble_eq_true rfl)) ?_
        rw [n100]
        refine And.intro (fun _ => ?_) (fun h9 => absurd (by decide) h9)
        refine And.intro (sw_k hW (Nat.le_of_ble_eq_true rfl) rfl) ?_
        refine Exists.intro _ (And.intro (sw_r hW (Nat.le_of_ble_eq_true rfl) rfl rfl) ?_)
        refine And.intro (sw_k hW (Nat.le_of_ble_eq_true rfl) rfl) ?_
        refine Exists.intro _ (And.intro (sw_r hW (Nat.le_of_ble_eq_true rfl) rfl rfl) ?_)
        refine And.intro (sw_n hW (Nat.le_of_ble_eq_true rfl) rfl rfl (hs) (Nat.le_of_ble_eq_true rfl)) ?_
        rw [n100]
        refine And.intro (fun h9 => absurd rfl h9) (fun _ => ?_)
        refine And.intro (by rw [cx24]; exact sw_n hW (Nat.le_of_ble_eq_true rfl) rfl rfl (show 24 * s + p < 96 by omega) (Nat.le_of_ble_eq_true rfl)) ?_
        rw [show ((24 : Int32) * nI s + nI p).toNatClampNeg = 24 * s + p by rw [cx24, ix (by omega)]]
        exact q4 rfl p hp rfl hx
      · exact q3 rfl p hp rfl (Decidable.of_not_not hx)
    · refine And.intro (fun h9 => absurd rfl h9) (fun _ => ?_)
      exact q2 (by decide) e
  · subst q
    refine And.intro (fun _ => ?_) (fun h9 => absurd (by decide) h9)
    refine And.intro (sw_k hW (Nat.le_of_ble_eq_true rfl) rfl) ?_
    refine Exists.intro _ (And.intro (sw_r hW (Nat.le_of_ble_eq_true rfl) rfl rfl) ?_)
    refine And.intro (sw_n hW (Nat.le_of_ble_eq_true rfl) rfl rfl (hs) (Nat.le_of_ble_eq_true rfl)) ?_
    rw [n101]
    refine s_isIn (n := l) (nI_less l (by omega)) (fun p hp e => ?_) (fun e => ?_)
    · subst e
      refine And.intro (fun _ => ?_) (fun h9 => absurd (by decide) h9)
      refine And.intro (sw_k hW (Nat.le_of_ble_eq_true rfl) rfl) ?_
      refine Exists.intro _ (And.intro (sw_r hW (Nat.le_of_ble_eq_true rfl) rfl rfl) ?_)
      refine And.intro (sw_n hW (Nat.le_of_ble_eq_true rfl) rfl rfl (hs) (Nat.le_of_ble_eq_true rfl)) ?_
      rw [n100]
      refine And.intro (fun _ => ?_) (fun h9 => absurd (by decide) h9)
      refine And.intro (sw_k hW (Nat.le_of_ble_eq_true rfl) rfl) ?_
      refine Exists.intro _ (And.intro (sw_r hW (Nat.le_of_ble_eq_true rfl) rfl rfl) ?_)
      refine And.intro (sw_n hW (Nat.le_of_ble_eq_true rfl) rfl rfl (hs) (Nat.le_of_ble_eq_true rfl)) ?_
      rw [n100]
      refine And.intro (fun h9 => absurd rfl h9) (fun _ => ?_)
      refine And.intro (fun hx => ?_) (fun hx => ?_)
      · refine And.intro (sw_k hW (Nat.le_of_ble_eq_true rfl) rfl) ?_
        refine Exists.intro _ (And.intro (sw_r hW (Nat.le_of_ble_eq_true rfl) rfl rfl) ?_)
        refine And.intro (sw_k hW (Nat.le_of_ble_eq_true rfl) rfl) ?_
        refine Exists.intro _ (And.intro (sw_r hW (Nat.le_of_ble_eq_true rfl) rfl rfl) ?_)
        refine And.intro (sw_n hW (Nat.le_of_ble_eq_true rfl) rfl rfl (hs) (Nat.le_of_ble_eq_true rfl)) ?_
        rw [n100]
        refine And.intro (fun _ => ?_) (fun h9 => absurd (by decide) h9)
        refine And.intro (by rw [cx24]; exact sw_n hW (Nat.le_of_ble_eq_true rfl) rfl rfl (show 24 * s + p < 96 by omega) (Nat.le_of_ble_eq_true rfl)) ?_
        rw [show ((24 : Int32) * nI s + nI p).toNatClampNeg = 24 * s + p by rw [cx24, ix (by omega)]]
        exact q5 rfl p hp rfl (Or.inl hx)
      · refine s_in (fun a1 a2 => ?_) (fun a1 => ?_)
        · refine And.intro (fun _ => ?_) (fun h9 => absurd (by decide) h9)
          refine And.intro (sw_k hW (Nat.le_of_ble_eq_true rfl) rfl) ?_
          refine Exists.intro _ (And.intro (sw_r hW (Nat.le_of_ble_eq_true rfl) rfl rfl) ?_)
          refine And.intro (sw_k hW (Nat.le_of_ble_eq_true rfl) rfl) ?_
          refine Exists.intro _ (And.intro (sw_r hW (Nat.le_of_ble_eq_true rfl) rfl rfl) ?_)
          refine And.intro (sw_n hW (Nat.le_of_ble_eq_true rfl) rfl rfl (hs) (Nat.le_of_ble_eq_true rfl)) ?_
          rw [n100]
          refine And.intro (fun _ => ?_) (fun h9 => absurd (by decide) h9)
          refine And.intro (by rw [cx24]; exact sw_n hW (Nat.le_of_ble_eq_true rfl) rfl rfl (show 24 * s + p < 96 by omega) (Nat.le_of_ble_eq_true rfl)) ?_
          rw [show ((24 : Int32) * nI s + nI p).toNatClampNeg = 24 * s + p by rw [cx24, ix (by omega)]]
          exact q5 rfl p hp rfl (Or.inr ⟨a1, a2⟩)
        · refine And.intro (fun h9 => absurd rfl h9) (fun _ => ?_)
          exact q6 rfl p hp rfl (fun z => z.elim hx a1)
    · refine And.intro (fun h9 => absurd rfl h9) (fun _ => ?_)
      exact q2 (by decide) e
theorem pub_mark (v w x : Int32) : Pub mX7_mark mX8_mark [.int v, .int w, .int x] := by
  intro k nx sl ln R I hS
  have hW := hS.1
  by_cases hv : ∃ s, s < 4 ∧ v = nI s
  · obtain ⟨s, hs, rfl⟩ := hv
    obtain ⟨s0, s1, ⟨l, l4, k6, k7⟩, k8⟩ := hS.2.2.2.1 s hs
    refine c_mark hW hs s0 s1 l4 k6 (fun a => ?_) (fun a b => ?_) (fun a p b c d => ?_) (fun a p b c d => ?_) (fun a p b c d => ?_) (fun a p b c d => ?_)
    · exact ⟨_, rfl, s_mark hW hs rfl s1 l4 k7 (fun _ => pub_end hS) (fun a' _ => absurd a a') (fun a' _ _ _ _ => absurd (a.symm.trans a') (by decide)) (fun a' _ _ _ _ => absurd (a.symm.trans a') (by decide)) (fun a' _ _ _ _ => absurd (a.symm.trans a') (by decide)) (fun a' _ _ _ _ => absurd (a.symm.trans a') (by decide))⟩
    · exact ⟨_, rfl, s_mark hW hs rfl s1 l4 k7 (fun a' => absurd a' a) (fun _ _ => pub_end hS) (fun _ p h1 h2 _ => absurd h2 (b p h1)) (fun _ p h1 h2 _ => absurd h2 (b p h1)) (fun _ p h1 h2 _ => absurd h2 (b p h1)) (fun _ p h1 h2 _ => absurd h2 (b p h1))⟩
    · exact ⟨_, rfl, s_mark hW hs rfl s1 l4 k7 (fun a' => absurd (a.symm.trans a') (by decide)) (fun _ h => absurd c (h p b)) (fun _ _ _ _ _ => pub_end hS) (fun _ _ _ _ h => absurd d h) (fun a' _ _ _ _ => absurd (a.symm.trans a') (by decide)) (fun a' _ _ _ _ => absurd (a.symm.trans a') (by decide))⟩
    · refine ⟨_, rfl, s_mark (g := I 100 s) (l := l) hW hs (by rw [up2_ne (by omega)]) s1 l4 (by rw [up2_ne (by omega)]; exact k7) (fun a' => absurd (a.symm.trans a') (by decide)) (fun _ h => absurd c (h p b)) (fun _ _ _ _ h => absurd h d) (fun _ p' hp' h _ => ?_) (fun a' _ _ _ _ => absurd (a.symm.trans a') (by decide)) (fun a' _ _ _ _ => absurd (a.symm.trans a') (by decide))⟩
      have hpp : p' = p := (nI_eq (by omega) (by omega)).mp (h.symm.trans c)
      subst hpp
      exact pub_end (ss_put hS hs (by omega))
    · refine ⟨_, rfl, s_mark (g := I 100 s) (l := l) hW hs (by rw [up2_ne (by omega)]) s1 l4 (by rw [up2_ne (by omega)]; exact k7) (fun a' => absurd (a.symm.trans a') (by decide)) (fun _ h => absurd c (h p b)) (fun a' _ _ _ _ => absurd (a.symm.trans a') (by decide)) (fun a' _ _ _ _ => absurd (a.symm.trans a') (by decide)) (fun _ p' hp' h _ => ?_) (fun _ _ _ _ h => absurd d h)⟩
      have hpp : p' = p := (nI_eq (by omega) (by omega)).mp (h.symm.trans c)
      subst hpp
      exact pub_end (ss_put hS hs (by omega))
    · exact ⟨_, rfl, s_mark hW hs rfl s1 l4 k7 (fun a' => absurd (a.symm.trans a') (by decide)) (fun _ h => absurd c (h p b)) (fun a' _ _ _ _ => absurd (a.symm.trans a') (by decide)) (fun a' _ _ _ _ => absurd (a.symm.trans a') (by decide)) (fun _ _ _ _ h => absurd h d) (fun _ _ _ _ _ => pub_end hS)⟩
  · refine Go_wp 60 rfl ?_
    refine c_isSheet (fun i hi e => absurd ⟨i, hi, e⟩ hv) (fun _ => ?_)
    refine And.intro (fun h9 => absurd rfl h9) (fun _ => ?_)
    refine ⟨_, rfl, ?_⟩
    refine Go_wp 60 rfl ?_
    refine s_isSheet (fun i hi e => absurd ⟨i, hi, e⟩ hv) (fun _ => ?_)
    refine And.intro (fun h9 => absurd rfl h9) (fun _ => ?_)
    exact pub_end hS
