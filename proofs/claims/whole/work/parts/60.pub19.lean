/-! Public methods: a sheet poured. -/
def poT (C T : Nat → Int32) (l : Nat) : Nat → (Nat → Int32)
  | 0 => T
  | j + 1 => if j < l ∧ ¬ C j = -1000000005 then up1 (poT C T l j) (24 + 5 * j + 2) (wi (C j) 0 (T (24 + 5 * j + 1))) else poT C T l j
def poN (C T : Nat → Int32) (l : Nat) : Nat → Int32
  | 0 => 0
  | j + 1 => if j < l ∧ ¬ C j = -1000000005 then poN C T l j + (if wi (C j) 0 (T (24 + 5 * j + 1)) = T (24 + 5 * j + 2) then 0 else 1) else poN C T l j
theorem po_lo {C T : Nat → Int32} {l p : Nat} : ∀ j, (∀ i, i < j → ¬ p = 24 + 5 * i + 2) → poT C T l j p = T p := by
  intro j
  induction j with
  | zero => intro _; rfl
  | succ j ih =>
    intro h
    unfold poT
    split
    · rw [up1_ne (h j (by omega))]; exact ih (fun i hi => h i (by omega))
    · exact ih (fun i hi => h i (by omega))
theorem po_end {C T : Nat → Int32} {l : Nat} : ∀ j, l ≤ j → poT C T l j = poT C T l l ∧ poN C T l j = poN C T l l := by
  intro j
  induction j with
  | zero => intro h; rw [show l = 0 by omega]; exact ⟨rfl, rfl⟩
  | succ j ih =>
    intro h
    by_cases e : l = j + 1
    · rw [e]; exact ⟨rfl, rfl⟩
    · obtain ⟨a, b⟩ := ih (by omega)
      constructor
      · rw [show poT C T l (j + 1) = poT C T l j by rw [poT, if_neg (fun q => by omega)]]; exact a
      · rw [show poN C T l (j + 1) = poN C T l j by rw [poN, if_neg (fun q => by omega)]]; exact b
theorem it_po {C T : Nat → Int32} {n m l : Nat} (hT : IT T n m) : ∀ j, j ≤ n → IT (poT C T l j) n m := by
  intro j
  induction j with
  | zero => intro _; exact hT
  | succ j ih =>
    intro hj
    unfold poT
    split
    · obtain ⟨kd, b, mk, hd, fl, j1, j2, j3, j4, j5, j6, j7, j8, j9, j10, j11⟩ := hT.2.2.1 j (by omega)
      rw [j3]
      obtain ⟨v, hv, e⟩ := wi_nI (C j) (show b < 2147483648 by omega)
      rw [e]
      exact (ih (by omega)).mark (by omega) (by rw [po_lo j (fun i hi => by omega)]; exact j3) j4 j5 hv
    · exact ih (by omega)
theorem c_isNo {nx sl : Nat} {ln : Nat → Nat} {R : Nat → Nat → Option Nat} {I : Nat → Nat → Int32} {Q : Option Value → Hp → Prop} {k : Nat} (hW : SW nx ln R) {o l : Nat} {v : Int32} (ho : KD o = 3 ∧ o < nx) (hl : I o 1 = nI l) (hl4 : l ≤ 24) (hp : ∀ p, p < l → ¬ v = nI p) (hQ : Q (some (.int 0)) (nx, sl, ln, R, I)) : Go (k + 1) mX3_isNumber [.ref o, .int v] (nx, sl, ln, R, I) Q := by
  refine Go_wp 40 rfl ?_
  refine And.intro ho ?_
  refine c_hasPlace hW ho hl hl4 (fun p h1 h2 => absurd h2 (hp p h1)) (fun e => ?_)
  refine And.intro (fun _ => ?_) (fun h9 => absurd rfl h9)
  exact And.intro (Or.inl rfl) hQ
theorem l_cpour {nx sl : Nat} {ln : Nat → Nat} {R : Nat → Nat → Option Nat} {I : Nat → Nat → Int32} {Q : Option Value → Hp → Prop} {k : Nat} (hW : SW nx ln R) {s l n m : Nat} {T : Nat → Int32} (hs : s < 4) (l4 : l ≤ 24) (k6 : I (54 + 2 * s) 1 = nI l) (hT : IT T n m) : ∀ (r j : Nat) (xa xj : Int32) (x4 x5 : Option Value) (I1 : Nat → Nat → Int32), xa = poN (I (55 + 2 * s)) T l j → xj = nI j → j + r = n → CT I1 5 (poT (I (55 + 2 * s)) T l j) n m → Fr 5 I I1 → (∀ I2, CT I2 5 (poT (I (55 + 2 * s)) T l n) n m → Fr 5 I I2 → Q (some (.int (poN (I (55 + 2 * s)) T l n))) (nx, sl, ln, R, I2)) → GoF (k + 3) mX7_pour 29 [some (.ref 0), some (.int (nI s)), some (.int xa), some (.int xj), x4, x5] [] (nx, sl, ln, R, I1) Q := by
  have ht := tw5
  have hn := hT.2.1
  intro r
  induction r with
  | zero =>
    intro j xa xj x4 x5 I1 hxa hxj hjr hC hF hQ
    subst hxj
    have hid : j = n := by omega
    subst hid
    refine GoF_wp1 60 ?_
    refine And.intro (sw_k hW (Nat.le_of_ble_eq_true rfl) rfl) ?_
    refine Exists.intro _ (And.intro (sw_r hW (Nat.le_of_ble_eq_true rfl) rfl rfl) ?_)
    refine And.intro (w_t hW ht) ?_
    rw [hC.1, (it_po hT j (by omega)).1]
    refine And.intro (fun _ => ?_) (fun h => absurd (Int32.le_refl _) h)
    rw [hxa]
    exact hQ I1 hC hF
  | succ r ih =>
    intro j xa xj x4 x5 I1 hxa hxj hjr hC hF hQ
    subst hxj
    have hj : j < n := by omega
    have c6 : I1 (54 + 2 * s) 1 = nI l := by rw [hF _ (by omega) (by omega) (by omega)]; exact k6
    have c7 : I1 (55 + 2 * s) = I (55 + 2 * s) := hF _ (by omega) (by omega) (by omega)
    obtain ⟨kd, b, mk, hd, fl, j1, j2, j3, j4, j5, j6, j7, j8, j9, j10, j11⟩ := hT.2.2.1 j hj
    have b1 : I1 (5 + 2 + j) 1 = nI b := by rw [hC.2.1 j hj 1 (by decide), po_lo j (fun i hi => by omega)]; exact j3
    have b2 : I1 (5 + 2 + j) 2 = T (24 + 5 * j + 2) := by rw [hC.2.1 j hj 2 (by decide), po_lo j (fun i hi => by omega)]
    refine GoF_wp1 60 ?_
    refine And.intro (sw_k hW (Nat.le_of_ble_eq_true rfl) rfl) ?_
    refine Exists.intro _ (And.intro (sw_r hW (Nat.le_of_ble_eq_true rfl) rfl rfl) ?_)
    refine And.intro (w_t hW ht) ?_
    rw [hC.1, (it_po hT j (by omega)).1]
    refine And.intro (fun h => absurd h (nI_ge hj (by omega))) (fun _ => ?_)
    refine And.intro (sw_k hW (Nat.le_of_ble_eq_true rfl) rfl) ?_
    refine Exists.intro _ (And.intro (sw_r hW (Nat.le_of_ble_eq_true rfl) rfl rfl) ?_)
    refine And.intro (w_ash hW hs) (Exists.intro _ (And.intro (w_rsh hW hs) ?_))
    refine And.intro (w_shk hW hs) ?_
    by_cases hjl : j < l
    · refine c_isNumber hW (w_shk hW hs) c6 l4 hjl (w_rq hW hs) (w_ceq hW hs (by omega)) ?_
      rw [c7]
      by_cases hq : I (55 + 2 * s) j = -1000000005
      · rw [if_pos hq]
        refine And.intro (fun _ => ?_) (fun h9 => absurd rfl h9)
        refine ih (j + 1) _ _ _ _ I1 ?_ (nI_1 j) (by omega) ?_ hF hQ
        · rw [hxa, poN, if_neg (fun q => q.2 hq)]
        · rw [poT, if_neg (fun q => q.2 hq)]; exact hC
      · rw [if_neg hq]
        refine And.intro (fun h9 => absurd h9 (by decide)) (fun _ => ?_)
        refine And.intro (sw_k hW (Nat.le_of_ble_eq_true rfl) rfl) ?_
        refine Exists.intro _ (And.intro (sw_r hW (Nat.le_of_ble_eq_true rfl) rfl rfl) ?_)
        refine And.intro (w_t hW ht) (Exists.intro _ (And.intro (w_r1 hW ht) ?_))
        refine And.intro (w_aj hW ht (by omega)) (Exists.intro _ (And.intro (w_jug hW ht (by omega)) ?_))
        refine And.intro (sw_k hW (Nat.le_of_ble_eq_true rfl) rfl) ?_
        refine Exists.intro _ (And.intro (sw_r hW (Nat.le_of_ble_eq_true rfl) rfl rfl) ?_)
        refine And.intro (w_ash hW hs) (Exists.intro _ (And.intro (w_rsh hW hs) ?_))
        refine And.intro (w_shk hW hs) (Exists.intro _ (And.intro (w_rq hW hs) ?_))
        refine And.intro (w_ceq hW hs (show j < 24 by omega)) ?_
        rw [c7, ix (show j < 2147483648 by omega)]
        refine And.intro (w_kj hW ht (by omega)) ?_
        rw [b1]
        refine c_held (nI_pos' (by omega)) ?_
        refine And.intro (w_kj hW ht (by omega)) ?_
        rw [b2]
        have hC' : CT (up2 I1 (5 + 2 + j) 2 (wi (I (55 + 2 * s) j) 0 (nI b))) 5 (poT (I (55 + 2 * s)) T l (j + 1)) n m := by
          rw [poT, if_pos ⟨hjl, hq⟩, j3]; exact hC.jug hn hj (by decide)
        refine And.intro (fun h => ?_) (fun h => ?_)
        · refine And.intro (w_kj hW ht (by omega)) ?_
          refine ih (j + 1) _ _ _ _ _ ?_ (nI_1 j) (by omega) hC' (hF.tr (Fr.up (by omega))) hQ
          rw [hxa, poN, if_pos ⟨hjl, hq⟩, j3, if_neg h]
        · refine And.intro (w_kj hW ht (by omega)) ?_
          refine ih (j + 1) _ _ _ _ _ ?_ (nI_1 j) (by omega) hC' (hF.tr (Fr.up (by omega))) hQ
          rw [hxa, poN, if_pos ⟨hjl, hq⟩, j3, if_pos (Decidable.of_not_not h)]
    · refine c_isNo hW (w_shk hW hs) c6 l4 (fun p hp e => hjl (by have := (nI_eq (by omega) (by omega)).mp e; omega)) ?_
      refine And.intro (fun _ => ?_) (fun h9 => absurd rfl h9)
      refine ih (j + 1) _ _ _ _ I1 ?_ (nI_1 j) (by omega) ?_ hF hQ
      · rw [hxa, poN, if_neg (fun q => hjl q.1)]
      · rw [poT, if_neg (fun q => hjl q.1)]; exact hC
theorem l_pour {nx sl : Nat} {ln : Nat → Nat} {R : Nat → Nat → Option Nat} {J : Nat → Nat → Int32} {T : Nat → Int32} {Q : Option Value → Hp → Prop} {k : Nat} (hW : SW nx ln R) {s l n m e : Nat} {C T0 : Nat → Int32} (hs : s < 4) (l4 : l ≤ 24) (k6 : J 101 s = nI l) (hC : ∀ i, i < 24 → C i = J 102 (24 * s + i)) (hT : IT T0 n m) (he : e = min l n) : ∀ (r j : Nat) (xa xj : Int32) (x4 x5 : Option Value) (I1 : Nat → Nat → Int32), xa = poN C T0 l j → xj = nI j → I1 = nw J (poT C T0 l j) → j + r = e → Q (some (.int (poN C T0 l e))) (nx, sl, ln, R, nw J (poT C T0 l e)) → GoF (k + 2) mX8_pour 26 [some (.ref 85), some (.int (nI s)), some (.int xa), some (.int xj), x4, x5] [] (nx, sl, ln, R, I1) Q := by
  have hn := hT.2.1
  have n101 : ∀ U, nw J U 101 (nI s).toNatClampNeg = nI l := fun U => by rw [ix (by omega), nwo _ _ (by decide)]; exact k6
  intro r
  induction r with
  | zero =>
    intro j xa xj x4 x5 I1 hxa hxj hI hjr hQ
    subst hxj
    subst hI
    have hid : j = e := by omega
    subst hid
    refine GoF_wp1 60 ?_
    refine And.intro (sw_k hW (Nat.le_of_ble_eq_true rfl) rfl) ?_
    refine Exists.intro _ (And.intro (sw_r hW (Nat.le_of_ble_eq_true rfl) rfl rfl) ?_)
    refine And.intro (sw_n hW (Nat.le_of_ble_eq_true rfl) rfl rfl (hs) (Nat.le_of_ble_eq_true rfl)) ?_
    rw [n101]
    by_cases hl : l ≤ n
    · refine And.intro (fun _ => ?_) (fun h => absurd (nI_le (by omega) (by omega)) h)
      rw [hxa]
      exact hQ
    · refine And.intro (fun h => absurd h (nI_ge (by omega) (by omega))) (fun _ => ?_)
      refine And.intro (sw_k hW (Nat.le_of_ble_eq_true rfl) rfl) ?_
      refine Exists.intro _ (And.intro (sw_r hW (Nat.le_of_ble_eq_true rfl) rfl rfl) ?_)
      refine And.intro (sw_n hW (Nat.le_of_ble_eq_true rfl) rfl rfl ((Nat.le_of_ble_eq_true rfl)) (Nat.le_of_ble_eq_true rfl)) ?_
      rw [show nw J (poT C T0 l j) 86 (1 : Int32).toNatClampNeg = nI n from (it_po hT j (by omega)).1]
      refine And.intro (fun _ => ?_) (fun h => absurd (nI_le (by omega) (by omega)) h)
      rw [hxa]
      exact hQ
  | succ r ih =>
    intro j xa xj x4 x5 I1 hxa hxj hI hjr hQ
    subst hxj
    subst hI
    have hj : j < n := by omega
    have hjl : j < l := by omega
    obtain ⟨kd, b, mk, hd, fl, j1, j2, j3, j4, j5, j6, j7, j8, j9, j10, j11⟩ := hT.2.2.1 j hj
    have b1 : poT C T0 l j (24 + 5 * j + 1) = nI b := by rw [po_lo j (fun i hi => by omega)]; exact j3
    have b2 : poT C T0 l j (24 + 5 * j + 2) = T0 (24 + 5 * j + 2) := po_lo j (fun i hi => by omega)
    refine GoF_wp1 60 ?_
    refine And.intro (sw_k hW (Nat.le_of_ble_eq_true rfl) rfl) ?_
    refine Exists.intro _ (And.intro (sw_r hW (Nat.le_of_ble_eq_true rfl) rfl rfl) ?_)
    refine And.intro (sw_n hW (Nat.le_of_ble_eq_true rfl) rfl rfl (hs) (Nat.le_of_ble_eq_true rfl)) ?_
    rw [n101]
    refine And.intro (fun h => absurd h (nI_ge hjl (by omega))) (fun _ => ?_)
    refine And.intro (sw_k hW (Nat.le_of_ble_eq_true rfl) rfl) ?_
    refine Exists.intro _ (And.intro (sw_r hW (Nat.le_of_ble_eq_true rfl) rfl rfl) ?_)
    refine And.intro (sw_n hW (Nat.le_of_ble_eq_true rfl) rfl rfl ((Nat.le_of_ble_eq_true rfl)) (Nat.le_of_ble_eq_true rfl)) ?_
    rw [show nw J (poT C T0 l j) 86 (1 : Int32).toNatClampNeg = nI n from (it_po hT j (by omega)).1]
    refine And.intro (fun h => absurd h (nI_ge hj (by omega))) (fun _ => ?_)
    refine And.intro (sw_k hW (Nat.le_of_ble_eq_true rfl) rfl) ?_
    refine Exists.intro _ (And.intro (sw_r hW (Nat.le_of_ble_eq_true rfl) rfl rfl) ?_)
    refine And.intro (by rw [cx24]; exact sw_n hW (Nat.le_of_ble_eq_true rfl) rfl rfl (show 24 * s + j < 96 by omega) (Nat.le_of_ble_eq_true rfl)) ?_
    rw [show nw J (poT C T0 l j) 102 ((24 : Int32) * nI s + nI j).toNatClampNeg = C j by rw [cx24, ix (by omega), nwo _ _ (by decide)]; exact (hC j (by omega)).symm]
    refine And.intro (fun hq => ?_) (fun hq => ?_)
    · refine And.intro (sw_k hW (Nat.le_of_ble_eq_true rfl) rfl) ?_
      refine s_of (w := 1) hW (show j < 10 by omega) (by decide) ?_
      rw [b1]
      refine s_within ?_
      refine And.intro (sw_k hW (Nat.le_of_ble_eq_true rfl) rfl) ?_
      rw [show (24 : Int32) + 5 * nI j + 2 = nI (24 + 5 * j + 2) from jx j 2]
      refine s_swaps hW (show 24 + 5 * j + 2 < 1446 by omega) ?_
      rw [b2]
      refine And.intro (fun h => ?_) (fun h => ?_)
      · refine ih (j + 1) _ _ _ _ _ ?_ (nI_1 j) ?_ (by omega) hQ
        · rw [hxa, poN, if_pos ⟨hjl, hq⟩, j3, if_neg (fun q => h q.symm)]
        · rw [poT, if_pos ⟨hjl, hq⟩, j3]
      · refine ih (j + 1) _ _ _ _ _ ?_ (nI_1 j) ?_ (by omega) hQ
        · rw [hxa, poN, if_pos ⟨hjl, hq⟩, j3, if_pos (Decidable.of_not_not h).symm]
        · rw [poT, if_pos ⟨hjl, hq⟩, j3]
    · have hq := Decidable.of_not_not hq
      refine And.intro (sw_k hW (Nat.le_of_ble_eq_true rfl) rfl) ?_
      refine s_of (w := 2) hW (show j < 10 by omega) (by decide) ?_
      rw [b2]
      refine And.intro (sw_k hW (Nat.le_of_ble_eq_true rfl) rfl) ?_
      rw [show (24 : Int32) + 5 * nI j + 2 = nI (24 + 5 * j + 2) from jx j 2]
      refine s_swaps hW (show 24 + 5 * j + 2 < 1446 by omega) ?_
      rw [b2]
      refine And.intro (fun h => absurd rfl h) (fun _ => ?_)
      refine ih (j + 1) _ _ _ _ _ ?_ (nI_1 j) ?_ (by omega) hQ
      · rw [hxa, poN, if_neg (fun q => q.2 hq), Int32.add_zero]
      · rw [poT, if_neg (fun q => q.2 hq), ← b2, up1_self]
theorem pub_pour (v : Int32) : Pub mX7_pour mX8_pour [.int v] := by
  intro k nx sl ln R I hS
  have hW := hS.1
  have ht := tw5
  obtain ⟨n, m, hT, hC, hL, hG, hZ, hZ7, hZ8, -⟩ := id hS.2.1
  have hn := hT.2.1
  refine Go_wp 60 rfl ?_
  refine c_isSheet (fun s hs e => ?_) (fun e => ?_)
  · subst e
    refine And.intro (fun _ => ?_) (fun h9 => absurd (by decide) h9)
    obtain ⟨s0, s1, ⟨l, l4, k6, k7⟩, k8⟩ := hS.2.2.2.1 s hs
    refine And.intro (sw_k hW (Nat.le_of_ble_eq_true rfl) rfl) ?_
    refine Exists.intro _ (And.intro (sw_r hW (Nat.le_of_ble_eq_true rfl) rfl rfl) ?_)
    refine And.intro (w_ash hW hs) (Exists.intro _ (And.intro (w_rsh hW hs) ?_))
    refine And.intro (w_shk hW hs) ?_
    refine c_isMissing hW (w_shk hW hs) (fun c => ?_) (fun c => ?_)
    · rw [s0] at c
      have n100 : I 100 (nI s).toNatClampNeg = I 100 s := by rw [ix (by omega)]
      refine And.intro (fun h9 => absurd h9 (by decide)) (fun _ => ?_)
      refine ⟨_, rfl, ?_⟩
      refine Go_wp 60 rfl ?_
      refine s_isSheet (fun _ _ _ => ?_) (fun e => absurd rfl (e s hs))
      refine And.intro (fun _ => ?_) (fun h9 => absurd (by decide) h9)
      refine And.intro (sw_k hW (Nat.le_of_ble_eq_true rfl) rfl) ?_
      refine Exists.intro _ (And.intro (sw_r hW (Nat.le_of_ble_eq_true rfl) rfl rfl) ?_)
      refine And.intro (sw_n hW (Nat.le_of_ble_eq_true rfl) rfl rfl (hs) (Nat.le_of_ble_eq_true rfl)) ?_
      rw [n100, c]
      refine And.intro (fun h9 => absurd h9 (by decide)) (fun _ => ?_)
      exact pub_end hS
    · rw [s0] at c
      refine And.intro (fun _ => ?_) (fun h9 => absurd rfl h9)
      refine l_cpour (T := I 86) hW hs l4 k6 hT n 0 0 0 _ _ I rfl rfl (by omega) hC Fr.rf (fun I2 hC2 hF2 => ?_)
      have e2 : ∀ o, 20 ≤ o → I2 o = I o := fun o h => hF2 o (by omega) (by omega) (by omega)
      have n100 : I2 100 (nI s).toNatClampNeg = I 100 s := by rw [ix (by omega), e2 100 (by omega)]
      refine ⟨_, rfl, ?_⟩
      refine Go_wp 60 rfl ?_
      refine s_isSheet (fun _ _ _ => ?_) (fun e => absurd rfl (e s hs))
      refine And.intro (fun _ => ?_) (fun h9 => absurd (by decide) h9)
      refine And.intro (sw_k hW (Nat.le_of_ble_eq_true rfl) rfl) ?_
      refine Exists.intro _ (And.intro (sw_r hW (Nat.le_of_ble_eq_true rfl) rfl rfl) ?_)
      refine And.intro (sw_n hW (Nat.le_of_ble_eq_true rfl) rfl rfl (hs) (Nat.le_of_ble_eq_true rfl)) ?_
      rw [n100]
      have hg2 : (0 : Int32) ≤ I 100 s := by
        rcases s1 with q | q | q
        · exact absurd q c
        · rw [q]; decide
        · rw [q]; decide
      refine And.intro (fun _ => ?_) (fun h9 => absurd hg2 h9)
      refine l_pour (J := I2) (C := I (55 + 2 * s)) (T0 := I 86) (T := I 86) (e := min l n) hW hs l4 (by rw [e2 101 (by omega)]; exact k7) (fun i hi => by rw [e2 102 (by omega)]; exact k8 i hi) hT rfl (min l n) 0 0 0 _ _ I2 rfl rfl (nw_is (e2 86 (by omega))).symm (by omega) ?_
      have ee : poT (I (55 + 2 * s)) (I 86) l (min l n) = poT (I (55 + 2 * s)) (I 86) l n ∧ poN (I (55 + 2 * s)) (I 86) l (min l n) = poN (I (55 + 2 * s)) (I 86) l n := by
        by_cases h : l ≤ n
        · rw [show min l n = l by omega]
          exact ⟨(po_end n h).1.symm, (po_end n h).2.symm⟩
        · rw [show min l n = n by omega]
          exact ⟨rfl, rfl⟩
      rw [ee.1, ee.2]
      exact pub_end (sim_now hS hT hF2 Sc.rf (it_po hT n (by omega)) hC2 (hG.keep (po_lo n (fun i _ => by omega)) (po_lo n (fun i _ => by omega))) (fun p hp => po_lo n (fun i hi => by omega)))
  · refine And.intro (fun h9 => absurd rfl h9) (fun _ => ?_)
    refine ⟨_, rfl, ?_⟩
    refine Go_wp 60 rfl ?_
    refine s_isSheet (fun j hj e2 => absurd e2 (e j hj)) (fun _ => ?_)
    refine And.intro (fun h9 => absurd rfl h9) (fun _ => ?_)
    exact pub_end hS
