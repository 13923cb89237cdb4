/-! Public methods: a jug told, taken as another kind; the text that counts. -/
/-- what neither side is read from -/
def scO (o : Nat) : Prop := o = 3 ∨ o = 4 ∨ (20 ≤ o ∧ o ≤ 34) ∨ o = 51 ∨ o = 52 ∨ o = 84 ∨ (89 ≤ o ∧ o ≤ 91) ∨ (95 ≤ o ∧ o ≤ 99) ∨ o = 107
theorem Sim.scr {nx : Nat} {ln : Nat → Nat} {R : Nat → Nat → Option Nat} {I I' : Nat → Nat → Int32} (h : Sim nx ln R I) (ho : ∀ o, ¬ scO o → I' o = I o) : Sim nx ln R I' := by
  unfold scO at ho
  exact h.town ⟨fun o q => ho o (by unfold keepO at q; omega), by rw [ho 0 (by omega)], by rw [ho 0 (by omega)], by rw [ho 85 (by omega)], by rw [ho 85 (by omega)]⟩ (h.2.1.keep (fun o q => ho o (by omega)) (by rw [ho 0 (by omega)]) (by rw [ho 85 (by omega)]))
theorem nw_is {I : Nat → Nat → Int32} {T : Nat → Int32} (h : I 86 = T) : nw I T = I := by rw [← h]; exact nw_self I
theorem c_isOf {k nx sl o : Nat} {ln : Nat → Nat} {R : Nat → Nat → Option Nat} {I : Nat → Nat → Int32} {w : Int32} {Q : Option Value → Hp → Prop} (ho : KD o = 0 ∧ o < nx) (hQ : Q (some (.int (isOfF 6 (I o 0) w))) (nx, sl, ln, R, I)) : Go k mX0_isOf [.ref o, .int w] (nx, sl, ln, R, I) Q := by
  refine ⟨0, _, _, ?_, hQ⟩
  show (if KD o = 0 ∧ o < nx then some (some (Value.int (isOfF 6 (I o 0) w)), (nx, sl, ln, R, I)) else none) = _
  rw [if_pos ho]
theorem of_un : ∀ kd, kd < 6 → ∀ w, w < 6 → (isOfF 6 (nI kd) (nI w) = 1 ∧ unF (nI kd) (nI w)) ∨ (isOfF 6 (nI kd) (nI w) = 0 ∧ ¬ unF (nI kd) (nI w)) := by
  intro kd hk w hw
  have hk2 : kd = 0 ∨ kd = 1 ∨ kd = 2 ∨ kd = 3 ∨ kd = 4 ∨ kd = 5 := by omega
  have hw2 : w = 0 ∨ w = 1 ∨ w = 2 ∨ w = 3 ∨ w = 4 ∨ w = 5 := by omega
  rcases hk2 with rfl | rfl | rfl | rfl | rfl | rfl <;> rcases hw2 with rfl | rfl | rfl | rfl | rfl | rfl <;> first | exact Or.inl ⟨by decide, by unfold unF; decide⟩ | exact Or.inr ⟨by decide, by unfold unF; decide⟩
theorem pub_as (v w : Int32) : Pub mX7_as mX8_as [.int v, .int w] := by
  intro k nx sl ln R I hS
  have hW := hS.1
  have ht := tw5
  obtain ⟨n, m, hT, hC, hL, hG, -⟩ := id hS.2.1
  have hn := hT.2.1
  refine Go_wp 60 rfl ?_
  refine And.intro (sw_k hW (Nat.le_of_ble_eq_true rfl) rfl) ?_
  refine c_isJug hW hC hT.1 hn (fun i hi e => ?_) (fun e => ?_)
  · subst e
    refine And.intro (fun h9 => absurd h9 (by decide)) (fun _ => ?_)
    obtain ⟨kd, b, mk, hd, fl, j1, j2, j3, j4, j5, j6, j7, j8, j9, j10, j11⟩ := hT.2.2.1 i hi
    have e0 : I (5 + 2 + i) 0 = nI kd := by rw [hC.2.1 i hi 0 (by decide)]; exact j1
    refine c_isKind (fun j hj e => ?_) (fun e => ?_)
    · subst e
      refine And.intro (fun _ => ?_) (fun h9 => absurd (by decide) h9)
      refine And.intro (sw_k hW (Nat.le_of_ble_eq_true rfl) rfl) ?_
      refine Exists.intro _ (And.intro (sw_r hW (Nat.le_of_ble_eq_true rfl) rfl rfl) ?_)
      refine And.intro (w_t hW ht) (Exists.intro _ (And.intro (w_r1 hW ht) ?_))
      refine And.intro (w_aj hW ht (by omega)) (Exists.intro _ (And.intro (w_jug hW ht (by omega)) ?_))
      refine And.intro (w_kj hW ht (by omega)) ?_
      refine c_isOf (w_kj hW ht (show i < 10 by omega)) ?_
      rw [e0]
      rcases of_un kd (by omega) j hj with ⟨o1, o2⟩ | ⟨o1, o2⟩
      · rw [o1]
        refine And.intro (fun h9 => absurd h9 (by decide)) (fun _ => ?_)
        refine And.intro (sw_k hW (Nat.le_of_ble_eq_true rfl) rfl) ?_
        refine Exists.intro _ (And.intro (sw_r hW (Nat.le_of_ble_eq_true rfl) rfl rfl) ?_)
        refine And.intro (w_t hW ht) (Exists.intro _ (And.intro (w_r1 hW ht) ?_))
        refine And.intro (w_aj hW ht (by omega)) (Exists.intro _ (And.intro (w_jug hW ht (by omega)) ?_))
        refine And.intro (w_kj hW ht (by omega)) ?_
        refine ⟨_, rfl, ?_⟩
        rw [← nw_self I]
        refine Go_wp 60 rfl ?_
        refine And.intro (sw_k hW (Nat.le_of_ble_eq_true rfl) rfl) ?_
        refine s_isJug (n := n) hW hT.1 hn (fun _ _ _ => ?_) (fun e => absurd rfl (e i hi))
        refine And.intro (fun h9 => absurd h9 (by decide)) (fun _ => ?_)
        refine s_isIn (n := 6) rfl (fun _ _ _ => ?_) (fun e => absurd rfl (e j hj))
        refine And.intro (fun _ => ?_) (fun h9 => absurd (by decide) h9)
        refine And.intro (sw_k hW (Nat.le_of_ble_eq_true rfl) rfl) ?_
        refine s_of0 hW (show i < 10 by omega) ?_
        rw [j1]
        refine s_isUnder (fun _ => ?_) (fun h => absurd o2 h)
        refine And.intro (fun h9 => absurd h9 (by decide)) (fun _ => ?_)
        refine And.intro (sw_k hW (Nat.le_of_ble_eq_true rfl) rfl) ?_
        refine s_of (w := 2) hW (show i < 10 by omega) (by decide) ?_
        rw [nw_self, hC.2.1 i hi 2 (by decide)]
        exact pub_end hS
      · rw [o1]
        refine And.intro (fun _ => ?_) (fun h9 => absurd rfl h9)
        refine ⟨_, rfl, ?_⟩
        rw [← nw_self I]
        refine Go_wp 60 rfl ?_
        refine And.intro (sw_k hW (Nat.le_of_ble_eq_true rfl) rfl) ?_
        refine s_isJug (n := n) hW hT.1 hn (fun _ _ _ => ?_) (fun e => absurd rfl (e i hi))
        refine And.intro (fun h9 => absurd h9 (by decide)) (fun _ => ?_)
        refine s_isIn (n := 6) rfl (fun _ _ _ => ?_) (fun e => absurd rfl (e j hj))
        refine And.intro (fun _ => ?_) (fun h9 => absurd (by decide) h9)
        refine And.intro (sw_k hW (Nat.le_of_ble_eq_true rfl) rfl) ?_
        refine s_of0 hW (show i < 10 by omega) ?_
        rw [j1]
        refine s_isUnder (fun h => absurd h o2) (fun _ => ?_)
        refine And.intro (fun _ => ?_) (fun h9 => absurd rfl h9)
        rw [nw_self]
        exact pub_end hS
    · refine And.intro (fun h9 => absurd rfl h9) (fun _ => ?_)
      refine ⟨_, rfl, ?_⟩
      rw [← nw_self I]
      refine Go_wp 60 rfl ?_
      refine And.intro (sw_k hW (Nat.le_of_ble_eq_true rfl) rfl) ?_
      refine s_isJug (n := n) hW hT.1 hn (fun _ _ _ => ?_) (fun e => absurd rfl (e i hi))
      refine And.intro (fun h9 => absurd h9 (by decide)) (fun _ => ?_)
      refine s_isIn (n := 6) rfl (fun j hj e2 => absurd e2 (e j hj)) (fun _ => ?_)
      refine And.intro (fun h9 => absurd rfl h9) (fun _ => ?_)
      rw [nw_self]
      exact pub_end hS
  · refine And.intro (fun _ => ?_) (fun h9 => absurd rfl h9)
    refine ⟨_, rfl, ?_⟩
    rw [← nw_self I]
    refine Go_wp 60 rfl ?_
    refine And.intro (sw_k hW (Nat.le_of_ble_eq_true rfl) rfl) ?_
    refine s_isJug (n := n) hW hT.1 hn (fun i hi e2 => absurd e2 (e i hi)) (fun _ => ?_)
    refine And.intro (fun _ => ?_) (fun h9 => absurd rfl h9)
    rw [nw_self]
    exact pub_end hS
theorem pub_why (w : Int32) : Pub mX7_why mX8_why [.int w] := by
  intro k nx sl ln R I hS
  have hW := hS.1
  have ht := tw5
  obtain ⟨n, m, hT, hC, hL, hG, -⟩ := id hS.2.1
  have hn := hT.2.1
  refine Go_wp 40 rfl ?_
  refine c_isIn (m := 0) (n := 3) rfl (fun i hi e => ?_) (fun e => ?_)
  · subst e
    refine And.intro (fun h9 => absurd h9 (by decide)) (fun _ => ?_)
    refine And.intro (sw_k hW (Nat.le_of_ble_eq_true rfl) rfl) ?_
    refine Exists.intro _ (And.intro (sw_r hW (Nat.le_of_ble_eq_true rfl) rfl rfl) ?_)
    refine And.intro (w_t hW ht) (Exists.intro _ (And.intro (w_r12 hW ht) ?_))
    refine And.intro (w_c hW ht hi) ?_
    rw [ix (show i < 2147483648 by omega), hC.2.2.2.2.2.2.2.2.2.2.2 i hi]
    refine ⟨_, rfl, ?_⟩
    rw [← nw_self I]
    refine Go_wp 40 rfl ?_
    refine s_isIn (n := 3) rfl (fun _ _ _ => ?_) (fun e => absurd rfl (e i hi))
    refine And.intro (fun _ => ?_) (fun h9 => absurd (by decide) h9)
    refine And.intro (sw_k hW (Nat.le_of_ble_eq_true rfl) rfl) ?_
    refine s_counts (m := m) hW hT.2.2.2.2.2.2.2.1 hT.2.2.2.2.2.2.1 ?_
    unfold coF
    refine And.intro (fun hb => ?_) (fun hb => ?_)
    · rw [nw_self, if_neg (fun h => by rw [tI_lt] at h; rw [tI_le] at hb; omega)]
      exact pub_end hS
    · rw [nw_self, if_pos (by rw [tI_lt]; rw [tI_le] at hb; omega)]
      exact pub_end hS
  · refine And.intro (fun _ => ?_) (fun h9 => absurd rfl h9)
    refine ⟨_, rfl, ?_⟩
    refine Go_wp 40 rfl ?_
    refine s_isIn (n := 3) rfl (fun i hi e2 => absurd e2 (e i hi)) (fun _ => ?_)
    refine And.intro (fun h9 => absurd rfl h9) (fun _ => ?_)
    exact pub_end hS
/-- a jug filled, and what it keeps, as the row tells -/
theorem c_fill1 {nx sl : Nat} {ln : Nat → Nat} {R : Nat → Nat → Option Nat} {I : Nat → Nat → Int32} {Q : Option Value → Hp → Prop} {k : Nat} (hW : SW nx ln R) {t n m j : Nat} {T : Nat → Int32} (ht : Tw t) (hC : CT I t T n m) (hT : IT T n m) (hj : j < n) (hQ : Q (some (.int (toF T j))) (nx, sl, ln, R, I)) : Go (k + 1) mX0_filledTo [.ref (t + 2 + j), .int (wnF T j)] (nx, sl, ln, R, I) Q := by
  have hn10 := hT.2.1
  obtain ⟨kd, b, mk, hd, fl, j1, j2, j3, j4, j5, j6, j7, j8, j9, j10, j11⟩ := hT.2.2.1 j hj
  obtain ⟨w, hw, ew⟩ := wn_ok hT hj
  refine c_filledTo (w_kj hW ht (by omega)) ?_
  rw [hC.2.1 j hj 0 (by decide), hC.2.1 j hj 1 (by decide), hC.2.1 j hj 2 (by decide), j3, j6, ew, tk_mn j5 j7 (by omega)]
  unfold toF at hQ
  rw [j3, j6, ew] at hQ
  exact hQ
theorem c_keep1 {nx sl : Nat} {ln : Nat → Nat} {R : Nat → Nat → Option Nat} {I : Nat → Nat → Int32} {Q : Option Value → Hp → Prop} {k : Nat} (hW : SW nx ln R) {t n m j hd : Nat} {T : Nat → Int32} (ht : Tw t) (hC : CT I t T n m) (hT : IT T n m) (hj : j < n) (hd1 : T (24 + 5 * j + 3) = nI hd) (hd7 : hd ≤ 7) (hQ : Q (some (.int (keF T j (toF T j)))) (nx, sl, ln, R, I)) : Go (k + 1) mX0_keptBy [.ref (t + 2 + j), .int (toF T j), .int (T (8 + hd))] (nx, sl, ln, R, I) Q := by
  have hn10 := hT.2.1
  obtain ⟨kd, b, mk, hd0, fl, j1, j2, j3, j4, j5, j6, j7, j8, j9, j10, j11⟩ := hT.2.2.1 j hj
  obtain ⟨ht9, e8, h89⟩ := hT.2.2.2.1 hd (by omega)
  obtain ⟨to, hto9, eto⟩ : ∃ v, v ≤ b ∧ toF T j = nI v := by unfold toF; rw [j3, j6]; exact tk_ok j5 j7
  refine c_keptBy (w_kj hW ht (by omega)) ?_
  rw [hC.2.1 j hj 0 (by decide), hC.2.1 j hj 1 (by decide), hC.2.1 j hj 2 (by decide), j3, j6, e8, eto, kp_mn j5 j7 hto9 h89]
  unfold keF at hQ
  rw [hd1, ix (show hd < 2147483648 by omega), e8, j3, j6, eto] at hQ
  exact hQ
theorem F34.sc {I I2 J2 : Nat → Nat → Int32} {T : Nat → Int32} (h : F34 I I2) (h2 : Sc I2 J2) (hT : I 86 = T) : ∀ o, ¬ scO o → nw J2 T o = I o := by
  intro o ho
  unfold scO at ho
  by_cases e : o = 86
  · subst e
    show nw J2 T 86 = I 86
    rw [show nw J2 T 86 = T from up1_eq, hT]
  · rw [nwo _ _ e, h2 o (by omega) (by omega), h o (by omega) (by omega)]
theorem pub_told (v w : Int32) : Pub mX7_told mX8_told [.int v, .int w] := by
  intro k nx sl ln R I hS
  have hW := hS.1
  have ht := tw5
  obtain ⟨n, m, hT, hC, hL, hG, -⟩ := id hS.2.1
  have hn := hT.2.1
  refine Go_wp 60 rfl ?_
  refine And.intro (sw_k hW (Nat.le_of_ble_eq_true rfl) rfl) ?_
  refine c_isJug hW hC hT.1 hn (fun i hi e => ?_) (fun e => ?_)
  · subst e
    refine And.intro (fun _ => ?_) (fun h9 => absurd (by decide) h9)
    obtain ⟨kd, b, mk, hd, fl, j1, j2, j3, j4, j5, j6, j7, j8, j9, j10, j11⟩ := hT.2.2.1 i hi
    refine And.intro (sw_k hW (Nat.le_of_ble_eq_true rfl) rfl) ?_
    refine Exists.intro _ (And.intro (sw_r hW (Nat.le_of_ble_eq_true rfl) rfl rfl) ?_)
    refine And.intro (w_t hW ht) (Exists.intro _ (And.intro (w_r1 hW ht) ?_))
    refine And.intro (w_aj hW ht (by omega)) (Exists.intro _ (And.intro (w_jug hW ht (by omega)) ?_))
    refine And.intro (fun q => ?_) (fun q1 => And.intro (fun q => ?_) (fun q2 => And.intro (fun q => ?_) (fun q3 => And.intro (fun q => ?_) (fun q4 => And.intro (fun q => ?_) (fun q5 => And.intro (fun q => ?_) (fun q6 => And.intro (fun q => ?_) (fun q7 => And.intro (fun q => ?_) (fun q8 => ?_))))))))
    · subst q
      refine And.intro (w_kj hW ht (by omega)) ?_
      refine ⟨_, rfl, ?_⟩
      rw [← nw_self I]
      refine Go_wp 60 rfl ?_
      refine And.intro (sw_k hW (Nat.le_of_ble_eq_true rfl) rfl) ?_
      refine s_isJug (n := n) hW hT.1 hn (fun _ _ _ => ?_) (fun e => absurd rfl (e i hi))
      refine And.intro (fun h9 => absurd h9 (by decide)) (fun _ => ?_)
      refine s_isIn (n := 8) rfl (fun _ _ _ => ?_) (fun e => absurd rfl (e 0 (by decide)))
      refine And.intro (fun _ => ?_) (fun h9 => absurd (by decide) h9)
      refine And.intro (fun h9 => absurd h9 (by decide)) (fun _ => ?_)
      refine And.intro (sw_k hW (Nat.le_of_ble_eq_true rfl) rfl) ?_
      refine s_of (w := 0) hW (show i < 10 by omega) (by decide) ?_
      rw [nw_self, hC.2.1 i hi 0 (by decide)]
      exact pub_end hS
    · subst q
      refine And.intro (w_kj hW ht (by omega)) ?_
      refine ⟨_, rfl, ?_⟩
      rw [← nw_self I]
      refine Go_wp 60 rfl ?_
      refine And.intro (sw_k hW (Nat.le_of_ble_eq_true rfl) rfl) ?_
      refine s_isJug (n := n) hW hT.1 hn (fun _ _ _ => ?_) (fun e => absurd rfl (e i hi))
      refine And.intro (fun h9 => absurd h9 (by decide)) (fun _ => ?_)
      refine s_isIn (n := 8) rfl (fun _ _ _ => ?_) (fun e => absurd rfl (e 1 (by decide)))
      refine And.intro (fun _ => ?_) (fun h9 => absurd (by decide) h9)
      refine And.intro (fun h9 => absurd h9 (by decide)) (fun _ => ?_)
      refine And.intro (sw_k hW (Nat.le_of_ble_eq_true rfl) rfl) ?_
      refine s_of (w := 1) hW (show i < 10 by omega) (by decide) ?_
      rw [nw_self, hC.2.1 i hi 1 (by decide)]
      exact pub_end hS
    · subst q
      refine And.intro (w_kj hW ht (by omega)) ?_
      refine ⟨_, rfl, ?_⟩
      rw [← nw_self I]
      refine Go_wp 60 rfl ?_
      refine And.intro (sw_k hW (Nat.le_of_ble_eq_true rfl) rfl) ?_
      refine s_isJug (n := n) hW hT.1 hn (fun _ _ _ => ?_) (fun e => absurd rfl (e i hi))
      refine And.intro (fun h9 => absurd h9 (by decide)) (fun _ => ?_)
      refine s_isIn (n := 8) rfl (fun _ _ _ => ?_) (fun e => absurd rfl (e 2 (by decide)))
      refine And.intro (fun _ => ?_) (fun h9 => absurd (by decide) h9)
      refine And.intro (fun h9 => absurd h9 (by decide)) (fun _ => ?_)
      refine And.intro (sw_k hW (Nat.le_of_ble_eq_true rfl) rfl) ?_
      refine s_of (w := 2) hW (show i < 10 by omega) (by decide) ?_
      rw [nw_self, hC.2.1 i hi 2 (by decide)]
      exact pub_end hS
    · subst q
      refine And.intro (w_kj hW ht (by omega)) ?_
      refine ⟨_, rfl, ?_⟩
      rw [← nw_self I]
      refine Go_wp 60 rfl ?_
      refine And.intro (sw_k hW (Nat.le_of_ble_eq_true rfl) rfl) ?_
      refine s_isJug (n := n) hW hT.1 hn (fun _ _ _ => ?_) (fun e => absurd rfl (e i hi))
      refine And.intro (fun h9 => absurd h9 (by decide)) (fun _ => ?_)
      refine s_isIn (n := 8) rfl (fun _ _ _ => ?_) (fun e => absurd rfl (e 3 (by decide)))
      refine And.intro (fun _ => ?_) (fun h9 => absurd (by decide) h9)
      refine And.intro (fun h9 => absurd h9 (by decide)) (fun _ => ?_)
      refine And.intro (sw_k hW (Nat.le_of_ble_eq_true rfl) rfl) ?_
      refine s_of (w := 3) hW (show i < 10 by omega) (by decide) ?_
      rw [nw_self, hC.2.1 i hi 3 (by decide)]
      exact pub_end hS
    · subst q
      refine And.intro (w_kj hW ht (by omega)) ?_
      refine ⟨_, rfl, ?_⟩
      rw [← nw_self I]
      refine Go_wp 60 rfl ?_
      refine And.intro (sw_k hW (Nat.le_of_ble_eq_true rfl) rfl) ?_
      refine s_isJug (n := n) hW hT.1 hn (fun _ _ _ => ?_) (fun e => absurd rfl (e i hi))
      refine And.intro (fun h9 => absurd h9 (by decide)) (fun _ => ?_)
      refine s_isIn (n := 8) rfl (fun _ _ _ => ?_) (fun e => absurd rfl (e 4 (by decide)))
      refine And.intro (fun _ => ?_) (fun h9 => absurd (by decide) h9)
      refine And.intro (fun h9 => absurd h9 (by decide)) (fun _ => ?_)
      refine And.intro (sw_k hW (Nat.le_of_ble_eq_true rfl) rfl) ?_
      refine s_of (w := 4) hW (show i < 10 by omega) (by decide) ?_
      rw [nw_self, hC.2.1 i hi 4 (by decide)]
      exact pub_end hS
    · subst q
      refine And.intro (sw_k hW (Nat.le_of_ble_eq_true rfl) rfl) ?_
      refine Exists.intro _ (And.intro (sw_r hW (Nat.le_of_ble_eq_true rfl) rfl rfl) ?_)
      refine And.intro (w_t hW ht) ?_
      refine c_plainOf hW ht hC hT hL hi (fun I2 h2 => ?_)
      have hC2 : CT I2 5 (I 86) n m := hC.keep hn (fun o a b => h2 o (by omega) (by omega))
      refine And.intro (w_kj hW ht (by omega)) ?_
      refine c_fill1 hW ht hC2 hT hi ?_
      refine ⟨_, rfl, ?_⟩
      have h86 : I2 86 = I 86 := h2 86 (by decide) (by decide)
      rw [← nw_is h86]
      refine Go_wp 60 rfl ?_
      refine And.intro (sw_k hW (Nat.le_of_ble_eq_true rfl) rfl) ?_
      refine s_isJug (n := n) hW hT.1 hn (fun _ _ _ => ?_) (fun e => absurd rfl (e i hi))
      refine And.intro (fun h9 => absurd h9 (by decide)) (fun _ => ?_)
      refine s_isIn (n := 8) rfl (fun _ _ _ => ?_) (fun e => absurd rfl (e 5 (by decide)))
      refine And.intro (fun _ => ?_) (fun h9 => absurd (by decide) h9)
      refine And.intro (fun _ => ?_) (fun h9 => absurd (by decide) h9)
      refine And.intro (fun _ => ?_) (fun h9 => absurd (by decide) h9)
      refine And.intro (fun h9 => absurd rfl h9) (fun _ => ?_)
      refine And.intro (sw_k hW (Nat.le_of_ble_eq_true rfl) rfl) ?_
      refine s_toOf hW hT hi (fun J2 hJ2 => ?_)
      exact pub_end (hS.scr (F34.sc h2 hJ2 rfl))
    · subst q
      refine And.intro (sw_k hW (Nat.le_of_ble_eq_true rfl) rfl) ?_
      refine Exists.intro _ (And.intro (sw_r hW (Nat.le_of_ble_eq_true rfl) rfl rfl) ?_)
      refine And.intro (w_t hW ht) ?_
      refine c_plainOf hW ht hC hT hL hi (fun I2 h2 => ?_)
      have hC2 : CT I2 5 (I 86) n m := hC.keep hn (fun o a b => h2 o (by omega) (by omega))
      refine And.intro (w_kj hW ht (by omega)) ?_
      refine c_fill1 hW ht hC2 hT hi ?_
      refine And.intro (sw_k hW (Nat.le_of_ble_eq_true rfl) rfl) ?_
      refine Exists.intro _ (And.intro (sw_r hW (Nat.le_of_ble_eq_true rfl) rfl rfl) ?_)
      refine And.intro (w_t hW ht) (Exists.intro _ (And.intro (w_r3 hW ht) ?_))
      refine And.intro (w_kj hW ht (by omega)) ?_
      rw [hC2.2.1 i hi 3 (by decide), j8]
      refine And.intro (w_h hW ht (i := hd) (by omega)) ?_
      rw [ix (show hd < 2147483648 by omega), hC2.2.2.1 hd (by omega)]
      refine And.intro (w_kj hW ht (by omega)) ?_
      refine c_keep1 hW ht hC2 hT hi j8 j9 ?_
      refine ⟨_, rfl, ?_⟩
      have h86 : I2 86 = I 86 := h2 86 (by decide) (by decide)
      rw [← nw_is h86]
      refine Go_wp 60 rfl ?_
      refine And.intro (sw_k hW (Nat.le_of_ble_eq_true rfl) rfl) ?_
      refine s_isJug (n := n) hW hT.1 hn (fun _ _ _ => ?_) (fun e => absurd rfl (e i hi))
      refine And.intro (fun h9 => absurd h9 (by decide)) (fun _ => ?_)
      refine s_isIn (n := 8) rfl (fun _ _ _ => ?_) (fun e => absurd rfl (e 6 (by decide)))
      refine And.intro (fun _ => ?_) (fun h9 => absurd (by decide) h9)
      refine And.intro (fun _ => ?_) (fun h9 => absurd (by decide) h9)
      refine And.intro (fun _ => ?_) (fun h9 => absurd (by decide) h9)
      refine And.intro (fun _ => ?_) (fun h9 => absurd (by decide) h9)
      refine And.intro (sw_k hW (Nat.le_of_ble_eq_true rfl) rfl) ?_
      refine s_toOf hW hT hi (fun J2 hJ2 => ?_)
      refine And.intro (sw_k hW (Nat.le_of_ble_eq_true rfl) rfl) ?_
      refine s_keepsOf hW (show i < 10 by omega) j8 j9 ?_
      exact pub_end (hS.scr (F34.sc h2 hJ2 rfl))
    · subst q
      refine And.intro (w_kj hW ht (by omega)) ?_
      refine c_worthT hW ht hC hT hi ?_
      refine ⟨_, rfl, ?_⟩
      rw [← nw_self I]
      refine Go_wp 60 rfl ?_
      refine And.intro (sw_k hW (Nat.le_of_ble_eq_true rfl) rfl) ?_
      refine s_isJug (n := n) hW hT.1 hn (fun _ _ _ => ?_) (fun e => absurd rfl (e i hi))
      refine And.intro (fun h9 => absurd h9 (by decide)) (fun _ => ?_)
      refine s_isIn (n := 8) rfl (fun _ _ _ => ?_) (fun e => absurd rfl (e 7 (by decide)))
      refine And.intro (fun _ => ?_) (fun h9 => absurd (by decide) h9)
      refine And.intro (fun _ => ?_) (fun h9 => absurd (by decide) h9)
      refine And.intro (fun h9 => absurd rfl h9) (fun _ => ?_)
      refine And.intro (sw_k hW (Nat.le_of_ble_eq_true rfl) rfl) ?_
      refine s_worthOf hW (show i < 10 by omega) ?_
      rw [nw_self]
      exact pub_end hS
    · refine ⟨_, rfl, ?_⟩
      rw [← nw_self I]
      refine Go_wp 60 rfl ?_
      refine And.intro (sw_k hW (Nat.le_of_ble_eq_true rfl) rfl) ?_
      refine s_isJug (n := n) hW hT.1 hn (fun _ _ _ => ?_) (fun e => absurd rfl (e i hi))
      refine And.intro (fun h9 => absurd h9 (by decide)) (fun _ => ?_)
      refine s_isIn (n := 8) rfl (fun j hj e2 => ?_) (fun _ => ?_)
      · exfalso
        have hj2 : j = 0 ∨ j = 1 ∨ j = 2 ∨ j = 3 ∨ j = 4 ∨ j = 5 ∨ j = 6 ∨ j = 7 := by omega
        rcases hj2 with h | h | h | h | h | h | h | h <;> subst h
        · exact q1 e2
        · exact q2 e2
        · exact q3 e2
        · exact q4 e2
        · exact q5 e2
        · exact q6 e2
        · exact q7 e2
        · exact q8 e2
      · refine And.intro (fun h9 => absurd rfl h9) (fun _ => ?_)
        rw [nw_self]
        exact pub_end hS
  · refine And.intro (fun h9 => absurd rfl h9) (fun _ => ?_)
    refine ⟨_, rfl, ?_⟩
    rw [← nw_self I]
    refine Go_wp 60 rfl ?_
    refine And.intro (sw_k hW (Nat.le_of_ble_eq_true rfl) rfl) ?_
    refine s_isJug (n := n) hW hT.1 hn (fun i hi e2 => absurd e2 (e i hi)) (fun _ => ?_)
    refine And.intro (fun _ => ?_) (fun h9 => absurd rfl h9)
    rw [nw_self]
    exact pub_end hS
