/-! Public methods: a hand told. -/
def hoF (T : Nat → Int32) (h : Int32) : Nat → Int32
  | 0 => 0
  | j + 1 => if T (24 + 5 * j + 3) = h then hoF T h j ||| ((1 : Int32) <<< (nI j &&& 31)) else hoF T h j
theorem l_jugsOf {nx sl : Nat} {ln : Nat → Nat} {R : Nat → Nat → Option Nat} {I : Nat → Nat → Int32} {Q : Option Value → Hp → Prop} {k : Nat} (hW : SW nx ln R) {t n m : Nat} {T : Nat → Int32} {h : Int32} (ht : Tw t) (hC : CT I t T n m) (hT : T 1 = nI n) (hn : n ≤ 10) (hQ : Q (some (.int (hoF T h n))) (nx, sl, ln, R, I)) : ∀ (r j : Nat) (xa xj : Int32), xa = hoF T h j → xj = nI j → j + r = n → GoF k mX6_jugsOf 4 [some (.ref t), some (.int h), some (.int xa), some (.int xj)] [] (nx, sl, ln, R, I) Q := by
  intro r
  induction r with
  | zero =>
    intro j xa xj hxa hxj hjr
    subst hxa
    subst hxj
    have e : j = n := by omega
    rw [← e] at hQ
    refine GoF_wp1 40 ?_
    refine And.intro (w_t hW ht) ?_
    rw [hC.1, hT, ← e]
    exact And.intro (fun _ => hQ) (fun h9 => absurd (nI_le (Nat.le_refl j) (by omega)) h9)
  | succ r ih =>
    intro j xa xj hxa hxj hjr
    subst hxa
    subst hxj
    refine GoF_wp1 60 ?_
    refine And.intro (w_t hW ht) ?_
    rw [hC.1, hT]
    refine And.intro (fun h9 => absurd h9 (nI_ge (by omega) (by omega))) (fun _ => ?_)
    refine And.intro (w_t hW ht) (Exists.intro _ (And.intro (w_r1 hW ht) ?_))
    refine And.intro (w_aj hW ht (by omega)) (Exists.intro _ (And.intro (w_jug hW ht (by omega)) ?_))
    refine And.intro (w_kj hW ht (by omega)) ?_
    rw [hC.2.1 j (by omega) 3 (by decide)]
    refine And.intro (fun hb => ?_) (fun hb => ?_)
    · exact ih (j + 1) _ _ (by show _ = hoF T h (j + 1); rw [show hoF T h (j + 1) = (if T (24 + 5 * j + 3) = h then hoF T h j ||| ((1 : Int32) <<< (nI j &&& 31)) else hoF T h j) from rfl, if_neg hb]) (nI_1 j) (by omega)
    · exact ih (j + 1) _ _ (by show _ = hoF T h (j + 1); rw [show hoF T h (j + 1) = (if T (24 + 5 * j + 3) = h then hoF T h j ||| ((1 : Int32) <<< (nI j &&& 31)) else hoF T h j) from rfl, if_pos (Decidable.of_not_not hb)]) (nI_1 j) (by omega)
theorem c_jugsOf {nx sl : Nat} {ln : Nat → Nat} {R : Nat → Nat → Option Nat} {I : Nat → Nat → Int32} {Q : Option Value → Hp → Prop} {k : Nat} (hW : SW nx ln R) {t n m : Nat} {T : Nat → Int32} {h : Int32} (ht : Tw t) (hC : CT I t T n m) (hT : T 1 = nI n) (hn : n ≤ 10) (hQ : Q (some (.int (hoF T h n))) (nx, sl, ln, R, I)) : Go k mX6_jugsOf [.ref t, .int h] (nx, sl, ln, R, I) Q := by
  refine Go_wp 20 rfl ?_
  exact l_jugsOf hW ht hC hT hn hQ n 0 _ _ rfl rfl (by omega)
theorem l_hand {nx sl : Nat} {ln : Nat → Nat} {R : Nat → Nat → Option Nat} {J : Nat → Nat → Int32} {T : Nat → Int32} {Q : Option Value → Hp → Prop} {k : Nat} (hW : SW nx ln R) {n w h : Nat} (hT : T 1 = nI n) (hn : n ≤ 10) (hw : w < 3) (hh : h < 8) (hQ0 : w = 0 → Q (some (.int (T (8 + h)))) (nx, sl, ln, R, nw J T)) (hQ1 : w = 1 → Q (some (.int (T (16 + h)))) (nx, sl, ln, R, nw J T)) (hQ2 : w = 2 → Q (some (.int (hoF T (nI h) n))) (nx, sl, ln, R, nw J T)) : ∀ (r j : Nat) (xa xj : Int32), xa = hoF T (nI h) j → xj = nI j → j + r = n → GoF (k + 1) mX8_hand 24 [some (.ref 85), some (.int (nI h)), some (.int (nI w)), some (.int xa), some (.int xj)] [] (nx, sl, ln, R, nw J T) Q := by
  intro r
  induction r with
  | zero =>
    intro j xa xj hxa hxj hjr
    subst hxa
    subst hxj
    have e : j = n := by omega
    rw [← e] at hQ2
    refine GoF_wp1 60 ?_
    refine And.intro (sw_k hW (Nat.le_of_ble_eq_true rfl) rfl) ?_
    refine Exists.intro _ (And.intro (sw_r hW (Nat.le_of_ble_eq_true rfl) rfl rfl) ?_)
    refine And.intro (sw_n hW (Nat.le_of_ble_eq_true rfl) rfl rfl ((Nat.le_of_ble_eq_true rfl)) (Nat.le_of_ble_eq_true rfl)) ?_
    rw [show nw J T 86 (1 : Int32).toNatClampNeg = nI j by rw [e]; exact hT]
    refine And.intro (fun _ => ?_) (fun h9 => absurd (nI_le (Nat.le_refl j) (by omega)) h9)
    rcases (show w = 0 ∨ w = 1 ∨ w = 2 by omega) with rfl | rfl | rfl
    · refine And.intro (fun h9 => absurd rfl h9) (fun _ => ?_)
      refine And.intro (sw_k hW (Nat.le_of_ble_eq_true rfl) rfl) ?_
      refine Exists.intro _ (And.intro (sw_r hW (Nat.le_of_ble_eq_true rfl) rfl rfl) ?_)
      refine And.intro (by rw [hx8]; exact sw_n hW (Nat.le_of_ble_eq_true rfl) rfl rfl (show 8 + h < 1446 by omega) (Nat.le_of_ble_eq_true rfl)) ?_
      rw [show nw J T 86 ((8 : Int32) + nI h).toNatClampNeg = T (8 + h) by rw [hx8, ix (by omega)]; rfl]
      exact hQ0 rfl
    · refine And.intro (fun _ => ?_) (fun h9 => absurd (by decide) h9)
      refine And.intro (fun h9 => absurd rfl h9) (fun _ => ?_)
      refine And.intro (sw_k hW (Nat.le_of_ble_eq_true rfl) rfl) ?_
      refine Exists.intro _ (And.intro (sw_r hW (Nat.le_of_ble_eq_true rfl) rfl rfl) ?_)
      refine And.intro (by rw [hx16]; exact sw_n hW (Nat.le_of_ble_eq_true rfl) rfl rfl (show 16 + h < 1446 by omega) (Nat.le_of_ble_eq_true rfl)) ?_
      rw [show nw J T 86 ((16 : Int32) + nI h).toNatClampNeg = T (16 + h) by rw [hx16, ix (by omega)]; rfl]
      exact hQ1 rfl
    · refine And.intro (fun _ => ?_) (fun h9 => absurd (by decide) h9)
      refine And.intro (fun _ => ?_) (fun h9 => absurd (by decide) h9)
      exact hQ2 rfl
  | succ r ih =>
    intro j xa xj hxa hxj hjr
    subst hxa
    subst hxj
    refine GoF_wp1 80 ?_
    refine And.intro (sw_k hW (Nat.le_of_ble_eq_true rfl) rfl) ?_
    refine Exists.intro _ (And.intro (sw_r hW (Nat.le_of_ble_eq_true rfl) rfl rfl) ?_)
    refine And.intro (sw_n hW (Nat.le_of_ble_eq_true rfl) rfl rfl ((Nat.le_of_ble_eq_true rfl)) (Nat.le_of_ble_eq_true rfl)) ?_
    rw [show nw J T 86 (1 : Int32).toNatClampNeg = nI n from hT]
    refine And.intro (fun h9 => absurd h9 (nI_ge (by omega) (by omega))) (fun _ => ?_)
    refine And.intro (sw_k hW (Nat.le_of_ble_eq_true rfl) rfl) ?_
    refine s_of (w := 3) hW (show j < 10 by omega) (by decide) ?_
    refine And.intro (fun hb => ?_) (fun hb => ?_)
    · exact ih (j + 1) _ _ (by show hoF T (nI h) j ||| 0 = hoF T (nI h) (j + 1); rw [show hoF T (nI h) (j + 1) = (if T (24 + 5 * j + 3) = nI h then hoF T (nI h) j ||| ((1 : Int32) <<< (nI j &&& 31)) else hoF T (nI h) j) from rfl, if_neg hb, Int32.or_zero]) (nI_1 j) (by omega)
    · exact ih (j + 1) _ _ (by show hoF T (nI h) j ||| ((1 : Int32) <<< (nI j &&& 31)) = hoF T (nI h) (j + 1); rw [show hoF T (nI h) (j + 1) = (if T (24 + 5 * j + 3) = nI h then hoF T (nI h) j ||| ((1 : Int32) <<< (nI j &&& 31)) else hoF T (nI h) j) from rfl, if_pos (Decidable.of_not_not hb)]) (nI_1 j) (by omega)
theorem pub_hand (v w : Int32) : Pub mX7_hand mX8_hand [.int v, .int w] := by
  intro k nx sl ln R I hS
  have hW := hS.1
  have ht := tw5
  have ht2 : Tw 20 := Or.inr (Or.inl rfl)
  obtain ⟨n, m, hT, hC, hL, hG, hZ, hZ7, hZ8, -⟩ := id hS.2.1
  have hn := hT.2.1
  refine Go_wp 60 rfl ?_
  refine c_isHand (fun i hi e => ?_) (fun e => ?_)
  · subst e
    refine And.intro (fun _ => ?_) (fun h9 => absurd (by decide) h9)
    have mdl : ∀ (j : Nat) (hj : j < 3) (x : Int32), (j = 0 → x = I 86 (8 + i)) → (j = 1 → x = I 86 (16 + i)) → (j = 2 → x = hoF (I 86) (nI i) n) → Go (k + 20) mX8_hand [.ref 85, .int (nI i), .int (nI j)] (nx, sl, ln, R, I) (fun r2 h2 => r2 = some (.int x) ∧ ∃ (nx2 sl2 : Nat) (ln2 : Nat → Nat) (R2 : Nat → Nat → Option Nat) (I2 : Nat → Nat → Int32), h2 = (nx2, sl2, ln2, R2, I2) ∧ Sim nx2 ln2 R2 I2 ∧ nx2 ≤ nx + 2 ∧ sl2 ≤ sl + 200 ∧ (nx2 = nx ∨ nx2 = nx + 2) ∧ sl ≤ sl2) := by
      intro j hj x y0 y1 y2
      refine Go_wp 60 rfl ?_
      refine s_isHand (fun _ _ _ => ?_) (fun e => absurd rfl (e i hi))
      refine And.intro (fun h9 => absurd h9 (by decide)) (fun _ => ?_)
      refine s_isIn (n := 3) rfl (fun _ _ _ => ?_) (fun e => absurd rfl (e j hj))
      refine And.intro (fun _ => ?_) (fun h9 => absurd (by decide) h9)
      rw [← nw_self I] at hS
      refine (show GoF (k + 20) mX8_hand 24 [some (.ref 85), some (.int (nI i)), some (.int (nI j)), some (.int 0), some (.int 0)] [] (nx, sl, ln, R, nw I (I 86)) _ → GoF (k + 20) mX8_hand 24 [some (.ref 85), some (.int (nI i)), some (.int (nI j)), some (.int 0), some (.int 0)] [] (nx, sl, ln, R, I) _ from fun z => by rw [nw_self] at z; exact z) ?_
      refine l_hand hW hT.1 hn hj hi (fun q => ?_) (fun q => ?_) (fun q => ?_) n 0 _ _ rfl rfl (by omega)
      · rw [y0 q]; exact pub_end hS
      · rw [y1 q]; exact pub_end hS
      · rw [y2 q]; exact pub_end hS
    refine And.intro (fun q => ?_) (fun q1 => And.intro (fun q => ?_) (fun q2 => And.intro (fun q => ?_) (fun q3 => ?_)))
    · subst q
      refine And.intro (sw_k hW (Nat.le_of_ble_eq_true rfl) rfl) ?_
      refine Exists.intro _ (And.intro (sw_r hW (Nat.le_of_ble_eq_true rfl) rfl rfl) ?_)
      refine And.intro (w_t hW ht) (Exists.intro _ (And.intro (w_r3 hW ht) ?_))
      refine And.intro (w_h hW ht hi) ?_
      rw [ix (show i < 2147483648 by omega), hC.2.2.1 i hi]
      exact ⟨_, rfl, mdl 0 (by decide) _ (fun _ => rfl) (fun h => absurd h (by decide)) (fun h => absurd h (by decide))⟩
    · subst q
      refine And.intro (sw_k hW (Nat.le_of_ble_eq_true rfl) rfl) ?_
      refine Exists.intro _ (And.intro (sw_r hW (Nat.le_of_ble_eq_true rfl) rfl rfl) ?_)
      refine And.intro (w_t hW ht) (Exists.intro _ (And.intro (w_r4 hW ht) ?_))
      refine And.intro (w_d hW ht hi) ?_
      rw [ix (show i < 2147483648 by omega), hC.2.2.2.1 i hi]
      exact ⟨_, rfl, mdl 1 (by decide) _ (fun h => absurd h (by decide)) (fun _ => rfl) (fun h => absurd h (by decide))⟩
    · subst q
      refine And.intro (sw_k hW (Nat.le_of_ble_eq_true rfl) rfl) ?_
      refine Exists.intro _ (And.intro (sw_r hW (Nat.le_of_ble_eq_true rfl) rfl rfl) ?_)
      refine And.intro (w_t hW ht) ?_
      refine c_jugsOf hW ht hC hT.1 hn ?_
      exact ⟨_, rfl, mdl 2 (by decide) _ (fun h => absurd h (by decide)) (fun h => absurd h (by decide)) (fun _ => rfl)⟩
    · refine ⟨_, rfl, ?_⟩
      refine Go_wp 60 rfl ?_
      refine s_isHand (fun _ _ _ => ?_) (fun e => absurd rfl (e i hi))
      refine And.intro (fun h9 => absurd h9 (by decide)) (fun _ => ?_)
      refine s_isIn (n := 3) rfl (fun j hj e2 => ?_) (fun _ => ?_)
      · exfalso
        rcases (show j = 0 ∨ j = 1 ∨ j = 2 by omega) with h | h | h <;> subst h
        · exact q1 e2
        · exact q2 e2
        · exact q3 e2
      · refine And.intro (fun h9 => absurd rfl h9) (fun _ => ?_)
        exact pub_end hS
  · refine And.intro (fun h9 => absurd rfl h9) (fun _ => ?_)
    refine ⟨_, rfl, ?_⟩
    refine Go_wp 60 rfl ?_
    refine s_isHand (fun j hj e2 => absurd e2 (e j hj)) (fun _ => ?_)
    refine And.intro (fun _ => ?_) (fun h9 => absurd rfl h9)
    exact pub_end hS
