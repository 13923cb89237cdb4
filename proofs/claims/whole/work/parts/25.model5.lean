/-! The model's town: selling, breaking, a day. -/
def seT (T : Nat → Int32) : Nat → Int32 := up1 (up1 T 0 (zN (T 0))) 0 (zN (zN (T 0)))
def seJ (T : Nat → Int32) (n : Nat) : Nat := (dw (T 0)).toNatClampNeg % n
def seH (T : Nat → Int32) : Nat := (dw (zN (T 0))).toNatClampNeg % 8
/-- a jug is sold, if it is -/
def seF (T : Nat → Int32) (n : Nat) : Nat → Int32 :=
  if seT T (24 + 5 * seJ T n + 3) = nI (seH T) then seT T else if seT T (16 + seH T) < woF (seT T) (seJ T n) then seT T else
  up1 (up1 (hsF (hsF (seT T) (seH T) (-woF (seT T) (seJ T n))) (seT T (24 + 5 * seJ T n + 3)).toNatClampNeg (woF (seT T) (seJ T n))) (24 + 5 * seJ T n + 3) (nI (seH T))) 5 (seT T 5 + 1)
theorem seT_eq (T : Nat → Int32) {p : Nat} (h : 0 < p) : seT T p = T p := by unfold seT; rw [up1_gt h, up1_gt h]
theorem IT.seT {T : Nat → Int32} {n m : Nat} (h : IT T n m) : IT (seT T) n m := (h.free (Or.inl rfl)).free (Or.inl rfl)
def seG (U : Nat → Int32) (j h : Nat) : Nat → Int32 :=
  if U (24 + 5 * j + 3) = nI h then U else if U (16 + h) < woF U j then U else
  up1 (up1 (hsF (hsF U h (-woF U j)) (U (24 + 5 * j + 3)).toNatClampNeg (woF U j)) (24 + 5 * j + 3) (nI h)) 5 (U 5 + 1)
theorem tail_sells {nx sl : Nat} {ln : Nat → Nat} {R : Nat → Nat → Option Nat} {J : Nat → Nat → Int32} {T : Nat → Int32} {Q : Option Value → Hp → Prop} {k : Nat} (hW : SW nx ln R) {n m j h nn : Nat} (hT : IT T n m) (hj : j < n) (hh8 : h < 8) (hQ : Q none (nx, sl, ln, R, nw J (seG T j h))) : wp (nn + 60) (k + 2) mX8_sells 19 [some (.ref 85), some (.int (nI j)), none, none, none] [.int (nI h)] (nx, sl, ln, R, nw J T) Q := by
  have hn10 := hT.2.1
  have hj10 : j < 10 := by omega
  obtain ⟨kd, b, mk, hd, fl, j1, j2, j3, j4, j5, j6, j7, j8, j9, j10, j11⟩ := hT.2.2.1 _ hj
  have exd : (nI hd).toNatClampNeg = hd := ix (by omega)
  refine And.intro (sw_k hW (Nat.le_of_ble_eq_true rfl) rfl) ?_
  refine s_worthOf hW hj10 ?_
  refine And.intro (sw_k hW (Nat.le_of_ble_eq_true rfl) rfl) ?_
  refine s_of (w := 3) hW hj10 (by decide) ?_
  unfold seG at hQ
  refine And.intro (fun q => ?_) (fun q => ?_)
  · rw [if_pos q] at hQ; exact hQ
  · rw [if_neg q] at hQ
    refine And.intro (sw_k hW (Nat.le_of_ble_eq_true rfl) rfl) ?_
    refine Exists.intro _ (And.intro (sw_r hW (Nat.le_of_ble_eq_true rfl) rfl rfl) ?_)
    refine And.intro (by rw [hx16]; exact sw_n hW (Nat.le_of_ble_eq_true rfl) rfl rfl (show 16 + h < 1446 by omega) (Nat.le_of_ble_eq_true rfl)) ?_
    rw [show nw J T 86 ((16 : Int32) + nI h).toNatClampNeg = T (16 + h) by rw [hx16, ix (by omega)]; rfl]
    refine And.intro (fun q2 => ?_) (fun q2 => ?_)
    · rw [if_pos q2] at hQ; exact hQ
    · rw [if_neg q2] at hQ
      refine And.intro (sw_k hW (Nat.le_of_ble_eq_true rfl) rfl) ?_
      refine s_has hW hh8 ?_
      rw [j8]
      refine And.intro (sw_k hW (Nat.le_of_ble_eq_true rfl) rfl) ?_
      refine s_has hW (show hd < 8 by omega) ?_
      refine And.intro (sw_k hW (Nat.le_of_ble_eq_true rfl) rfl) ?_
      refine s_put (w := 3) hW hj10 (by decide) ?_
      refine And.intro (sw_k hW (Nat.le_of_ble_eq_true rfl) rfl) ?_
      refine Exists.intro _ (And.intro (sw_r hW (Nat.le_of_ble_eq_true rfl) rfl rfl) ?_)
      refine And.intro (sw_n hW (Nat.le_of_ble_eq_true rfl) rfl rfl ((Nat.le_of_ble_eq_true rfl)) (Nat.le_of_ble_eq_true rfl)) ?_
      refine And.intro (sw_n hW (Nat.le_of_ble_eq_true rfl) rfl rfl ((Nat.le_of_ble_eq_true rfl)) (Nat.le_of_ble_eq_true rfl)) ?_
      rw [nw_put' _ _ (i := 5) (x := 5) rfl]
      rw [j8, exd] at hQ
      have e5 : up1 (hsF (hsF T h (-woF T j)) hd (woF T j)) (24 + 5 * j + 3) (nI h) 5 = T 5 := by
        rw [up1_lt (by omega)]; unfold hsF; rw [up1_lt (by omega), up1_lt (by omega)]
      rw [← e5] at hQ
      exact hQ
theorem seF_G (T : Nat → Int32) (n : Nat) : seF T n = seG (seT T) (seJ T n) (seH T) := rfl
theorem s_sells {nx sl : Nat} {ln : Nat → Nat} {R : Nat → Nat → Option Nat} {J : Nat → Nat → Int32} {T : Nat → Int32} {Q : Option Value → Hp → Prop} {k : Nat} (hW : SW nx ln R) {n m : Nat} (hT : IT T n m) (hn : 0 < n) (hQ : Q none (nx, sl, ln, R, nw J (seF T n))) : Go (k + 2) mX8_sells [.ref 85] (nx, sl, ln, R, nw J T) Q := by
  obtain ⟨v1, w1, w2⟩ := dw_ok (T 0)
  obtain ⟨v2, w3, w4⟩ := dw_ok (zN (T 0))
  have hn10 := hT.2.1
  have ej : seJ T n = v1 % n := by unfold seJ; rw [w2, ix (by omega)]
  have eh : seH T = v2 % 8 := by unfold seH; rw [w4, ix (by omega)]
  have hjn : seJ T n < n := by rw [ej]; exact Nat.mod_lt _ hn
  have hh8 : seH T < 8 := by rw [eh]; exact Nat.mod_lt _ (by decide)
  refine Go_wp 100 rfl ?_
  refine And.intro (sw_k hW (Nat.le_of_ble_eq_true rfl) rfl) ?_
  refine s_draw hW ?_
  obtain ⟨T1, hT1⟩ : ∃ T1, up1 T 0 (zN (T 0)) = T1 := ⟨_, rfl⟩
  have g1 : T1 1 = nI n := by rw [← hT1, up1_gt (by decide)]; exact hT.1
  have g0 : T1 0 = zN (T 0) := by rw [← hT1, up1_eq]
  rw [hT1, w2]
  refine And.intro (sw_k hW (Nat.le_of_ble_eq_true rfl) rfl) ?_
  refine Exists.intro _ (And.intro (sw_r hW (Nat.le_of_ble_eq_true rfl) rfl rfl) ?_)
  refine And.intro (sw_n hW (Nat.le_of_ble_eq_true rfl) rfl rfl ((Nat.le_of_ble_eq_true rfl)) (Nat.le_of_ble_eq_true rfl)) ?_
  rw [show nw J T1 86 (1 : Int32).toNatClampNeg = nI n from g1]
  refine And.intro (nI_ne0 hn (by omega)) ?_
  rw [irm_nI (by omega) hn (by omega), ← ej]
  refine And.intro (sw_k hW (Nat.le_of_ble_eq_true rfl) rfl) ?_
  refine s_draw hW ?_
  rw [g0, w4]
  obtain ⟨T2, hT2⟩ : ∃ T2, up1 T1 0 (zN (zN (T 0))) = T2 := ⟨_, rfl⟩
  have e2 : seT T = T2 := by rw [← hT2, ← hT1]; rfl
  rw [hT2]
  refine And.intro (by decide) ?_
  have e8 : irm (nI v2) 8 = nI (seH T) := by rw [eh]; exact irm_nI (b := 8) (by omega) (by decide) (by decide)
  rw [e8]
  rw [seF_G, e2] at hQ
  have hIT := hT.seT
  rw [e2] at hIT
  exact tail_sells hW hIT hjn hh8 hQ
/-- of the jugs up to k the one with most fills, of several the least -/
def mxF (T : Nat → Int32) : Nat → Nat
  | 0 => 0
  | k + 1 => if T (24 + 5 * mxF T k + 4) < T (24 + 5 * (k + 1) + 4) then k + 1 else mxF T k
theorem mxF_le (T : Nat → Int32) : ∀ k, mxF T k ≤ k := by
  intro k
  induction k with
  | zero => exact Nat.le_refl 0
  | succ k ih => unfold mxF; split <;> omega
/-- a jug is gone -/
def gT (T : Nat → Int32) (j e : Nat) : Nat → Int32 := fun p => if 24 + 5 * j ≤ p ∧ p < 24 + e then T (p + 5) else T p
def goF (T : Nat → Int32) (j n : Nat) : Nat → Int32 := gT (up1 T 1 (T 1 - 1)) j (5 * (n - 1))
theorem gT_step (T : Nat → Int32) {j e : Nat} (h : 5 * j ≤ e) : up1 (gT T j e) (24 + e) (gT T j e (24 + e + 5)) = gT T j (e + 1) := by
  funext p
  by_cases hp : p = 24 + e
  · subst hp
    rw [up1_eq]
    unfold gT
    rw [if_neg (by omega), if_pos (by omega)]
  · rw [up1_ne hp]
    unfold gT
    by_cases hq : 24 + 5 * j ≤ p ∧ p < 24 + e
    · rw [if_pos hq, if_pos (by omega)]
    · rw [if_neg hq, if_neg (by omega)]
theorem gx (e : Nat) : (24 : Int32) + nI e = nI (24 + e) := by rw [show (24 : Int32) = nI 24 from rfl, nI_add]
theorem gx5 (e : Nat) : (24 : Int32) + nI e + 5 = nI (24 + e + 5) := by rw [gx, show (5 : Int32) = nI 5 from rfl, nI_add]
theorem l_goes {nx sl : Nat} {ln : Nat → Nat} {R : Nat → Nat → Option Nat} {J : Nat → Nat → Int32} {T : Nat → Int32} {Q : Option Value → Hp → Prop} {k : Nat} (hW : SW nx ln R) {j n : Nat} (hn : n ≤ 10) (hT1 : T 1 = nI n) (hj : j ≤ n) : ∀ (r e : Nat) (xe : Int32) (I1 : Nat → Nat → Int32), xe = nI e → I1 = nw J (gT T j e) → e + r = 5 * n → 5 * j ≤ e → Q none (nx, sl, ln, R, nw J (gT T j (5 * n))) → GoF k mX8_goes 14 [some (.ref 85), some (.int (nI j)), some (.int xe)] [] (nx, sl, ln, R, I1) Q := by
  intro r
  induction r with
  | zero =>
    intro e xe I1 hxe hI her hje hQ
    subst hxe
    subst hI
    have he : e = 5 * n := by omega
    subst he
    refine GoF_wp1 60 ?_
    refine And.intro (sw_k hW (Nat.le_of_ble_eq_true rfl) rfl) ?_
    refine Exists.intro _ (And.intro (sw_r hW (Nat.le_of_ble_eq_true rfl) rfl rfl) ?_)
    refine And.intro (sw_n hW (Nat.le_of_ble_eq_true rfl) rfl rfl ((Nat.le_of_ble_eq_true rfl)) (Nat.le_of_ble_eq_true rfl)) ?_
    rw [show nw J (gT T j (5 * n)) 86 (1 : Int32).toNatClampNeg = nI n by show gT T j (5 * n) 1 = nI n; unfold gT; rw [if_neg (by omega)]; exact hT1]
    exact And.intro (fun _ => hQ) (fun (h : ¬ (5 : Int32) * nI n ≤ nI (5 * n)) => absurd (by rw [show (5 : Int32) * nI n = nI (5 * n) from nI_mul 5 n]; exact nI_le (Nat.le_refl _) (by omega)) h)
  | succ r ih =>
    intro e xe I1 hxe hI her hje hQ
    subst hxe
    subst hI
    refine GoF_wp1 60 ?_
    refine And.intro (sw_k hW (Nat.le_of_ble_eq_true rfl) rfl) ?_
    refine Exists.intro _ (And.intro (sw_r hW (Nat.le_of_ble_eq_true rfl) rfl rfl) ?_)
    refine And.intro (sw_n hW (Nat.le_of_ble_eq_true rfl) rfl rfl ((Nat.le_of_ble_eq_true rfl)) (Nat.le_of_ble_eq_true rfl)) ?_
    rw [show nw J (gT T j e) 86 (1 : Int32).toNatClampNeg = nI n by show gT T j e 1 = nI n; unfold gT; rw [if_neg (by omega)]; exact hT1]
    refine And.intro (fun (h : (5 : Int32) * nI n ≤ nI e) => absurd (by rw [show (5 : Int32) * nI n = nI (5 * n) from nI_mul 5 n] at h; exact h) (nI_ge (show e < 5 * n by omega) (by omega))) (fun _ => ?_)
    refine And.intro (sw_k hW (Nat.le_of_ble_eq_true rfl) rfl) ?_
    refine Exists.intro _ (And.intro (sw_r hW (Nat.le_of_ble_eq_true rfl) rfl rfl) ?_)
    refine And.intro (sw_k hW (Nat.le_of_ble_eq_true rfl) rfl) ?_
    refine Exists.intro _ (And.intro (sw_r hW (Nat.le_of_ble_eq_true rfl) rfl rfl) ?_)
    refine And.intro (by rw [gx5]; exact sw_n hW (Nat.le_of_ble_eq_true rfl) rfl rfl (show 24 + e + 5 < 1446 by omega) (Nat.le_of_ble_eq_true rfl)) ?_
    refine And.intro (by rw [gx]; exact sw_n hW (Nat.le_of_ble_eq_true rfl) rfl rfl (show 24 + e < 1446 by omega) (Nat.le_of_ble_eq_true rfl)) ?_
    refine ih (e + 1) _ _ (nI_1 e) ?_ (by omega) (by omega) hQ
    rw [gx5, gx, ix (by omega), ix (by omega), nw_put, nw86, gT_step T hje]
theorem s_goes {nx sl : Nat} {ln : Nat → Nat} {R : Nat → Nat → Option Nat} {J : Nat → Nat → Int32} {T : Nat → Int32} {Q : Option Value → Hp → Prop} {k : Nat} (hW : SW nx ln R) {j n : Nat} (hn : n ≤ 10) (hj : j < n) (hT1 : T 1 = nI n) (hQ : Q none (nx, sl, ln, R, nw J (goF T j n))) : Go k mX8_goes [.ref 85, .int (nI j)] (nx, sl, ln, R, nw J T) Q := by
  refine Go_wp 60 rfl ?_
  refine And.intro (sw_k hW (Nat.le_of_ble_eq_true rfl) rfl) ?_
  refine Exists.intro _ (And.intro (sw_r hW (Nat.le_of_ble_eq_true rfl) rfl rfl) ?_)
  refine And.intro (sw_n hW (Nat.le_of_ble_eq_true rfl) rfl rfl ((Nat.le_of_ble_eq_true rfl)) (Nat.le_of_ble_eq_true rfl)) ?_
  refine And.intro (sw_n hW (Nat.le_of_ble_eq_true rfl) rfl rfl ((Nat.le_of_ble_eq_true rfl)) (Nat.le_of_ble_eq_true rfl)) ?_
  rw [nw_put' _ _ (i := 1) (x := 1) rfl]
  obtain ⟨n', rfl⟩ : ∃ n', n = n' + 1 := ⟨n - 1, by omega⟩
  refine l_goes (n := n') hW (by omega) ?_ (by omega) (5 * n' - 5 * j) (5 * j) _ _ (nI_mul 5 j) ?_ (by omega) (Nat.le_refl _) hQ
  · show T 1 - 1 = nI n'
    rw [hT1, nIs]
  · congr 1
    funext p
    unfold gT
    rw [if_neg (by omega)]
    rfl
theorem l_breaks {nx sl : Nat} {ln : Nat → Nat} {R : Nat → Nat → Option Nat} {J : Nat → Nat → Int32} {T : Nat → Int32} {Q : Option Value → Hp → Prop} {k : Nat} (hW : SW nx ln R) {n m : Nat} (hT : IT T n m) : ∀ (r q j : Nat) (xq xj : Int32), xq = nI (q + 1) → xj = nI j → j = mxF T q → q + 1 + r = n → (∀ xq', GoF (k + 3) mX8_breaksOne 4 [some (.ref 85), some (.int (nI (mxF T (n - 1)))), some (.int xq')] [] (nx, sl, ln, R, nw J T) Q → True) → wp1 60 (k + 3) mX8_breaksOne 4 [some (.ref 85), some (.int (nI (mxF T (n - 1)))), some (.int (nI n))] [] (nx, sl, ln, R, nw J T) Q → GoF (k + 3) mX8_breaksOne 4 [some (.ref 85), some (.int xj), some (.int xq)] [] (nx, sl, ln, R, nw J T) Q := by
  intro r
  have i1 := hT.1
  have i2 := hT.2.1
  induction r with
  | zero =>
    intro q j xq xj hxq hxj hj hqr _ hQ
    subst hxq
    subst hxj
    have hn : n = q + 1 := by omega
    subst hn
    rw [hj]
    exact GoF_wp1 60 hQ
  | succ r ih =>
    intro q j xq xj hxq hxj hj hqr h0 hQ
    subst hxq
    subst hxj
    have hjq : j ≤ q := by rw [hj]; exact mxF_le T q
    refine GoF_wp1 60 ?_
    refine And.intro (sw_k hW (Nat.le_of_ble_eq_true rfl) rfl) ?_
    refine Exists.intro _ (And.intro (sw_r hW (Nat.le_of_ble_eq_true rfl) rfl rfl) ?_)
    refine And.intro (sw_n hW (Nat.le_of_ble_eq_true rfl) rfl rfl ((Nat.le_of_ble_eq_true rfl)) (Nat.le_of_ble_eq_true rfl)) ?_
    rw [show nw J T 86 (1 : Int32).toNatClampNeg = nI n from i1]
    refine And.intro (fun h => absurd h (nI_ge (show q + 1 < n by omega) (by omega))) (fun _ => ?_)
    refine And.intro (sw_k hW (Nat.le_of_ble_eq_true rfl) rfl) ?_
    refine s_of (w := 4) hW (show q + 1 < 10 by omega) (by decide) ?_
    refine And.intro (sw_k hW (Nat.le_of_ble_eq_true rfl) rfl) ?_
    refine s_of (w := 4) hW (show j < 10 by omega) (by decide) ?_
    refine And.intro (fun h => ?_) (fun h => ?_)
    · refine ih (q + 1) j _ _ (nI_1 (q + 1)) rfl ?_ (by omega) h0 hQ
      unfold mxF
      rw [← hj, if_neg (fun w => by rw [tI_le] at h; rw [tI_lt] at w; omega)]
    · refine ih (q + 1) (q + 1) _ _ (nI_1 (q + 1)) rfl ?_ (by omega) h0 hQ
      unfold mxF
      rw [← hj, if_pos (by rw [tI_le] at h; rw [tI_lt]; omega)]
/-- a jug breaks -/
def brA (T : Nat → Int32) (j : Nat) : Nat → Int32 := up1 (up1 (up1 T (24 + 5 * j + 1) (T (24 + 5 * j + 1) - 1)) (24 + 5 * j + 2) (wi (T (24 + 5 * j + 2)) 0 (T (24 + 5 * j + 1) - 1))) 6 (T 6 + 1)
def brF (T : Nat → Int32) (n : Nat) : Nat → Int32 := if T (24 + 5 * mxF T (n - 1) + 1) - 1 = 0 then goF (brA T (mxF T (n - 1))) (mxF T (n - 1)) n else brA T (mxF T (n - 1))
theorem s_breaksOne {nx sl : Nat} {ln : Nat → Nat} {R : Nat → Nat → Option Nat} {J : Nat → Nat → Int32} {T : Nat → Int32} {Q : Option Value → Hp → Prop} {k : Nat} (hW : SW nx ln R) {n m : Nat} (hT : IT T n m) (hn : 0 < n) (hQ : Q none (nx, sl, ln, R, nw J (brF T n))) : Go (k + 3) mX8_breaksOne [.ref 85] (nx, sl, ln, R, nw J T) Q := by
  have i1 := hT.1
  have i2 := hT.2.1
  have hm := mxF_le T (n - 1)
  refine Go_wp 60 rfl ?_
  refine l_breaks hW hT (n - 1) 0 0 _ _ rfl rfl rfl (by omega) (fun _ _ => trivial) ?_
  unfold brF at hQ
  obtain ⟨j, hj⟩ : ∃ j, mxF T (n - 1) = j := ⟨_, rfl⟩
  rw [hj] at hm hQ
  rw [hj]
  have hj10 : j < 10 := by omega
  refine And.intro (sw_k hW (Nat.le_of_ble_eq_true rfl) rfl) ?_
  refine Exists.intro _ (And.intro (sw_r hW (Nat.le_of_ble_eq_true rfl) rfl rfl) ?_)
  refine And.intro (sw_n hW (Nat.le_of_ble_eq_true rfl) rfl rfl ((Nat.le_of_ble_eq_true rfl)) (Nat.le_of_ble_eq_true rfl)) ?_
  rw [show nw J T 86 (1 : Int32).toNatClampNeg = nI n from i1]
  refine And.intro (fun _ => ?_) (fun h => absurd (nI_le (Nat.le_refl n) (by omega)) h)
  refine And.intro (sw_k hW (Nat.le_of_ble_eq_true rfl) rfl) ?_
  refine s_of (w := 1) hW hj10 (by decide) ?_
  refine And.intro (sw_k hW (Nat.le_of_ble_eq_true rfl) rfl) ?_
  refine s_put (w := 1) hW hj10 (by decide) ?_
  refine And.intro (sw_k hW (Nat.le_of_ble_eq_true rfl) rfl) ?_
  refine s_holdsMark hW hj10 ?_
  rw [up1_eq, up1_gt (show 24 + 5 * j + 1 < 24 + 5 * j + 2 by omega)]
  refine And.intro (sw_k hW (Nat.le_of_ble_eq_true rfl) rfl) ?_
  refine Exists.intro _ (And.intro (sw_r hW (Nat.le_of_ble_eq_true rfl) rfl rfl) ?_)
  refine And.intro (sw_n hW (Nat.le_of_ble_eq_true rfl) rfl rfl ((Nat.le_of_ble_eq_true rfl)) (Nat.le_of_ble_eq_true rfl)) ?_
  refine And.intro (sw_n hW (Nat.le_of_ble_eq_true rfl) rfl rfl ((Nat.le_of_ble_eq_true rfl)) (Nat.le_of_ble_eq_true rfl)) ?_
  rw [nw_put' _ _ (i := 6) (x := 6) rfl]
  rw [show nw J (up1 (up1 T (24 + 5 * j + 1) (T (24 + 5 * j + 1) - 1)) (24 + 5 * j + 2) (wi (T (24 + 5 * j + 2)) 0 (T (24 + 5 * j + 1) - 1))) 86 (6 : Int32).toNatClampNeg = T 6 by
    show up1 _ (24 + 5 * j + 2) _ 6 = T 6
    rw [up1_lt (by omega), up1_lt (by omega)]]
  show wp _ _ _ _ _ _ (nx, sl, ln, R, nw J (brA T j)) Q
  have hb1 : brA T j (24 + 5 * j + 1) = T (24 + 5 * j + 1) - 1 := by unfold brA; rw [up1_gt (by omega), up1_lt (by omega), up1_eq]
  have hb0 : brA T j 1 = nI n := by unfold brA; rw [up1_lt (by omega), up1_lt (by omega), up1_lt (by omega)]; exact i1
  refine And.intro (sw_k hW (Nat.le_of_ble_eq_true rfl) rfl) ?_
  refine s_of (w := 1) hW hj10 (by decide) ?_
  rw [hb1]
  refine And.intro (fun h => ?_) (fun h => ?_)
  · rw [if_neg h] at hQ; exact hQ
  · rw [if_pos (Decidable.of_not_not h)] at hQ
    refine And.intro (sw_k hW (Nat.le_of_ble_eq_true rfl) rfl) ?_
    refine s_goes hW i2 (show j < n by omega) hb0 ?_
    exact hQ
