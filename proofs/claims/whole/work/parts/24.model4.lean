/-! The model's town: days. -/
theorem wi_nI (x : Int32) {b : Nat} (hb : b < 2147483648) : ∃ v, v ≤ b ∧ wi x 0 (nI b) = nI v := by
  unfold wi
  by_cases h1 : 0 ≤ x
  · rw [if_pos h1]
    by_cases h2 : x ≤ nI b
    · rw [if_pos h2]
      have h1' := (tI_le _ _).mp h1
      have h2' := (tI_le _ _).mp h2
      have z0 : (0 : Int32).toInt = 0 := rfl
      rw [tI_nI hb] at h2'
      exact ⟨x.toInt.toNat, by omega, nI_ofI (by omega)⟩
    · rw [if_neg h2]; exact ⟨b, Nat.le_refl b, rfl⟩
  · rw [if_neg h1]; exact ⟨0, Nat.zero_le b, rfl⟩
theorem up1_lt {T : Nat → Int32} {p q : Nat} {v : Int32} (h : q < p) : up1 T p v q = T q := up1_ne (by omega)
theorem up1_gt {T : Nat → Int32} {p q : Nat} {v : Int32} (h : p < q) : up1 T p v q = T q := up1_ne (by omega)
/-- nothing lies beyond the row -/
def Zr (T : Nat → Int32) : Prop := ∀ i, 1446 ≤ i → T i = 0
theorem Zr.up {T : Nat → Int32} (h : Zr T) {p : Nat} (hp : p < 1446) (v : Int32) : Zr (up1 T p v) := fun i hi => by rw [up1_gt (by omega)]; exact h i hi
theorem XO.up {T : Nat → Int32} {t p : Nat} {v : Int32} (h : XO T t) (hp : p < 74) : XO (up1 T p v) t := by
  obtain ⟨key, len, at0, x1, x2, x3, x4, x5, x6⟩ := h
  refine ⟨key, len, at0, by rw [up1_gt (by omega)]; exact x1, x2, x3, by rw [up1_gt (by omega)]; exact x4, x5, ?_⟩
  rw [show (fun q => up1 T p v (102 + 96 * t + q)) = fun q => T (102 + 96 * t + q) from funext fun q => up1_gt (by omega)]
  exact x6
theorem JO.up {T : Nat → Int32} {j p : Nat} {v : Int32} (h : JO T j) (hp : p < 24 + 5 * j ∨ 24 + 5 * j + 4 < p) : JO (up1 T p v) j := by
  obtain ⟨kd, b, mk, hd, fl, j1, j2, j3, j4, j5, j6, j7, j8, j9, j10, j11⟩ := h
  exact ⟨kd, b, mk, hd, fl, by rw [up1_ne (by omega)]; exact j1, j2, by rw [up1_ne (by omega)]; exact j3, j4, j5, by rw [up1_ne (by omega)]; exact j6, j7, by rw [up1_ne (by omega)]; exact j8, j9, by rw [up1_ne (by omega)]; exact j10, j11⟩
theorem IT.free {T : Nat → Int32} {n m p : Nat} {v : Int32} (h : IT T n m) (hp : p = 0 ∨ p = 2 ∨ p = 4 ∨ p = 5 ∨ p = 6) : IT (up1 T p v) n m := by
  obtain ⟨i1, i2, i3, i4, i5, i6, i7, i8, i9⟩ := h
  exact ⟨by rw [up1_ne (by omega)]; exact i1, i2, fun j hj => (i3 j hj).up (Or.inl (by omega)), fun i hi => by rw [up1_gt (by omega)]; exact i4 i hi, fun i hi => by rw [up1_gt (by omega)]; exact i5 i hi, by rw [up1_ne (by omega)]; exact i6, by rw [up1_ne (by omega)]; exact i7, i8, fun t ht => (i9 t ht).up (by omega)⟩
theorem IT.had {T : Nat → Int32} {n m p : Nat} {v : Nat} (h : IT T n m) (hp : p < 8) (hv : v ≤ 9999) : IT (up1 T (16 + p) (nI v)) n m := by
  obtain ⟨i1, i2, i3, i4, i5, i6, i7, i8, i9⟩ := h
  refine ⟨by rw [up1_ne (by omega)]; exact i1, i2, fun j hj => (i3 j hj).up (Or.inl (by omega)), fun i hi => by rw [up1_lt (by omega)]; exact i4 i hi, fun i hi => ?_, by rw [up1_ne (by omega)]; exact i6, by rw [up1_ne (by omega)]; exact i7, i8, fun t ht => (i9 t ht).up (by omega)⟩
  by_cases hq : i = p
  · subst hq; rw [up1_eq]; exact ⟨v, rfl, hv⟩
  · rw [up1_ne (by omega)]; exact i5 i hi
theorem IT.heart {T : Nat → Int32} {n m p : Nat} {v : Nat} (h : IT T n m) (hp : p < 8) (hv : v ≤ 9) : IT (up1 T (8 + p) (nI v)) n m := by
  obtain ⟨i1, i2, i3, i4, i5, i6, i7, i8, i9⟩ := h
  refine ⟨by rw [up1_ne (by omega)]; exact i1, i2, fun j hj => (i3 j hj).up (Or.inl (by omega)), fun i hi => ?_, fun i hi => by rw [up1_gt (by omega)]; exact i5 i hi, by rw [up1_ne (by omega)]; exact i6, by rw [up1_ne (by omega)]; exact i7, i8, fun t ht => (i9 t ht).up (by omega)⟩
  by_cases hq : i = p
  · subst hq; rw [up1_eq]; exact ⟨v, rfl, hv⟩
  · rw [up1_ne (by omega)]; exact i4 i hi
theorem IT.frost {T : Nat → Int32} {n m : Nat} {v : Nat} (h : IT T n m) (hv : v ≤ 100) : IT (up1 T 3 (nI v)) n m := by
  obtain ⟨i1, i2, i3, i4, i5, i6, i7, i8, i9⟩ := h
  exact ⟨by rw [up1_ne (by omega)]; exact i1, i2, fun j hj => (i3 j hj).up (Or.inl (by omega)), fun i hi => by rw [up1_gt (by omega)]; exact i4 i hi, fun i hi => by rw [up1_gt (by omega)]; exact i5 i hi, ⟨v, by rw [up1_eq], hv⟩, by rw [up1_ne (by omega)]; exact i7, i8, fun t ht => (i9 t ht).up (by omega)⟩
/-- one jug's numbers change, rightly -/
theorem IT.jug {T : Nat → Int32} {n m j w : Nat} {v : Int32} (h : IT T n m) (hj : j < n) (hw : w < 5) (hJ : JO (up1 T (24 + 5 * j + w) v) j) : IT (up1 T (24 + 5 * j + w) v) n m := by
  obtain ⟨i1, i2, i3, i4, i5, i6, i7, i8, i9⟩ := h
  refine ⟨by rw [up1_ne (by omega)]; exact i1, i2, fun q hq => ?_, fun i hi => by rw [up1_lt (by omega)]; exact i4 i hi, fun i hi => by rw [up1_lt (by omega)]; exact i5 i hi, by rw [up1_ne (by omega)]; exact i6, by rw [up1_ne (by omega)]; exact i7, i8, fun t ht => (i9 t ht).up (by omega)⟩
  by_cases hqj : q = j
  · subst hqj; exact hJ
  · exact (i3 q hq).up (by omega)
theorem s_holdsMark {nx sl : Nat} {ln : Nat → Nat} {R : Nat → Nat → Option Nat} {J : Nat → Nat → Int32} {T : Nat → Int32} {Q : Option Value → Hp → Prop} {k : Nat} (hW : SW nx ln R) {j : Nat} (hj : j < 10) (hQ : Q none (nx, sl, ln, R, nw J (up1 T (24 + 5 * j + 2) (wi (T (24 + 5 * j + 2)) 0 (T (24 + 5 * j + 1)))))) : Go (k + 1) mX8_holdsMark [.ref 85, .int (nI j)] (nx, sl, ln, R, nw J T) Q := by
  refine Go_wp 40 rfl ?_
  refine And.intro (sw_k hW (Nat.le_of_ble_eq_true rfl) rfl) ?_
  refine s_of (w := 2) hW hj (by decide) ?_
  refine And.intro (sw_k hW (Nat.le_of_ble_eq_true rfl) rfl) ?_
  refine s_of (w := 1) hW hj (by decide) ?_
  refine s_within ?_
  refine And.intro (sw_k hW (Nat.le_of_ble_eq_true rfl) rfl) ?_
  refine s_put (w := 2) hW hj (by decide) ?_
  exact hQ
def hsF (T : Nat → Int32) (h : Nat) (v : Int32) : Nat → Int32 := up1 T (16 + h) (wi (T (16 + h) + v) 0 9999)
theorem s_has {nx sl : Nat} {ln : Nat → Nat} {R : Nat → Nat → Option Nat} {J : Nat → Nat → Int32} {T : Nat → Int32} {Q : Option Value → Hp → Prop} {k : Nat} (hW : SW nx ln R) {h : Nat} {v : Int32} (hh : h < 8) (hQ : Q none (nx, sl, ln, R, nw J (hsF T h v))) : Go (k + 1) mX8_has [.ref 85, .int (nI h), .int v] (nx, sl, ln, R, nw J T) Q := by
  refine Go_wp 40 rfl ?_
  have e : ((16 : Int32) + nI h).toNatClampNeg = 16 + h := by rw [hx16, ix (by omega)]
  refine And.intro (sw_k hW (Nat.le_of_ble_eq_true rfl) rfl) ?_
  refine Exists.intro _ (And.intro (sw_r hW (Nat.le_of_ble_eq_true rfl) rfl rfl) ?_)
  refine And.intro (sw_k hW (Nat.le_of_ble_eq_true rfl) rfl) ?_
  refine Exists.intro _ (And.intro (sw_r hW (Nat.le_of_ble_eq_true rfl) rfl rfl) ?_)
  refine And.intro (by rw [hx16]; exact sw_n hW (Nat.le_of_ble_eq_true rfl) rfl rfl (show 16 + h < 1446 by omega) (Nat.le_of_ble_eq_true rfl)) ?_
  rw [show nw J T 86 ((16 : Int32) + nI h).toNatClampNeg = T (16 + h) by rw [e]; rfl]
  refine s_within ?_
  refine And.intro (by rw [hx16]; exact sw_n hW (Nat.le_of_ble_eq_true rfl) rfl rfl (show 16 + h < 1446 by omega) (Nat.le_of_ble_eq_true rfl)) ?_
  rw [nw_put' J T e]
  exact hQ
/-- one more jug -/
def cmF (T : Nat → Int32) (n : Nat) (kd b hd mk : Int32) : Nat → Int32 := up1 (up1 (up1 (up1 (up1 (up1 T 1 (T 1 + 1)) (24 + 5 * n) kd) (24 + 5 * n + 1) b) (24 + 5 * n + 2) mk) (24 + 5 * n + 3) hd) (24 + 5 * n + 4) 0
theorem s_comes {nx sl : Nat} {ln : Nat → Nat} {R : Nat → Nat → Option Nat} {J : Nat → Nat → Int32} {T : Nat → Int32} {Q : Option Value → Hp → Prop} {k : Nat} (hW : SW nx ln R) {n : Nat} {kd b hd mk : Int32} (hT : T 1 = nI n) (hn : n < 10) (hQ : Q (some (.int (nI n))) (nx, sl, ln, R, nw J (cmF T n kd b hd mk))) : Go (k + 1) mX8_comes [.ref 85, .int kd, .int b, .int hd, .int mk] (nx, sl, ln, R, nw J T) Q := by
  refine Go_wp 60 rfl ?_
  have e : nw J T 86 (1 : Int32).toNatClampNeg = nI n := hT
  refine And.intro (sw_k hW (Nat.le_of_ble_eq_true rfl) rfl) ?_
  refine Exists.intro _ (And.intro (sw_r hW (Nat.le_of_ble_eq_true rfl) rfl rfl) ?_)
  refine And.intro (sw_n hW (Nat.le_of_ble_eq_true rfl) rfl rfl ((Nat.le_of_ble_eq_true rfl)) (Nat.le_of_ble_eq_true rfl)) ?_
  rw [e]
  refine And.intro (sw_k hW (Nat.le_of_ble_eq_true rfl) rfl) ?_
  refine Exists.intro _ (And.intro (sw_r hW (Nat.le_of_ble_eq_true rfl) rfl rfl) ?_)
  refine And.intro (sw_n hW (Nat.le_of_ble_eq_true rfl) rfl rfl ((Nat.le_of_ble_eq_true rfl)) (Nat.le_of_ble_eq_true rfl)) ?_
  refine And.intro (sw_n hW (Nat.le_of_ble_eq_true rfl) rfl rfl ((Nat.le_of_ble_eq_true rfl)) (Nat.le_of_ble_eq_true rfl)) ?_
  rw [nw_put' _ _ (i := 1) (x := 1) rfl]
  refine And.intro (sw_k hW (Nat.le_of_ble_eq_true rfl) rfl) ?_
  refine s_put0 hW hn ?_
  refine And.intro (sw_k hW (Nat.le_of_ble_eq_true rfl) rfl) ?_
  refine s_put (w := 1) hW hn (by decide) ?_
  refine And.intro (sw_k hW (Nat.le_of_ble_eq_true rfl) rfl) ?_
  refine s_put (w := 2) hW hn (by decide) ?_
  refine And.intro (sw_k hW (Nat.le_of_ble_eq_true rfl) rfl) ?_
  refine s_put (w := 3) hW hn (by decide) ?_
  refine And.intro (sw_k hW (Nat.le_of_ble_eq_true rfl) rfl) ?_
  refine s_put (w := 4) hW hn (by decide) ?_
  exact hQ
/-- a jug is filled -/
def fiF (T : Nat → Int32) (j : Nat) : Nat → Int32 := up1 (up1 (up1 (hsF T (T (24 + 5 * j + 3)).toNatClampNeg (toF T j)) 4 (T 4 + toF T j)) (24 + 5 * j + 2) (keF T j (toF T j))) (24 + 5 * j + 4) (wi (T (24 + 5 * j + 4) + 1) 0 99)
def flF (T : Nat → Int32) : Nat → (Nat → Int32)
  | 0 => T
  | j + 1 => fiF (flF T j) j
theorem ke_same {T T' : Nat → Int32} {j : Nat} {to : Int32} (h1 : ∀ w, w < 5 → T' (24 + 5 * j + w) = T (24 + 5 * j + w)) (h2 : T' (8 + (T (24 + 5 * j + 3)).toNatClampNeg) = T (8 + (T (24 + 5 * j + 3)).toNatClampNeg)) : keF T' j to = keF T j to := by
  unfold keF
  rw [h1 3 (by decide), h2, h1 1 (by decide), h1 2 (by decide), show T' (24 + 5 * j) = T (24 + 5 * j) from h1 0 (by decide)]
set_option maxHeartbeats 1000000 in
theorem l_fills {nx sl : Nat} {ln : Nat → Nat} {R : Nat → Nat → Option Nat} {J : Nat → Nat → Int32} {T : Nat → Int32} {Q : Option Value → Hp → Prop} {k : Nat} (hW : SW nx ln R) {n m : Nat} : ∀ (r j : Nat) (J1 : Nat → Nat → Int32) (T1 : Nat → Int32) (x2 : Option Value) (xj : Int32) (I1 : Nat → Nat → Int32), xj = nI j → I1 = nw J1 T1 → T1 = flF T j → j + r = n → (∀ i, i ≤ n → IT (flF T i) n m) → Sc J J1 → (∀ J2, Sc J J2 → Q none (nx, sl, ln, R, nw J2 (flF T n))) → GoF (k + 3) mX8_fills 2 [some (.ref 85), some (.int xj), x2] [] (nx, sl, ln, R, I1) Q := by
  intro r
  induction r with
  | zero =>
    intro j J1 T1 x2 xj I1 hxj hI hT1 hjr hIT hSc hQ
    subst hxj
    subst hI
    have hjn : j = n := by omega
    subst hjn
    have i1 := (hIT j (Nat.le_refl j)).1
    have i2 := (hIT j (Nat.le_refl j)).2.1
    rw [← hT1] at i1 hQ
    refine GoF_wp1 60 ?_
    refine And.intro (sw_k hW (Nat.le_of_ble_eq_true rfl) rfl) ?_
    refine Exists.intro _ (And.intro (sw_r hW (Nat.le_of_ble_eq_true rfl) rfl rfl) ?_)
    refine And.intro (sw_n hW (Nat.le_of_ble_eq_true rfl) rfl rfl ((Nat.le_of_ble_eq_true rfl)) (Nat.le_of_ble_eq_true rfl)) ?_
    rw [show nw J1 T1 86 (1 : Int32).toNatClampNeg = nI j from i1]
    refine And.intro (fun _ => hQ J1 hSc) (fun h => absurd (nI_le (Nat.le_refl j) (by omega)) h)
  | succ r ih =>
    intro j J1 T1 x2 xj I1 hxj hI hT1 hjr hIT hSc hQ
    subst hxj
    subst hI
    have hit := hIT j (by omega)
    rw [← hT1] at hit
    have i1 := hit.1
    have i2 := hit.2.1
    obtain ⟨kd, b, mk, hd, fl, j1, j2, j3, j4, j5, j6, j7, j8, j9, j10, j11⟩ := hit.2.2.1 j (by omega)
    have hj' : j < 10 := by omega
    have ehd : (T1 (24 + 5 * j + 3)).toNatClampNeg = hd := by rw [j8, ix (by omega)]
    refine GoF_wp1 100 ?_
    refine And.intro (sw_k hW (Nat.le_of_ble_eq_true rfl) rfl) ?_
    refine Exists.intro _ (And.intro (sw_r hW (Nat.le_of_ble_eq_true rfl) rfl rfl) ?_)
    refine And.intro (sw_n hW (Nat.le_of_ble_eq_true rfl) rfl rfl ((Nat.le_of_ble_eq_true rfl)) (Nat.le_of_ble_eq_true rfl)) ?_
    rw [show nw J1 T1 86 (1 : Int32).toNatClampNeg = nI n from i1]
    refine And.intro (fun h => absurd h (nI_ge (show j < n by omega) (by omega))) (fun _ => ?_)
    refine And.intro (sw_k hW (Nat.le_of_ble_eq_true rfl) rfl) ?_
    refine s_toOf hW hit (by omega) (fun J2 hJ2 => ?_)
    obtain ⟨to, hto⟩ : ∃ to, toF T1 j = to := ⟨_, rfl⟩
    rw [hto]
    refine And.intro (sw_k hW (Nat.le_of_ble_eq_true rfl) rfl) ?_
    refine s_of (w := 3) hW hj' (by decide) ?_
    rw [j8]
    refine And.intro (sw_k hW (Nat.le_of_ble_eq_true rfl) rfl) ?_
    refine s_has hW (show hd < 8 by omega) ?_
    refine And.intro (sw_k hW (Nat.le_of_ble_eq_true rfl) rfl) ?_
    refine Exists.intro _ (And.intro (sw_r hW (Nat.le_of_ble_eq_true rfl) rfl rfl) ?_)
    refine And.intro (sw_n hW (Nat.le_of_ble_eq_true rfl) rfl rfl ((Nat.le_of_ble_eq_true rfl)) (Nat.le_of_ble_eq_true rfl)) ?_
    refine And.intro (sw_n hW (Nat.le_of_ble_eq_true rfl) rfl rfl ((Nat.le_of_ble_eq_true rfl)) (Nat.le_of_ble_eq_true rfl)) ?_
    rw [nw_put' _ _ (i := 4) (x := 4) rfl]
    refine And.intro (sw_k hW (Nat.le_of_ble_eq_true rfl) rfl) ?_
    refine s_keepsOf (hd := hd) hW hj' (by rw [up1_gt (by omega)]; unfold hsF; rw [up1_gt (by omega)]; exact j8) j9 ?_
    refine And.intro (sw_k hW (Nat.le_of_ble_eq_true rfl) rfl) ?_
    refine s_put (w := 2) hW hj' (by decide) ?_
    refine And.intro (sw_k hW (Nat.le_of_ble_eq_true rfl) rfl) ?_
    refine s_of (w := 4) hW hj' (by decide) ?_
    refine s_within ?_
    refine And.intro (sw_k hW (Nat.le_of_ble_eq_true rfl) rfl) ?_
    refine s_put (w := 4) hW hj' (by decide) ?_
    refine ih (j + 1) J2 (fiF T1 j) _ _ _ (nI_1 j) ?_ (by rw [hT1]; rfl) (by omega) hIT (hSc.tr hJ2) hQ
    have e1 : keF (up1 (hsF T1 hd to) 4 (hsF T1 hd to 4 + to)) j to = keF T1 j to := ke_same (fun w hw => by rw [up1_gt (by omega)]; unfold hsF; rw [up1_gt (by omega)]) (by rw [ehd, up1_gt (by omega)]; unfold hsF; rw [up1_lt (by omega)])
    have e2 : hsF T1 hd to 4 = T1 4 := by unfold hsF; rw [up1_lt (by omega)]
    unfold fiF
    rw [ehd, hto]
    show nw J2 _ = nw J2 _
    congr 1
    rw [show nw J2 (hsF T1 hd to) 86 (4 : Int32).toNatClampNeg = hsF T1 hd to 4 from rfl, e1, e2]
    rw [up1_gt (show 24 + 5 * j + 2 < 24 + 5 * j + 4 by omega), up1_gt (show 4 < 24 + 5 * j + 4 by omega)]
    unfold hsF
    rw [up1_gt (show 16 + hd < 24 + 5 * j + 4 by omega)]
theorem s_fills {nx sl : Nat} {ln : Nat → Nat} {R : Nat → Nat → Option Nat} {J : Nat → Nat → Int32} {T : Nat → Int32} {Q : Option Value → Hp → Prop} {k : Nat} (hW : SW nx ln R) {n m : Nat} (hIT : ∀ i, i ≤ n → IT (flF T i) n m) (hQ : ∀ J2, Sc J J2 → Q none (nx, sl, ln, R, nw J2 (flF T n))) : Go (k + 3) mX8_fills [.ref 85] (nx, sl, ln, R, nw J T) Q := by
  refine Go_wp 20 rfl ?_
  exact l_fills hW n 0 J T _ _ _ rfl rfl rfl (by omega) hIT Sc.rf hQ
theorem irm_nI {a b : Nat} (ha : a < 2147483648) (h0 : 0 < b) (hb : b < 2147483648) : irm (nI a) (nI b) = nI (a % b) := pk_rem ha h0 hb
theorem dw_ok (z : Int32) : ∃ v, v < 16777216 ∧ dw z = nI v := by
  unfold dw ius
  obtain ⟨y, hy⟩ : ∃ y, zN z = y := ⟨_, rfl⟩
  rw [hy]
  refine ⟨(y.toUInt32 >>> ((8 : Int32).toUInt32 &&& Int32.toUInt32 31)).toNat, ?_, ?_⟩
  · rw [UInt32.toNat_shiftRight]
    have h1 : ((8 : Int32).toUInt32 &&& Int32.toUInt32 31).toNat % 32 = 8 := by decide
    rw [h1, Nat.shiftRight_eq_div_pow]
    have := y.toUInt32.toNat_lt
    omega
  · exact (Int32.ofNat_bitVecToNat _).symm
