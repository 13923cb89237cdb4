/-! What holds of the row, holds behind a day. -/
theorem nI_sub {a b : Nat} (h : b ≤ a) : nI a - nI b = nI (a - b) := by
  have h1 : nI (a - b) + nI b = nI a := by rw [nI_add, Nat.sub_add_cancel h]
  rw [← h1, Int32.add_sub_cancel]
theorem kd_ok {P : Int32 → Prop} {kd a b c d e f : Int32} (h1 : P a) (h2 : P b) (h3 : P c) (h4 : P d) (h5 : P e) (h6 : P f) : P (kdF kd a b c d e f) := by
  unfold kdF
  split
  · exact h2
  · split
    · exact h3
    · split
      · exact h4
      · split
        · exact h5
        · split
          · exact h6
          · exact h1
theorem tk_ok {kd w : Int32} {b m : Nat} (hb : b ≤ 99) (hm : m ≤ b) : ∃ v, v ≤ b ∧ tkF kd (nI b) (nI m) w = nI v := by
  unfold tkF
  obtain ⟨p, hp, ep⟩ := wi_nI w (show m < 2147483648 by omega)
  rw [ep, show nI b / 2 = nI (b / 2) from pk_div (d := 2) (by omega) (by decide) (by decide), show nI p + 1 = nI (p + 1) from nI_1 p]
  obtain ⟨q, hq, eq⟩ := wi_nI (nI p) (show b / 2 < 2147483648 by omega)
  obtain ⟨r, hr, er⟩ := wi_nI (nI (p + 1)) (show b < 2147483648 by omega)
  rw [eq, er, show nI q / 5 = nI (q / 5) from pk_div (d := 5) (by omega) (by decide) (by decide), show nI r / 2 = nI (r / 2) from pk_div (d := 2) (by omega) (by decide) (by decide), nI_sub (show q / 5 ≤ q by omega)]
  refine kd_ok (P := fun x => ∃ v, v ≤ b ∧ x = nI v) ⟨p, by omega, rfl⟩ ⟨q, by omega, rfl⟩ ⟨r, hr, rfl⟩ ⟨q - q / 5, by omega, rfl⟩ ⟨r / 2, by omega, rfl⟩ ⟨b, Nat.le_refl b, rfl⟩
theorem kp_ok {kd x : Int32} {b m v : Nat} (hb : b ≤ 99) (hm : m ≤ b) (hv : v ≤ b) : ∃ u, u ≤ b ∧ kpF kd (nI b) (nI m) x (nI v) = nI u := by
  unfold kpF
  obtain ⟨p, hp, ep⟩ := wi_nI (nI v + x / 3) (show b < 2147483648 by omega)
  rw [ep]
  obtain ⟨h, hh, eh⟩ : ∃ h, h ≤ b ∧ (if nI p < nI m then nI m else nI p) = nI h := by
    split
    · exact ⟨m, hm, rfl⟩
    · exact ⟨p, hp, rfl⟩
  rw [eh]
  have wm : ∀ z, z ≤ b → ∃ u, u ≤ b ∧ wi (nI z - 1) 0 99 = nI u := by
    intro z hz
    unfold wi
    by_cases h0 : z = 0
    · subst h0
      rw [if_neg (by decide)]
      exact ⟨0, Nat.zero_le b, rfl⟩
    · rw [show nI z - 1 = nI (z - 1) from nI_sub (b := 1) (by omega), if_pos (nI_pos' (by omega)), if_pos (show nI (z - 1) ≤ 99 from nI_le (show z - 1 ≤ 99 by omega) (by decide))]
      exact ⟨z - 1, by omega, rfl⟩
  obtain ⟨u1, c1, d1⟩ := wm h hh
  obtain ⟨u2, c2, d2⟩ := wm v hv
  rw [d1, d2]
  exact kd_ok (P := fun x => ∃ v, v ≤ b ∧ x = nI v) ⟨p, hp, rfl⟩ ⟨h, hh, rfl⟩ ⟨v, hv, rfl⟩ ⟨u1, c1, rfl⟩ ⟨u2, c2, rfl⟩ ⟨b, Nat.le_refl b, rfl⟩
theorem IT.hs {T : Nat → Int32} {n m h : Nat} {v : Int32} (hT : IT T n m) (hh : h < 8) : IT (hsF T h v) n m := by
  unfold hsF
  obtain ⟨u, hu, eu⟩ := wi_nI (T (16 + h) + v) (show 9999 < 2147483648 by decide)
  rw [show (9999 : Int32) = nI 9999 from rfl, eu]
  exact hT.had hh hu
theorem IT.mark {T : Nat → Int32} {n m j b v : Nat} (hT : IT T n m) (hj : j < n) (hb : T (24 + 5 * j + 1) = nI b) (hb1 : 1 ≤ b) (hb2 : b ≤ 99) (hv : v ≤ b) : IT (up1 T (24 + 5 * j + 2) (nI v)) n m := by
  refine hT.jug (w := 2) hj (by decide) ?_
  obtain ⟨kd, b', mk, hd, fl, j1, j2, j3, j4, j5, j6, j7, j8, j9, j10, j11⟩ := hT.2.2.1 j hj
  exact ⟨kd, b, v, hd, fl, by rw [up1_lt (by omega)]; exact j1, j2, by rw [up1_lt (by omega)]; exact hb, hb1, hb2, by rw [up1_eq], hv, by rw [up1_gt (by omega)]; exact j8, j9, by rw [up1_gt (by omega)]; exact j10, j11⟩
theorem IT.fills {T : Nat → Int32} {n m j v : Nat} (hT : IT T n m) (hj : j < n) (hv : v ≤ 99) : IT (up1 T (24 + 5 * j + 4) (nI v)) n m := by
  refine hT.jug (w := 4) hj (by decide) ?_
  obtain ⟨kd, b, mk, hd, fl, j1, j2, j3, j4, j5, j6, j7, j8, j9, j10, j11⟩ := hT.2.2.1 j hj
  exact ⟨kd, b, mk, hd, v, by rw [up1_lt (by omega)]; exact j1, j2, by rw [up1_lt (by omega)]; exact j3, j4, j5, by rw [up1_lt (by omega)]; exact j6, j7, by rw [up1_lt (by omega)]; exact j8, j9, by rw [up1_eq], hv⟩
theorem IT.hand {T : Nat → Int32} {n m j v : Nat} (hT : IT T n m) (hj : j < n) (hv : v ≤ 7) : IT (up1 T (24 + 5 * j + 3) (nI v)) n m := by
  refine hT.jug (w := 3) hj (by decide) ?_
  obtain ⟨kd, b, mk, hd, fl, j1, j2, j3, j4, j5, j6, j7, j8, j9, j10, j11⟩ := hT.2.2.1 j hj
  exact ⟨kd, b, mk, v, fl, by rw [up1_lt (by omega)]; exact j1, j2, by rw [up1_lt (by omega)]; exact j3, j4, j5, by rw [up1_lt (by omega)]; exact j6, j7, by rw [up1_eq], hv, by rw [up1_gt (by omega)]; exact j10, j11⟩
theorem IT.kind {T : Nat → Int32} {n m j v : Nat} (hT : IT T n m) (hj : j < n) (hv : v ≤ 5) : IT (up1 T (24 + 5 * j) (nI v)) n m := by
  refine hT.jug (w := 0) hj (by decide) ?_
  obtain ⟨kd, b, mk, hd, fl, j1, j2, j3, j4, j5, j6, j7, j8, j9, j10, j11⟩ := hT.2.2.1 j hj
  exact ⟨v, b, mk, hd, fl, by show up1 T (24 + 5 * j) _ (24 + 5 * j) = _; rw [up1_eq], hv, by rw [up1_gt (by omega)]; exact j3, j4, j5, by rw [up1_gt (by omega)]; exact j6, j7, by rw [up1_gt (by omega)]; exact j8, j9, by rw [up1_gt (by omega)]; exact j10, j11⟩
theorem IT.fi {T : Nat → Int32} {n m j : Nat} (hT : IT T n m) (hj : j < n) : IT (fiF T j) n m := by
  obtain ⟨kd, b, mk, hd, fl, j1, j2, j3, j4, j5, j6, j7, j8, j9, j10, j11⟩ := hT.2.2.1 j hj
  have hn10 := hT.2.1
  obtain ⟨v, hv, ev⟩ : ∃ v, v ≤ b ∧ toF T j = nI v := by unfold toF; rw [j3, j6]; exact tk_ok j5 j7
  obtain ⟨u, hu, eu⟩ : ∃ u, u ≤ b ∧ keF T j (nI v) = nI u := by unfold keF; rw [j3, j6]; exact kp_ok j5 j7 hv
  unfold fiF
  rw [j8, ix (by omega), ev, eu]
  obtain ⟨f, hf, ef⟩ := wi_nI (T (24 + 5 * j + 4) + 1) (show 99 < 2147483648 by decide)
  rw [show (99 : Int32) = nI 99 from rfl, ef]
  refine ((((hT.hs (show hd < 8 by omega)).free (Or.inr (Or.inr (Or.inl rfl)))).mark hj (b := b) ?_ j4 j5 hu).fills hj hf)
  rw [up1_gt (by omega)]
  unfold hsF
  rw [up1_gt (by omega)]
  exact j3
theorem IT.fl {T : Nat → Int32} {n m : Nat} (hT : IT T n m) : ∀ i, i ≤ n → IT (flF T i) n m := by
  intro i
  induction i with
  | zero => intro _; exact hT
  | succ i ih => intro hi; exact (ih (by omega)).fi (by omega)
theorem it_seG {T : Nat → Int32} {n m j h : Nat} (hT : IT T n m) (hj : j < n) (hh : h < 8) : IT (seG T j h) n m := by
  obtain ⟨kd, b, mk, hd, fl, j1, j2, j3, j4, j5, j6, j7, j8, j9, j10, j11⟩ := hT.2.2.1 j hj
  unfold seG
  split
  · exact hT
  · split
    · exact hT
    · rw [j8, ix (by omega)]
      exact ((((hT.hs hh).hs (show hd < 8 by omega)).hand hj (show h ≤ 7 by omega)).free (Or.inr (Or.inr (Or.inr (Or.inl rfl)))))
theorem it_seF {T : Nat → Int32} {n m : Nat} (hT : IT T n m) (hn : 0 < n) : IT (seF T n) n m := by
  rw [seF_G]
  exact it_seG hT.seT (Nat.mod_lt _ hn) (Nat.mod_lt _ (by decide))
theorem it_go {T : Nat → Int32} {n m j : Nat} (hj : j < n) (i1 : T 1 = nI n) (i2 : n ≤ 10) (i3 : ∀ i, i < n → ¬ i = j → JO T i) (i4 : ∀ i, i < 8 → ∃ v, T (8 + i) = nI v ∧ v ≤ 9) (i5 : ∀ i, i < 8 → ∃ v, T (16 + i) = nI v ∧ v ≤ 9999) (i6 : ∃ v, T 3 = nI v ∧ v ≤ 100) (i7 : T 7 = nI m) (i8 : m ≤ 14) (i9 : ∀ t, t < m → XO T t) : IT (goF T j n) (n - 1) m := by
  have hp : ∀ p, ¬ p = 1 → ¬ (24 + 5 * j ≤ p ∧ p < 24 + 5 * (n - 1)) → goF T j n p = T p := by
    intro p h1 h2; unfold goF gT; rw [if_neg h2, up1_ne h1]
  have hs : ∀ p, 24 + 5 * j ≤ p → p < 24 + 5 * (n - 1) → goF T j n p = T (p + 5) := by
    intro p h1 h2; unfold goF gT; rw [if_pos ⟨h1, h2⟩, up1_ne (by omega)]
  refine ⟨?_, by omega, fun i hi => ?_, fun i hi => by rw [hp _ (by omega) (by omega)]; exact i4 i hi, fun i hi => by rw [hp _ (by omega) (by omega)]; exact i5 i hi, by rw [hp _ (by omega) (by omega)]; exact i6, by rw [hp _ (by omega) (by omega)]; exact i7, i8, fun t ht => ?_⟩
  · unfold goF gT
    rw [if_neg (by omega), up1_eq, i1, show nI n - 1 = nI (n - 1) from nI_sub (b := 1) (by omega)]
  · by_cases hij : i < j
    · obtain ⟨kd, b, mk, hd, fl, j1, j2, j3, j4, j5, j6, j7, j8, j9, j10, j11⟩ := i3 i (by omega) (by omega)
      exact ⟨kd, b, mk, hd, fl, by rw [hp _ (by omega) (by omega)]; exact j1, j2, by rw [hp _ (by omega) (by omega)]; exact j3, j4, j5, by rw [hp _ (by omega) (by omega)]; exact j6, j7, by rw [hp _ (by omega) (by omega)]; exact j8, j9, by rw [hp _ (by omega) (by omega)]; exact j10, j11⟩
    · obtain ⟨kd, b, mk, hd, fl, j1, j2, j3, j4, j5, j6, j7, j8, j9, j10, j11⟩ := i3 (i + 1) (by omega) (by omega)
      exact ⟨kd, b, mk, hd, fl, by rw [hs _ (by omega) (by omega)]; exact j1, j2, by rw [hs _ (by omega) (by omega)]; exact j3, j4, j5, by rw [hs _ (by omega) (by omega)]; exact j6, j7, by rw [hs _ (by omega) (by omega)]; exact j8, j9, by rw [hs _ (by omega) (by omega)]; exact j10, j11⟩
  · obtain ⟨key, len, at0, x1, x2, x3, x4, x5, x6⟩ := i9 t ht
    refine ⟨key, len, at0, by rw [hp _ (by omega) (by omega)]; exact x1, x2, x3, by rw [hp _ (by omega) (by omega)]; exact x4, x5, ?_⟩
    rw [show (fun q => goF T j n (102 + 96 * t + q)) = fun q => T (102 + 96 * t + q) from funext fun q => hp _ (by omega) (by omega)]
    exact x6
theorem it_brF {T : Nat → Int32} {n m : Nat} (hT : IT T n m) (hn : 0 < n) : ∃ n', n' ≤ n ∧ IT (brF T n) n' m := by
  have hm := mxF_le T (n - 1)
  obtain ⟨j, hj⟩ : ∃ j, mxF T (n - 1) = j := ⟨_, rfl⟩
  unfold brF
  rw [hj] at hm ⊢
  have hjn : j < n := by omega
  obtain ⟨i1, i2, i3, i4, i5, i6, i7, i8, i9⟩ := id hT
  obtain ⟨kd, b, mk, hd, fl, j1, j2, j3, j4, j5, j6, j7, j8, j9, j10, j11⟩ := i3 j hjn
  have eb : T (24 + 5 * j + 1) - 1 = nI (b - 1) := by rw [j3]; exact nI_sub (b := 1) (by omega)
  obtain ⟨v, hv, ev⟩ := wi_nI (T (24 + 5 * j + 2)) (show b - 1 < 2147483648 by omega)
  have ho : ∀ p, ¬ p = 6 → ¬ p = 24 + 5 * j + 1 → ¬ p = 24 + 5 * j + 2 → brA T j p = T p := by
    intro p h1 h2 h3; unfold brA; rw [up1_ne h1, up1_ne h3, up1_ne h2]
  have hjs : ∀ i, i < n → ¬ i = j → JO (brA T j) i := by
    intro i hi hij
    unfold brA
    exact (((i3 i hi).up (by omega)).up (by omega)).up (Or.inl (by omega))
  have hx : ∀ t, t < m → XO (brA T j) t := by
    intro t ht; unfold brA; exact (((i9 t ht).up (by omega)).up (by omega)).up (by omega)
  by_cases h0 : T (24 + 5 * j + 1) - 1 = 0
  · rw [if_pos h0]
    exact ⟨n - 1, by omega, it_go hjn (by rw [ho _ (by omega) (by omega) (by omega)]; exact i1) i2 hjs (fun i hi => by rw [ho _ (by omega) (by omega) (by omega)]; exact i4 i hi) (fun i hi => by rw [ho _ (by omega) (by omega) (by omega)]; exact i5 i hi) (by rw [ho _ (by omega) (by omega) (by omega)]; exact i6) (by rw [ho _ (by omega) (by omega) (by omega)]; exact i7) i8 hx⟩
  · rw [if_neg h0]
    have hb2 : 1 ≤ b - 1 := by
      rcases Nat.lt_or_ge (b - 1) 1 with q | q
      · exact absurd (by rw [eb, show b - 1 = 0 by omega]; rfl) h0
      · exact q
    refine ⟨n, Nat.le_refl n, by rw [ho _ (by omega) (by omega) (by omega)]; exact i1, i2, fun i hi => ?_, fun i hi => by rw [ho _ (by omega) (by omega) (by omega)]; exact i4 i hi, fun i hi => by rw [ho _ (by omega) (by omega) (by omega)]; exact i5 i hi, by rw [ho _ (by omega) (by omega) (by omega)]; exact i6, by rw [ho _ (by omega) (by omega) (by omega)]; exact i7, i8, hx⟩
    by_cases hij : i = j
    · subst hij
      exact ⟨kd, b - 1, v, hd, fl, by rw [ho _ (by omega) (by omega) (by omega)]; exact j1, j2, by unfold brA; rw [up1_gt (by omega), up1_lt (by omega), up1_eq]; exact eb, hb2, by omega, by unfold brA; rw [up1_gt (by omega), up1_eq, eb, ev], hv, by rw [ho _ (by omega) (by omega) (by omega)]; exact j8, j9, by rw [ho _ (by omega) (by omega) (by omega)]; exact j10, j11⟩
    · exact hjs i hi hij
/-- a day -/
def d2F (T : Nat → Int32) : Nat → Int32 := if 0 < (T 1).toNatClampNeg then seF (flF T (T 1).toNatClampNeg) (T 1).toNatClampNeg else flF T (T 1).toNatClampNeg
def d3F (U : Nat → Int32) : Nat → Int32 := if irm (dw (U 0)) 100 < U 3 ∧ 0 < (U 1).toNatClampNeg then brF (up1 U 0 (zN (U 0))) (U 1).toNatClampNeg else up1 U 0 (zN (U 0))
def dyF (T : Nat → Int32) : Nat → Int32 := up1 (d3F (d2F T)) 2 (d3F (d2F T) 2 + 1)
theorem it_d2 {T : Nat → Int32} {n m : Nat} (hT : IT T n m) : IT (d2F T) n m := by
  unfold d2F
  rw [hT.1, ix (by have := hT.2.1; omega)]
  split
  · rename_i h; exact it_seF (hT.fl n (Nat.le_refl n)) h
  · exact hT.fl n (Nat.le_refl n)
theorem it_d3 {T : Nat → Int32} {n m : Nat} (hT : IT T n m) : ∃ n', n' ≤ n ∧ IT (d3F T) n' m := by
  unfold d3F
  rw [hT.1, ix (by have := hT.2.1; omega)]
  split
  · rename_i h; exact it_brF (hT.free (Or.inl rfl)) h.2
  · exact ⟨n, Nat.le_refl n, hT.free (Or.inl rfl)⟩
theorem it_dy {T : Nat → Int32} {n m : Nat} (hT : IT T n m) : ∃ n', n' ≤ n ∧ IT (dyF T) n' m := by
  obtain ⟨n', h1, h2⟩ := it_d3 (it_d2 hT)
  exact ⟨n', h1, h2.free (Or.inr (Or.inl rfl))⟩
