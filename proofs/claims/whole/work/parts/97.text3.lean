/-! The row behind a text; both sides again. -/
def txA (T : Nat → Int32) (m key len a : Nat) : Nat → Int32 := up1 (up1 T (74 + 2 * m) (nI (1000 * key + len))) (74 + 2 * m + 1) (nI a)
def txC (T C : Nat → Int32) (m len : Nat) : Nat → Int32 := fun p => if 102 + 96 * m ≤ p ∧ p < 102 + 96 * m + len then C (p - (102 + 96 * m)) else T p
def txF (T C : Nat → Int32) (m key len a : Nat) : Nat → Int32 := up1 (txC (txA T m key len a) C m len) 7 (nI (m + 1))
section Tx
variable {T C : Nat → Int32} {n m key len a : Nat}
theorem tx_lo {p : Nat} (h : p < 74) (h7 : ¬ p = 7) : txF T C m key len a p = T p := by
  unfold txF txC txA
  rw [up1_ne h7, if_neg (by omega), up1_ne (by omega), up1_ne (by omega)]
theorem tx_7 : txF T C m key len a 7 = nI (m + 1) := up1_eq
theorem tx_h {x : Nat} (hx : x < m) (hm : m < 14) (hl : len ≤ 96) : txF T C m key len a (74 + 2 * x) = T (74 + 2 * x) ∧ txF T C m key len a (74 + 2 * x + 1) = T (74 + 2 * x + 1) ∧ ∀ q, q < 96 → txF T C m key len a (102 + 96 * x + q) = T (102 + 96 * x + q) := by
  unfold txF txC txA
  refine ⟨?_, ?_, fun q hq => ?_⟩
  · rw [up1_ne (by omega), if_neg (by omega), up1_ne (by omega), up1_ne (by omega)]
  · rw [up1_ne (by omega), if_neg (by omega), up1_ne (by omega), up1_ne (by omega)]
  · rw [up1_ne (by omega), if_neg (by omega), up1_ne (by omega), up1_ne (by omega)]
theorem tx_m (hm : m < 14) : txF T C m key len a (74 + 2 * m) = nI (1000 * key + len) ∧ txF T C m key len a (74 + 2 * m + 1) = nI a ∧ ∀ q, q < len → txF T C m key len a (102 + 96 * m + q) = C q := by
  unfold txF txC txA
  refine ⟨?_, ?_, fun q hq => ?_⟩
  · rw [up1_ne (by omega), if_neg (by omega), up1_ne (by omega), up1_eq]
  · rw [up1_ne (by omega), if_neg (by omega), up1_eq]
  · rw [up1_ne (by omega), if_pos (by omega)]
    congr 1
    omega
theorem okF_cong {C D : Nat → Int32} : ∀ r i d, (∀ q, i ≤ q → q < i + r → D q = C q) → okF C i r d → okF D i r d := by
  intro r
  induction r with
  | zero => intro i d _ h; exact h
  | succ r ih =>
    intro i d he h
    have e := he i (by omega) (by omega)
    have ih2 := fun d => ih (i + 1) d (fun q h1 h2 => he q (by omega) (by omega))
    rcases h with ⟨h1, h2, h3⟩ | ⟨h1, h2, h3⟩ | ⟨h1, h2, h3, h4⟩
    · exact Or.inl ⟨by rw [e]; exact h1, by rw [e]; exact h2, ih2 _ h3⟩
    · exact Or.inr (Or.inl ⟨by rw [e]; exact h1, h2, ih2 _ h3⟩)
    · exact Or.inr (Or.inr ⟨by rw [e]; exact h1, by rw [e]; exact h2, h3, ih2 _ h4⟩)
theorem it_tx (hT : IT T n m) (hm : m < 14) (hk : key ≤ 2) (hl : len ≤ 96) (ha : a ≤ 96) (hC : okF C 0 len 0) : IT (txF T C m key len a) n (m + 1) := by
  obtain ⟨i1, i2, i3, i4, i5, i6, i7, i8, i9⟩ := hT
  refine ⟨by rw [tx_lo (by omega) (by omega)]; exact i1, i2, fun j hj => ?_, fun i hi => ?_, fun i hi => ?_, ?_, tx_7, by omega, fun t ht => ?_⟩
  · obtain ⟨kd, b, mk, hd, fl, j1, j2, j3, j4, j5, j6, j7, j8, j9, j10, j11⟩ := i3 j hj
    exact ⟨kd, b, mk, hd, fl, by rw [tx_lo (by omega) (by omega)]; exact j1, j2, by rw [tx_lo (by omega) (by omega)]; exact j3, j4, j5, by rw [tx_lo (by omega) (by omega)]; exact j6, j7, by rw [tx_lo (by omega) (by omega)]; exact j8, j9, by rw [tx_lo (by omega) (by omega)]; exact j10, j11⟩
  · rw [tx_lo (by omega) (by omega)]; exact i4 i hi
  · rw [tx_lo (by omega) (by omega)]; exact i5 i hi
  · rw [tx_lo (by omega) (by omega)]; exact i6
  · by_cases e : t = m
    · subst e
      obtain ⟨a1, a2, a3⟩ := tx_m (T := T) (C := C) (key := key) (len := len) (a := a) hm
      exact ⟨key, len, a, a1, hk, hl, a2, ha, okF_cong len 0 0 (fun q _ hq => a3 q (by omega)) hC⟩
    · obtain ⟨a1, a2, a3⟩ := tx_h (T := T) (C := C) (key := key) (len := len) (a := a) (x := t) (m := m) (by omega) hm hl
      obtain ⟨k0, l0, t0, x1, x2, x3, x4, x5, x6⟩ := i9 t (by omega)
      exact ⟨k0, l0, t0, by rw [a1]; exact x1, x2, x3, by rw [a2]; exact x4, x5, okF_cong l0 0 0 (fun q _ hq => a3 q (by omega)) x6⟩
theorem cn_cong {U : Nat → Int32} {ky : Int32} : ∀ m, (∀ x, x < m → U (74 + 2 * x) = T (74 + 2 * x)) → cnF U ky m = cnF T ky m := by
  intro m
  induction m with
  | zero => intro _; rfl
  | succ m ih =>
    intro h
    rw [cnF, cnF, h m (by omega), ih (fun x hx => h x (by omega))]
theorem co_tx (hm : m < 14) (hk : key ≤ 2) (hl : len ≤ 96) {q : Nat} (hq : q < 3) : coF (txF T C m key len a) q (m + 1) = if q = key then nI m else coF T q m := by
  have e1 : txF T C m key len a (74 + 2 * m) / 1000 = nI key := by
    rw [(tx_m hm).1, show (1000 : Int32) = nI 1000 from rfl, pk_div (by omega) (by omega) (by omega)]
    congr 1
    omega
  have e2 : cnF (txF T C m key len a) (nI q) m = cnF T (nI q) m := cn_cong m (fun x hx => (tx_h hx hm hl).1)
  unfold coF
  rw [cnF, e1, e2]
  by_cases e : q = key
  · rw [if_pos e, if_pos (show nI key = nI q by rw [e]), if_neg (nI_pos (by omega))]
  · rw [if_neg (fun z => e ((nI_eq (by omega) (by omega)).mp z).symm), if_neg e]
end Tx
/-- a text's objects stay -/
theorem TL.ext {nx nx' : Nat} {ln ln' : Nat → Nat} {R R' : Nat → Nat → Option Nat} {I I' : Nat → Nat → Int32} {T T' : Nat → Int32} {x : Nat} (h : TL nx ln R I T x) (hn : nx ≤ nx') (hl : ∀ o, o < nx → ln' o = ln o) (hr : ∀ o, o < nx → 109 ≤ o → R' o = R o) (h2 : R' 2 x = R 2 x) (hI : ∀ o, o < nx → 109 ≤ o → I' o = I o) (t1 : T' (74 + 2 * x) = T (74 + 2 * x)) (t2 : T' (74 + 2 * x + 1) = T (74 + 2 * x + 1)) (t3 : ∀ q, q < 96 → T' (102 + 96 * x + q) = T (102 + 96 * x + q)) : TL nx' ln' R' I' T' x := by
  obtain ⟨q, c, key, len, a1, a2, a3, a4, a5, a6, a7, a8, a9, a10, a11, a12, a13⟩ := h
  refine ⟨q, c, key, len, by rw [h2]; exact a1, ⟨a2.1, by omega⟩, by rw [hr q a2.2 a5]; exact a3, ⟨a4.1, by omega⟩, a5, a6, by rw [hl c a4.2]; exact a7, by rw [t1]; exact a8, a9, a10, by rw [hI q a2.2 a5]; exact a11, by rw [hI q a2.2 a5, t2]; exact a12, fun i hi => ?_⟩
  rw [t3 i (by omega), hI c a4.2 a6]
  exact a13 i hi
/-- behind a text that is taken, both sides stand for one another again -/
theorem sim_tx {nx nx2 : Nat} {ln ln2 : Nat → Nat} {R R2 : Nat → Nat → Option Nat} {I I2 : Nat → Nat → Int32} {n m key len a : Nat} {C : Nat → Int32} (hS : Sim nx ln R I) (hT : IT (I 86) n m) (hm : m < 14) (hk : key ≤ 2) (hl : len ≤ 96) (ha : a ≤ 96) (hC : okF C 0 len 0) (hcOk : ∀ q, q < len → cOk key (C q))
    (hW2 : SW nx2 ln2 R2) (hn2 : nx2 = nx + 2) (hodd : nx % 2 = 1) (hln : ln2 = up1 ln (nx + 1) len) (hR2 : R2 = up2 (up2 (up1 R nx (fun _ => none)) nx 2 (some (nx + 1))) 2 m (some nx))
    (hI : ∀ o, ¬ o = 0 → ¬ o = 5 → ¬ o = 19 → ¬ o = 51 → ¬ o = 52 → ¬ o = 85 → ¬ o = 86 → ¬ o = 95 → ¬ o = 96 → ¬ o = 97 → ¬ o = nx → ¬ o = nx + 1 → I2 o = I o)
    (h0 : ∀ q, ¬ q = 6 → I2 0 q = I 0 q) (h06 : I2 0 6 = 0) (h5 : ∀ q, ¬ q = 11 → I2 5 q = I 5 q) (h511 : I2 5 11 = nI (m + 1)) (h19 : ∀ q, ¬ q = key → I2 19 q = I 19 q) (h19k : I2 19 key = nI m)
    (h853 : I2 85 3 = I 85 3) (h859 : I2 85 9 = 0) (h8535 : I2 85 35 = I 85 35) (h86 : I2 86 = txF (I 86) C m key len a) (hx0 : I2 nx 0 = nI key) (hx1 : I2 nx 1 = nI a) (hxc : ∀ q, q < len → I2 (nx + 1) q = eN key (C q)) : Sim nx2 ln2 R2 I2 := by
  have h109 := hS.1.1
  obtain ⟨b1, b2, b3, b4, b5, b6, b7⟩ := id hS
  obtain ⟨n0, m0, a1, a2, a3, a4, a5, a6, a7, a8⟩ := b2
  have hm0 : m0 = m := (nI_eq (by have := a1.2.2.2.2.2.2.2.1; omega) (by omega)).mp (a1.2.2.2.2.2.2.1.symm.trans hT.2.2.2.2.2.2.1)
  have hn0 : n0 = n := (nI_eq (by have := a1.2.1; omega) (by have := hT.2.1; omega)).mp (a1.1.symm.trans hT.1)
  subst hm0
  subst hn0
  have eo : ∀ o, (o < nx ∧ 109 ≤ o) ∨ (20 ≤ o ∧ o ≤ 50) ∨ (53 ≤ o ∧ o ≤ 84) ∨ o = 87 ∨ o = 88 ∨ (89 ≤ o ∧ o ≤ 94) ∨ (98 ≤ o ∧ o ≤ 108) ∨ (6 ≤ o ∧ o ≤ 18) → I2 o = I o := fun o h => hI o (by omega) (by omega) (by omega) (by omega) (by omega) (by omega) (by omega) (by omega) (by omega) (by omega) (by omega) (by omega)
  have rlo : ∀ o, o < nx → 109 ≤ o → R2 o = R o := fun o h1 h2 => by rw [hR2, up2_ne (by omega), up2_ne (by omega), up1_ne (by omega)]
  have r2 : ∀ x, ¬ x = m0 → R2 2 x = R 2 x := fun x hx => by rw [hR2, up2_eq, up1_ne hx, up2_ne (by omega), up1_ne (by omega)]
  have llo : ∀ o, o < nx → ln2 o = ln o := fun o h1 => by rw [hln, up1_ne (by omega)]
  have ilo : ∀ o, o < nx → 109 ≤ o → I2 o = I o := fun o h1 h2 => eo o (by omega)
  refine ⟨hW2, ⟨n0, m0 + 1, ?_, ?_, ?_, ?_, ?_, ?_, ?_, ?_⟩, ⟨0, by omega, h06, h859, fun i hi => absurd hi (by omega)⟩, b4.keep (fun o h => eo o (by omega)), b5.keep (fun o h => eo o (by omega)), b6.keep (h0 11 (by decide)) h8535 (eo 83 (by omega)) (eo 108 (by omega)), b7.keep (eo 93 (by omega)) (eo 94 (by omega))⟩
  · rw [h86]; exact it_tx hT hm hk hl ha hC
  · rw [h86]
    obtain ⟨c1, c2, c3, c4, c5, c6, c7, c8, c9, c10, c11, c12⟩ := a2
    have hn10 := hT.2.1
    refine ⟨by rw [h5 2 (by decide), tx_lo (by omega) (by omega)]; exact c1, fun j hj w hw => by rw [eo (5 + 2 + j) (by omega), tx_lo (by omega) (by omega)]; exact c2 j hj w hw, fun i hi => by rw [eo (5 + 12) (by omega), tx_lo (by omega) (by omega)]; exact c3 i hi, fun i hi => by rw [eo (5 + 13) (by omega), tx_lo (by omega) (by omega)]; exact c4 i hi, by rw [h5 5 (by decide), tx_lo (by omega) (by omega)]; exact c5, by rw [h5 6 (by decide), tx_lo (by omega) (by omega)]; exact c6, by rw [h5 7 (by decide), tx_lo (by omega) (by omega)]; exact c7, by rw [h5 8 (by decide), tx_lo (by omega) (by omega)]; exact c8, by rw [h5 9 (by decide), tx_lo (by omega) (by omega)]; exact c9, by rw [h5 10 (by decide), tx_lo (by omega) (by omega)]; exact c10, by rw [h511, tx_7], fun q hq => ?_⟩
    show I2 19 q = _
    rw [co_tx hm hk hl hq]
    by_cases e : q = key
    · rw [if_pos e, e]; exact h19k
    · rw [if_neg e, h19 q e]; exact c12 q hq
  · intro x hx
    rw [h86]
    by_cases e : x = m0
    · subst e
      obtain ⟨t1, t2, t3⟩ := tx_m (T := I 86) (C := C) (key := key) (len := len) (a := a) hm
      refine ⟨nx, nx + 1, key, len, by rw [hR2, up2_eq, up1_eq], ⟨kd_odd h109 hodd, by omega⟩, by rw [hR2, up2_ne (by omega), up2_eq, up1_eq], ⟨kd_even (by omega) (by omega), by omega⟩, h109, by omega, by rw [hln, up1_eq], t1, hk, hl, hx0, by rw [t2]; exact hx1, fun i hi => ?_⟩
      rw [t3 i hi]
      exact ⟨hcOk i hi, hxc i hi⟩
    · obtain ⟨t1, t2, t3⟩ := tx_h (T := I 86) (C := C) (key := key) (len := len) (a := a) (x := x) (m := m0) (by omega) hm hl
      exact (a3 x (by omega)).ext (by omega) llo rlo (r2 x e) ilo t1 t2 t3
  · rw [h86]; exact a4.keep (tx_lo (by omega) (by omega)) (tx_lo (by omega) (by omega))
  · rw [h86]
    intro p hp
    unfold txF txC txA
    rw [up1_ne (by omega), if_neg (by omega), up1_ne (by omega), up1_ne (by omega)]
    exact a5 p hp
  · rw [eo 87 (by omega)]; exact a6
  · rw [eo 88 (by omega)]; exact a7
  · rw [h0 4 (by decide), h853, eo 87 (by omega)]
    rcases a8 with q | ⟨q1, q2, ni, mi, d1, d2, d3, d4, d5⟩
    · exact Or.inl q
    · refine Or.inr ⟨q1, q2, ni, mi, by omega, d2, d3.keep d2.2.1 (fun o h1 h2 => eo o (by omega)), fun x hx => ?_, d5⟩
      exact (d4 x hx).ext (by omega) llo rlo (r2 x (by omega)) ilo rfl rfl (fun _ _ => rfl)
