/-! How the component's object and the model's stand for one another. -/
/-- THE DAY and GOT of a row -/
def GB (T : Nat → Int32) : Prop := ∃ d g : Nat, T 2 = nI d ∧ d ≤ 9999 ∧ T 4 = nI g ∧ g ≤ 990 * d
def SA (nx : Nat) (ln : Nat → Nat) (R : Nat → Nat → Option Nat) (I : Nat → Nat → Int32) : Prop := ∃ n m : Nat, IT (I 86) n m ∧ CT I 5 (I 86) n m ∧ LT nx ln R I (I 86) m ∧ GB (I 86) ∧ Zr (I 86) ∧ Zr (I 87) ∧ Zr (I 88) ∧ ((I 0 4 = 0 ∧ I 85 3 = 0) ∨ (I 0 4 = 1 ∧ I 85 3 = 1 ∧ ∃ ni mi : Nat, mi ≤ m ∧ IT (I 87) ni mi ∧ CT I 35 (I 87) ni mi ∧ LT nx ln R I (I 87) mi ∧ GB (I 87)))
/-- the tape -/
def SP (I : Nat → Nat → Int32) : Prop := ∃ L : Nat, L ≤ 96 ∧ I 0 6 = nI L ∧ I 85 9 = nI L ∧ ∀ i, i < L → ∃ b : Nat, b < 256 ∧ I 92 i = nI b ∧ I 50 i &&& 255 = nI b
/-- the sheets -/
def SS (I : Nat → Nat → Int32) : Prop := ∀ s, s < 4 → I (54 + 2 * s) 0 = I 100 s ∧ (I 100 s = -1 ∨ I 100 s = 0 ∨ I 100 s = 1) ∧ (∃ l, l ≤ 24 ∧ I (54 + 2 * s) 1 = nI l ∧ I 101 s = nI l) ∧ ∀ i, i < 24 → I (55 + 2 * s) i = I 102 (24 * s + i)
/-- the slots -/
def SL (I : Nat → Nat → Int32) : Prop := ∀ s, s < 5 → I (63 + 4 * s) 0 = I 103 s ∧ ((I 103 s = 0) ∨ (I 103 s = 1 ∧ ∃ kd b m : Nat, kd ≤ 5 ∧ b ≤ 99 ∧ m ≤ b ∧ I (64 + 4 * s) 0 = nI kd ∧ I (64 + 4 * s) 1 = nI b ∧ I (64 + 4 * s) 2 = nI m ∧ I 104 s = nI kd ∧ I 105 s = wrF (nI kd) (nI b) (nI m)) ∨ (I 103 s = 2 ∧ ∃ l, l ≤ 24 ∧ I (65 + 4 * s) 1 = nI l ∧ I 104 s = nI l ∧ ∀ i, i < 24 → I (66 + 4 * s) i = I 106 (24 * s + i)) ∨ (I 103 s = 3 ∧ I (63 + 4 * s) 3 = I 104 s))
/-- the numbers that wait -/
def SN (I : Nat → Nat → Int32) : Prop := ∃ w : Nat, w ≤ 60 ∧ I 0 11 = nI w ∧ I 85 35 = nI w ∧ ∀ i, i < w → I 83 i = I 108 i
/-- the model's own rows of letters -/
def kcF (i : Nat) : Nat := [119, 97, 110, 116, 102, 101, 101, 102, 105, 110, 101].getD i 0
def SC (I : Nat → Nat → Int32) : Prop := (∀ i, i < 11 → I 93 i = nI (kcF i)) ∧ I 94 0 = 0 ∧ I 94 1 = 4 ∧ I 94 2 = 7 ∧ I 94 3 = 11
def Sim (nx : Nat) (ln : Nat → Nat) (R : Nat → Nat → Option Nat) (I : Nat → Nat → Int32) : Prop := SW nx ln R ∧ SA nx ln R I ∧ SP I ∧ SS I ∧ SL I ∧ SN I ∧ SC I
/-- the objects that tapes, sheets, slots, numbers and letters lie in -/
def keepO (o : Nat) : Prop := o = 50 ∨ (53 ≤ o ∧ o ≤ 83) ∨ (92 ≤ o ∧ o ≤ 94) ∨ (100 ≤ o ∧ o ≤ 106) ∨ o = 108
def Same (I I' : Nat → Nat → Int32) : Prop := (∀ o, keepO o → I' o = I o) ∧ I' 0 6 = I 0 6 ∧ I' 0 11 = I 0 11 ∧ I' 85 9 = I 85 9 ∧ I' 85 35 = I 85 35
theorem SP.keep {I I' : Nat → Nat → Int32} (h : SP I) (h0 : I' 0 6 = I 0 6) (h1 : I' 85 9 = I 85 9) (h2 : I' 50 = I 50) (h3 : I' 92 = I 92) : SP I' := by
  obtain ⟨L, a, b, c, d⟩ := h
  exact ⟨L, a, by rw [h0]; exact b, by rw [h1]; exact c, fun i hi => by rw [h2, h3]; exact d i hi⟩
theorem SS.keep {I I' : Nat → Nat → Int32} (h : SS I) (h0 : ∀ o, (54 ≤ o ∧ o ≤ 61) ∨ (100 ≤ o ∧ o ≤ 102) → I' o = I o) : SS I' := by
  intro s hs
  obtain ⟨a, b, c, d⟩ := h s hs
  refine ⟨?_, ?_, ?_, fun i hi => ?_⟩
  · rw [h0 _ (by omega), h0 100 (by omega)]; exact a
  · rw [h0 100 (by omega)]; exact b
  · rw [h0 _ (by omega), h0 101 (by omega)]; exact c
  · rw [h0 _ (by omega), h0 102 (by omega)]; exact d i hi
theorem SL.keep {I I' : Nat → Nat → Int32} (h : SL I) (h0 : ∀ o, (63 ≤ o ∧ o ≤ 82) ∨ (103 ≤ o ∧ o ≤ 106) → I' o = I o) : SL I' := by
  intro s hs
  have a := h s hs
  rw [h0 (63 + 4 * s) (by omega), h0 (64 + 4 * s) (by omega), h0 (65 + 4 * s) (by omega), h0 (66 + 4 * s) (by omega), h0 103 (by omega), h0 104 (by omega), h0 105 (by omega), h0 106 (by omega)]
  exact a
theorem SN.keep {I I' : Nat → Nat → Int32} (h : SN I) (h0 : I' 0 11 = I 0 11) (h1 : I' 85 35 = I 85 35) (h2 : I' 83 = I 83) (h3 : I' 108 = I 108) : SN I' := by
  obtain ⟨w, a, b, c, d⟩ := h
  exact ⟨w, a, by rw [h0]; exact b, by rw [h1]; exact c, fun i hi => by rw [h2, h3]; exact d i hi⟩
theorem SC.keep {I I' : Nat → Nat → Int32} (h : SC I) (h0 : I' 93 = I 93) (h1 : I' 94 = I 94) : SC I' := by
  unfold SC
  rw [h0, h1]
  exact h
/-- behind a call that changes the towns alone -/
theorem Sim.town {nx : Nat} {ln : Nat → Nat} {R : Nat → Nat → Option Nat} {I I' : Nat → Nat → Int32} (h : Sim nx ln R I) (hs : Same I I') (ha : SA nx ln R I') : Sim nx ln R I' := by
  obtain ⟨h1, -, h3, h4, h5, h6, h7⟩ := h
  obtain ⟨k0, k1, k2, k3, k4⟩ := hs
  exact ⟨h1, ha, h3.keep k1 k3 (k0 50 (by unfold keepO; omega)) (k0 92 (by unfold keepO; omega)), h4.keep (fun o ho => k0 o (by unfold keepO; omega)), h5.keep (fun o ho => k0 o (by unfold keepO; omega)), h6.keep k2 k4 (k0 83 (by unfold keepO; omega)) (k0 108 (by unfold keepO; omega)), h7.keep (k0 93 (by unfold keepO; omega)) (k0 94 (by unfold keepO; omega))⟩
/-- the town NOW alone is otherwise: the model's row is T', the component's town 5 stands for it -/
theorem SA.now {nx : Nat} {ln : Nat → Nat} {R : Nat → Nat → Option Nat} {I I' : Nat → Nat → Int32} {n m n' : Nat} (hT : IT (I 86) n m) (h : SA nx ln R I) (hI : IT (I' 86) n' m) (hC : CT I' 5 (I' 86) n' m) (hG : GB (I' 86)) (hz : Zr (I' 86)) (hz8 : Zr (I' 88)) (hp : ∀ p, 74 ≤ p → I' 86 p = I 86 p) (ho : ∀ o, (35 ≤ o ∧ o ≤ 49) ∨ o = 87 ∨ 109 ≤ o → I' o = I o) (h0 : I' 0 4 = I 0 4) (h85 : I' 85 3 = I 85 3) : SA nx ln R I' := by
  obtain ⟨n0, m0, a1, a2, a3, a4, a5, a6, a7, a8⟩ := h
  have hm : m0 = m := by
    have e := a1.2.2.2.2.2.2.1.symm.trans hT.2.2.2.2.2.2.1
    exact (nI_eq (by have := a1.2.2.2.2.2.2.2.1; omega) (by have := hT.2.2.2.2.2.2.2.1; omega)).mp e
  subst hm
  refine ⟨n', m0, hI, hC, a3.keep (fun o h => ho o (by omega)) hp, hG, hz, by rw [ho 87 (by omega)]; exact a6, hz8, ?_⟩
  rw [h0, h85]
  rcases a8 with q | ⟨q1, q2, ni, mi, b1, b2, b3, b4, b5⟩
  · exact Or.inl q
  · refine Or.inr ⟨q1, q2, ni, mi, b1, by rw [ho 87 (by omega)]; exact b2, ?_, ?_, by rw [ho 87 (by omega)]; exact b5⟩
    · rw [ho 87 (by omega)]
      exact b3.keep b2.2.1 (fun o h1 h2 => ho o (by omega))
    · rw [ho 87 (by omega)]
      exact b4.keep (fun o h => ho o (by omega)) (fun _ _ => rfl)
theorem nw_self (I : Nat → Nat → Int32) : nw I (I 86) = I := by
  funext o
  by_cases h : o = 86
  · subst h; exact up1_eq
  · exact up1_ne h
/-- what is to be shown of a public method: the component's call, then the model's, answer alike and stand for one another again -/
def Pub (mc mm : Nat) (as : List Value) : Prop := ∀ (k nx sl : Nat) (ln : Nat → Nat) (R : Nat → Nat → Option Nat) (I : Nat → Nat → Int32), Sim nx ln R I → Go (k + 20) mc (.ref 0 :: as) (nx, sl, ln, R, I) (fun r h1 => ∃ v : Int32, r = some (.int v) ∧ Go (k + 20) mm (.ref 85 :: as) h1 (fun r2 h2 => r2 = some (.int v) ∧ ∃ (nx2 sl2 : Nat) (ln2 : Nat → Nat) (R2 : Nat → Nat → Option Nat) (I2 : Nat → Nat → Int32), h2 = (nx2, sl2, ln2, R2, I2) ∧ Sim nx2 ln2 R2 I2 ∧ nx2 ≤ nx + 2 ∧ sl2 ≤ sl + 200 ∧ (nx2 = nx ∨ nx2 = nx + 2) ∧ sl ≤ sl2))
/-- both leave the heap's shape as it was -/
theorem pub_end {nx sl : Nat} {ln : Nat → Nat} {R : Nat → Nat → Option Nat} {I : Nat → Nat → Int32} {v : Int32} (h : Sim nx ln R I) : (some (Value.int v) = some (.int v)) ∧ ∃ (nx2 sl2 : Nat) (ln2 : Nat → Nat) (R2 : Nat → Nat → Option Nat) (I2 : Nat → Nat → Int32), (nx, sl, ln, R, I) = (nx2, sl2, ln2, R2, I2) ∧ Sim nx2 ln2 R2 I2 ∧ nx2 ≤ nx + 2 ∧ sl2 ≤ sl + 200 ∧ (nx2 = nx ∨ nx2 = nx + 2) ∧ sl ≤ sl2 :=
  ⟨rfl, nx, sl, ln, R, I, rfl, h, by omega, by omega, Or.inl rfl, Nat.le_refl _⟩
/-- the town now -/
theorem tw5 : Tw 5 := Or.inl rfl
theorem GB.up {T : Nat → Int32} (h : GB T) {p : Nat} {v : Int32} (h2 : ¬ p = 2) (h4 : ¬ p = 4) : GB (up1 T p v) := by
  obtain ⟨d, g, a, b, c, e⟩ := h
  exact ⟨d, g, by rw [up1_ne (by omega)]; exact a, b, by rw [up1_ne (by omega)]; exact c, e⟩
/-- one number of the town: the component's at o, w; the model's at p -/
theorem sim_up {nx : Nat} {ln : Nat → Nat} {R : Nat → Nat → Option Nat} {I : Nat → Nat → Int32} {n m o w p : Nat} {v : Int32} (hS : Sim nx ln R I) (hT : IT (I 86) n m) (ho : 5 ≤ o ∧ o ≤ 19) (hp : p < 74) (hp2 : ¬ p = 2) (hp4 : ¬ p = 4) (hI : IT (up1 (I 86) p v) n m) (hC : CT (up2 I o w v) 5 (up1 (I 86) p v) n m) : Sim nx ln R (up2 (up2 I o w v) 86 p v) := by
  have hn := hT.2.1
  have e86 : up2 (up2 I o w v) 86 p v 86 = up1 (I 86) p v := by rw [up2_eq, up2_ne (by omega)]
  have eo : ∀ q, ¬ q = 86 → (q < 5 ∨ 19 < q) → up2 (up2 I o w v) 86 p v q = I q := fun q a b => by rw [up2_ne a, up2_ne (by omega)]
  obtain ⟨n0, m0, a1, a2, a3, a4, a5, a6, a7, a8⟩ := id hS.2.1
  refine hS.town ⟨fun q hq => ?_, ?_, ?_, ?_, ?_⟩ (SA.now hT hS.2.1 (n' := n) ?_ ?_ ?_ ?_ ?_ (fun q hq => ?_) (fun q hq => eo q (by omega) (by omega)) (by rw [eo 0 (by omega) (by omega)]) (by rw [eo 85 (by omega) (by omega)]))
  · unfold keepO at hq; exact eo q (by omega) (by omega)
  · rw [eo 0 (by omega) (by omega)]
  · rw [eo 0 (by omega) (by omega)]
  · rw [eo 85 (by omega) (by omega)]
  · rw [eo 85 (by omega) (by omega)]
  · rw [e86]; exact hI
  · rw [e86]; exact hC.keep hn (fun q a b => by rw [up2_ne (by omega)])
  · rw [e86]; exact a4.up hp2 hp4
  · rw [e86]; exact a5.up (by omega) v
  · rw [eo 88 (by omega) (by omega)]; exact a7
  · rw [e86, up1_gt (by omega)]
theorem pub_frost (v : Int32) : Pub mX7_frost mX8_frost [.int v] := by
  intro k nx sl ln R I hS
  have hW := hS.1
  have ht := tw5
  obtain ⟨n, m, hT, hC, hL, hG, -⟩ := hS.2.1
  have hn := hT.2.1
  refine Go_wp 40 rfl ?_
  refine c_isIn (m := 0) (n := 101) rfl (fun i hi e => ?_) (fun e => ?_)
  · subst e
    refine And.intro (fun _ => ?_) (fun h9 => absurd (by decide) h9)
    refine And.intro (sw_k hW (Nat.le_of_ble_eq_true rfl) rfl) ?_
    refine Exists.intro _ (And.intro (sw_r hW (Nat.le_of_ble_eq_true rfl) rfl rfl) ?_)
    refine And.intro (w_t hW ht) ?_
    refine And.intro (sw_k hW (Nat.le_of_ble_eq_true rfl) rfl) ?_
    refine Exists.intro _ (And.intro (sw_r hW (Nat.le_of_ble_eq_true rfl) rfl rfl) ?_)
    refine And.intro (w_t hW ht) ?_
    refine ⟨_, rfl, ?_⟩
    rw [← nw_self (up2 I 5 5 (nI i))]
    refine Go_wp 40 rfl ?_
    refine s_in (fun _ _ => ?_) (fun h => absurd ⟨nI_pos' (by omega), nI_le (b := 100) (by omega) (by decide)⟩ h)
    refine And.intro (fun h9 => absurd h9 (by decide)) (fun _ => ?_)
    refine And.intro (sw_k hW (Nat.le_of_ble_eq_true rfl) rfl) ?_
    refine s_swaps (i := 3) hW (by decide) ?_
    rw [← nw_put, nw_self]
    rw [show up2 I 5 5 (nI i) 86 3 = I 5 5 by rw [up2_ne (by decide)]; exact hC.2.2.2.2.1.symm]
    exact pub_end (sim_up hS hT (by omega) (by decide) (by decide) (by decide) (hT.frost (by omega)) (hC.num hn (by omega)))
  · refine And.intro (fun h9 => absurd rfl h9) (fun _ => ?_)
    refine ⟨_, rfl, ?_⟩
    refine Go_wp 40 rfl ?_
    refine s_in (fun a b => ?_) (fun _ => ?_)
    · have a' := (tI_le _ _).mp a
      have b' := (tI_le _ _).mp b
      exact absurd (nI_ofI a') (e _ (by have e1 : (100 : Int32).toInt = 100 := rfl; have e0 : (0 : Int32).toInt = 0 := rfl; omega))
    · refine And.intro (fun _ => ?_) (fun h9 => absurd rfl h9)
      exact pub_end hS
