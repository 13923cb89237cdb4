/-! Public methods: a slot laid. -/
/-- one slot -/
def SL1 (I : Nat → Nat → Int32) (s : Nat) : Prop := I (63 + 4 * s) 0 = I 103 s ∧ ((I 103 s = 0) ∨ (I 103 s = 1 ∧ ∃ kd b m : Nat, kd ≤ 5 ∧ b ≤ 99 ∧ m ≤ b ∧ I (64 + 4 * s) 0 = nI kd ∧ I (64 + 4 * s) 1 = nI b ∧ I (64 + 4 * s) 2 = nI m ∧ I 104 s = nI kd ∧ I 105 s = wrF (nI kd) (nI b) (nI m)) ∨ (I 103 s = 2 ∧ ∃ l, l ≤ 24 ∧ I (65 + 4 * s) 1 = nI l ∧ I 104 s = nI l ∧ ∀ i, i < 24 → I (66 + 4 * s) i = I 106 (24 * s + i)) ∨ (I 103 s = 3 ∧ I (63 + 4 * s) 3 = I 104 s))
theorem sl_new {nx : Nat} {ln : Nat → Nat} {R : Nat → Nat → Option Nat} {I I' : Nat → Nat → Int32} {s : Nat} (h : Sim nx ln R I) (hs : s < 5) (ho : ∀ o, ¬ (63 + 4 * s ≤ o ∧ o ≤ 66 + 4 * s) → ¬ (103 ≤ o ∧ o ≤ 106) → I' o = I o) (ha : ∀ o, 103 ≤ o → o ≤ 105 → ∀ t, ¬ t = s → I' o t = I o t) (h6 : ∀ p, (p < 24 * s ∨ 24 * s + 24 ≤ p) → I' 106 p = I 106 p) (hs1 : SL1 I' s) : Sim nx ln R I' := by
  obtain ⟨b1, b2, b3, b4, b5, b6, b7⟩ := h
  refine ⟨b1, b2.keep (fun o h => ho o (by omega) (by omega)) (by rw [ho 0 (by omega) (by omega)]) (by rw [ho 85 (by omega) (by omega)]), b3.keep (by rw [ho 0 (by omega) (by omega)]) (by rw [ho 85 (by omega) (by omega)]) (ho 50 (by omega) (by omega)) (ho 92 (by omega) (by omega)), b4.keep (fun o h => ho o (by omega) (by omega)), fun t ht => ?_, b6.keep (by rw [ho 0 (by omega) (by omega)]) (by rw [ho 85 (by omega) (by omega)]) (ho 83 (by omega) (by omega)) (ho 108 (by omega) (by omega)), b7.keep (ho 93 (by omega) (by omega)) (ho 94 (by omega) (by omega))⟩
  by_cases e : t = s
  · subst e
    exact hs1
  · have a := b5 t ht
    rw [ho (63 + 4 * t) (by omega) (by omega), ho (64 + 4 * t) (by omega) (by omega), ho (65 + 4 * t) (by omega) (by omega), ho (66 + 4 * t) (by omega) (by omega), ha 103 (by omega) (by omega) t e, ha 104 (by omega) (by omega) t e, ha 105 (by omega) (by omega) t e]
    obtain ⟨a1, a2⟩ := a
    refine ⟨a1, ?_⟩
    rcases a2 with q | q | ⟨q1, l, q2, q3, q4, q5⟩ | q
    · exact Or.inl q
    · exact Or.inr (Or.inl q)
    · exact Or.inr (Or.inr (Or.inl ⟨q1, l, q2, q3, q4, fun i hi => by rw [h6 _ (by omega)]; exact q5 i hi⟩))
    · exact Or.inr (Or.inr (Or.inr q))
section Lay
variable {nx sl : Nat} {ln : Nat → Nat} {R : Nat → Nat → Option Nat} {I : Nat → Nat → Int32} {Q : Option Value → Hp → Prop} {k s : Nat} {x : Int32}
theorem c_lay0 (hW : SW nx ln R) (hs : s < 5) (hQ : Q (some (.int (I (63 + 4 * s) 0))) (nx, sl, ln, R, up2 I (63 + 4 * s) 0 0)) : Go (k + 3) mX7_lay [.ref 0, .int (nI s), .int 0, .int x] (nx, sl, ln, R, I) Q := by
  refine Go_wp 60 rfl ?_
  refine c_isSlot (fun _ _ _ => ?_) (fun e => absurd rfl (e s hs))
  refine And.intro (fun _ => ?_) (fun h9 => absurd (by decide) h9)
  refine And.intro (sw_k hW (Nat.le_of_ble_eq_true rfl) rfl) ?_
  refine Exists.intro _ (And.intro (sw_r hW (Nat.le_of_ble_eq_true rfl) rfl rfl) ?_)
  refine And.intro (w_asl hW hs) (Exists.intro _ (And.intro (w_rsl hW hs) ?_))
  refine And.intro (w_slk hW hs) ?_
  refine And.intro (fun _ => ?_) (fun h9 => absurd rfl h9)
  refine And.intro (w_slk hW hs) ?_
  exact hQ
theorem c_lay3 (hW : SW nx ln R) (hs : s < 5) (hQ : Q (some (.int (I (63 + 4 * s) 0))) (nx, sl, ln, R, up2 (up2 I (63 + 4 * s) 3 x) (63 + 4 * s) 0 3)) : Go (k + 3) mX7_lay [.ref 0, .int (nI s), .int 3, .int x] (nx, sl, ln, R, I) Q := by
  refine Go_wp 60 rfl ?_
  refine c_isSlot (fun _ _ _ => ?_) (fun e => absurd rfl (e s hs))
  refine And.intro (fun _ => ?_) (fun h9 => absurd (by decide) h9)
  refine And.intro (sw_k hW (Nat.le_of_ble_eq_true rfl) rfl) ?_
  refine Exists.intro _ (And.intro (sw_r hW (Nat.le_of_ble_eq_true rfl) rfl rfl) ?_)
  refine And.intro (w_asl hW hs) (Exists.intro _ (And.intro (w_rsl hW hs) ?_))
  refine And.intro (w_slk hW hs) ?_
  refine And.intro (fun h9 => absurd h9 (by decide)) (fun _ => ?_)
  refine And.intro (fun h9 => absurd h9 (by decide)) (fun _ => ?_)
  refine And.intro (fun h9 => absurd h9 (by decide)) (fun _ => ?_)
  refine And.intro (fun _ => ?_) (fun h9 => absurd rfl h9)
  refine And.intro (w_slk hW hs) ?_
  refine And.intro (w_slk hW hs) ?_
  exact hQ
theorem c_layB {w : Int32} (hW : SW nx ln R) (hs : s < 5) (h0 : ¬ w = 0) (h1 : ¬ w = 1) (h2 : ¬ w = 2) (h3 : ¬ w = 3) (hQ : Q (some (.int (-1000000001))) (nx, sl, ln, R, I)) : Go (k + 3) mX7_lay [.ref 0, .int (nI s), .int w, .int x] (nx, sl, ln, R, I) Q := by
  refine Go_wp 60 rfl ?_
  refine c_isSlot (fun _ _ _ => ?_) (fun e => absurd rfl (e s hs))
  refine And.intro (fun _ => ?_) (fun h9 => absurd (by decide) h9)
  refine And.intro (sw_k hW (Nat.le_of_ble_eq_true rfl) rfl) ?_
  refine Exists.intro _ (And.intro (sw_r hW (Nat.le_of_ble_eq_true rfl) rfl rfl) ?_)
  refine And.intro (w_asl hW hs) (Exists.intro _ (And.intro (w_rsl hW hs) ?_))
  refine And.intro (w_slk hW hs) ?_
  refine And.intro (fun h9 => absurd h9 (h0)) (fun _ => ?_)
  refine And.intro (fun h9 => absurd h9 (h1)) (fun _ => ?_)
  refine And.intro (fun h9 => absurd h9 (h2)) (fun _ => ?_)
  refine And.intro (fun h9 => absurd h9 (h3)) (fun _ => ?_)
  exact hQ
theorem c_lay1 {n m : Nat} {T : Nat → Int32} (hW : SW nx ln R) (hs : s < 5) (hC : CT I 5 T n m) (hT : T 1 = nI n) (hn : n ≤ 10) (q1 : ∀ j, j < n → x = nI j → Q (some (.int (I (63 + 4 * s) 0))) (nx, sl, ln, R, up2 (jbF I (64 + 4 * s) (5 + 2 + j)) (63 + 4 * s) 0 1)) (q0 : (∀ j, j < n → ¬ x = nI j) → Q (some (.int (-1000000001))) (nx, sl, ln, R, I)) : Go (k + 3) mX7_lay [.ref 0, .int (nI s), .int 1, .int x] (nx, sl, ln, R, I) Q := by
  have ht := tw5
  refine Go_wp 60 rfl ?_
  refine c_isSlot (fun _ _ _ => ?_) (fun e => absurd rfl (e s hs))
  refine And.intro (fun _ => ?_) (fun h9 => absurd (by decide) h9)
  refine And.intro (sw_k hW (Nat.le_of_ble_eq_true rfl) rfl) ?_
  refine Exists.intro _ (And.intro (sw_r hW (Nat.le_of_ble_eq_true rfl) rfl rfl) ?_)
  refine And.intro (w_asl hW hs) (Exists.intro _ (And.intro (w_rsl hW hs) ?_))
  refine And.intro (w_slk hW hs) ?_
  refine And.intro (fun h9 => absurd h9 (by decide)) (fun _ => ?_)
  refine And.intro (fun _ => ?_) (fun h9 => absurd rfl h9)
  refine And.intro (sw_k hW (Nat.le_of_ble_eq_true rfl) rfl) ?_
  refine c_isJug hW hC hT hn (fun j hj e => ?_) (fun e => ?_)
  · subst e
    refine And.intro (fun _ => ?_) (fun h9 => absurd (by decide) h9)
    refine And.intro (w_slk hW hs) (Exists.intro _ (And.intro (w_rj hW hs) ?_))
    refine And.intro (sw_k hW (Nat.le_of_ble_eq_true rfl) rfl) ?_
    refine Exists.intro _ (And.intro (sw_r hW (Nat.le_of_ble_eq_true rfl) rfl rfl) ?_)
    refine And.intro (w_t hW ht) (Exists.intro _ (And.intro (w_r1 hW ht) ?_))
    refine And.intro (w_aj hW ht (by omega)) (Exists.intro _ (And.intro (w_jug hW ht (by omega)) ?_))
    refine And.intro (w_slj hW hs) ?_
    refine c_jbecome (w_slj hW hs) (w_kj hW ht (by omega)) (by omega) ?_
    refine And.intro (w_slk hW hs) ?_
    exact q1 j hj rfl
  · refine And.intro (fun h9 => absurd rfl h9) (fun _ => ?_)
    exact q0 e
/-- a slot's sheet behind it -/
def sbF (I : Nat → Nat → Int32) (s t : Nat) : Nat → Nat → Int32 := up1 (up2 (up2 I (65 + 4 * s) 0 (I (54 + 2 * t) 0)) (65 + 4 * s) 1 (I (54 + 2 * t) 1)) (66 + 4 * s) (va_cpy (I (55 + 2 * t)) (I (66 + 4 * s)) 0 0 24)
theorem c_sbecome {t : Nat} (hW : SW nx ln R) (hs : s < 5) (ht : t < 4) (hQ : Q none (nx, sl, ln, R, sbF I s t)) : Go (k + 1) mX3_become [.ref (65 + 4 * s), .ref (54 + 2 * t)] (nx, sl, ln, R, I) Q := by
  refine Go_wp 40 rfl ?_
  refine And.intro (w_shk hW ht) ?_
  refine And.intro (w_sls hW hs) ?_
  refine And.intro (w_shk hW ht) ?_
  rw [up2_ne (show ¬ 54 + 2 * t = 65 + 4 * s by omega)]
  refine And.intro (w_sls hW hs) ?_
  refine And.intro (w_shk hW ht) (Exists.intro _ (And.intro (w_rq hW ht) ?_))
  refine And.intro (w_sls hW hs) (Exists.intro _ (And.intro (w_rp hW hs) ?_))
  have kF := sh_all t ht
  have kT := sl_all s hs
  refine And.intro ⟨⟨kF.2.1, sw_lt hW (by omega)⟩, ⟨kT.2.2.2.1, sw_lt hW (by omega)⟩, by decide, by decide, by decide, by rw [hW.2.1 _ (by omega), kF.2.2.2.2]; decide, by rw [hW.2.1 _ (by omega), kT.2.2.2.2.2.2.2.2]; decide⟩ ?_
  rw [up2_ne (show ¬ 55 + 2 * t = 65 + 4 * s by omega), up2_ne (show ¬ 55 + 2 * t = 65 + 4 * s by omega), up2_ne (show ¬ 66 + 4 * s = 65 + 4 * s by omega), up2_ne (show ¬ 66 + 4 * s = 65 + 4 * s by omega)]
  exact hQ
theorem c_lay2 (hW : SW nx ln R) (hs : s < 5) (q1 : ∀ t, t < 4 → x = nI t → ¬ I (54 + 2 * t) 0 = -1 → Q (some (.int (I (63 + 4 * s) 0))) (nx, sl, ln, R, up2 (sbF I s t) (63 + 4 * s) 0 2)) (q2 : ∀ t, t < 4 → x = nI t → I (54 + 2 * t) 0 = -1 → Q (some (.int (-1000000011))) (nx, sl, ln, R, I)) (q0 : (∀ j, j < 4 → ¬ x = nI j) → Q (some (.int (-1000000001))) (nx, sl, ln, R, I)) : Go (k + 3) mX7_lay [.ref 0, .int (nI s), .int 2, .int x] (nx, sl, ln, R, I) Q := by
  refine Go_wp 60 rfl ?_
  refine c_isSlot (fun _ _ _ => ?_) (fun e => absurd rfl (e s hs))
  refine And.intro (fun _ => ?_) (fun h9 => absurd (by decide) h9)
  refine And.intro (sw_k hW (Nat.le_of_ble_eq_true rfl) rfl) ?_
  refine Exists.intro _ (And.intro (sw_r hW (Nat.le_of_ble_eq_true rfl) rfl rfl) ?_)
  refine And.intro (w_asl hW hs) (Exists.intro _ (And.intro (w_rsl hW hs) ?_))
  refine And.intro (w_slk hW hs) ?_
  refine And.intro (fun h9 => absurd h9 (by decide)) (fun _ => ?_)
  refine And.intro (fun h9 => absurd h9 (by decide)) (fun _ => ?_)
  refine And.intro (fun _ => ?_) (fun h9 => absurd rfl h9)
  refine c_isSheet (fun t ht e => ?_) (fun e => ?_)
  · subst e
    refine And.intro (fun _ => ?_) (fun h9 => absurd (by decide) h9)
    refine And.intro (sw_k hW (Nat.le_of_ble_eq_true rfl) rfl) ?_
    refine Exists.intro _ (And.intro (sw_r hW (Nat.le_of_ble_eq_true rfl) rfl rfl) ?_)
    refine And.intro (w_ash hW ht) (Exists.intro _ (And.intro (w_rsh hW ht) ?_))
    refine And.intro (w_shk hW ht) ?_
    refine c_isMissing hW (w_shk hW ht) (fun c => ?_) (fun c => ?_)
    · refine And.intro (fun h9 => absurd h9 (by decide)) (fun _ => ?_)
      exact q2 t ht rfl c
    · refine And.intro (fun _ => ?_) (fun h9 => absurd rfl h9)
      refine And.intro (w_slk hW hs) (Exists.intro _ (And.intro (w_rs hW hs) ?_))
      refine And.intro (sw_k hW (Nat.le_of_ble_eq_true rfl) rfl) ?_
      refine Exists.intro _ (And.intro (sw_r hW (Nat.le_of_ble_eq_true rfl) rfl rfl) ?_)
      refine And.intro (w_ash hW ht) (Exists.intro _ (And.intro (w_rsh hW ht) ?_))
      refine And.intro (w_sls hW hs) ?_
      refine c_sbecome hW hs ht ?_
      refine And.intro (w_slk hW hs) ?_
      exact q1 t ht rfl c
  · refine And.intro (fun h9 => absurd rfl h9) (fun _ => ?_)
    exact q0 e
end Lay
