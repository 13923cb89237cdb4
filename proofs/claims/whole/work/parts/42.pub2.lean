/-! Public methods: the town told, the image, the tape's end, the numbers that wait. -/
theorem SA.keep {nx : Nat} {ln : Nat → Nat} {R : Nat → Nat → Option Nat} {I I' : Nat → Nat → Int32} (h : SA nx ln R I) (ho : ∀ o, (5 ≤ o ∧ o ≤ 19) ∨ (35 ≤ o ∧ o ≤ 49) ∨ (86 ≤ o ∧ o ≤ 88) ∨ 109 ≤ o → I' o = I o) (h0 : I' 0 4 = I 0 4) (h85 : I' 85 3 = I 85 3) : SA nx ln R I' := by
  obtain ⟨n, m, a1, a2, a3, a4, a5, a6, a7, a8⟩ := id h
  have e86 := ho 86 (by omega)
  refine SA.now a1 h (n' := n) (by rw [e86]; exact a1) (by rw [e86]; exact a2.keep a1.2.1 (fun o p q => ho o (by omega))) (by rw [e86]; exact a4) (by rw [e86]; exact a5) (by rw [ho 88 (by omega)]; exact a7) (fun p _ => by rw [e86]) (fun o q => ho o (by omega)) h0 h85
theorem pub_count (w : Int32) : Pub mX7_count mX8_count [.int w] := by
  intro k nx sl ln R I hS
  have hW := hS.1
  have ht := tw5
  obtain ⟨n, m, hT, hC, hL, hG, -⟩ := id hS.2.1
  have hn := hT.2.1
  obtain ⟨L, hL1, hL2, hL3, -⟩ := id hS.2.2.1
  obtain ⟨W, hW1, hW2, hW3, -⟩ := id hS.2.2.2.2.2.1
  refine Go_wp 40 rfl ?_
  refine And.intro (fun q => ?_) (fun q1 => And.intro (fun q => ?_) (fun q2 => And.intro (fun q => ?_) (fun q3 => And.intro (fun q => ?_) (fun q4 => And.intro (fun q => ?_) (fun q5 => And.intro (fun q => ?_) (fun q6 => And.intro (fun q => ?_) (fun q7 => And.intro (fun q => ?_) (fun q8 => And.intro (fun q => ?_) (fun q9 => And.intro (fun q => ?_) (fun q10 => ?_))))))))))
  · subst q
    refine And.intro (sw_k hW (Nat.le_of_ble_eq_true rfl) rfl) ?_
    refine Exists.intro _ (And.intro (sw_r hW (Nat.le_of_ble_eq_true rfl) rfl rfl) ?_)
    refine And.intro (w_t hW ht) ?_
    refine ⟨_, rfl, ?_⟩
    refine Go_wp 40 rfl ?_
    refine And.intro (fun _ => ?_) (fun h9 => absurd rfl h9)
    refine And.intro (sw_k hW (Nat.le_of_ble_eq_true rfl) rfl) ?_
    refine Exists.intro _ (And.intro (sw_r hW (Nat.le_of_ble_eq_true rfl) rfl rfl) ?_)
    refine And.intro (sw_n (i := 1) hW (Nat.le_of_ble_eq_true rfl) rfl rfl (Nat.le_of_ble_eq_true rfl) (Nat.le_of_ble_eq_true rfl)) ?_
    rw [hC.1]
    exact pub_end hS
  · subst q
    refine And.intro (sw_k hW (Nat.le_of_ble_eq_true rfl) rfl) ?_
    refine Exists.intro _ (And.intro (sw_r hW (Nat.le_of_ble_eq_true rfl) rfl rfl) ?_)
    refine And.intro (w_t hW ht) ?_
    refine ⟨_, rfl, ?_⟩
    refine Go_wp 40 rfl ?_
    refine And.intro (fun h9 => absurd h9 (by decide)) (fun _ => ?_)
    refine And.intro (fun _ => ?_) (fun h9 => absurd rfl h9)
    refine And.intro (sw_k hW (Nat.le_of_ble_eq_true rfl) rfl) ?_
    refine Exists.intro _ (And.intro (sw_r hW (Nat.le_of_ble_eq_true rfl) rfl rfl) ?_)
    refine And.intro (sw_n (i := 2) hW (Nat.le_of_ble_eq_true rfl) rfl rfl (Nat.le_of_ble_eq_true rfl) (Nat.le_of_ble_eq_true rfl)) ?_
    rw [hC.2.2.2.2.2.2.2.2.1]
    exact pub_end hS
  · subst q
    refine And.intro (sw_k hW (Nat.le_of_ble_eq_true rfl) rfl) ?_
    refine Exists.intro _ (And.intro (sw_r hW (Nat.le_of_ble_eq_true rfl) rfl rfl) ?_)
    refine And.intro (w_t hW ht) ?_
    refine ⟨_, rfl, ?_⟩
    refine Go_wp 40 rfl ?_
    refine And.intro (fun h9 => absurd h9 (by decide)) (fun _ => ?_)
    refine And.intro (fun h9 => absurd h9 (by decide)) (fun _ => ?_)
    refine And.intro (fun _ => ?_) (fun h9 => absurd rfl h9)
    refine And.intro (sw_k hW (Nat.le_of_ble_eq_true rfl) rfl) ?_
    refine Exists.intro _ (And.intro (sw_r hW (Nat.le_of_ble_eq_true rfl) rfl rfl) ?_)
    refine And.intro (sw_n (i := 3) hW (Nat.le_of_ble_eq_true rfl) rfl rfl (Nat.le_of_ble_eq_true rfl) (Nat.le_of_ble_eq_true rfl)) ?_
    rw [hC.2.2.2.2.1]
    exact pub_end hS
  · subst q
    refine And.intro (sw_k hW (Nat.le_of_ble_eq_true rfl) rfl) ?_
    refine Exists.intro _ (And.intro (sw_r hW (Nat.le_of_ble_eq_true rfl) rfl rfl) ?_)
    refine And.intro (w_t hW ht) ?_
    refine ⟨_, rfl, ?_⟩
    refine Go_wp 40 rfl ?_
    refine And.intro (fun h9 => absurd h9 (by decide)) (fun _ => ?_)
    refine And.intro (fun h9 => absurd h9 (by decide)) (fun _ => ?_)
    refine And.intro (fun h9 => absurd h9 (by decide)) (fun _ => ?_)
    refine And.intro (fun _ => ?_) (fun h9 => absurd rfl h9)
    refine And.intro (sw_k hW (Nat.le_of_ble_eq_true rfl) rfl) ?_
    refine Exists.intro _ (And.intro (sw_r hW (Nat.le_of_ble_eq_true rfl) rfl rfl) ?_)
    refine And.intro (sw_n (i := 4) hW (Nat.le_of_ble_eq_true rfl) rfl rfl (Nat.le_of_ble_eq_true rfl) (Nat.le_of_ble_eq_true rfl)) ?_
    rw [hC.2.2.2.2.2.1]
    exact pub_end hS
  · subst q
    refine And.intro (sw_k hW (Nat.le_of_ble_eq_true rfl) rfl) ?_
    refine Exists.intro _ (And.intro (sw_r hW (Nat.le_of_ble_eq_true rfl) rfl rfl) ?_)
    refine And.intro (w_t hW ht) ?_
    refine ⟨_, rfl, ?_⟩
    refine Go_wp 40 rfl ?_
    refine And.intro (fun h9 => absurd h9 (by decide)) (fun _ => ?_)
    refine And.intro (fun h9 => absurd h9 (by decide)) (fun _ => ?_)
    refine And.intro (fun h9 => absurd h9 (by decide)) (fun _ => ?_)
    refine And.intro (fun h9 => absurd h9 (by decide)) (fun _ => ?_)
    refine And.intro (fun _ => ?_) (fun h9 => absurd rfl h9)
    refine And.intro (sw_k hW (Nat.le_of_ble_eq_true rfl) rfl) ?_
    refine Exists.intro _ (And.intro (sw_r hW (Nat.le_of_ble_eq_true rfl) rfl rfl) ?_)
    refine And.intro (sw_n (i := 5) hW (Nat.le_of_ble_eq_true rfl) rfl rfl (Nat.le_of_ble_eq_true rfl) (Nat.le_of_ble_eq_true rfl)) ?_
    rw [hC.2.2.2.2.2.2.1]
    exact pub_end hS
  · subst q
    refine And.intro (sw_k hW (Nat.le_of_ble_eq_true rfl) rfl) ?_
    refine Exists.intro _ (And.intro (sw_r hW (Nat.le_of_ble_eq_true rfl) rfl rfl) ?_)
    refine And.intro (w_t hW ht) ?_
    refine ⟨_, rfl, ?_⟩
    refine Go_wp 40 rfl ?_
    refine And.intro (fun h9 => absurd h9 (by decide)) (fun _ => ?_)
    refine And.intro (fun h9 => absurd h9 (by decide)) (fun _ => ?_)
    refine And.intro (fun h9 => absurd h9 (by decide)) (fun _ => ?_)
    refine And.intro (fun h9 => absurd h9 (by decide)) (fun _ => ?_)
    refine And.intro (fun h9 => absurd h9 (by decide)) (fun _ => ?_)
    refine And.intro (fun _ => ?_) (fun h9 => absurd rfl h9)
    refine And.intro (sw_k hW (Nat.le_of_ble_eq_true rfl) rfl) ?_
    refine Exists.intro _ (And.intro (sw_r hW (Nat.le_of_ble_eq_true rfl) rfl rfl) ?_)
    refine And.intro (sw_n (i := 6) hW (Nat.le_of_ble_eq_true rfl) rfl rfl (Nat.le_of_ble_eq_true rfl) (Nat.le_of_ble_eq_true rfl)) ?_
    rw [hC.2.2.2.2.2.2.2.1]
    exact pub_end hS
  · subst q
    refine And.intro (sw_k hW (Nat.le_of_ble_eq_true rfl) rfl) ?_
    refine Exists.intro _ (And.intro (sw_r hW (Nat.le_of_ble_eq_true rfl) rfl rfl) ?_)
    refine And.intro (w_t hW ht) ?_
    refine ⟨_, rfl, ?_⟩
    refine Go_wp 40 rfl ?_
    refine And.intro (fun h9 => absurd h9 (by decide)) (fun _ => ?_)
    refine And.intro (fun h9 => absurd h9 (by decide)) (fun _ => ?_)
    refine And.intro (fun h9 => absurd h9 (by decide)) (fun _ => ?_)
    refine And.intro (fun h9 => absurd h9 (by decide)) (fun _ => ?_)
    refine And.intro (fun h9 => absurd h9 (by decide)) (fun _ => ?_)
    refine And.intro (fun h9 => absurd h9 (by decide)) (fun _ => ?_)
    refine And.intro (fun _ => ?_) (fun h9 => absurd rfl h9)
    refine And.intro (sw_k hW (Nat.le_of_ble_eq_true rfl) rfl) ?_
    refine Exists.intro _ (And.intro (sw_r hW (Nat.le_of_ble_eq_true rfl) rfl rfl) ?_)
    refine And.intro (sw_n (i := 7) hW (Nat.le_of_ble_eq_true rfl) rfl rfl (Nat.le_of_ble_eq_true rfl) (Nat.le_of_ble_eq_true rfl)) ?_
    rw [hC.2.2.2.2.2.2.2.2.2.2.1]
    exact pub_end hS
  · subst q
    refine And.intro (sw_k hW (Nat.le_of_ble_eq_true rfl) rfl) ?_
    refine ⟨_, rfl, ?_⟩
    refine Go_wp 40 rfl ?_
    refine And.intro (fun h9 => absurd h9 (by decide)) (fun _ => ?_)
    refine And.intro (fun h9 => absurd h9 (by decide)) (fun _ => ?_)
    refine And.intro (fun h9 => absurd h9 (by decide)) (fun _ => ?_)
    refine And.intro (fun h9 => absurd h9 (by decide)) (fun _ => ?_)
    refine And.intro (fun h9 => absurd h9 (by decide)) (fun _ => ?_)
    refine And.intro (fun h9 => absurd h9 (by decide)) (fun _ => ?_)
    refine And.intro (fun h9 => absurd h9 (by decide)) (fun _ => ?_)
    refine And.intro (fun _ => ?_) (fun h9 => absurd rfl h9)
    refine And.intro (sw_k hW (Nat.le_of_ble_eq_true rfl) rfl) ?_
    rw [hW2, ← hW3]
    exact pub_end hS
  · subst q
    refine And.intro (sw_k hW (Nat.le_of_ble_eq_true rfl) rfl) ?_
    refine ⟨_, rfl, ?_⟩
    refine Go_wp 40 rfl ?_
    refine And.intro (fun h9 => absurd h9 (by decide)) (fun _ => ?_)
    refine And.intro (fun h9 => absurd h9 (by decide)) (fun _ => ?_)
    refine And.intro (fun h9 => absurd h9 (by decide)) (fun _ => ?_)
    refine And.intro (fun h9 => absurd h9 (by decide)) (fun _ => ?_)
    refine And.intro (fun h9 => absurd h9 (by decide)) (fun _ => ?_)
    refine And.intro (fun h9 => absurd h9 (by decide)) (fun _ => ?_)
    refine And.intro (fun h9 => absurd h9 (by decide)) (fun _ => ?_)
    refine And.intro (fun h9 => absurd h9 (by decide)) (fun _ => ?_)
    refine And.intro (fun _ => ?_) (fun h9 => absurd rfl h9)
    refine And.intro (sw_k hW (Nat.le_of_ble_eq_true rfl) rfl) ?_
    rw [hL2, ← hL3]
    exact pub_end hS
  · subst q
    refine And.intro (sw_k hW (Nat.le_of_ble_eq_true rfl) rfl) ?_
    refine Exists.intro _ (And.intro (sw_r hW (Nat.le_of_ble_eq_true rfl) rfl rfl) ?_)
    refine And.intro (w_t hW ht) ?_
    refine ⟨_, rfl, ?_⟩
    refine Go_wp 40 rfl ?_
    refine And.intro (fun h9 => absurd h9 (by decide)) (fun _ => ?_)
    refine And.intro (fun h9 => absurd h9 (by decide)) (fun _ => ?_)
    refine And.intro (fun h9 => absurd h9 (by decide)) (fun _ => ?_)
    refine And.intro (fun h9 => absurd h9 (by decide)) (fun _ => ?_)
    refine And.intro (fun h9 => absurd h9 (by decide)) (fun _ => ?_)
    refine And.intro (fun h9 => absurd h9 (by decide)) (fun _ => ?_)
    refine And.intro (fun h9 => absurd h9 (by decide)) (fun _ => ?_)
    refine And.intro (fun h9 => absurd h9 (by decide)) (fun _ => ?_)
    refine And.intro (fun h9 => absurd h9 (by decide)) (fun _ => ?_)
    refine And.intro (fun _ => ?_) (fun h9 => absurd rfl h9)
    refine And.intro (sw_k hW (Nat.le_of_ble_eq_true rfl) rfl) ?_
    refine Exists.intro _ (And.intro (sw_r hW (Nat.le_of_ble_eq_true rfl) rfl rfl) ?_)
    refine And.intro (sw_n (i := 0) hW (Nat.le_of_ble_eq_true rfl) rfl rfl (Nat.le_of_ble_eq_true rfl) (Nat.le_of_ble_eq_true rfl)) ?_
    rw [hC.2.2.2.2.2.2.2.2.2.1]
    exact pub_end hS
  · refine ⟨_, rfl, ?_⟩
    refine Go_wp 40 rfl ?_
    refine And.intro (fun h => absurd h q1) (fun _ => And.intro (fun h => absurd h q2) (fun _ => And.intro (fun h => absurd h q3) (fun _ => And.intro (fun h => absurd h q4) (fun _ => And.intro (fun h => absurd h q5) (fun _ => And.intro (fun h => absurd h q6) (fun _ => And.intro (fun h => absurd h q7) (fun _ => And.intro (fun h => absurd h q8) (fun _ => And.intro (fun h => absurd h q9) (fun _ => And.intro (fun h => absurd h q10) (fun _ => ?_))))))))))
    exact pub_end hS
theorem pub_town (w : Int32) : Pub mX7_town mX8_town [.int w] := by
  intro k nx sl ln R I hS
  have hW := hS.1
  have ht := tw5
  obtain ⟨n, m, hT, hC, hL, hG, -⟩ := id hS.2.1
  have hn := hT.2.1
  refine Go_wp 40 rfl ?_
  refine And.intro (fun q => ?_) (fun q1 => And.intro (fun q => ?_) (fun q2 => And.intro (fun q => ?_) (fun q3 => And.intro (fun q => ?_) (fun q4 => And.intro (fun q => ?_) (fun q5 => And.intro (fun q => ?_) (fun q6 => ?_))))))
  · subst q
    refine And.intro (sw_k hW (Nat.le_of_ble_eq_true rfl) rfl) ?_
    refine Exists.intro _ (And.intro (sw_r hW (Nat.le_of_ble_eq_true rfl) rfl rfl) ?_)
    refine And.intro (w_t hW ht) ?_
    refine ⟨_, rfl, ?_⟩
    refine Go_wp 40 rfl ?_
    refine And.intro (fun _ => ?_) (fun h9 => absurd rfl h9)
    refine And.intro (sw_k hW (Nat.le_of_ble_eq_true rfl) rfl) ?_
    refine Exists.intro _ (And.intro (sw_r hW (Nat.le_of_ble_eq_true rfl) rfl rfl) ?_)
    refine And.intro (sw_n (i := 4) hW (Nat.le_of_ble_eq_true rfl) rfl rfl (Nat.le_of_ble_eq_true rfl) (Nat.le_of_ble_eq_true rfl)) ?_
    rw [hC.2.2.2.2.2.1]
    exact pub_end hS
  · subst q
    refine And.intro (sw_k hW (Nat.le_of_ble_eq_true rfl) rfl) ?_
    refine Exists.intro _ (And.intro (sw_r hW (Nat.le_of_ble_eq_true rfl) rfl rfl) ?_)
    refine And.intro (w_t hW ht) ?_
    refine ⟨_, rfl, ?_⟩
    refine Go_wp 40 rfl ?_
    refine And.intro (fun h9 => absurd h9 (by decide)) (fun _ => ?_)
    refine And.intro (fun _ => ?_) (fun h9 => absurd rfl h9)
    refine And.intro (sw_k hW (Nat.le_of_ble_eq_true rfl) rfl) ?_
    refine Exists.intro _ (And.intro (sw_r hW (Nat.le_of_ble_eq_true rfl) rfl rfl) ?_)
    refine And.intro (sw_n (i := 5) hW (Nat.le_of_ble_eq_true rfl) rfl rfl (Nat.le_of_ble_eq_true rfl) (Nat.le_of_ble_eq_true rfl)) ?_
    rw [hC.2.2.2.2.2.2.1]
    exact pub_end hS
  · subst q
    refine And.intro (sw_k hW (Nat.le_of_ble_eq_true rfl) rfl) ?_
    refine Exists.intro _ (And.intro (sw_r hW (Nat.le_of_ble_eq_true rfl) rfl rfl) ?_)
    refine And.intro (w_t hW ht) ?_
    refine ⟨_, rfl, ?_⟩
    refine Go_wp 40 rfl ?_
    refine And.intro (fun h9 => absurd h9 (by decide)) (fun _ => ?_)
    refine And.intro (fun h9 => absurd h9 (by decide)) (fun _ => ?_)
    refine And.intro (fun _ => ?_) (fun h9 => absurd rfl h9)
    refine And.intro (sw_k hW (Nat.le_of_ble_eq_true rfl) rfl) ?_
    refine Exists.intro _ (And.intro (sw_r hW (Nat.le_of_ble_eq_true rfl) rfl rfl) ?_)
    refine And.intro (sw_n (i := 6) hW (Nat.le_of_ble_eq_true rfl) rfl rfl (Nat.le_of_ble_eq_true rfl) (Nat.le_of_ble_eq_true rfl)) ?_
    rw [hC.2.2.2.2.2.2.2.1]
    exact pub_end hS
  · subst q
    refine And.intro (sw_k hW (Nat.le_of_ble_eq_true rfl) rfl) ?_
    refine Exists.intro _ (And.intro (sw_r hW (Nat.le_of_ble_eq_true rfl) rfl rfl) ?_)
    refine And.intro (w_t hW ht) ?_
    refine c_allMarks hW ht hC hT.1 hn ?_
    refine ⟨_, rfl, ?_⟩
    rw [← nw_self I]
    refine Go_wp 40 rfl ?_
    refine And.intro (fun h9 => absurd h9 (by decide)) (fun _ => ?_)
    refine And.intro (fun h9 => absurd h9 (by decide)) (fun _ => ?_)
    refine And.intro (fun h9 => absurd h9 (by decide)) (fun _ => ?_)
    refine And.intro (fun _ => ?_) (fun h9 => absurd rfl h9)
    refine And.intro (sw_k hW (Nat.le_of_ble_eq_true rfl) rfl) ?_
    refine s_marks hW hT.1 hn ?_
    rw [nw_self]
    exact pub_end hS
  · subst q
    refine And.intro (sw_k hW (Nat.le_of_ble_eq_true rfl) rfl) ?_
    refine Exists.intro _ (And.intro (sw_r hW (Nat.le_of_ble_eq_true rfl) rfl rfl) ?_)
    refine And.intro (w_t hW ht) ?_
    refine c_richest hW ht hC ?_
    refine ⟨_, rfl, ?_⟩
    rw [← nw_self I]
    refine Go_wp 40 rfl ?_
    refine And.intro (fun h9 => absurd h9 (by decide)) (fun _ => ?_)
    refine And.intro (fun h9 => absurd h9 (by decide)) (fun _ => ?_)
    refine And.intro (fun h9 => absurd h9 (by decide)) (fun _ => ?_)
    refine And.intro (fun h9 => absurd h9 (by decide)) (fun _ => ?_)
    refine And.intro (fun _ => ?_) (fun h9 => absurd rfl h9)
    refine And.intro (sw_k hW (Nat.le_of_ble_eq_true rfl) rfl) ?_
    refine s_richest hW ?_
    rw [nw_self]
    exact pub_end hS
  · subst q
    refine And.intro (sw_k hW (Nat.le_of_ble_eq_true rfl) rfl) ?_
    refine Exists.intro _ (And.intro (sw_r hW (Nat.le_of_ble_eq_true rfl) rfl rfl) ?_)
    refine And.intro (w_t hW ht) ?_
    refine c_bestJug hW ht hC hT ?_
    refine ⟨_, rfl, ?_⟩
    rw [← nw_self I]
    refine Go_wp 40 rfl ?_
    refine And.intro (fun h9 => absurd h9 (by decide)) (fun _ => ?_)
    refine And.intro (fun h9 => absurd h9 (by decide)) (fun _ => ?_)
    refine And.intro (fun h9 => absurd h9 (by decide)) (fun _ => ?_)
    refine And.intro (fun h9 => absurd h9 (by decide)) (fun _ => ?_)
    refine And.intro (fun h9 => absurd h9 (by decide)) (fun _ => ?_)
    refine And.intro (fun _ => ?_) (fun h9 => absurd rfl h9)
    refine And.intro (sw_k hW (Nat.le_of_ble_eq_true rfl) rfl) ?_
    refine s_bestJug hW hT.1 hn ?_
    rw [nw_self]
    exact pub_end hS
  · refine ⟨_, rfl, ?_⟩
    refine Go_wp 40 rfl ?_
    refine And.intro (fun h => absurd h q1) (fun _ => And.intro (fun h => absurd h q2) (fun _ => And.intro (fun h => absurd h q3) (fun _ => And.intro (fun h => absurd h q4) (fun _ => And.intro (fun h => absurd h q5) (fun _ => And.intro (fun h => absurd h q6) (fun _ => ?_))))))
    exact pub_end hS
theorem pub_trim (v : Int32) : Pub mX7_trim mX8_trim [.int v] := by
  intro k nx sl ln R I hS
  have hW := hS.1
  have ht := tw5
  obtain ⟨n, m, hT, hC, hL, hG, -⟩ := id hS.2.1
  have hn := hT.2.1
  obtain ⟨L, hL1, hL2, hL3, hL4⟩ := id hS.2.2.1
  have z : (nI L).toInt = ((L + 1 : Nat) : Int) - 1 := by rw [tI_nI (by omega)]; omega
  refine Go_wp 40 rfl ?_
  refine And.intro (sw_k hW (Nat.le_of_ble_eq_true rfl) rfl) ?_
  rw [hL2]
  refine c_isIn (m := 0) (n := L + 1) z (fun i hi e => ?_) (fun e => ?_)
  · subst e
    refine And.intro (fun _ => ?_) (fun h9 => absurd (by decide) h9)
    refine And.intro (sw_k hW (Nat.le_of_ble_eq_true rfl) rfl) ?_
    refine ⟨_, rfl, ?_⟩
    refine Go_wp 40 rfl ?_
    refine And.intro (sw_k hW (Nat.le_of_ble_eq_true rfl) rfl) ?_
    rw [show up2 I 0 6 (nI i) 85 9 = nI L by rw [up2_ne (by decide)]; exact hL3]
    refine s_isIn (n := L + 1) z (fun _ _ _ => ?_) (fun e => absurd rfl (e i hi))
    refine And.intro (fun _ => ?_) (fun h9 => absurd (by decide) h9)
    refine And.intro (sw_k hW (Nat.le_of_ble_eq_true rfl) rfl) ?_
    refine pub_end ?_
    have eo : ∀ o, ¬ o = 0 → ¬ o = 85 → up2 (up2 I 0 6 (nI i)) 85 9 (nI i) o = I o := fun o h1 h2 => by rw [up2_ne h2, up2_ne h1]
    have e0 : ∀ p, ¬ p = 6 → up2 (up2 I 0 6 (nI i)) 85 9 (nI i) 0 p = I 0 p := fun p h => by rw [up2_ne (by decide), up2_eq, up1_ne h]
    have e85 : ∀ p, ¬ p = 9 → up2 (up2 I 0 6 (nI i)) 85 9 (nI i) 85 p = I 85 p := fun p h => by rw [up2_eq, up1_ne h, up2_ne (by decide)]
    obtain ⟨b1, b2, b3, b4, b5, b6, b7⟩ := hS
    refine ⟨b1, b2.keep (fun o h => eo o (by omega) (by omega)) (e0 4 (by decide)) (e85 3 (by decide)), ⟨i, by omega, ?_, ?_, fun q hq => ?_⟩, b4.keep (fun o h => eo o (by omega) (by omega)), b5.keep (fun o h => eo o (by omega) (by omega)), b6.keep (e0 11 (by decide)) (e85 35 (by decide)) (eo 83 (by decide) (by decide)) (eo 108 (by decide) (by decide)), b7.keep (eo 93 (by decide) (by decide)) (eo 94 (by decide) (by decide))⟩
    · rw [up2_ne (by decide), up2_eq, up1_eq]
    · rw [up2_eq, up1_eq]
    · rw [eo 92 (by decide) (by decide), eo 50 (by decide) (by decide)]; exact hL4 q (by omega)
  · refine And.intro (fun h9 => absurd rfl h9) (fun _ => ?_)
    refine ⟨_, rfl, ?_⟩
    refine Go_wp 40 rfl ?_
    refine And.intro (sw_k hW (Nat.le_of_ble_eq_true rfl) rfl) ?_
    rw [hL3]
    refine s_isIn (n := L + 1) z (fun i hi e2 => absurd e2 (e i hi)) (fun _ => ?_)
    refine And.intro (fun h9 => absurd rfl h9) (fun _ => ?_)
    exact pub_end hS
theorem pub_tell (v : Int32) : Pub mX7_tell mX8_tell [.int v] := by
  intro k nx sl ln R I hS
  have hW := hS.1
  have ht := tw5
  obtain ⟨n, m, hT, hC, hL, hG, -⟩ := id hS.2.1
  have hn := hT.2.1
  obtain ⟨w, w1, w2, w3, w4⟩ := id hS.2.2.2.2.2.1
  refine Go_wp 40 rfl ?_
  refine And.intro (sw_k hW (Nat.le_of_ble_eq_true rfl) rfl) ?_
  rw [w2]
  refine And.intro (fun hb => ?_) (fun hb => ?_)
  · have hw : w < 60 := by rw [tI_lt, tI_nI (by omega)] at hb; have : (60 : Int32).toInt = 60 := rfl; omega
    refine And.intro (sw_k hW (Nat.le_of_ble_eq_true rfl) rfl) ?_
    refine Exists.intro _ (And.intro (sw_r hW (Nat.le_of_ble_eq_true rfl) rfl rfl) ?_)
    refine And.intro (sw_k hW (Nat.le_of_ble_eq_true rfl) rfl) ?_
    rw [w2]
    refine And.intro (sw_n hW (Nat.le_of_ble_eq_true rfl) rfl rfl (show w < 60 from hw) (Nat.le_of_ble_eq_true rfl)) ?_
    rw [ix (show w < 2147483648 by omega)]
    refine And.intro (sw_k hW (Nat.le_of_ble_eq_true rfl) rfl) ?_
    refine And.intro (sw_k hW (Nat.le_of_ble_eq_true rfl) rfl) ?_
    refine And.intro (sw_k hW (Nat.le_of_ble_eq_true rfl) rfl) ?_
    have ei : ∀ x, ¬ x = 83 → up2 I 83 w v x = I x := fun x h => up2_ne h
    have ev : up2 (up2 I 83 w v) 0 11 (up2 I 83 w v 0 11 + 1) 0 11 = nI (w + 1) := by rw [up2_eq, up1_eq, ei 0 (by decide), w2]; exact (nI_add w 1)
    refine ⟨nI (w + 1), by rw [ev], ?_⟩
    obtain ⟨I1, hI1⟩ : ∃ I1, up2 (up2 I 83 w v) 0 11 (up2 I 83 w v 0 11 + 1) = I1 := ⟨_, rfl⟩
    rw [hI1] at ev ⊢
    have f0 : ∀ o, ¬ o = 83 → ¬ o = 0 → I1 o = I o := fun o h1 h2 => by rw [← hI1, up2_ne h2, up2_ne h1]
    have f1 : ∀ p, ¬ p = 11 → I1 0 p = I 0 p := fun p h => by rw [← hI1, up2_eq, up1_ne h, up2_ne (by decide)]
    have f2 : I1 83 = up1 (I 83) w v := by rw [← hI1, up2_ne (by decide), up2_eq]
    have g3 : I1 85 35 = nI w := by rw [f0 85 (by decide) (by decide)]; exact w3
    refine Go_wp 40 rfl ?_
    refine And.intro (sw_k hW (Nat.le_of_ble_eq_true rfl) rfl) ?_
    rw [g3]
    refine And.intro (fun _ => ?_) (fun h9 => absurd (fun e => by have := (nI_eq (b := 60) (by omega) (by decide)).mp e; omega) h9)
    refine And.intro (sw_k hW (Nat.le_of_ble_eq_true rfl) rfl) ?_
    refine Exists.intro _ (And.intro (sw_r hW (Nat.le_of_ble_eq_true rfl) rfl rfl) ?_)
    refine And.intro (sw_k hW (Nat.le_of_ble_eq_true rfl) rfl) ?_
    rw [g3]
    refine And.intro (sw_n hW (Nat.le_of_ble_eq_true rfl) rfl rfl (show w < 60 from hw) (Nat.le_of_ble_eq_true rfl)) ?_
    rw [ix (show w < 2147483648 by omega)]
    refine And.intro (sw_k hW (Nat.le_of_ble_eq_true rfl) rfl) ?_
    refine And.intro (sw_k hW (Nat.le_of_ble_eq_true rfl) rfl) ?_
    refine And.intro (sw_k hW (Nat.le_of_ble_eq_true rfl) rfl) ?_
    have ew : up2 (up2 I1 108 w v) 85 35 (up2 I1 108 w v 85 35 + 1) 85 35 = nI (w + 1) := by rw [up2_eq, up1_eq, up2_ne (by decide), g3]; exact (nI_add w 1)
    rw [ew]
    refine pub_end ?_
    obtain ⟨I2, hI2⟩ : ∃ I2, up2 (up2 I1 108 w v) 85 35 (up2 I1 108 w v 85 35 + 1) = I2 := ⟨_, rfl⟩
    rw [hI2] at ew ⊢
    have k0 : ∀ o, ¬ o = 83 → ¬ o = 0 → ¬ o = 108 → ¬ o = 85 → I2 o = I o := fun o h1 h2 h3 h4 => by rw [← hI2, up2_ne h4, up2_ne h3, f0 o h1 h2]
    have k1 : ∀ p, ¬ p = 11 → I2 0 p = I 0 p := fun p h => by rw [← hI2, up2_ne (by decide), up2_ne (by decide)]; exact f1 p h
    have k2 : ∀ p, ¬ p = 35 → I2 85 p = I 85 p := fun p h => by rw [← hI2, up2_eq, up1_ne h, up2_ne (by decide), f0 85 (by decide) (by decide)]
    obtain ⟨b1, b2, b3, b4, b5, b6, b7⟩ := hS
    refine ⟨b1, b2.keep (fun o h => k0 o (by omega) (by omega) (by omega) (by omega)) (k1 4 (by decide)) (k2 3 (by decide)), b3.keep (k1 6 (by decide)) (k2 9 (by decide)) (k0 50 (by decide) (by decide) (by decide) (by decide)) (k0 92 (by decide) (by decide) (by decide) (by decide)), b4.keep (fun o h => k0 o (by omega) (by omega) (by omega) (by omega)), b5.keep (fun o h => k0 o (by omega) (by omega) (by omega) (by omega)), ⟨w + 1, by omega, ?_, ew, fun i hi => ?_⟩, b7.keep (k0 93 (by decide) (by decide) (by decide) (by decide)) (k0 94 (by decide) (by decide) (by decide) (by decide))⟩
    · rw [← hI2, up2_ne (by decide), up2_ne (by decide)]; exact ev
    · rw [show I2 83 = up1 (I 83) w v by rw [← hI2, up2_ne (by decide), up2_ne (by decide)]; exact f2, show I2 108 = up1 (I 108) w v by rw [← hI2, up2_ne (by decide), up2_eq, f0 108 (by decide) (by decide)]]
      by_cases h : i = w
      · subst h; rw [up1_eq, up1_eq]
      · rw [up1_ne h, up1_ne h]; exact w4 i (by omega)
  · have hw : w = 60 := by rw [tI_lt, tI_nI (by omega)] at hb; have : (60 : Int32).toInt = 60 := rfl; omega
    subst hw
    refine ⟨_, rfl, ?_⟩
    refine Go_wp 40 rfl ?_
    refine And.intro (sw_k hW (Nat.le_of_ble_eq_true rfl) rfl) ?_
    rw [w3]
    refine And.intro (fun h9 => absurd rfl h9) (fun _ => ?_)
    exact pub_end hS
theorem pub_keep : Pub mX7_keep mX8_keep [] := by
  intro k nx sl ln R I hS
  have hW := hS.1
  have ht := tw5
  obtain ⟨n, m, hT, hC, hL, hG, -⟩ := id hS.2.1
  have hn := hT.2.1
  have ht3 : Tw 35 := Or.inr (Or.inr rfl)
  obtain ⟨n0, m0, a1, a2, a3, a4, a5, a6, a7, a8⟩ := id hS.2.1
  refine Go_wp 40 rfl ?_
  refine And.intro (sw_k hW (Nat.le_of_ble_eq_true rfl) rfl) ?_
  refine Exists.intro _ (And.intro (sw_r hW (Nat.le_of_ble_eq_true rfl) rfl rfl) ?_)
  refine And.intro (sw_k hW (Nat.le_of_ble_eq_true rfl) rfl) ?_
  refine Exists.intro _ (And.intro (sw_r hW (Nat.le_of_ble_eq_true rfl) rfl rfl) ?_)
  refine And.intro (w_t hW ht3) ?_
  refine c_become hW ht3 ht (by decide) a2 a1.1 a1.2.1 (fun I2 hC2 hF => ?_)
  refine And.intro (And.intro (sw_k hW (Nat.le_of_ble_eq_true rfl) rfl) (Or.inr rfl)) ?_
  refine And.intro (sw_k hW (Nat.le_of_ble_eq_true rfl) rfl) ?_
  refine Exists.intro _ (And.intro (sw_r hW (Nat.le_of_ble_eq_true rfl) rfl rfl) ?_)
  refine And.intro (w_t hW ht) ?_
  refine ⟨_, rfl, ?_⟩
  refine Go_wp 40 rfl ?_
  refine And.intro (sw_k hW (Nat.le_of_ble_eq_true rfl) rfl) ?_
  refine Exists.intro _ (And.intro (sw_r hW (Nat.le_of_ble_eq_true rfl) rfl rfl) ?_)
  refine And.intro (sw_k hW (Nat.le_of_ble_eq_true rfl) rfl) ?_
  refine Exists.intro _ (And.intro (sw_r hW (Nat.le_of_ble_eq_true rfl) rfl rfl) ?_)
  have f86 : I2 86 = I 86 := hF 86 (by omega)
  have f87 : I2 87 = I 87 := hF 87 (by omega)
  have f5 : I2 5 = I 5 := hF 5 (by omega)
  refine s_copyAll hW (Or.inl rfl) (Or.inr (Or.inl rfl)) (by decide) (by rw [up2_ne (by decide), f86]; exact a5) (by rw [up2_ne (by decide), f87]; exact a6) ?_
  refine And.intro (And.intro (sw_k hW (Nat.le_of_ble_eq_true rfl) rfl) (Or.inr rfl)) ?_
  refine And.intro (sw_k hW (Nat.le_of_ble_eq_true rfl) rfl) ?_
  refine Exists.intro _ (And.intro (sw_r hW (Nat.le_of_ble_eq_true rfl) rfl rfl) ?_)
  refine And.intro (sw_n hW (Nat.le_of_ble_eq_true rfl) rfl rfl ((Nat.le_of_ble_eq_true rfl)) (Nat.le_of_ble_eq_true rfl)) ?_
  rw [show up2 I2 0 4 1 86 = I 86 by rw [up2_ne (by decide), f86], show up2 I2 0 4 1 5 2 = I 86 1 by rw [up2_ne (by decide), f5]; exact a2.1]
  obtain ⟨I3, hI3⟩ : ∃ I3, up2 (up1 (up2 I2 0 4 1) 87 (I 86)) 85 3 1 = I3 := ⟨_, rfl⟩
  have k0 : ∀ o, ¬ o = 0 → ¬ o = 85 → ¬ o = 87 → I3 o = I2 o := fun o h1 h2 h3 => by rw [← hI3, up2_ne h2, up1_ne h3, up2_ne h1]
  have k1 : ∀ o, ¬ o = 0 → ¬ o = 85 → ¬ o = 87 → (o < 35 ∨ 49 < o) → I3 o = I o := fun o h1 h2 h3 h4 => by rw [k0 o h1 h2 h3]; exact hF o (by omega)
  have k2 : ∀ p, ¬ p = 4 → I3 0 p = I 0 p := fun p h => by rw [← hI3, up2_ne (by decide), up1_ne (by decide), up2_eq, up1_ne h, hF 0 (by omega)]
  have k3 : ∀ p, ¬ p = 3 → I3 85 p = I 85 p := fun p h => by rw [← hI3, up2_eq, up1_ne h, up1_ne (by decide), up2_ne (by decide), hF 85 (by omega)]
  have k4 : I3 87 = I 86 := by rw [← hI3, up2_ne (by decide), up1_eq]
  have k5 : I3 86 = I 86 := k1 86 (by decide) (by decide) (by decide) (by omega)
  have k6 : I3 0 4 = 1 := by rw [← hI3, up2_ne (by decide), up1_ne (by decide), up2_eq, up1_eq]
  have k7 : I3 85 3 = 1 := by rw [← hI3, up2_eq, up1_eq]
  have k8 : up2 (up1 (up2 I2 0 4 1) 87 (I 86)) 85 3 1 86 (1 : Int32).toNatClampNeg = I 86 1 := by rw [hI3, k5]; rfl
  rw [k8, hI3]
  refine pub_end (hS.town ⟨fun o ho => ?_, k2 6 (by decide), k2 11 (by decide), k3 9 (by decide), k3 35 (by decide)⟩ ?_)
  · unfold keepO at ho; exact k1 o (by omega) (by omega) (by omega) (by omega)
  · refine ⟨n0, m0, by rw [k5]; exact a1, ?_, ?_, by rw [k5]; exact a4, by rw [k5]; exact a5, by rw [k4]; exact a5, by rw [k1 88 (by decide) (by decide) (by decide) (by omega)]; exact a7, Or.inr ⟨k6, k7, n0, m0, Nat.le_refl _, by rw [k4]; exact a1, ?_, ?_, by rw [k4]; exact a4⟩⟩
    · rw [k5]; exact a2.keep a1.2.1 (fun o h1 h2 => k1 o (by omega) (by omega) (by omega) (by omega))
    · rw [k5]; exact a3.keep (fun o h => k1 o (by omega) (by omega) (by omega) (by omega)) (fun _ _ => rfl)
    · rw [k4]; exact hC2.keep a1.2.1 (fun o h1 h2 => k0 o (by omega) (by omega) (by omega))
    · rw [k4]; exact a3.keep (fun o h => k1 o (by omega) (by omega) (by omega) (by omega)) (fun _ _ => rfl)
theorem pub_back : Pub mX7_back mX8_back [] := by
  intro k nx sl ln R I hS
  have hW := hS.1
  have ht := tw5
  obtain ⟨n, m, hT, hC, hL, hG, -⟩ := id hS.2.1
  have hn := hT.2.1
  have ht3 : Tw 35 := Or.inr (Or.inr rfl)
  obtain ⟨n0, m0, a1, a2, a3, a4, a5, a6, a7, a8⟩ := id hS.2.1
  rcases a8 with ⟨i1, i2⟩ | ⟨i1, i2, ni, mi, b1, b2, b3, b4, b5⟩
  · refine Go_wp 40 rfl ?_
    refine And.intro (sw_k hW (Nat.le_of_ble_eq_true rfl) rfl) ?_
    rw [i1]
    refine And.intro (fun h9 => absurd rfl h9) (fun _ => ?_)
    refine ⟨_, rfl, ?_⟩
    refine Go_wp 40 rfl ?_
    refine And.intro (sw_k hW (Nat.le_of_ble_eq_true rfl) rfl) ?_
    rw [i2]
    refine And.intro (fun h9 => absurd rfl h9) (fun _ => ?_)
    exact pub_end hS
  · refine Go_wp 40 rfl ?_
    refine And.intro (sw_k hW (Nat.le_of_ble_eq_true rfl) rfl) ?_
    rw [i1]
    refine And.intro (fun _ => ?_) (fun h9 => absurd (by decide) h9)
    refine And.intro (sw_k hW (Nat.le_of_ble_eq_true rfl) rfl) ?_
    refine Exists.intro _ (And.intro (sw_r hW (Nat.le_of_ble_eq_true rfl) rfl rfl) ?_)
    refine And.intro (sw_k hW (Nat.le_of_ble_eq_true rfl) rfl) ?_
    refine Exists.intro _ (And.intro (sw_r hW (Nat.le_of_ble_eq_true rfl) rfl rfl) ?_)
    refine And.intro (w_t hW ht) ?_
    refine c_become hW ht ht3 (by decide) b3 b2.1 b2.2.1 (fun I2 hC2 hF => ?_)
    refine And.intro (sw_k hW (Nat.le_of_ble_eq_true rfl) rfl) ?_
    refine Exists.intro _ (And.intro (sw_r hW (Nat.le_of_ble_eq_true rfl) rfl rfl) ?_)
    refine And.intro (w_t hW ht) ?_
    refine ⟨_, rfl, ?_⟩
    have f86 : I2 86 = I 86 := hF 86 (by omega)
    have f87 : I2 87 = I 87 := hF 87 (by omega)
    have f85 : I2 85 = I 85 := hF 85 (by omega)
    refine Go_wp 40 rfl ?_
    refine And.intro (sw_k hW (Nat.le_of_ble_eq_true rfl) rfl) ?_
    rw [show I2 85 3 = 1 by rw [f85]; exact i2]
    refine And.intro (fun _ => ?_) (fun h9 => absurd (by decide) h9)
    refine And.intro (sw_k hW (Nat.le_of_ble_eq_true rfl) rfl) ?_
    refine Exists.intro _ (And.intro (sw_r hW (Nat.le_of_ble_eq_true rfl) rfl rfl) ?_)
    refine And.intro (sw_k hW (Nat.le_of_ble_eq_true rfl) rfl) ?_
    refine Exists.intro _ (And.intro (sw_r hW (Nat.le_of_ble_eq_true rfl) rfl rfl) ?_)
    refine s_copyAll hW (Or.inr (Or.inl rfl)) (Or.inl rfl) (by decide) (by rw [f87]; exact a6) (by rw [f86]; exact a5) ?_
    refine And.intro (sw_k hW (Nat.le_of_ble_eq_true rfl) rfl) ?_
    refine Exists.intro _ (And.intro (sw_r hW (Nat.le_of_ble_eq_true rfl) rfl rfl) ?_)
    refine And.intro (sw_n hW (Nat.le_of_ble_eq_true rfl) rfl rfl ((Nat.le_of_ble_eq_true rfl)) (Nat.le_of_ble_eq_true rfl)) ?_
    rw [show I2 5 2 = I 87 1 from hC2.1, f87]
    have k0 : ∀ o, ¬ o = 86 → up1 I2 86 (I 87) o = I2 o := fun o h => up1_ne h
    have k1 : ∀ o, ¬ o = 86 → (o < 5 ∨ 19 < o) → up1 I2 86 (I 87) o = I o := fun o h h2 => by rw [up1_ne h]; exact hF o (by omega)
    have k5 : up1 I2 86 (I 87) 86 = I 87 := up1_eq
    have k4 := k1 87 (by decide) (by omega)
    rw [show up1 I2 86 (I 87) 86 (1 : Int32).toNatClampNeg = I 87 1 by rw [k5]; rfl]
    refine pub_end (hS.town ⟨fun o ho => ?_, by rw [k1 0 (by decide) (by omega)], by rw [k1 0 (by decide) (by omega)], by rw [k1 85 (by decide) (by omega)], by rw [k1 85 (by decide) (by omega)]⟩ ?_)
    · unfold keepO at ho; exact k1 o (by omega) (by omega)
    · refine ⟨ni, mi, by rw [k5]; exact b2, by rw [k5]; exact hC2.keep b2.2.1 (fun o h1 h2 => k0 o (by omega)), by rw [k5]; exact b4.keep (fun o h => k1 o (by omega) (by omega)) (fun _ _ => rfl), by rw [k5]; exact b5, by rw [k5]; exact a6, by rw [k4]; exact a6, by rw [k1 88 (by decide) (by omega)]; exact a7, Or.inr ⟨by rw [k1 0 (by decide) (by omega)]; exact i1, by rw [k1 85 (by decide) (by omega)]; exact i2, ni, mi, Nat.le_refl _, by rw [k4]; exact b2, ?_, ?_, by rw [k4]; exact b5⟩⟩
      · rw [k4]; exact b3.keep b2.2.1 (fun o h1 h2 => k1 o (by omega) (by omega))
      · rw [k4]; exact b4.keep (fun o h => k1 o (by omega) (by omega)) (fun _ _ => rfl)
