/-! Public methods: a slot laid, the model's side. -/
section Lay2
variable {nx sl : Nat} {ln : Nat → Nat} {R : Nat → Nat → Option Nat} {I : Nat → Nat → Int32} {Q : Option Value → Hp → Prop} {k s : Nat} {x : Int32}
/-- what the model writes for a slot -/
def hlF (I : Nat → Nat → Int32) (s : Nat) (w a b : Int32) : Nat → Nat → Int32 := up2 (up2 (up2 I 103 s w) 104 s a) 105 s b
theorem s_lay0 (hW : SW nx ln R) (hs : s < 5) (hQ : Q (some (.int (I 103 s))) (nx, sl, ln, R, hlF I s 0 x 0)) : Go (k + 3) mX8_lay [.ref 85, .int (nI s), .int 0, .int x] (nx, sl, ln, R, I) Q := by
  refine Go_wp 90 rfl ?_
  refine s_isSlot (fun _ _ _ => ?_) (fun e => absurd rfl (e s hs))
  refine And.intro (fun h9 => absurd h9 (by decide)) (fun _ => ?_)
  refine s_in (fun _ _ => ?_) (fun h => absurd ⟨by decide, by decide⟩ h)
  refine And.intro (fun h9 => absurd h9 (by decide)) (fun _ => ?_)
  refine And.intro (fun _ => ?_) (fun h9 => absurd (by decide) h9)
  refine And.intro (fun _ => ?_) (fun h9 => absurd (by decide) h9)
  refine And.intro (fun _ => ?_) (fun h9 => absurd (by decide) h9)
  refine And.intro (sw_k hW (Nat.le_of_ble_eq_true rfl) rfl) ?_
  refine Exists.intro _ (And.intro (sw_r hW (Nat.le_of_ble_eq_true rfl) rfl rfl) ?_)
  refine And.intro (sw_n hW (Nat.le_of_ble_eq_true rfl) rfl rfl (hs) (Nat.le_of_ble_eq_true rfl)) ?_
  refine And.intro (sw_k hW (Nat.le_of_ble_eq_true rfl) rfl) ?_
  refine Exists.intro _ (And.intro (sw_r hW (Nat.le_of_ble_eq_true rfl) rfl rfl) ?_)
  refine And.intro (sw_n hW (Nat.le_of_ble_eq_true rfl) rfl rfl (hs) (Nat.le_of_ble_eq_true rfl)) ?_
  refine And.intro (sw_k hW (Nat.le_of_ble_eq_true rfl) rfl) ?_
  refine Exists.intro _ (And.intro (sw_r hW (Nat.le_of_ble_eq_true rfl) rfl rfl) ?_)
  refine And.intro (fun _ => ?_) (fun h9 => absurd (by decide) h9)
  refine And.intro (fun _ => ?_) (fun h9 => absurd (by decide) h9)
  refine And.intro (sw_n hW (Nat.le_of_ble_eq_true rfl) rfl rfl (hs) (Nat.le_of_ble_eq_true rfl)) ?_
  refine And.intro (sw_k hW (Nat.le_of_ble_eq_true rfl) rfl) ?_
  refine Exists.intro _ (And.intro (sw_r hW (Nat.le_of_ble_eq_true rfl) rfl rfl) ?_)
  refine And.intro (fun _ => ?_) (fun h9 => absurd (by decide) h9)
  refine And.intro (sw_n hW (Nat.le_of_ble_eq_true rfl) rfl rfl (hs) (Nat.le_of_ble_eq_true rfl)) ?_
  rw [ix (show s < 2147483648 by omega)]
  refine GoF_wp1 20 ?_
  refine And.intro (fun h9 => absurd h9 (by decide)) (fun _ => ?_)
  refine And.intro (fun _ => ?_) (fun h9 => absurd (by decide) h9)
  exact hQ
theorem s_lay3 (hW : SW nx ln R) (hs : s < 5) (hQ : Q (some (.int (I 103 s))) (nx, sl, ln, R, hlF I s 3 x 0)) : Go (k + 3) mX8_lay [.ref 85, .int (nI s), .int 3, .int x] (nx, sl, ln, R, I) Q := by
  refine Go_wp 90 rfl ?_
  refine s_isSlot (fun _ _ _ => ?_) (fun e => absurd rfl (e s hs))
  refine And.intro (fun h9 => absurd h9 (by decide)) (fun _ => ?_)
  refine s_in (fun _ _ => ?_) (fun h => absurd ⟨by decide, by decide⟩ h)
  refine And.intro (fun h9 => absurd h9 (by decide)) (fun _ => ?_)
  refine And.intro (fun _ => ?_) (fun h9 => absurd (by decide) h9)
  refine And.intro (fun _ => ?_) (fun h9 => absurd (by decide) h9)
  refine And.intro (fun _ => ?_) (fun h9 => absurd (by decide) h9)
  refine And.intro (sw_k hW (Nat.le_of_ble_eq_true rfl) rfl) ?_
  refine Exists.intro _ (And.intro (sw_r hW (Nat.le_of_ble_eq_true rfl) rfl rfl) ?_)
  refine And.intro (sw_n hW (Nat.le_of_ble_eq_true rfl) rfl rfl (hs) (Nat.le_of_ble_eq_true rfl)) ?_
  refine And.intro (sw_k hW (Nat.le_of_ble_eq_true rfl) rfl) ?_
  refine Exists.intro _ (And.intro (sw_r hW (Nat.le_of_ble_eq_true rfl) rfl rfl) ?_)
  refine And.intro (sw_n hW (Nat.le_of_ble_eq_true rfl) rfl rfl (hs) (Nat.le_of_ble_eq_true rfl)) ?_
  refine And.intro (sw_k hW (Nat.le_of_ble_eq_true rfl) rfl) ?_
  refine Exists.intro _ (And.intro (sw_r hW (Nat.le_of_ble_eq_true rfl) rfl rfl) ?_)
  refine And.intro (fun _ => ?_) (fun h9 => absurd (by decide) h9)
  refine And.intro (fun _ => ?_) (fun h9 => absurd (by decide) h9)
  refine And.intro (sw_n hW (Nat.le_of_ble_eq_true rfl) rfl rfl (hs) (Nat.le_of_ble_eq_true rfl)) ?_
  refine And.intro (sw_k hW (Nat.le_of_ble_eq_true rfl) rfl) ?_
  refine Exists.intro _ (And.intro (sw_r hW (Nat.le_of_ble_eq_true rfl) rfl rfl) ?_)
  refine And.intro (fun _ => ?_) (fun h9 => absurd (by decide) h9)
  refine And.intro (sw_n hW (Nat.le_of_ble_eq_true rfl) rfl rfl (hs) (Nat.le_of_ble_eq_true rfl)) ?_
  rw [ix (show s < 2147483648 by omega)]
  refine GoF_wp1 20 ?_
  refine And.intro (fun h9 => absurd h9 (by decide)) (fun _ => ?_)
  refine And.intro (fun _ => ?_) (fun h9 => absurd (by decide) h9)
  exact hQ
theorem s_layB {w : Int32} (hs : s < 5) (h0 : ¬ w = 0) (h1 : ¬ w = 1) (h2 : ¬ w = 2) (h3 : ¬ w = 3) (hQ : Q (some (.int (-1000000001))) (nx, sl, ln, R, I)) : Go (k + 3) mX8_lay [.ref 85, .int (nI s), .int w, .int x] (nx, sl, ln, R, I) Q := by
  refine Go_wp 60 rfl ?_
  refine s_isSlot (fun _ _ _ => ?_) (fun e => absurd rfl (e s hs))
  refine And.intro (fun h9 => absurd h9 (by decide)) (fun _ => ?_)
  refine s_isIn (n := 4) rfl (fun i hi e => ?_) (fun _ => ?_)
  · rcases (show i = 0 ∨ i = 1 ∨ i = 2 ∨ i = 3 by omega) with q | q | q | q <;> subst q
    · exact absurd e h0
    · exact absurd e h1
    · exact absurd e h2
    · exact absurd e h3
  · refine And.intro (fun _ => ?_) (fun h9 => absurd rfl h9)
    exact hQ
theorem s_lay1 {n : Nat} {J : Nat → Nat → Int32} {T : Nat → Int32} (hW : SW nx ln R) (hs : s < 5) (hT : T 1 = nI n) (hn : n ≤ 10) (q1 : ∀ j, j < n → x = nI j → Q (some (.int (J 103 s))) (nx, sl, ln, R, nw (hlF J s 1 (T (24 + 5 * j)) (woF T j)) T)) (q0 : (∀ j, j < n → ¬ x = nI j) → Q (some (.int (-1000000001))) (nx, sl, ln, R, nw J T)) : Go (k + 3) mX8_lay [.ref 85, .int (nI s), .int 1, .int x] (nx, sl, ln, R, nw J T) Q := by
  refine Go_wp 90 rfl ?_
  refine s_isSlot (fun _ _ _ => ?_) (fun e => absurd rfl (e s hs))
  refine And.intro (fun h9 => absurd h9 (by decide)) (fun _ => ?_)
  refine s_in (fun _ _ => ?_) (fun h => absurd ⟨by decide, by decide⟩ h)
  refine And.intro (fun h9 => absurd h9 (by decide)) (fun _ => ?_)
  refine And.intro (fun h9 => absurd rfl h9) (fun _ => ?_)
  refine And.intro (sw_k hW (Nat.le_of_ble_eq_true rfl) rfl) ?_
  refine s_isJug (n := n) hW hT hn (fun j hj e => ?_) (fun e => ?_)
  · subst e
    refine And.intro (fun h9 => absurd h9 (by decide)) (fun _ => ?_)
    refine And.intro (fun _ => ?_) (fun h9 => absurd (by decide) h9)
    refine And.intro (fun _ => ?_) (fun h9 => absurd (by decide) h9)
    refine And.intro (sw_k hW (Nat.le_of_ble_eq_true rfl) rfl) ?_
    refine Exists.intro _ (And.intro (sw_r hW (Nat.le_of_ble_eq_true rfl) rfl rfl) ?_)
    refine And.intro (sw_n hW (Nat.le_of_ble_eq_true rfl) rfl rfl (hs) (Nat.le_of_ble_eq_true rfl)) ?_
    refine And.intro (sw_k hW (Nat.le_of_ble_eq_true rfl) rfl) ?_
    refine Exists.intro _ (And.intro (sw_r hW (Nat.le_of_ble_eq_true rfl) rfl rfl) ?_)
    refine And.intro (sw_n hW (Nat.le_of_ble_eq_true rfl) rfl rfl (hs) (Nat.le_of_ble_eq_true rfl)) ?_
    rw [ix (show s < 2147483648 by omega), nw_oth _ _ (by decide)]
    refine And.intro (sw_k hW (Nat.le_of_ble_eq_true rfl) rfl) ?_
    refine Exists.intro _ (And.intro (sw_r hW (Nat.le_of_ble_eq_true rfl) rfl rfl) ?_)
    refine And.intro (fun h9 => absurd rfl h9) (fun _ => ?_)
    refine And.intro (sw_k hW (Nat.le_of_ble_eq_true rfl) rfl) ?_
    refine s_of0 hW (show j < 10 by omega) ?_
    refine And.intro (sw_n hW (Nat.le_of_ble_eq_true rfl) rfl rfl (hs) (Nat.le_of_ble_eq_true rfl)) ?_
    rw [ix (show s < 2147483648 by omega), nw_oth _ _ (by decide)]
    refine And.intro (sw_k hW (Nat.le_of_ble_eq_true rfl) rfl) ?_
    refine Exists.intro _ (And.intro (sw_r hW (Nat.le_of_ble_eq_true rfl) rfl rfl) ?_)
    refine And.intro (fun h9 => absurd rfl h9) (fun _ => ?_)
    refine And.intro (sw_k hW (Nat.le_of_ble_eq_true rfl) rfl) ?_
    refine s_worthOf hW (show j < 10 by omega) ?_
    refine And.intro (sw_n hW (Nat.le_of_ble_eq_true rfl) rfl rfl (hs) (Nat.le_of_ble_eq_true rfl)) ?_
    rw [ix (show s < 2147483648 by omega), nw_oth _ _ (by decide), nwo _ _ (show ¬ 103 = 86 by decide)]
    refine GoF_wp1 20 ?_
    refine And.intro (fun h9 => absurd h9 (by decide)) (fun _ => ?_)
    refine And.intro (fun _ => ?_) (fun h9 => absurd (by decide) h9)
    exact q1 j hj rfl
  · refine And.intro (fun _ => ?_) (fun h9 => absurd rfl h9)
    exact q0 e
theorem l_lay {t : Nat} {h0 : Int32} (hW : SW nx ln R) (hs : s < 5) (ht : t < 4) : ∀ (r i : Nat) (xi : Int32) (I1 : Nat → Nat → Int32), xi = nI i → I1 = up1 I 106 (fun q => if 24 * s ≤ q ∧ q < 24 * s + i then I 102 (24 * t + (q - 24 * s)) else I 106 q) → i + r = 24 → Q (some (.int h0)) (nx, sl, ln, R, up1 I 106 (fun q => if 24 * s ≤ q ∧ q < 24 * s + 24 then I 102 (24 * t + (q - 24 * s)) else I 106 q)) → GoF k mX8_lay 134 [some (.ref 85), some (.int (nI s)), some (.int 2), some (.int (nI t)), some (.int h0), some (.int xi)] [] (nx, sl, ln, R, I1) Q := by
  intro r
  induction r with
  | zero =>
    intro i xi I1 hxi hI hir hQ
    subst hxi
    have hid : i = 24 := by omega
    subst hid
    subst hI
    refine GoF_wp1 40 ?_
    exact And.intro (fun _ => hQ) (fun h => absurd (Int32.le_refl _) h)
  | succ r ih =>
    intro i xi I1 hxi hI hir hQ
    subst hxi
    subst hI
    refine GoF_wp1 40 ?_
    refine And.intro (fun h => absurd h (nI_ge (show i < 24 by omega) (by decide))) (fun _ => ?_)
    refine And.intro (fun h9 => absurd rfl h9) (fun _ => ?_)
    refine And.intro (sw_k hW (Nat.le_of_ble_eq_true rfl) rfl) ?_
    refine Exists.intro _ (And.intro (sw_r hW (Nat.le_of_ble_eq_true rfl) rfl rfl) ?_)
    refine And.intro (sw_k hW (Nat.le_of_ble_eq_true rfl) rfl) ?_
    refine Exists.intro _ (And.intro (sw_r hW (Nat.le_of_ble_eq_true rfl) rfl rfl) ?_)
    refine And.intro (by rw [cx24]; exact sw_n hW (Nat.le_of_ble_eq_true rfl) rfl rfl (show 24 * t + i < 96 by omega) (Nat.le_of_ble_eq_true rfl)) ?_
    refine And.intro (by rw [cx24]; exact sw_n hW (Nat.le_of_ble_eq_true rfl) rfl rfl (show 24 * s + i < 120 by omega) (Nat.le_of_ble_eq_true rfl)) ?_
    rw [cx24, cx24, ix (show 24 * t + i < 2147483648 by omega), ix (show 24 * s + i < 2147483648 by omega)]
    refine ih (i + 1) _ _ (nI_1 i) ?_ (by omega) hQ
    funext q
    by_cases hq : q = 106
    · subst hq
      rw [up2_eq, up1_eq, up1_eq, up1_ne (show ¬ 102 = 106 by decide)]
      funext p
      by_cases hp : p = 24 * s + i
      · subst hp; rw [up1_eq, if_pos (by omega)]; congr 1; omega
      · rw [up1_ne hp]
        by_cases hl : 24 * s ≤ p ∧ p < 24 * s + i
        · rw [if_pos hl, if_pos (by omega)]
        · rw [if_neg hl, if_neg (by omega)]
    · rw [up2_ne hq, up1_ne hq, up1_ne hq]
theorem s_lay2 (hW : SW nx ln R) (hs : s < 5) (hg : ∀ t, t < 4 → I 100 t = -1 ∨ I 100 t = 0 ∨ I 100 t = 1) (q1 : ∀ t, t < 4 → x = nI t → ¬ I 100 t = -1 → Q (some (.int (I 103 s))) (nx, sl, ln, R, up1 (hlF I s 2 (I 101 t) 0) 106 (fun q => if 24 * s ≤ q ∧ q < 24 * s + 24 then I 102 (24 * t + (q - 24 * s)) else I 106 q))) (q2 : ∀ t, t < 4 → x = nI t → I 100 t = -1 → Q (some (.int (-1000000011))) (nx, sl, ln, R, I)) (q0 : (∀ j, j < 4 → ¬ x = nI j) → Q (some (.int (-1000000001))) (nx, sl, ln, R, I)) : Go (k + 3) mX8_lay [.ref 85, .int (nI s), .int 2, .int x] (nx, sl, ln, R, I) Q := by
  refine Go_wp 90 rfl ?_
  refine s_isSlot (fun _ _ _ => ?_) (fun e => absurd rfl (e s hs))
  refine And.intro (fun h9 => absurd h9 (by decide)) (fun _ => ?_)
  refine s_in (fun _ _ => ?_) (fun h => absurd ⟨by decide, by decide⟩ h)
  refine And.intro (fun h9 => absurd h9 (by decide)) (fun _ => ?_)
  refine And.intro (fun _ => ?_) (fun h9 => absurd (by decide) h9)
  refine And.intro (fun h9 => absurd rfl h9) (fun _ => ?_)
  refine s_isSheet (fun t ht e => ?_) (fun e => ?_)
  · subst e
    refine And.intro (fun _ => ?_) (fun h9 => absurd (by decide) h9)
    refine And.intro (fun h9 => absurd rfl h9) (fun _ => ?_)
    refine And.intro (sw_k hW (Nat.le_of_ble_eq_true rfl) rfl) ?_
    refine Exists.intro _ (And.intro (sw_r hW (Nat.le_of_ble_eq_true rfl) rfl rfl) ?_)
    refine And.intro (sw_n hW (Nat.le_of_ble_eq_true rfl) rfl rfl (ht) (Nat.le_of_ble_eq_true rfl)) ?_
    rw [ix (show t < 2147483648 by omega)]
    refine And.intro (fun hc => ?_) (fun hc => ?_)
    · have hc1 : ¬ I 100 t = -1 := fun q => absurd hc (Int32.not_le.mpr ((tI_m1 (hg t ht)).mpr q))
      refine And.intro (sw_k hW (Nat.le_of_ble_eq_true rfl) rfl) ?_
      refine Exists.intro _ (And.intro (sw_r hW (Nat.le_of_ble_eq_true rfl) rfl rfl) ?_)
      refine And.intro (sw_n hW (Nat.le_of_ble_eq_true rfl) rfl rfl (hs) (Nat.le_of_ble_eq_true rfl)) ?_
      refine And.intro (sw_k hW (Nat.le_of_ble_eq_true rfl) rfl) ?_
      refine Exists.intro _ (And.intro (sw_r hW (Nat.le_of_ble_eq_true rfl) rfl rfl) ?_)
      refine And.intro (sw_n hW (Nat.le_of_ble_eq_true rfl) rfl rfl (hs) (Nat.le_of_ble_eq_true rfl)) ?_
      rw [ix (show s < 2147483648 by omega)]
      refine And.intro (sw_k hW (Nat.le_of_ble_eq_true rfl) rfl) ?_
      refine Exists.intro _ (And.intro (sw_r hW (Nat.le_of_ble_eq_true rfl) rfl rfl) ?_)
      refine And.intro (fun _ => ?_) (fun h9 => absurd (by decide) h9)
      refine And.intro (fun h9 => absurd rfl h9) (fun _ => ?_)
      refine And.intro (sw_k hW (Nat.le_of_ble_eq_true rfl) rfl) ?_
      refine Exists.intro _ (And.intro (sw_r hW (Nat.le_of_ble_eq_true rfl) rfl rfl) ?_)
      refine And.intro (sw_n hW (Nat.le_of_ble_eq_true rfl) rfl rfl (ht) (Nat.le_of_ble_eq_true rfl)) ?_
      refine And.intro (sw_n hW (Nat.le_of_ble_eq_true rfl) rfl rfl (hs) (Nat.le_of_ble_eq_true rfl)) ?_
      rw [ix (show s < 2147483648 by omega), ix (show t < 2147483648 by omega)]
      refine And.intro (sw_k hW (Nat.le_of_ble_eq_true rfl) rfl) ?_
      refine Exists.intro _ (And.intro (sw_r hW (Nat.le_of_ble_eq_true rfl) rfl rfl) ?_)
      refine And.intro (fun _ => ?_) (fun h9 => absurd (by decide) h9)
      refine And.intro (sw_n hW (Nat.le_of_ble_eq_true rfl) rfl rfl (hs) (Nat.le_of_ble_eq_true rfl)) ?_
      rw [ix (show s < 2147483648 by omega)]
      refine l_lay (I := hlF I s 2 (I 101 t) 0) hW hs ht 24 0 0 _ rfl ?_ (by omega) ?_
      · rw [show up2 I 103 s 2 101 t = I 101 t by rw [up2_ne (by decide)]]
        funext q
        by_cases hq : q = 106
        · subst hq
          rw [up1_eq]
          funext p
          rw [if_neg (by omega)]
          rfl
        · rw [up1_ne hq]
          rfl
      · exact q1 t ht rfl hc1
    · exact q2 t ht rfl ((tI_m1 (hg t ht)).mp (Int32.not_le.mp hc))
  · refine And.intro (fun h9 => absurd rfl h9) (fun _ => ?_)
    exact q0 e
end Lay2
theorem pub_lay (v w x : Int32) : Pub mX7_lay mX8_lay [.int v, .int w, .int x] := by
  intro k nx sl ln R I hS
  have hW := hS.1
  obtain ⟨n, m, hT, hC, hL, hG, hZ, hZ7, hZ8, -⟩ := id hS.2.1
  have hn := hT.2.1
  by_cases hv : ∃ s, s < 5 ∧ v = nI s
  · obtain ⟨s, hs, rfl⟩ := hv
    have s0 := (hS.2.2.2.2.1 s hs).1
    have hg : ∀ t, t < 4 → I 100 t = -1 ∨ I 100 t = 0 ∨ I 100 t = 1 := fun t ht => (hS.2.2.2.1 t ht).2.1
    by_cases h0 : w = 0
    · subst h0
      refine c_lay0 hW hs ?_
      rw [s0]
      refine ⟨_, rfl, s_lay0 hW hs ?_⟩
      rw [up2_ne (show ¬ 103 = 63 + 4 * s by omega)]
      refine pub_end (sl_new hS hs (fun o h1 h2 => ?_) (fun o h1 h2 t ht => ?_) (fun p hp => ?_) ⟨?_, Or.inl ?_⟩)
      · unfold hlF; rw [up2_ne (by omega), up2_ne (by omega), up2_ne (by omega), up2_ne (by omega)]
      · rcases (show o = 103 ∨ o = 104 ∨ o = 105 by omega) with q | q | q <;> subst q <;> unfold hlF
        · rw [up2_ne (by omega), up2_ne (by omega), up2_eq, up1_ne ht, up2_ne (by omega)]
        · rw [up2_ne (by omega), up2_eq, up1_ne ht, up2_ne (by omega), up2_ne (by omega)]
        · rw [up2_eq, up1_ne ht, up2_ne (by omega), up2_ne (by omega), up2_ne (by omega)]
      · unfold hlF; rw [up2_ne (by omega), up2_ne (by omega), up2_ne (by omega), up2_ne (by omega)]
      · unfold hlF; rw [up2_ne (by omega), up2_ne (by omega), up2_ne (by omega), up2_eq, up1_eq, up2_ne (by omega), up2_ne (by omega), up2_eq, up1_eq]
      · unfold hlF; rw [up2_ne (by omega), up2_ne (by omega), up2_eq, up1_eq]
    · by_cases h1 : w = 1
      · subst h1
        refine c_lay1 (T := I 86) hW hs hC hT.1 hn (fun j hj e => ?_) (fun e => ?_)
        · subst e
          obtain ⟨kd, b, mk, hd, fl, j1, j2, j3, j4, j5, j6, j7, j8, j9, j10, j11⟩ := hT.2.2.1 j hj
          have a1 : I (5 + 2 + j) 0 = nI kd := by rw [hC.2.1 j hj 0 (by decide)]; exact j1
          have a2 : I (5 + 2 + j) 1 = nI b := by rw [hC.2.1 j hj 1 (by decide)]; exact j3
          have a3 : I (5 + 2 + j) 2 = nI mk := by rw [hC.2.1 j hj 2 (by decide)]; exact j6
          rw [s0]
          obtain ⟨I1, hI1⟩ : ∃ I1, up2 (jbF I (64 + 4 * s) (5 + 2 + j)) (63 + 4 * s) 0 1 = I1 := ⟨_, rfl⟩
          have e0 : ∀ o, ¬ o = 63 + 4 * s → ¬ o = 64 + 4 * s → I1 o = I o := fun o p q => by rw [← hI1]; unfold jbF; rw [up2_ne p, up2_ne q, up2_ne q, up2_ne q, up2_ne q, up2_ne q]
          have f0 : I1 (63 + 4 * s) 0 = 1 := by rw [← hI1, up2_eq, up1_eq]
          have f1 : I1 (64 + 4 * s) 0 = nI kd ∧ I1 (64 + 4 * s) 1 = nI b ∧ I1 (64 + 4 * s) 2 = nI mk := by
            rw [← hI1, up2_ne (by omega)]
            unfold jbF
            refine ⟨?_, ?_, ?_⟩
            · rw [up2_eq, up1_ne (by decide), up2_eq, up1_ne (by decide), up2_eq, up1_ne (by decide), up2_eq, up1_ne (by decide), up2_eq, up1_eq]; exact a1
            · rw [up2_eq, up1_ne (by decide), up2_eq, up1_ne (by decide), up2_eq, up1_ne (by decide), up2_eq, up1_eq]; exact a2
            · rw [up2_eq, up1_ne (by decide), up2_eq, up1_ne (by decide), up2_eq, up1_eq]; exact a3
          rw [hI1, ← nw_is (show I1 86 = I 86 from e0 86 (by omega) (by omega))]
          refine ⟨_, rfl, s_lay1 hW hs hT.1 hn (fun j' hj' e' => ?_) (fun h => absurd rfl (h j hj))⟩
          have hjj : j = j' := (nI_eq (by omega) (by omega)).mp e'
          subst hjj
          rw [nw_is (show hlF I1 s 1 (I 86 (24 + 5 * j)) (woF (I 86) j) 86 = I 86 by unfold hlF; rw [up2_ne (by omega), up2_ne (by omega), up2_ne (by omega)]; exact e0 86 (by omega) (by omega)), e0 103 (by omega) (by omega)]
          refine pub_end (sl_new hS hs (fun o h1 h2 => ?_) (fun o h1 h2 t ht => ?_) (fun p hp => ?_) ⟨?_, Or.inr (Or.inl ⟨?_, kd, b, mk, j2, j5, j7, ?_, ?_, ?_, ?_, ?_⟩)⟩)
          · unfold hlF; rw [up2_ne (by omega), up2_ne (by omega), up2_ne (by omega)]; exact e0 o (by omega) (by omega)
          · rcases (show o = 103 ∨ o = 104 ∨ o = 105 by omega) with q | q | q <;> subst q <;> unfold hlF
            · rw [up2_ne (by omega), up2_ne (by omega), up2_eq, up1_ne ht, e0 _ (by omega) (by omega)]
            · rw [up2_ne (by omega), up2_eq, up1_ne ht, up2_ne (by omega), e0 _ (by omega) (by omega)]
            · rw [up2_eq, up1_ne ht, up2_ne (by omega), up2_ne (by omega), e0 _ (by omega) (by omega)]
          · unfold hlF; rw [up2_ne (by omega), up2_ne (by omega), up2_ne (by omega), e0 _ (by omega) (by omega)]
          · unfold hlF; rw [up2_ne (by omega), up2_ne (by omega), up2_ne (by omega), f0, up2_ne (by omega), up2_ne (by omega), up2_eq, up1_eq]
          · unfold hlF; rw [up2_ne (by omega), up2_ne (by omega), up2_eq, up1_eq]
          · unfold hlF; rw [up2_ne (by omega), up2_ne (by omega), up2_ne (by omega)]; exact f1.1
          · unfold hlF; rw [up2_ne (by omega), up2_ne (by omega), up2_ne (by omega)]; exact f1.2.1
          · unfold hlF; rw [up2_ne (by omega), up2_ne (by omega), up2_ne (by omega)]; exact f1.2.2
          · unfold hlF; rw [up2_ne (by omega), up2_eq, up1_eq]; exact j1
          · unfold hlF woF; rw [up2_eq, up1_eq, j1, j3, j6]
        · rw [← nw_self I]
          refine ⟨_, rfl, s_lay1 hW hs hT.1 hn (fun j hj h => absurd h (e j hj)) (fun h => ?_)⟩
          rw [nw_self]
          exact pub_end hS
      · by_cases h2 : w = 2
        · subst h2
          refine c_lay2 hW hs (fun t ht e d => ?_) (fun t ht e d => ?_) (fun e => ?_)
          · subst e
            obtain ⟨c0, c1, ⟨l, l4, c6, c7⟩, c8⟩ := hS.2.2.2.1 t ht
            rw [c0] at d
            rw [s0]
            obtain ⟨I1, hI1⟩ : ∃ I1, up2 (sbF I s t) (63 + 4 * s) 0 2 = I1 := ⟨_, rfl⟩
            have e0 : ∀ o, ¬ o = 63 + 4 * s → ¬ o = 65 + 4 * s → ¬ o = 66 + 4 * s → I1 o = I o := fun o p q r => by rw [← hI1]; unfold sbF; rw [up2_ne p, up1_ne r, up2_ne q, up2_ne q]
            have f0 : I1 (63 + 4 * s) 0 = 2 := by rw [← hI1, up2_eq, up1_eq]
            have f1 : I1 (65 + 4 * s) 1 = nI l := by rw [← hI1]; unfold sbF; rw [up2_ne (by omega), up1_ne (by omega), up2_eq, up1_eq]; exact c6
            have f2 : ∀ i, i < 24 → I1 (66 + 4 * s) i = I 102 (24 * t + i) := fun i hi => by
              rw [← hI1]; unfold sbF; rw [up2_ne (by omega), up1_eq, cp_at hi]; exact c8 i hi
            rw [hI1]
            refine ⟨_, rfl, s_lay2 hW hs (fun t ht => by rw [e0 100 (by omega) (by omega) (by omega)]; exact hg t ht) (fun t' ht' e' d' => ?_) (fun t' ht' e' d' => ?_) (fun h => absurd rfl (h t ht))⟩
            · have htt : t = t' := (nI_eq (by omega) (by omega)).mp e'
              subst htt
              rw [e0 103 (by omega) (by omega) (by omega), e0 101 (by omega) (by omega) (by omega), e0 102 (by omega) (by omega) (by omega), e0 106 (by omega) (by omega) (by omega)]
              refine pub_end (sl_new hS hs (fun o h1 h2 => ?_) (fun o h1 h2 t ht => ?_) (fun p hp => ?_) ⟨?_, Or.inr (Or.inr (Or.inl ⟨?_, l, l4, ?_, ?_, fun i hi => ?_⟩))⟩)
              · unfold hlF; rw [up1_ne (by omega), up2_ne (by omega), up2_ne (by omega), up2_ne (by omega)]; exact e0 o (by omega) (by omega) (by omega)
              · rcases (show o = 103 ∨ o = 104 ∨ o = 105 by omega) with q | q | q <;> subst q <;> unfold hlF
                · rw [up1_ne (by omega), up2_ne (by omega), up2_ne (by omega), up2_eq, up1_ne ht, e0 _ (by omega) (by omega) (by omega)]
                · rw [up1_ne (by omega), up2_ne (by omega), up2_eq, up1_ne ht, up2_ne (by omega), e0 _ (by omega) (by omega) (by omega)]
                · rw [up1_ne (by omega), up2_eq, up1_ne ht, up2_ne (by omega), up2_ne (by omega), e0 _ (by omega) (by omega) (by omega)]
              · rw [up1_eq, if_neg (by omega)]
              · unfold hlF; rw [up1_ne (by omega), up2_ne (by omega), up2_ne (by omega), up2_ne (by omega), f0, up1_ne (by omega), up2_ne (by omega), up2_ne (by omega), up2_eq, up1_eq]
              · unfold hlF; rw [up1_ne (by omega), up2_ne (by omega), up2_ne (by omega), up2_eq, up1_eq]
              · unfold hlF; rw [up1_ne (by omega), up2_ne (by omega), up2_ne (by omega), up2_ne (by omega)]; exact f1
              · unfold hlF; rw [up1_ne (by omega), up2_ne (by omega), up2_eq, up1_eq]; exact c7
              · unfold hlF; rw [up1_ne (by omega), up2_ne (by omega), up2_ne (by omega), up2_ne (by omega), f2 i hi, up1_eq, if_pos (by omega)]; congr 1; omega
            · have htt : t = t' := (nI_eq (by omega) (by omega)).mp e'
              subst htt
              rw [e0 100 (by omega) (by omega) (by omega)] at d'
              exact absurd d' d
          · subst e
            rw [(hS.2.2.2.1 t ht).1] at d
            refine ⟨_, rfl, s_lay2 hW hs hg (fun t' ht' e' d' => ?_) (fun t' ht' e' d' => pub_end hS) (fun h => absurd rfl (h t ht))⟩
            have htt : t = t' := (nI_eq (by omega) (by omega)).mp e'
            subst htt
            exact absurd d d'
          · exact ⟨_, rfl, s_lay2 hW hs hg (fun t' ht' e' d' => absurd e' (e t' ht')) (fun t' ht' e' d' => absurd e' (e t' ht')) (fun h => pub_end hS)⟩
        · by_cases h3 : w = 3
          · subst h3
            refine c_lay3 hW hs ?_
            rw [s0]
            refine ⟨_, rfl, s_lay3 hW hs ?_⟩
            rw [up2_ne (show ¬ 103 = 63 + 4 * s by omega), up2_ne (show ¬ 103 = 63 + 4 * s by omega)]
            refine pub_end (sl_new hS hs (fun o h1 h2 => ?_) (fun o h1 h2 t ht => ?_) (fun p hp => ?_) ⟨?_, Or.inr (Or.inr (Or.inr ⟨?_, ?_⟩))⟩)
            · unfold hlF; rw [up2_ne (by omega), up2_ne (by omega), up2_ne (by omega), up2_ne (by omega), up2_ne (by omega)]
            · rcases (show o = 103 ∨ o = 104 ∨ o = 105 by omega) with q | q | q <;> subst q <;> unfold hlF
              · rw [up2_ne (by omega), up2_ne (by omega), up2_eq, up1_ne ht, up2_ne (by omega), up2_ne (by omega)]
              · rw [up2_ne (by omega), up2_eq, up1_ne ht, up2_ne (by omega), up2_ne (by omega), up2_ne (by omega)]
              · rw [up2_eq, up1_ne ht, up2_ne (by omega), up2_ne (by omega), up2_ne (by omega), up2_ne (by omega)]
            · unfold hlF; rw [up2_ne (by omega), up2_ne (by omega), up2_ne (by omega), up2_ne (by omega), up2_ne (by omega)]
            · unfold hlF; rw [up2_ne (by omega), up2_ne (by omega), up2_ne (by omega), up2_eq, up1_eq, up2_ne (by omega), up2_ne (by omega), up2_eq, up1_eq]
            · unfold hlF; rw [up2_ne (by omega), up2_ne (by omega), up2_eq, up1_eq]
            · unfold hlF; rw [up2_ne (by omega), up2_ne (by omega), up2_ne (by omega), up2_eq, up1_ne (by decide), up2_eq, up1_eq, up2_ne (by omega), up2_eq, up1_eq]
          · exact c_layB hW hs h0 h1 h2 h3 ⟨_, rfl, s_layB hs h0 h1 h2 h3 (pub_end hS)⟩
  · refine Go_wp 60 rfl ?_
    refine c_isSlot (fun i hi e => absurd ⟨i, hi, e⟩ hv) (fun _ => ?_)
    refine And.intro (fun h9 => absurd rfl h9) (fun _ => ?_)
    refine ⟨_, rfl, ?_⟩
    refine Go_wp 60 rfl ?_
    refine s_isSlot (fun i hi e => absurd ⟨i, hi, e⟩ hv) (fun _ => ?_)
    refine And.intro (fun _ => ?_) (fun h9 => absurd rfl h9)
    exact pub_end hS
