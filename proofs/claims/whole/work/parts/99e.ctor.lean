/-! Nothing is written past an array's length or an object's fields, nor where no object is. -/
def Bz (h : Hp) : Prop := (∀ o k, 40 ≤ k → ((KD o ≤ 12 ∨ gL h o ≤ k) → gR h o k = none) ∧ (gL h o ≤ k → gI h o k = 0)) ∧ ∀ o k, h.1 ≤ o → gR h o k = none ∧ gI h o k = 0
theorem chk_some {c : Prop} {i : Decidable c} {b : Rs} {x : Option Value × Hp} (h : chkO c i b = some x) : c ∧ b = some x := by
  by_cases hc : c
  · simp only [chkO, if_pos hc] at h; exact ⟨hc, h⟩
  · simp only [chkO, if_neg hc] at h; cases h
theorem br_some {c : Prop} {i : Decidable c} {a b : Rs} {x : Option Value × Hp} (h : brO c i a b = some x) : a = some x ∨ b = some x := by
  by_cases hc : c
  · simp only [brO, if_pos hc] at h; exact Or.inl h
  · simp only [brO, if_neg hc] at h; exact Or.inr h
theorem cond_some {b : Bool} {y : Rs} {x : Option Value × Hp} (h : cond b y none = some x) : b = true ∧ y = some x := by
  cases b
  · cases h
  · exact ⟨rfl, h⟩
theorem nF_le (a : Nat) : nF a ≤ 36 := by
  unfold nF
  cases Nat.beq a 0 <;> cases Nat.beq a 1 <;> cases Nat.beq a 2 <;> cases Nat.beq a 3 <;> cases Nat.beq a 4 <;> cases Nat.beq a 5 <;> cases Nat.beq a 6 <;> cases Nat.beq a 7 <;> decide
theorem ok6 {m pc s0 np a b cc d e0 : Nat} {x : Int32} {sw : List (Int32 × Nat)} {fl : Bool} (hok : okI m pc (6, s0, np, a, b, cc, d, e0, x, sw, fl) = true) (hs : 2 ≤ s0 ∧ s0 ≤ 5) : b < 40 := by
  obtain ⟨-, -, ha⟩ := hd_of hok (show ¬ (6 : Nat) = 99 by decide)
  have h36 := nF_le a
  rcases (show s0 = 2 ∨ s0 = 3 ∨ s0 = 4 ∨ s0 = 5 by omega) with rfl | rfl | rfl | rfl
  all_goals
    simp only [okA, Bool.and_eq_true] at ha
    have hb : b < nF a := by
      first
        | exact Nat.le_of_ble_eq_true ha.1.1.1.1.2
        | exact Nat.le_of_ble_eq_true ha.1.1.1.1.1.2
        | exact Nat.le_of_ble_eq_true ha.1.1.1.1.1.1.2
        | exact Nat.le_of_ble_eq_true ha.1.1.1.2
        | exact Nat.le_of_ble_eq_true ha.1.1.2
        | exact Nat.le_of_ble_eq_true ha.1.1.1.1.1.1.1.2
        | exact Nat.le_of_ble_eq_true ha.1.1.1.1.1.1.1.1.2
    omega
theorem Bz.putI {nx sl o b : Nat} {ln : Nat → Nat} {R : Nat → Nat → Option Nat} {I : Nat → Nat → Int32} {v : Int32} (h : Bz (nx, sl, ln, R, I)) (ho : o < nx) (hb : b < 40 ∨ b < ln o) : Bz (nx, sl, ln, R, up2 I o b v) := by
  refine ⟨fun q k hk => ⟨(h.1 q k hk).1, fun (hq : ln q ≤ k) => ?_⟩, fun q k (hq : nx ≤ q) => ⟨(h.2 q k hq).1, ?_⟩⟩
  · show up2 I o b v q k = 0
    by_cases e : q = o
    · subst e
      rw [up2_eq, up1_ne (by omega)]
      exact (h.1 q k hk).2 hq
    · rw [up2_ne e]
      exact (h.1 q k hk).2 hq
  · show up2 I o b v q k = 0
    rw [up2_ne (by omega)]
    exact (h.2 q k hq).2
theorem Bz.putR {nx sl o b : Nat} {ln : Nat → Nat} {R : Nat → Nat → Option Nat} {I : Nat → Nat → Int32} {v : Option Nat} (h : Bz (nx, sl, ln, R, I)) (ho : o < nx) (hb : b < 40 ∨ (12 < KD o ∧ b < ln o)) : Bz (nx, sl, ln, up2 R o b v, I) := by
  refine ⟨fun q k hk => ⟨fun (hq : KD q ≤ 12 ∨ ln q ≤ k) => ?_, (h.1 q k hk).2⟩, fun q k (hq : nx ≤ q) => ⟨?_, (h.2 q k hq).2⟩⟩
  · show up2 R o b v q k = none
    by_cases e : q = o
    · subst e
      rw [up2_eq, up1_ne (by omega)]
      exact (h.1 q k hk).1 hq
    · rw [up2_ne e]
      exact (h.1 q k hk).1 hq
  · show up2 R o b v q k = none
    rw [up2_ne (by omega)]
    exact (h.2 q k hq).1
theorem Bz.new {nx sl sl' n : Nat} {ln ln' : Nat → Nat} {R R' : Nat → Nat → Option Nat} {I I' : Nat → Nat → Int32} (h : Bz (nx, sl, ln, R, I)) (h1 : ∀ o, ¬ o = nx → ln' o = ln o ∧ R' o = R o ∧ I' o = I o) (h2 : ∀ k, R' nx k = none ∧ I' nx k = 0) : Bz (nx + 1, sl', ln', R', I') := by
  refine ⟨fun q k hk => ?_, fun q k (hq : nx + 1 ≤ q) => ?_⟩
  · by_cases e : q = nx
    · subst e
      exact ⟨fun _ => (h2 k).1, fun _ => (h2 k).2⟩
    · obtain ⟨a, b, c⟩ := h1 q e
      show ((KD q ≤ 12 ∨ ln' q ≤ k) → R' q k = none) ∧ (ln' q ≤ k → I' q k = 0)
      rw [a, b, c]
      exact h.1 q k hk
  · obtain ⟨a, b, c⟩ := h1 q (by omega)
    show R' q k = none ∧ I' q k = 0
    rw [b, c]
    exact h.2 q k (Nat.le_of_succ_le hq)
theorem Bz.cpy {nx sl o d sp dp n : Nat} {ln : Nat → Nat} {R : Nat → Nat → Option Nat} {I : Nat → Nat → Int32} (h : Bz (nx, sl, ln, R, I)) (ho : d < nx) (hb : dp + n ≤ ln d) : Bz (nx, sl, ln, R, up1 I d (va_cpy (I o) (I d) sp dp n)) := by
  refine ⟨fun q k hk => ⟨(h.1 q k hk).1, fun (hq : ln q ≤ k) => ?_⟩, fun q k (hq : nx ≤ q) => ⟨(h.2 q k hq).1, ?_⟩⟩
  · show up1 I d (va_cpy (I o) (I d) sp dp n) q k = 0
    by_cases e : q = d
    · subst e
      rw [up1_eq, pk_cpy_out (by omega)]
      exact (h.1 q k hk).2 hq
    · rw [up1_ne e]
      exact (h.1 q k hk).2 hq
  · show up1 I d (va_cpy (I o) (I d) sp dp n) q k = 0
    rw [up1_ne (by omega)]
    exact (h.2 q k hq).2
set_option maxHeartbeats 4000000 in
theorem run_bz : ∀ (n k m pc : Nat) (L : List (Option Value)) (S : List Value) (h : Hp) (x : Option Value × Hp), run n k m pc L S h = some x → Bz h → Bz x.2 := by
  intro n
  induction n with
  | zero => intro k m pc L S h x hx; cases hx
  | succ n ih =>
    intro k m pc L S h x hx hB
    rw [run] at hx
    cases hc : cd m pc with
    | none => rw [hc] at hx; cases hx
    | some ai =>
      rw [hc] at hx
      have hok := okCd m pc ai hc
      obtain ⟨g, s0, np, a, b, cc, d, e0, x0, sw, fl⟩ := ai
      unfold stp at hx
      dsimp only at hx
      split at hx
      · unfold stp0 at hx
        split at hx
        all_goals first
          | exact ih _ _ _ _ _ _ _ hx hB
          | (obtain ⟨v, h1, h2⟩ := lk_some hx
             cases v <;> first | (cases h2; done) | exact ih _ _ _ _ _ _ _ h2 hB)
          | cases hx
      · unfold stp1 at hx
        split at hx
        all_goals first
          | exact ih _ _ _ _ _ _ _ hx hB
          | exact ih _ _ _ _ _ _ _ (stL_some hx).2 hB
          | (obtain ⟨v, h1, h2⟩ := lk_some hx
             cases v <;> first | (cases h2; done) | exact ih _ _ _ _ _ _ _ (stL_some h2).2 hB)
          | cases hx
      · unfold stp2 at hx
        split at hx
        all_goals first
          | exact ih _ _ _ _ _ _ _ hx hB
          | exact ih _ _ _ _ _ _ _ (chk_some hx).2 hB
          | cases hx
      · unfold stp3 at hx
        split at hx
        all_goals first
          | exact ih _ _ _ _ _ _ _ hx hB
          | (rw [swF_O] at hx; exact ih _ _ _ _ _ _ _ hx hB)
          | exact ih _ _ _ _ _ _ _ (cond_some hx).2 hB
          | cases hx
      · unfold stp4 at hx
        split at hx
        all_goals first
          | (rcases br_some hx with q | q <;> exact ih _ _ _ _ _ _ _ q hB)
          | cases hx
      · unfold stp5 at hx
        split at hx
        all_goals first
          | (rcases br_some hx with q | q <;> exact ih _ _ _ _ _ _ _ q hB)
          | cases hx
      · obtain ⟨nx, sl, ln, Rr, I⟩ := h
        unfold stp6 at hx
        dsimp only at hx
        split at hx
        · exact ih _ _ _ _ _ _ _ (chk_some hx).2 hB
        · exact ih _ _ _ _ _ _ _ (chk_some hx).2 hB
        · obtain ⟨q1, q2⟩ := chk_some hx
          exact ih _ _ _ _ _ _ _ q2 (hB.putI q1.2 (Or.inl (ok6 hok (by decide))))
        · obtain ⟨q1, q2⟩ := chk_some hx
          exact ih _ _ _ _ _ _ _ q2 (hB.putI q1.1.2 (Or.inl (ok6 hok (by decide))))
        · obtain ⟨q1, q2⟩ := chk_some hx
          exact ih _ _ _ _ _ _ _ q2 (hB.putI q1.2 (Or.inl (ok6 hok (by decide))))
        · obtain ⟨q1, q2⟩ := chk_some hx
          exact ih _ _ _ _ _ _ _ q2 (hB.putR q1.2 (Or.inl (ok6 hok (by decide))))
        · cases hx
      · obtain ⟨nx, sl, ln, Rr, I⟩ := h
        unfold stp7 at hx
        dsimp only at hx
        split at hx
        all_goals first
          | exact ih _ _ _ _ _ _ _ (chk_some hx).2 hB
          | (obtain ⟨q1, q2⟩ := chk_some hx
             exact ih _ _ _ _ _ _ _ q2 (hB.putI q1.1.2 (Or.inr q1.2.2)))
          | (obtain ⟨q1, q2⟩ := chk_some hx
             exact ih _ _ _ _ _ _ _ q2 (hB.putR q1.1.1.2.2 (Or.inr ⟨q1.1.1.1, q1.1.2.2⟩)))
          | cases hx
      · obtain ⟨nx, sl, ln, Rr, I⟩ := h
        unfold stp8 at hx
        dsimp only at hx
        split at hx
        · exact ih _ _ _ _ _ _ _ (chk_some hx).2 hB
        · obtain ⟨q1, q2⟩ := chk_some hx
          exact ih _ _ _ _ _ _ _ q2 (hB.new (n := 0) (fun o ho => ⟨up1_ne ho, rfl, up1_ne ho⟩) (fun k => ⟨(hB.2 nx k (Nat.le_refl _)).1, by rw [up1_eq]⟩))
        · obtain ⟨q1, q2⟩ := chk_some hx
          exact ih _ _ _ _ _ _ _ q2 (hB.new (n := 0) (fun o ho => ⟨up1_ne ho, up1_ne ho, rfl⟩) (fun k => ⟨by rw [up1_eq], (hB.2 nx k (Nat.le_refl _)).2⟩))
        · obtain ⟨q1, q2⟩ := chk_some hx
          exact ih _ _ _ _ _ _ _ q2 (hB.new (n := 0) (fun o ho => ⟨rfl, up1_ne ho, up1_ne ho⟩) (fun k => ⟨by rw [up1_eq], by rw [up1_eq]⟩))
        · obtain ⟨q1, q2⟩ := chk_some (cond_some hx).2
          exact ih _ _ _ _ _ _ _ q2 (hB.cpy q1.2.1.2 q1.2.2.2.2.2.2)
        · cases hx; exact hB
        · obtain ⟨q1, q2⟩ := chk_some hx
          cases q2; exact hB
        · cases hx; exact hB
        · cases hx; exact hB
        · cases hx
      · have hcl : ∀ (a : Nat) (as : List Value) (f : Option Value → Hp → Rs), callO k (fun k' a as h' => run n k' a 0 (ent a as) [] h') a as h f = some x → ∃ r h1, Bz h1 ∧ f r h1 = some x := by
          intro a as f hq
          obtain ⟨k', r1, h1, -, h2, h3⟩ := callO_some hq
          cases hp : isP a with
          | true =>
            rw [hp] at h2
            have e := prm_heap h2
            subst e
            exact ⟨r1, h1, hB, h3⟩
          | false =>
            rw [hp] at h2
            exact ⟨r1, h1, ih _ _ _ _ _ _ _ h2 hB, h3⟩
        unfold stp9 at hx
        split at hx
        · obtain ⟨r, h1, b1, b2⟩ := hcl _ _ _ (cond_some hx).2
          exact ih _ _ _ _ _ _ _ b2 b1
        · obtain ⟨r, h1, b1, b2⟩ := hcl _ _ _ (cond_some hx).2
          exact ih _ _ _ _ _ _ _ b2 b1
        · split at hx
          · obtain ⟨r, h1, b1, b2⟩ := hcl _ _ _ (chk_some (cond_some hx).2).2
            exact ih _ _ _ _ _ _ _ b2 b1
          · cases hx
        · split at hx
          · obtain ⟨r, h1, b1, b2⟩ := hcl _ _ _ (cond_some hx).2
            exact ih _ _ _ _ _ _ _ b2 b1
          · cases hx
        · split at hx
          · obtain ⟨r, h1, b1, b2⟩ := hcl _ _ _ (cond_some hx).2
            exact ih _ _ _ _ _ _ _ b2 b1
          · cases hx
        · split at hx
          · exact ih _ _ _ _ _ _ _ (cond_some hx).2 hB
          · cases hx
        · cases hx
      · cases hx
