/-! More fuel does no harm; a run makes no fewer objects; what wp asks is enough. -/
theorem prm_heap {m : Nat} {as : List Value} {h : Hp} {r : Option Value} {h' : Hp} (hq : prm m as h = some (r, h')) : h' = h := by
  revert hq; unfold prm; intro hq
  repeat' split at hq
  all_goals first | (cases hq; rfl) | cases hq
set_option maxHeartbeats 1000000 in
theorem run_grow : ∀ (n k m pc : Nat) (L : List (Option Value)) (S : List Value) (h : Hp) (x : Option Value × Hp), run n k m pc L S h = some x → h.1 ≤ x.2.1 ∧ h.2.1 ≤ x.2.2.1 := by
  intro n
  induction n with
  | zero => intro k m pc L S h x hx; cases hx
  | succ n ih =>
    intro k m pc L S h x hx
    rw [run] at hx
    cases hc : cd m pc with
    | none => rw [hc] at hx; cases hx
    | some ai =>
      rw [hc] at hx
      refine stp_rel (γ := Unit) (fun (a : Rs) _ => ∀ x, a = some x → h.1 ≤ x.2.1 ∧ h.2.1 ≤ x.2.2.1) chkO brO bndO _ _ _ none (fun _ _ b => b) (fun _ _ a _ => a) (fun _ _ => ()) (fun _ _ _ _ => ()) (fun _ _ _ _ => ()) (fun _ _ => ()) () k ai L S h ?_ ?_ ?_ ?_ ?_ ?_ ?_ x hx
      · intro c i b b' hb x h1
        by_cases hcc : c
        · simp only [chkO, if_pos hcc] at h1; exact hb hcc x h1
        · simp only [chkO, if_neg hcc] at h1; cases h1
      · intro c i a b a' b' ha hb x h1
        by_cases hcc : c
        · simp only [brO, if_pos hcc] at h1; exact ha hcc x h1
        · simp only [brO, if_neg hcc] at h1; exact hb hcc x h1
      · intro v f f' hf x h1; exact hf v rfl x h1
      · intro pc L S h' e1 e2 x h1
        obtain ⟨g1, g2⟩ := ih k m pc L S h' x h1
        exact ⟨Nat.le_trans e1 g1, Nat.le_trans e2 g2⟩
      · intro a as f f' hf x h1
        cases k with
        | zero => cases h1
        | succ k' =>
          simp only [callO] at h1
          cases hp : isP a with
          | true =>
            simp only [hp, cond_true] at h1
            cases hq : prm a as h with
            | none => rw [hq] at h1; cases h1
            | some y =>
              rw [hq] at h1
              obtain ⟨r, h'⟩ := y
              have := prm_heap hq
              subst this
              exact hf r h' (Nat.le_refl _) (Nat.le_refl _) x h1
          | false =>
            simp only [hp, cond_false] at h1
            cases hq : run n k' a 0 (ent a as) [] h with
            | none => rw [hq] at h1; cases h1
            | some y =>
              rw [hq] at h1
              obtain ⟨g1, g2⟩ := ih _ _ _ _ _ _ _ hq
              exact hf y.1 y.2 g1 g2 x h1
      · intro r x h1; cases h1; exact ⟨Nat.le_refl _, Nat.le_refl _⟩
      · intro x h1; cases h1
set_option maxHeartbeats 1000000 in
theorem run_succ : ∀ (n k m pc : Nat) (L : List (Option Value)) (S : List Value) (h : Hp) (x : Option Value × Hp), run n k m pc L S h = some x → run (n + 1) k m pc L S h = some x := by
  intro n
  induction n with
  | zero => intro k m pc L S h x hx; cases hx
  | succ n ih =>
    intro k m pc L S h x hx
    rw [run] at hx ⊢
    cases hc : cd m pc with
    | none => rw [hc] at hx; cases hx
    | some ai =>
      rw [hc] at hx
      refine stp_rel (fun (a b : Rs) => ∀ x, a = some x → b = some x) chkO brO bndO _ _ _ none chkO brO bndO _ _ _ none k ai L S h ?_ ?_ ?_ ?_ ?_ ?_ ?_ x hx
      · intro c i b b' hb x h1
        by_cases hcc : c
        · simp only [chkO, if_pos hcc] at h1 ⊢; exact hb hcc x h1
        · simp only [chkO, if_neg hcc] at h1; cases h1
      · intro c i a b a' b' ha hb x h1
        by_cases hcc : c
        · simp only [brO, if_pos hcc] at h1 ⊢; exact ha hcc x h1
        · simp only [brO, if_neg hcc] at h1 ⊢; exact hb hcc x h1
      · intro v f f' hf x h1; exact hf v rfl x h1
      · intro pc L S h' _ _ x h1; exact ih k m pc L S h' x h1
      · intro a as f f' hf x h1
        cases k with
        | zero => cases h1
        | succ k' =>
          simp only [callO] at h1 ⊢
          cases hp : isP a with
          | true =>
            simp only [hp, cond_true] at h1 ⊢
            cases hq : prm a as h with
            | none => rw [hq] at h1; cases h1
            | some y =>
              rw [hq] at h1
              obtain ⟨r, h'⟩ := y
              have := prm_heap hq
              subst this
              exact hf r h' (Nat.le_refl _) (Nat.le_refl _) x h1
          | false =>
            simp only [hp, cond_false] at h1 ⊢
            cases hq : run n k' a 0 (ent a as) [] h with
            | none => rw [hq] at h1; cases h1
            | some y =>
              rw [hq] at h1
              rw [ih _ _ _ _ _ _ _ hq]
              obtain ⟨g1, g2⟩ := run_grow _ _ _ _ _ _ _ _ hq
              exact hf y.1 y.2 g1 g2 x h1
      · intro r x h1; exact h1
      · intro x h1; cases h1
theorem run_le {n n' k m pc : Nat} {L : List (Option Value)} {S : List Value} {h : Hp} {x : Option Value × Hp} (hn : n ≤ n') (hr : run n k m pc L S h = some x) : run n' k m pc L S h = some x := by
  induction n' with
  | zero => rw [Nat.le_zero.mp hn] at hr; exact hr
  | succ n' ih =>
    rcases Nat.lt_or_ge n (n' + 1) with q | q
    · exact run_succ _ _ _ _ _ _ _ _ (ih (Nat.le_of_lt_succ q))
    · rw [Nat.le_antisymm hn q] at hr; exact hr
abbrev Rn : Type := Nat → Rs
def chkN (c : Prop) (i : Decidable c) (b : Rn) : Rn := fun n => chkO c i (b n)
def brN (c : Prop) (i : Decidable c) (a b : Rn) : Rn := fun n => brO c i (a n) (b n)
def bndN (v : Value) (f : Value → Rn) : Rn := fun n => f v n
def callN (k a : Nat) (as : List Value) (h : Hp) (f : Option Value → Hp → Rn) : Rn := fun n => callO k (fun k' a as h' => run n k' a 0 (ent a as) [] h') a as h (fun r h' => f r h' n)
theorem stp_at (n k m : Nat) (ai : AI) (L : List (Option Value)) (S : List Value) (h : Hp) : stp chkN brN bndN (fun pc' L' S' h' n => run n k m pc' L' S' h') (callN k) (fun r h' _ => some (r, h')) (fun _ => none) k ai L S h n = stp chkO brO bndO (fun pc' L' S' h' => run n k m pc' L' S' h') (callO k (fun k' a as h' => run n k' a 0 (ent a as) [] h')) (fun r h' => some (r, h')) none k ai L S h := by
  refine stp_rel (β := Rn) (γ := Rs) (fun a b => a n = b) chkN brN bndN _ _ _ _ chkO brO bndO _ _ _ _ k ai L S h ?_ ?_ ?_ ?_ ?_ ?_ ?_
  · intro c i b b' hb
    by_cases hcc : c
    · simp only [chkN, chkO, if_pos hcc]; exact hb hcc
    · simp only [chkN, chkO, if_neg hcc]
  · intro c i a b a' b' ha hb
    by_cases hcc : c
    · simp only [brN, brO, if_pos hcc]; exact ha hcc
    · simp only [brN, brO, if_neg hcc]; exact hb hcc
  · intro v f f' hf; exact hf v rfl
  · intro pc L S h' _ _; rfl
  · intro a as f f' hf
    show callO _ _ _ _ _ _ = callO _ _ _ _ _ _
    cases k with
    | zero => rfl
    | succ k' =>
      simp only [callO]
      cases hp : isP a with
      | true =>
        simp only [cond_true]
        cases hq : prm a as h with
        | none => rfl
        | some y =>
          obtain ⟨r, h'⟩ := y
          have := prm_heap hq
          subst this
          exact hf r h' (Nat.le_refl _) (Nat.le_refl _)
      | false =>
        simp only [cond_false]
        cases hq : run n k' a 0 (ent a as) [] h with
        | none => rfl
        | some y =>
          obtain ⟨g1, g2⟩ := run_grow _ _ _ _ _ _ _ _ hq
          exact hf y.1 y.2 g1 g2
  · intro r; rfl
  · rfl
set_option maxHeartbeats 1000000 in
theorem stp_wp {k m : Nat} {Q : Option Value → Hp → Prop} (ai : AI) (L : List (Option Value)) (S : List Value) (h : Hp) (go : Nat → List (Option Value) → List Value → Hp → Prop)
    (hgo : ∀ pc L S h, go pc L S h → ∃ N x, (∀ j, N ≤ j → run j k m pc L S h = some x) ∧ Q x.1 x.2)
    (hw : stp chkP brP bndP go (callP k) Q False k ai L S h) : ∃ N x, (∀ j, N ≤ j → stp chkO brO bndO (fun pc' L' S' h' => run j k m pc' L' S' h') (callO k (fun k' a as h' => run j k' a 0 (ent a as) [] h')) (fun r h' => some (r, h')) none k ai L S h = some x) ∧ Q x.1 x.2 := by
  have key : ∃ N x, (∀ j, N ≤ j → stp chkN brN bndN (fun pc' L' S' h' n => run n k m pc' L' S' h') (callN k) (fun r h' _ => some (r, h')) (fun _ => none) k ai L S h j = some x) ∧ Q x.1 x.2 := by
    refine stp_rel (β := Prop) (γ := Rn) (fun P o => P → ∃ N x, (∀ j, N ≤ j → o j = some x) ∧ Q x.1 x.2) chkP brP bndP _ _ _ _ chkN brN bndN _ _ _ _ k ai L S h ?_ ?_ ?_ ?_ ?_ ?_ ?_ hw
    · intro c i b b' hb h1
      obtain ⟨hcc, h1⟩ := h1
      obtain ⟨N, x, h2, h3⟩ := hb hcc h1
      exact ⟨N, x, fun j hj => by simp only [chkN, chkO, if_pos hcc]; exact h2 j hj, h3⟩
    · intro c i a b a' b' ha hb h1
      by_cases hcc : c
      · obtain ⟨N, x, h2, h3⟩ := ha hcc (h1.1 hcc)
        exact ⟨N, x, fun j hj => by simp only [brN, brO, if_pos hcc]; exact h2 j hj, h3⟩
      · obtain ⟨N, x, h2, h3⟩ := hb hcc (h1.2 hcc)
        exact ⟨N, x, fun j hj => by simp only [brN, brO, if_neg hcc]; exact h2 j hj, h3⟩
    · intro v f f' hf h1
      obtain ⟨w, hw, h1⟩ := h1
      obtain ⟨N, x, h2, h3⟩ := hf w hw h1
      exact ⟨N, x, fun j hj => by simp only [bndN]; rw [hw]; exact h2 j hj, h3⟩
    · intro pc L S h' _ _ h1; exact hgo pc L S h' h1
    · intro a as f f' hf h1
      cases k with
      | zero => exact h1.elim
      | succ k' =>
        obtain ⟨n, r, h', h2, h3⟩ := h1
        cases hp : isP a with
        | true =>
          simp only [hp, cond_true] at h2
          have := prm_heap h2
          subst this
          obtain ⟨N, x, h4, h5⟩ := hf r h' (Nat.le_refl _) (Nat.le_refl _) h3
          exact ⟨N, x, fun j hj => by simp only [callN, callO, hp, cond_true, h2]; exact h4 j hj, h5⟩
        | false =>
          simp only [hp, cond_false] at h2
          obtain ⟨g1, g2⟩ := run_grow _ _ _ _ _ _ _ _ h2
          obtain ⟨N, x, h4, h5⟩ := hf r h' g1 g2 h3
          exact ⟨max n N, x, fun j hj => by
            simp only [callN, callO, hp, cond_false, run_le (Nat.le_trans (Nat.le_max_left n N) hj) h2]
            exact h4 j (Nat.le_trans (Nat.le_max_right n N) hj), h5⟩
    · intro r h1; exact ⟨0, (r, h), fun _ _ => rfl, h1⟩
    · intro h1; exact h1.elim
  obtain ⟨N, x, h1, h2⟩ := key
  exact ⟨N, x, fun j hj => by rw [← stp_at]; exact h1 j hj, h2⟩
theorem wp_run : ∀ (n k m pc : Nat) (L : List (Option Value)) (S : List Value) (h : Hp) (Q : Option Value → Hp → Prop), wp n k m pc L S h Q → ∃ N x, (∀ j, N ≤ j → run j k m pc L S h = some x) ∧ Q x.1 x.2 := by
  intro n
  induction n with
  | zero =>
    intro k m pc L S h Q hw
    obtain ⟨n, r, h', h1, h2⟩ := hw
    exact ⟨n, (r, h'), fun j hj => run_le hj h1, h2⟩
  | succ n ih =>
    intro k m pc L S h Q hw
    rw [wp] at hw
    cases hc : cd m pc with
    | none => rw [hc] at hw; exact hw.elim
    | some ai =>
      rw [hc] at hw
      cases hf : flg ai with
      | true =>
        simp only [hf, cond_true] at hw
        obtain ⟨n, r, h', h1, h2⟩ := hw
        exact ⟨n, (r, h'), fun j hj => run_le hj h1, h2⟩
      | false =>
        simp only [hf, cond_false] at hw
        obtain ⟨N, x, h1, h2⟩ := stp_wp ai L S h _ (fun pc L S h h1 => ih k m pc L S h Q h1) hw
        refine ⟨N + 1, x, fun j hj => ?_, h2⟩
        obtain ⟨j', rfl⟩ : ∃ j', j = j' + 1 := ⟨j - 1, by omega⟩
        rw [run, hc]
        exact h1 j' (by omega)
/-- from a frame -/
theorem GoF_wp {n k m pc : Nat} {L : List (Option Value)} {S : List Value} {h : Hp} {Q : Option Value → Hp → Prop} (hw : wp n k m pc L S h Q) : GoF k m pc L S h Q := by
  obtain ⟨N, x, h1, h2⟩ := wp_run _ _ _ _ _ _ _ _ hw
  exact ⟨N, x.1, x.2, h1 N (Nat.le_refl _), h2⟩
/-- from a loop head -/
theorem GoF_wp1 (n : Nat) {k m pc : Nat} {L : List (Option Value)} {S : List Value} {h : Hp} {Q : Option Value → Hp → Prop} (hw : wp1 n k m pc L S h Q) : GoF k m pc L S h Q := by
  unfold wp1 at hw
  cases hc : cd m pc with
  | none => rw [hc] at hw; exact hw.elim
  | some ai =>
    rw [hc] at hw
    obtain ⟨N, x, h1, h2⟩ := stp_wp ai L S h _ (fun pc L S h h1 => wp_run n k m pc L S h Q h1) hw
    exact ⟨N + 1, x.1, x.2, by rw [run, hc]; exact h1 N (Nat.le_refl _), h2⟩
/-- a call of a method that isn't proved by hand -/
theorem Go_wp (n : Nat) {k m : Nat} {as : List Value} {h : Hp} {Q : Option Value → Hp → Prop} (hp : isP m = false) (hw : wp1 n k m 0 (ent m as) [] h Q) : Go k m as h Q := by
  obtain ⟨n, r, h', h1, h2⟩ := GoF_wp1 n hw
  exact ⟨n, r, h', by simp only [hp, cond_false]; exact h1, h2⟩
theorem Go.mono {k m : Nat} {as : List Value} {h : Hp} {Q Q' : Option Value → Hp → Prop} (hg : Go k m as h Q) (hq : ∀ r h', Q r h' → Q' r h') : Go k m as h Q' := by
  obtain ⟨n, r, h', h1, h2⟩ := hg
  exact ⟨n, r, h', h1, hq r h' h2⟩
theorem GoF.mono {k m pc : Nat} {L : List (Option Value)} {S : List Value} {h : Hp} {Q Q' : Option Value → Hp → Prop} (hg : GoF k m pc L S h Q) (hq : ∀ r h', Q r h' → Q' r h') : GoF k m pc L S h Q' := by
  obtain ⟨n, r, h', h1, h2⟩ := hg
  exact ⟨n, r, h', h1, hq r h' h2⟩
