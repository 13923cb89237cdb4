/-! Two ways of reading a text: by levels, and with a stack. -/
def opr (b : Nat) : Nat := if b = 124 then 1 else if b = 38 then 2 else if b = 60 ∨ b = 61 ∨ b = 62 then 3 else if b = 43 ∨ b = 45 then 4 else if b = 42 ∨ b = 47 then 5 else 0
def opc (b : Nat) : Int32 := if b = 124 then -1 else if b = 38 then -2 else if b = 60 then -3 else if b = 61 then -4 else if b = 62 then -5 else if b = 43 then -6 else if b = 45 then -7 else if b = 42 then -8 else if b = 47 then -9 else 0
/-- what waits: 33 a not, 40 an open one, or an operator's byte -/
def rk (x : Nat) : Nat := if x = 33 then 6 else opr x
def wc (x : Nat) : Int32 := if x = 33 then -10 else if x = 40 then -11 else opc x
abbrev Sg : Type := Nat × List Int32 × Nat
def lpF (sb : Nat → Nat) (nxt : Sg → Bool × Sg) (l : Nat) : Nat → Nat → Sg → Bool × Sg
  | 0, _, σ => (true, σ)
  | r + 1, c, σ => if opr (sb σ.1) = l + 1 then (if l = 2 ∧ 0 < c then (true, σ) else (if (nxt (σ.1 + 1, σ.2)).1 = true then lpF sb nxt l r (c + 1) ((nxt (σ.1 + 1, σ.2)).2.1, opc (sb σ.1) :: (nxt (σ.1 + 1, σ.2)).2.2.1, (nxt (σ.1 + 1, σ.2)).2.2.2) else (false, (nxt (σ.1 + 1, σ.2)).2))) else (true, σ)
def rd (od : Nat → Option Int32) (sb : Nat → Nat) : Nat → Nat → Nat → Nat → Sg → Bool × Sg
  | 0, _, _, _, σ => (false, σ)
  | n + 1, m, o, t, σ => if m < 5 then (if (rd od sb n (m + 1) o t σ).1 = true then lpF sb (fun τ => rd od sb n (m + 1) o t τ) m 96 0 (rd od sb n (m + 1) o t σ).2 else (false, (rd od sb n (m + 1) o t σ).2))
    else if m = 5 then rd od sb n 6 o t σ
    else match od σ.1 with
      | some c => (true, (σ.1 + 1, c :: σ.2.1, σ.2.2 + 1))
      | none => if sb σ.1 = 33 ∧ t < 8 then (if (rd od sb n 6 o (t + 1) (σ.1 + 1, σ.2)).1 = true then (true, ((rd od sb n 6 o (t + 1) (σ.1 + 1, σ.2)).2.1, -10 :: (rd od sb n 6 o (t + 1) (σ.1 + 1, σ.2)).2.2.1, (rd od sb n 6 o (t + 1) (σ.1 + 1, σ.2)).2.2.2)) else (false, (rd od sb n 6 o (t + 1) (σ.1 + 1, σ.2)).2))
        else if sb σ.1 = 40 ∧ o < 8 then (if (rd od sb n 0 (o + 1) t (σ.1 + 1, σ.2)).1 = true ∧ sb (rd od sb n 0 (o + 1) t (σ.1 + 1, σ.2)).2.1 = 41 then (true, ((rd od sb n 0 (o + 1) t (σ.1 + 1, σ.2)).2.1 + 1, (rd od sb n 0 (o + 1) t (σ.1 + 1, σ.2)).2.2)) else (false, (rd od sb n 0 (o + 1) t (σ.1 + 1, σ.2)).2))
        else (false, σ)
def npn : List Nat → Nat
  | [] => 0
  | x :: W => (if x = 40 then 1 else 0) + npn W
def nnt : List Nat → Nat
  | [] => 0
  | x :: W => (if x = 33 then 1 else 0) + nnt W
def tst : List Nat → Bool
  | [] => false
  | x :: W => if x = 40 then false else if rk x = 3 then true else tst W
def stl (m : Nat) : List Nat → List Int32 → List Nat × List Int32
  | [], C => ([], C)
  | x :: W, C => if ¬ x = 40 ∧ m ≤ rk x then stl m W (wc x :: C) else (x :: W, C)
def sy (od : Nat → Option Int32) (sb : Nat → Nat) (en : Nat → Bool) : Nat → Nat → Bool → List Nat → List Int32 → Nat → Bool × Nat × List Int32 × Nat
  | 0, i, _, _, C, a => (false, i, C, a)
  | f + 1, i, true, W, C, a => if sb i = 33 ∧ nnt W < 8 then sy od sb en f (i + 1) true (33 :: W) C a else if sb i = 40 ∧ npn W < 8 then sy od sb en f (i + 1) true (40 :: W) C a else match od i with
      | some c => sy od sb en f (i + 1) false (stl 6 W (c :: C)).1 (stl 6 W (c :: C)).2 (a + 1)
      | none => (false, i, C, a)
  | f + 1, i, false, W, C, a => if en i = true then (decide (npn W = 0), i, (stl 0 W C).2, a) else if sb i = 41 ∧ 0 < npn W then sy od sb en f (i + 1) false (stl 6 (stl 0 W C).1.tail (stl 0 W C).2).1 (stl 6 (stl 0 W C).1.tail (stl 0 W C).2).2 a else if opr (sb i) = 0 ∨ (opr (sb i) = 3 ∧ tst W = true) then (false, i, C, a) else sy od sb en f (i + 1) true (sb i :: (stl (opr (sb i)) W C).1) (stl (opr (sb i)) W C).2 a
/-- operators below in one bracket -/
def sgO (m : Nat) : List Nat → Prop
  | [] => True
  | x :: W => x = 40 ∨ (1 ≤ rk x ∧ rk x ≤ m ∧ sgO m W)
def pu : List Nat → List Int32 → List Int32
  | [], C => C
  | x :: P, C => pu P (wc x :: C)
theorem pu_app (P : List Nat) (x : Nat) : ∀ C, pu (P ++ [x]) C = wc x :: pu P C := by
  induction P with
  | nil => intro C; rfl
  | cons y P ih => intro C; exact ih (wc y :: C)
theorem rk40 : rk 40 = 0 := rfl
theorem stl_app {m : Nat} {W : List Nat} : ∀ (P : List Nat) (C : List Int32), (∀ x, x ∈ P → ¬ x = 40 ∧ m ≤ rk x) → stl m (P ++ W) C = stl m W (pu P C) := by
  intro P
  induction P with
  | nil => intro C _; rfl
  | cons x P ih =>
    intro C h
    show stl m (x :: (P ++ W)) C = _
    rw [stl, if_pos (h x List.mem_cons_self)]
    exact ih _ (fun y hy => h y (List.mem_cons_of_mem _ hy))
theorem stl_stop {m k : Nat} {W : List Nat} (h : sgO k W) (hk : k < m) (C : List Int32) : stl m W C = (W, C) := by
  cases W with
  | nil => rfl
  | cons x W =>
    rw [stl, if_neg]
    intro q
    rcases h with h | h
    · exact q.1 h
    · omega
theorem sgO_mono {m k : Nat} (hk : m ≤ k) : ∀ W, sgO m W → sgO k W := by
  intro W
  induction W with
  | nil => intro _; trivial
  | cons x W ih =>
    intro h
    rcases h with h | ⟨h1, h2, h3⟩
    · exact Or.inl h
    · exact Or.inr ⟨h1, by omega, ih h3⟩
theorem tst_no {m : Nat} (hm : m < 3) : ∀ W, sgO m W → tst W = false := by
  intro W
  induction W with
  | nil => intro _; rfl
  | cons x W ih =>
    intro h
    rcases h with h | ⟨h1, h2, h3⟩
    · rw [tst, if_pos h]
    · rw [tst]
      by_cases e : x = 40
      · rw [if_pos e]
      · rw [if_neg e, if_neg (by omega)]; exact ih h3
theorem tst_app {W : List Nat} : ∀ P : List Nat, (∀ x, x ∈ P → ¬ x = 40 ∧ ¬ rk x = 3) → tst (P ++ W) = tst W := by
  intro P
  induction P with
  | nil => intro _; rfl
  | cons x P ih =>
    intro h
    have hx := h x List.mem_cons_self
    show tst (x :: (P ++ W)) = _
    rw [tst, if_neg hx.1, if_neg hx.2]
    exact ih (fun y hy => h y (List.mem_cons_of_mem _ hy))
theorem tst_yes {W : List Nat} : ∀ P : List Nat, (∀ x, x ∈ P → ¬ x = 40) → (∃ x, x ∈ P ∧ rk x = 3) → tst (P ++ W) = true := by
  intro P
  induction P with
  | nil => intro _ h; obtain ⟨x, h1, _⟩ := h; cases h1
  | cons x P ih =>
    intro h h3
    show tst (x :: (P ++ W)) = _
    rw [tst, if_neg (h x List.mem_cons_self)]
    by_cases e : rk x = 3
    · rw [if_pos e]
    · rw [if_neg e]
      refine ih (fun y hy => h y (List.mem_cons_of_mem _ hy)) ?_
      obtain ⟨y, h1, h2⟩ := h3
      rcases List.mem_cons.mp h1 with q | q
      · subst q; exact absurd h2 e
      · exact ⟨y, q, h2⟩
theorem opr_le (b : Nat) : opr b ≤ 5 := by
  unfold opr
  repeat' split
  all_goals omega
theorem op_ne {b : Nat} (h : ¬ opr b = 0) : ¬ b = 33 ∧ ¬ b = 40 ∧ ¬ b = 41 ∧ ¬ b = 0 := by
  refine ⟨fun e => h (by rw [e]; rfl), fun e => h (by rw [e]; rfl), fun e => h (by rw [e]; rfl), fun e => h (by rw [e]; rfl)⟩
theorem rk_op {b : Nat} (h : ¬ opr b = 0) : rk b = opr b := by unfold rk; rw [if_neg (op_ne h).1]
theorem wc_op {b : Nat} (h : ¬ opr b = 0) : wc b = opc b := by unfold wc; rw [if_neg (op_ne h).1, if_neg (op_ne h).2.1]
theorem npn_op {b : Nat} (h : ¬ opr b = 0) (W : List Nat) : npn (b :: W) = npn W ∧ nnt (b :: W) = nnt W := by
  constructor
  · rw [npn, if_neg (op_ne h).2.1, Nat.zero_add]
  · rw [nnt, if_neg (op_ne h).1, Nat.zero_add]
theorem npn_app {W : List Nat} : ∀ P : List Nat, (∀ x, x ∈ P → ¬ x = 40) → npn (P ++ W) = npn W := by
  intro P
  induction P with
  | nil => intro _; rfl
  | cons x P ih =>
    intro h
    show npn (x :: (P ++ W)) = _
    rw [npn, if_neg (h x List.mem_cons_self), Nat.zero_add]
    exact ih (fun y hy => h y (List.mem_cons_of_mem _ hy))
