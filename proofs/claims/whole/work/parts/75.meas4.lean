/-! Measuring: the fewest of both ways; the search by rows. -/
theorem fh_y {A B v r i : Nat} (h : Hv v (sI A B (i + 1))) : fhF A B v (r + 1) i = nI (i + 1) := if_pos h
theorem fh_n {A B v r i : Nat} (h : ¬ Hv v (sI A B (i + 1))) : fhF A B v (r + 1) i = fhF A B v r (i + 1) := if_neg h
theorem fh_none {A B v : Nat} : ∀ r i, (∀ j, i < j → j ≤ i + r → ¬ Hv v (sI A B j)) → fhF A B v r i = -1000000005 := by
  intro r
  induction r with
  | zero => intro i _; rfl
  | succ r ih =>
    intro i h
    rw [fh_n (h (i + 1) (by omega) (by omega))]
    exact ih (i + 1) (fun j h1 h2 => h j (by omega) (by omega))
theorem fh_at {A B v m : Nat} (hm : Hv v (sI A B m)) : ∀ r i, i < m → m ≤ i + r → (∀ j, i < j → j < m → ¬ Hv v (sI A B j)) → fhF A B v r i = nI m := by
  intro r
  induction r with
  | zero => intro i h1 h2 _; omega
  | succ r ih =>
    intro i h1 h2 h
    by_cases e : m = i + 1
    · subst e
      rw [fh_y hm]
    · rw [fh_n (h (i + 1) (by omega) (by omega))]
      exact ih (i + 1) (by omega) (by omega) (fun j h1 h2 => h j (by omega) (by omega))
theorem fh_any {A B v j : Nat} (hj : Hv v (sI A B j)) : ∀ r i, i < j → j ≤ i + r → ∃ m, i < m ∧ m ≤ i + r ∧ Hv v (sI A B m) ∧ fhF A B v r i = nI m := by
  intro r
  induction r with
  | zero => intro i h1 h2; omega
  | succ r ih =>
    intro i h1 h2
    by_cases e : (Hv v (sI A B (i + 1)))
    · exact ⟨i + 1, by omega, by omega, e, by rw [fh_y e]⟩
    · have hne : ¬ j = i + 1 := fun q => e (by rw [← q]; exact hj)
      obtain ⟨m, a, b, c, d⟩ := ih (i + 1) (by omega) (by omega)
      exact ⟨m, by omega, by omega, c, by rw [fh_n e]; exact d⟩
theorem hv_0 {v A B j : Nat} (hv : 1 ≤ v) (h : Hv v (sI A B j)) : 1 ≤ j := by
  cases j with
  | zero => rcases h with h | h <;> (have h : (0 : Nat) = v := h) <;> omega
  | succ j => omega
theorem meas_res {a b v L : Nat} (ha : 1 ≤ a) (hb : 1 ≤ b) (ha9 : a ≤ 99) (hb9 : b ≤ 99) (hv : 1 ≤ v) {p : Nat × Nat} (hR : Rch a b L p) (hp : Hv v p) (hm : ∀ L' p', Rch a b L' p' → Hv v p' → L ≤ L') : mn (fhF a b v (2 * (a + b)) 0) (fhF b a v (2 * (b + a)) 0) = nI L := by
  have w1 : ∀ j, Hv v (sI a b j) → L ≤ j := fun j h => hm j _ (r_s1 j) h
  have w2 : ∀ j, Hv v (sI b a j) → L ≤ j := fun j h => hm j _ (r_s2 j) (hv_sw h)
  rcases meas_min ha hb hv hR hp hm with ⟨h1, h2, j, h3, h4⟩ | ⟨h1, h2, j, h3, h4⟩
  · have hL := hv_0 hv h1
    have hj := hv_0 hv h4
    rw [fh_at h1 (2 * (a + b)) 0 (by omega) (by omega) (fun i _ q hi => by have := w1 i hi; omega)]
    obtain ⟨m, m1, m2, m3, m4⟩ := fh_any h4 (2 * (b + a)) 0 (by omega) (by omega)
    have := w2 m m3
    rw [m4, mn_nI (by omega) (by omega)]
    congr 1
    omega
  · have hL := hv_0 hv h1
    have hj := hv_0 hv h4
    rw [fh_at h1 (2 * (b + a)) 0 (by omega) (by omega) (fun i _ q hi => by have := w2 i hi; omega)]
    obtain ⟨m, m1, m2, m3, m4⟩ := fh_any h4 (2 * (a + b)) 0 (by omega) (by omega)
    have := w1 m m3
    rw [m4, mn_nI (by omega) (by omega)]
    congr 1
    omega
theorem meas_no {a b v : Nat} (hm : ∀ L' p', Rch a b L' p' → ¬ Hv v p') : mn (fhF a b v (2 * (a + b)) 0) (fhF b a v (2 * (b + a)) 0) = -1000000005 := by
  rw [fh_none _ _ (fun j _ _ h => hm j _ (r_s1 j) h), fh_none _ _ (fun j _ _ h => hm j _ (r_s2 j) (hv_sw h))]
  rfl
def cod (s : Nat × Nat) : Nat := 100 * s.1 + s.2
def dec (c : Nat) : Nat × Nat := (c / 100, c % 100)
theorem dec_cod {s : Nat × Nat} (h : s.2 < 100) : dec (cod s) = s := by
  obtain ⟨x, y⟩ := s
  unfold dec cod
  dsimp only at h ⊢
  exact pr_eq (by omega) (by omega)
theorem cod_dec (c : Nat) : cod (dec c) = c := by unfold dec cod; dsimp only; omega
theorem mv_bd {a b n : Nat} {s : Nat × Nat} (h1 : s.1 ≤ a) (h2 : s.2 ≤ b) (hn : n < 6) : (mvF a b s n).1 ≤ a ∧ (mvF a b s n).2 ≤ b := by
  obtain ⟨x, y⟩ := s
  dsimp only at h1 h2
  rcases (show n = 0 ∨ n = 1 ∨ n = 2 ∨ n = 3 ∨ n = 4 ∨ n = 5 by omega) with e | e | e | e | e | e <;> subst e
  · exact ⟨Nat.le_refl _, h2⟩
  · exact ⟨h1, Nat.le_refl _⟩
  · exact ⟨Nat.zero_le _, h2⟩
  · exact ⟨h1, Nat.zero_le _⟩
  · show x - min x (b - y) ≤ a ∧ y + min x (b - y) ≤ b; omega
  · show x + min y (a - x) ≤ a ∧ y - min y (a - x) ≤ b; omega
theorem rch_bd {a b : Nat} : ∀ L p, Rch a b L p → p.1 ≤ a ∧ p.2 ≤ b := by
  intro L
  induction L with
  | zero => intro p h; rw [show p = (0, 0) from h]; exact ⟨Nat.zero_le _, Nat.zero_le _⟩
  | succ L ih =>
    intro p h
    obtain ⟨s, n, h1, h2, h3⟩ := h
    obtain ⟨b1, b2⟩ := ih s h1
    rw [← h3]
    exact mv_bd b1 b2 h2
/-- the search: how many are queued, the numbers of steps, the queue -/
abbrev Bs : Type := Nat × (Nat → Nat) × (Nat → Nat)
def BI (a b v k : Nat) (t : Bs) : Prop :=
  k ≤ t.1 ∧ (0 < t.1 ∧ t.2.2 0 = 0 ∧ t.2.1 0 = 1) ∧
  (∀ i, i < t.1 → t.2.2 i / 100 ≤ a ∧ t.2.2 i % 100 ≤ b ∧ 1 ≤ t.2.1 (t.2.2 i) ∧ t.2.1 (t.2.2 i) ≤ i + 1 ∧ Rch a b (t.2.1 (t.2.2 i) - 1) (dec (t.2.2 i))) ∧
  (∀ c, ¬ t.2.1 c = 0 → ∃ i, i < t.1 ∧ t.2.2 i = c) ∧
  (∀ i j, i < j → j < t.1 → ¬ t.2.2 i = t.2.2 j) ∧
  (∀ i j, i ≤ j → j < t.1 → t.2.1 (t.2.2 i) ≤ t.2.1 (t.2.2 j)) ∧
  (∀ j, j < t.1 → k < t.1 → t.2.1 (t.2.2 j) ≤ t.2.1 (t.2.2 k) + 1) ∧
  (∀ i, i < k → ∀ n, n < 6 → ¬ t.2.1 (cod (mvF a b (dec (t.2.2 i)) n)) = 0 ∧ t.2.1 (cod (mvF a b (dec (t.2.2 i)) n)) ≤ t.2.1 (t.2.2 i) + 1) ∧
  (∀ i, i < k → ¬ Hv v (dec (t.2.2 i)))
theorem bi_in {a b v k : Nat} {t : Bs} (hb9 : b ≤ 99) (h : BI a b v k t) : ∀ L p, Rch a b L p → (∃ i, i < k ∧ t.2.2 i = cod p ∧ t.2.1 (t.2.2 i) ≤ L + 1) ∨ (k < t.1 ∧ t.2.1 (t.2.2 k) ≤ L + 1) := by
  obtain ⟨q, St, Qu⟩ := t
  obtain ⟨h0, ⟨h1, h2, h3⟩, h4, h5, h6, h7, h8, h9, h10⟩ := h
  dsimp only at *
  intro L
  induction L with
  | zero =>
    intro p hp
    rw [show p = (0, 0) from hp]
    by_cases hk : k = 0
    · subst hk
      exact Or.inr ⟨h1, by rw [h2, h3]; omega⟩
    · exact Or.inl ⟨0, by omega, by rw [h2]; rfl, by rw [h2, h3]; omega⟩
  | succ L ih =>
    intro p hp
    obtain ⟨s, n, r1, r2, r3⟩ := hp
    rcases ih s r1 with ⟨i, i1, i2, i3⟩ | ⟨i1, i2⟩
    · obtain ⟨g1, g2⟩ := h9 i i1 n r2
      have hs := (rch_bd L s r1).2
      rw [i2, dec_cod (by omega), r3] at g1 g2
      rw [i2] at i3
      obtain ⟨j, j1, j2⟩ := h5 _ g1
      by_cases hjk : j < k
      · exact Or.inl ⟨j, hjk, j2, by rw [j2]; omega⟩
      · have := h7 k j (by omega) j1
        exact Or.inr ⟨by omega, by rw [j2] at this; omega⟩
    · exact Or.inr ⟨i1, by omega⟩
theorem bi_hit {a b v k : Nat} {t : Bs} (hb9 : b ≤ 99) (h : BI a b v k t) (hk : k < t.1) (hv : Hv v (dec (t.2.2 k))) : Rch a b (t.2.1 (t.2.2 k) - 1) (dec (t.2.2 k)) ∧ ∀ L' p', Rch a b L' p' → Hv v p' → t.2.1 (t.2.2 k) - 1 ≤ L' := by
  refine ⟨(h.2.2.1 k hk).2.2.2.2, fun L' p' hR hp => ?_⟩
  rcases bi_in hb9 h L' p' hR with ⟨i, i1, i2, i3⟩ | ⟨i1, i2⟩
  · have := h.2.2.2.2.2.2.2.2 i i1
    have hb := (rch_bd L' p' hR).2
    rw [i2, dec_cod (by omega)] at this
    exact absurd hp this
  · omega
theorem bi_end {a b v : Nat} {t : Bs} (hb9 : b ≤ 99) (h : BI a b v t.1 t) : ∀ L p, Rch a b L p → ¬ Hv v p := by
  intro L p hR hp
  rcases bi_in hb9 h L p hR with ⟨i, i1, i2, i3⟩ | ⟨i1, i2⟩
  · have := h.2.2.2.2.2.2.2.2 i i1
    have hb := (rch_bd L p hR).2
    rw [i2, dec_cod (by omega)] at this
    exact absurd hp this
  · omega
def psh (t : Bs) (c far : Nat) : Bs := if t.2.1 c = 0 then (t.1 + 1, up1 t.2.1 c far, up1 t.2.2 t.1 c) else t
theorem bi_room {a b v k c : Nat} {t : Bs} (ha9 : a ≤ 99) (hb9 : b ≤ 99) (h : BI a b v k t) (hc : t.2.1 c = 0) (hc9 : c < 10000) : t.1 < 10000 := by
  rcases Nat.lt_or_ge t.1 10000 with q | q
  · exact q
  · obtain ⟨i, j, h1, h2, h3⟩ := pigeon 10000 (fun i => if i < 10000 then t.2.2 i else c) (fun i hi => by
      split
      · have := h.2.2.1 i (by omega); omega
      · exact hc9)
    rw [if_pos (show i < 10000 by omega)] at h3
    by_cases hj : j < 10000
    · rw [if_pos hj] at h3
      exact absurd h3 (h.2.2.2.2.1 i j h1 (by omega))
    · rw [if_neg hj] at h3
      have := (h.2.2.1 i (by omega)).2.2.1
      rw [h3, hc] at this
      omega
theorem bi_psh {a b v k n : Nat} {t : Bs} (ha9 : a ≤ 99) (hb9 : b ≤ 99) (h : BI a b v k t) (hk : k < t.1) (hn : n < 6) : BI a b v k (psh t (cod (mvF a b (dec (t.2.2 k)) n)) (t.2.1 (t.2.2 k) + 1)) ∧ (psh t (cod (mvF a b (dec (t.2.2 k)) n)) (t.2.1 (t.2.2 k) + 1)).2.2 k = t.2.2 k ∧ t.1 ≤ (psh t (cod (mvF a b (dec (t.2.2 k)) n)) (t.2.1 (t.2.2 k) + 1)).1 ∧ (∀ c, ¬ t.2.1 c = 0 → (psh t (cod (mvF a b (dec (t.2.2 k)) n)) (t.2.1 (t.2.2 k) + 1)).2.1 c = t.2.1 c) ∧ ¬ (psh t (cod (mvF a b (dec (t.2.2 k)) n)) (t.2.1 (t.2.2 k) + 1)).2.1 (cod (mvF a b (dec (t.2.2 k)) n)) = 0 ∧ (psh t (cod (mvF a b (dec (t.2.2 k)) n)) (t.2.1 (t.2.2 k) + 1)).2.1 (cod (mvF a b (dec (t.2.2 k)) n)) ≤ t.2.1 (t.2.2 k) + 1 := by
  obtain ⟨q, St, Qu⟩ := t
  have hI := h
  obtain ⟨h0, ⟨h1, h2, h3⟩, h4, h5, h6, h7, h8, h9, h10⟩ := h
  dsimp only at *
  obtain ⟨p, hp⟩ : ∃ p, mvF a b (dec (Qu k)) n = p := ⟨_, rfl⟩
  obtain ⟨k1, k2, k3, k4, k5⟩ := h4 k hk
  have hpb := mv_bd (a := a) (b := b) (s := dec (Qu k)) k1 k2 hn
  rw [hp] at hpb ⊢
  obtain ⟨c, hc⟩ : ∃ c, cod p = c := ⟨_, rfl⟩
  have hdc : dec c = p := by rw [← hc]; exact dec_cod (by omega)
  rw [hc]
  unfold psh
  dsimp only
  by_cases e : St c = 0
  · rw [if_pos e]
    have ne : ∀ i, i < q → ¬ Qu i = c := fun i hi q2 => by
      have := (h4 i hi).2.2.1
      rw [q2, e] at this
      omega
    have eq : ∀ i, i < q → up1 Qu q c i = Qu i := fun i hi => up1_ne (by omega)
    have es : ∀ i, i < q → up1 St c (St (Qu k) + 1) (Qu i) = St (Qu i) := fun i hi => up1_ne (ne i hi)
    have eq2 : up1 Qu q c q = c := up1_eq
    have es2 : up1 St c (St (Qu k) + 1) c = St (Qu k) + 1 := up1_eq
    have keep : ∀ d, ¬ St d = 0 → up1 St c (St (Qu k) + 1) d = St d := fun d hd => up1_ne (fun q2 => hd (by rw [q2]; exact e))
    refine ⟨⟨?_, ⟨?_, ?_, ?_⟩, ?_, ?_, ?_, ?_, ?_, ?_, ?_⟩, ?_, ?_, ?_, ?_, ?_⟩ <;> dsimp only
    · omega
    · omega
    · rw [eq 0 h1]; exact h2
    · rw [keep 0 (by rw [h3]; omega)]; exact h3
    · intro i hi
      by_cases ei : i = q
      · subst ei
        rw [eq2, es2]
        have hc1 : c / 100 = p.1 ∧ c % 100 = p.2 := ⟨congrArg Prod.fst hdc, congrArg Prod.snd hdc⟩
        refine ⟨by omega, by omega, by omega, by omega, ?_⟩
        rw [hdc, show St (Qu k) + 1 - 1 = (St (Qu k) - 1) + 1 by omega]
        exact ⟨dec (Qu k), n, k5, hn, hp⟩
      · rw [eq i (by omega), es i (by omega)]
        exact h4 i (by omega)
    · intro d hd
      by_cases ed : d = c
      · subst ed
        exact ⟨q, by omega, eq2⟩
      · rw [up1_ne ed] at hd
        obtain ⟨i, i1, i2⟩ := h5 d hd
        exact ⟨i, by omega, by rw [eq i i1]; exact i2⟩
    · intro i j hij hj
      by_cases ej : j = q
      · subst ej
        rw [eq2, eq i hij]
        exact ne i hij
      · rw [eq i (by omega), eq j (by omega)]
        exact h6 i j hij (by omega)
    · intro i j hij hj
      by_cases ej : j = q
      · subst ej
        rw [eq2, es2]
        by_cases ei : i = j
        · subst ei
          rw [eq2, es2]
          omega
        · rw [eq i (by omega), es i (by omega)]
          exact h8 i (by omega) hk
      · rw [eq i (by omega), eq j (by omega), es i (by omega), es j (by omega)]
        exact h7 i j hij (by omega)
    · intro j hj _
      rw [eq k hk, es k hk]
      by_cases ej : j = q
      · subst ej
        rw [eq2, es2]
        omega
      · rw [eq j (by omega), es j (by omega)]
        exact h8 j (by omega) hk
    · intro i hi m hm
      rw [eq i (by omega), es i (by omega)]
      obtain ⟨g1, g2⟩ := h9 i hi m hm
      rw [keep _ g1]
      exact ⟨g1, g2⟩
    · intro i hi
      rw [eq i (by omega)]
      exact h10 i hi
    · exact eq k hk
    · omega
    · exact keep
    · rw [es2]; omega
    · rw [es2]; omega
  · rw [if_neg e]
    refine ⟨hI, rfl, Nat.le_refl _, fun _ _ => rfl, e, ?_⟩
    dsimp only
    obtain ⟨i, i1, i2⟩ := h5 c e
    rw [← i2]
    exact h8 i i1 hk
