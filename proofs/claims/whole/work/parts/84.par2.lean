/-! The two ways of reading agree. -/
section Par
variable {od : Nat → Option Int32} {sb : Nat → Nat} {en : Nat → Bool}
theorem sy_op {f i : Nat} {W : List Nat} {C : List Int32} {a : Nat} (he : en i = false) (ho : ¬ opr (sb i) = 0) (ht : ¬ (opr (sb i) = 3 ∧ tst W = true)) : sy od sb en (f + 1) i false W C a = sy od sb en f (i + 1) true (sb i :: (stl (opr (sb i)) W C).1) (stl (opr (sb i)) W C).2 a := by
  rw [sy, if_neg (by rw [he]; decide), if_neg (fun q => (op_ne ho).2.2.1 q.1), if_neg (fun q => q.elim ho ht)]
theorem sy_bad {f i : Nat} {W : List Nat} {C : List Int32} {a : Nat} (h1 : en i = true → ¬ npn W = 0) (h2 : sb i = 41 → npn W = 0) (h3 : ¬ opr (sb i) = 0 → opr (sb i) = 3 ∧ tst W = true) : ∃ C' a', sy od sb en (f + 1) i false W C a = (false, i, C', a') := by
  by_cases he : en i = true
  · refine ⟨(stl 0 W C).2, a, ?_⟩
    rw [sy, if_pos he, decide_eq_false (h1 he)]
  · refine ⟨C, a, ?_⟩
    rw [sy, if_neg he, if_neg (fun q => by have := h2 q.1; omega), if_pos]
    by_cases e : opr (sb i) = 0
    · exact Or.inl e
    · exact Or.inr (h3 e)
theorem sy_not {f i : Nat} {W : List Nat} {C : List Int32} {a : Nat} (h1 : sb i = 33) (h2 : nnt W < 8) : sy od sb en (f + 1) i true W C a = sy od sb en f (i + 1) true (33 :: W) C a := by
  rw [sy, if_pos ⟨h1, h2⟩]
theorem sy_open {f i : Nat} {W : List Nat} {C : List Int32} {a : Nat} (h1 : sb i = 40) (h2 : npn W < 8) : sy od sb en (f + 1) i true W C a = sy od sb en f (i + 1) true (40 :: W) C a := by
  rw [sy, if_neg (fun q => by omega), if_pos ⟨h1, h2⟩]
theorem sy_opd {f i : Nat} {W : List Nat} {C : List Int32} {a : Nat} {c : Int32} (h0 : sb i = 0) (h1 : od i = some c) : sy od sb en (f + 1) i true W C a = sy od sb en f (i + 1) false (stl 6 W (c :: C)).1 (stl 6 W (c :: C)).2 (a + 1) := by
  rw [sy, if_neg (fun q => by omega), if_neg (fun q => by omega), h1]
theorem sy_no {f i : Nat} {W : List Nat} {C : List Int32} {a : Nat} (h1 : od i = none) (h2 : sb i = 33 → 8 ≤ nnt W) (h3 : sb i = 40 → 8 ≤ npn W) : sy od sb en (f + 1) i true W C a = (false, i, C, a) := by
  rw [sy, if_neg (fun q => by have := h2 q.1; omega), if_neg (fun q => by have := h3 q.1; omega), h1]
theorem sy_close {f i : Nat} {W : List Nat} {C : List Int32} {a : Nat} (he : en i = false) (h1 : sb i = 41) (h2 : 0 < npn W) : sy od sb en (f + 1) i false W C a = sy od sb en f (i + 1) false (stl 6 (stl 0 W C).1.tail (stl 0 W C).2).1 (stl 6 (stl 0 W C).1.tail (stl 0 W C).2).2 a := by
  rw [sy, if_neg (by rw [he]; decide), if_pos ⟨h1, h2⟩]
/-- read by levels with success: so the stack stands -/
def ClY (od : Nat → Option Int32) (sb : Nat → Nat) (en : Nat → Bool) (m i0 : Nat) (W : List Nat) (C0 : List Int32) (a0 : Nat) (τ : Sg) : Prop := i0 < τ.1 ∧ ∃ P Cx, (∀ x, x ∈ P → m < rk x ∧ rk x ≤ 5) ∧ τ.2.1 = pu P Cx ∧ (∀ f, sy od sb en (f + (τ.1 - i0)) i0 true W C0 a0 = sy od sb en f τ.1 false (P ++ W) Cx τ.2.2) ∧ (∀ l, m ≤ l → l ≤ 4 → opr (sb τ.1) = l + 1 → l = 2 ∧ ∃ x, x ∈ P ∧ rk x = 3)
def ClP (od : Nat → Option Int32) (sb : Nat → Nat) (en : Nat → Bool) (i0 : Nat) (W : List Nat) (C0 : List Int32) (a0 : Nat) (τ : Sg) : Prop := i0 < τ.1 ∧ ∀ f, sy od sb en (f + (τ.1 - i0)) i0 true W C0 a0 = sy od sb en f τ.1 false (stl 6 W τ.2.1).1 (stl 6 W τ.2.1).2 τ.2.2
def ClN (od : Nat → Option Int32) (sb : Nat → Nat) (en : Nat → Bool) (i0 : Nat) (W : List Nat) (C0 : List Int32) (a0 : Nat) (τ : Sg) : Prop := i0 ≤ τ.1 ∧ ∀ f, ∃ C' a', sy od sb en (f + 1 + (τ.1 - i0)) i0 true W C0 a0 = (false, τ.1, C', a')
theorem no40 {m : Nat} {P : List Nat} (h : ∀ x, x ∈ P → m < rk x ∧ rk x ≤ 5) : ∀ x, x ∈ P → ¬ x = 40 := fun x hx e => by
  have := h x hx
  rw [e, rk40] at this
  omega
theorem lp_ok (hE : ∀ i, en i = true → sb i = 0) (h96 : ∀ i, ¬ opr (sb i) = 0 → i < 96) {m o t i0 a0 : Nat} {W : List Nat} {C0 : List Int32} {nxt : Sg → Bool × Sg} (hm : m < 5) (hW : sgO m W) (ho : npn W = o) (ht : nnt W = t)
    (hnx : ∀ (W' : List Nat) (σ : Sg), npn W' = o → nnt W' = t → sgO (m + 1) W' → ((nxt σ).1 = true → ClY od sb en (m + 1) σ.1 W' σ.2.1 σ.2.2 (nxt σ).2) ∧ ((nxt σ).1 = false → ClN od sb en σ.1 W' σ.2.1 σ.2.2 (nxt σ).2)) :
    ∀ (r c : Nat) (σ : Sg) (P : List Nat) (Cx : List Int32), r + c = 96 → 2 * c ≤ σ.1 → i0 < σ.1 → σ.2.1 = pu P Cx → (∀ x, x ∈ P → m < rk x ∧ rk x ≤ 5) → (c = 0 → ∀ x, x ∈ P → m + 1 < rk x) → (0 < c → m = 2 → ∃ x, x ∈ P ∧ rk x = 3) → (∀ l, m + 1 ≤ l → l ≤ 4 → opr (sb σ.1) = l + 1 → l = 2 ∧ ∃ x, x ∈ P ∧ rk x = 3) → (∀ f, sy od sb en (f + (σ.1 - i0)) i0 true W C0 a0 = sy od sb en f σ.1 false (P ++ W) Cx σ.2.2) →
      ((lpF sb nxt m r c σ).1 = true → ClY od sb en m i0 W C0 a0 (lpF sb nxt m r c σ).2) ∧ ((lpF sb nxt m r c σ).1 = false → ClN od sb en i0 W C0 a0 (lpF sb nxt m r c σ).2) := by
  intro r
  induction r with
  | zero =>
    intro c σ P Cx hrc hc hi hC hP hP0 hP3 hl hst
    rw [lpF]
    refine ⟨fun _ => ⟨hi, P, Cx, hP, hC, hst, fun l l1 l2 l3 => ?_⟩, fun h => absurd h (by dsimp only; decide)⟩
    dsimp only at l3
    have := h96 σ.1 (by rw [l3]; omega)
    omega
  | succ r ih =>
    intro c σ P Cx hrc hc hi hC hP hP0 hP3 hl hst
    rw [lpF]
    by_cases hj : opr (sb σ.1) = m + 1
    · rw [if_pos hj]
      by_cases h2 : m = 2 ∧ 0 < c
      · rw [if_pos h2]
        refine ⟨fun _ => ⟨hi, P, Cx, hP, hC, hst, fun l l1 l2 l3 => ?_⟩, fun h => absurd h (by dsimp only; decide)⟩
        by_cases e : l = m
        · exact ⟨by omega, hP3 h2.2 h2.1⟩
        · exact hl l (by omega) l2 l3
      · rw [if_neg h2]
        have hne : ¬ opr (sb σ.1) = 0 := by omega
        have he : en σ.1 = false := by
          cases q : en σ.1 with
          | false => rfl
          | true => exact absurd (hE σ.1 q) (op_ne hne).2.2.2
        have htst : ¬ (opr (sb σ.1) = 3 ∧ tst (P ++ W) = true) := by
          intro q
          have hm2 : m = 2 := by omega
          have hc0 : c = 0 := by
            rcases Nat.eq_zero_or_pos c with z | z
            · exact z
            · exact absurd ⟨hm2, z⟩ h2
          have h3 := hP0 hc0
          rw [tst_app P (fun x hx => ⟨no40 hP x hx, by have := h3 x hx; omega⟩), tst_no (m := m) (by omega) W hW] at q
          exact absurd q.2 (by decide)
        have hset : stl (opr (sb σ.1)) (P ++ W) Cx = (W, σ.2.1) := by
          rw [hj, stl_app P Cx (fun x hx => ⟨no40 hP x hx, by have := hP x hx; omega⟩), ← hC]
          exact stl_stop hW (by omega) _
        have hstep : ∀ f, sy od sb en (f + 1) σ.1 false (P ++ W) Cx σ.2.2 = sy od sb en f (σ.1 + 1) true (sb σ.1 :: W) σ.2.1 σ.2.2 := fun f => by
          rw [sy_op he hne htst, hset]
        obtain ⟨n1, n2⟩ := npn_op hne W
        have hsg : sgO (m + 1) (sb σ.1 :: W) := Or.inr ⟨by rw [rk_op hne]; omega, by rw [rk_op hne]; omega, sgO_mono (by omega) W hW⟩
        obtain ⟨hy, hn⟩ := hnx (sb σ.1 :: W) (σ.1 + 1, σ.2) (by rw [n1]; exact ho) (by rw [n2]; exact ht) hsg
        obtain ⟨τ, hτ⟩ : ∃ τ, (nxt (σ.1 + 1, σ.2)).2 = τ := ⟨_, rfl⟩
        rw [hτ] at hy hn ⊢
        by_cases hok : (nxt (σ.1 + 1, σ.2)).1 = true
        · rw [if_pos hok]
          obtain ⟨y1, P2, Cx2, y2, y3, y4, y5⟩ := hy hok
          dsimp only at y1 y4
          refine ih (c + 1) (τ.1, opc (sb σ.1) :: τ.2.1, τ.2.2) (P2 ++ [sb σ.1]) Cx2 (by omega) (by dsimp only; omega) (by dsimp only; omega) ?_ ?_ (fun q => absurd q (by omega)) ?_ ?_ ?_
          · dsimp only
            rw [pu_app, wc_op hne, y3]
          · intro x hx
            rcases List.mem_append.mp hx with q | q
            · have := y2 x q; omega
            · rw [List.mem_singleton.mp q, rk_op hne, hj]; omega
          · intro _ hm2
            exact ⟨sb σ.1, List.mem_append.mpr (Or.inr (List.mem_singleton.mpr rfl)), by rw [rk_op hne, hj]; omega⟩
          · intro l l1 l2 l3
            obtain ⟨z1, x, z2, z3⟩ := y5 l l1 l2 l3
            exact ⟨z1, x, List.mem_append.mpr (Or.inl z2), z3⟩
          · intro f
            dsimp only
            rw [show f + (τ.1 - i0) = (f + (τ.1 - (σ.1 + 1)) + 1) + (σ.1 - i0) by omega, hst, hstep, y4, List.append_assoc]
            rfl
        · rw [if_neg hok]
          have hok2 : (nxt (σ.1 + 1, σ.2)).1 = false := by
            cases q : (nxt (σ.1 + 1, σ.2)).1 with
            | false => rfl
            | true => exact absurd q hok
          obtain ⟨y1, y2⟩ := hn hok2
          dsimp only at y1 y2
          refine ⟨fun h => absurd h (by dsimp only; decide), fun _ => ⟨by dsimp only; omega, fun f => ?_⟩⟩
          obtain ⟨C', a', e⟩ := y2 f
          refine ⟨C', a', ?_⟩
          dsimp only
          rw [show f + 1 + (τ.1 - i0) = (f + 1 + (τ.1 - (σ.1 + 1)) + 1) + (σ.1 - i0) by omega, hst, hstep, e]
    · rw [if_neg hj]
      refine ⟨fun _ => ⟨hi, P, Cx, hP, hC, hst, fun l l1 l2 l3 => ?_⟩, fun h => absurd h (by dsimp only; decide)⟩
      by_cases e : l = m
      · subst e; exact absurd l3 hj
      · exact hl l (by omega) l2 l3
def ndF (m o t : Nat) : Nat := (8 - o) * 8 + (8 - t) + (7 - m)
theorem rdy_ok (hO : ∀ i c, od i = some c → sb i = 0) (hE : ∀ i, en i = true → sb i = 0) (h96 : ∀ i, ¬ opr (sb i) = 0 → i < 96) : ∀ (n m o t : Nat) (W : List Nat) (σ : Sg), m ≤ 6 → o ≤ 8 → t ≤ 8 → ndF m o t ≤ n → npn W = o → nnt W = t → (m ≤ 5 → sgO m W) →
    ((rd od sb n m o t σ).1 = true → (m = 6 → ClP od sb en σ.1 W σ.2.1 σ.2.2 (rd od sb n m o t σ).2) ∧ (m ≤ 5 → ClY od sb en m σ.1 W σ.2.1 σ.2.2 (rd od sb n m o t σ).2)) ∧ ((rd od sb n m o t σ).1 = false → ClN od sb en σ.1 W σ.2.1 σ.2.2 (rd od sb n m o t σ).2) := by
  intro n
  induction n with
  | zero =>
    intro m o t W σ hm _ _ hn
    unfold ndF at hn
    omega
  | succ n ih =>
    intro m o t W σ hm ho8 ht8 hn ho ht hsg
    unfold ndF at hn
    rw [rd]
    by_cases h5 : m < 5
    · rw [if_pos h5]
      have hsg := hsg (by omega)
      have nx : ∀ (W' : List Nat) (σ : Sg), npn W' = o → nnt W' = t → sgO (m + 1) W' → ((rd od sb n (m + 1) o t σ).1 = true → ClY od sb en (m + 1) σ.1 W' σ.2.1 σ.2.2 (rd od sb n (m + 1) o t σ).2) ∧ ((rd od sb n (m + 1) o t σ).1 = false → ClN od sb en σ.1 W' σ.2.1 σ.2.2 (rd od sb n (m + 1) o t σ).2) := fun W' σ a b c => by
        obtain ⟨y, z⟩ := ih (m + 1) o t W' σ (by omega) ho8 ht8 (by unfold ndF; omega) a b (fun _ => c)
        exact ⟨fun h => (y h).2 (by omega), z⟩
      obtain ⟨hy, hn1⟩ := nx W σ ho ht (sgO_mono (by omega) W hsg)
      by_cases hok : (rd od sb n (m + 1) o t σ).1 = true
      · rw [if_pos hok]
        obtain ⟨y1, P, Cx, y2, y3, y4, y5⟩ := hy hok
        obtain ⟨l1, l2⟩ := lp_ok (i0 := σ.1) (a0 := σ.2.2) (C0 := σ.2.1) (nxt := fun τ => rd od sb n (m + 1) o t τ) hE h96 h5 hsg ho ht nx 96 0 (rd od sb n (m + 1) o t σ).2 P Cx (by omega) (by omega) y1 y3 (fun x hx => by have := y2 x hx; omega) (fun _ x hx => by have := y2 x hx; omega) (fun q => absurd q (by omega)) y5 y4
        exact ⟨fun h => ⟨fun q => by omega, fun _ => l1 h⟩, l2⟩
      · rw [if_neg hok]
        have hok2 : (rd od sb n (m + 1) o t σ).1 = false := by
          cases q : (rd od sb n (m + 1) o t σ).1 with
          | false => rfl
          | true => exact absurd q hok
        exact ⟨fun h => absurd h (by dsimp only; decide), fun _ => hn1 hok2⟩
    · rw [if_neg h5]
      by_cases h6 : m = 5
      · subst h6
        rw [if_pos rfl]
        have hsg := hsg (by omega)
        obtain ⟨y, z⟩ := ih 6 o t W σ (by omega) ho8 ht8 (by unfold ndF; omega) ho ht (fun q => by omega)
        refine ⟨fun h => ⟨fun q => by omega, fun _ => ?_⟩, z⟩
        obtain ⟨p1, p2⟩ := (y h).1 rfl
        refine ⟨p1, [], (rd od sb n 6 o t σ).2.2.1, fun x hx => (by cases hx), rfl, fun f => ?_, fun l l1 l2 => by omega⟩
        rw [p2 f, stl_stop hsg (by omega)]
        rfl
      · rw [if_neg h6]
        have h6 : m = 6 := by omega
        subst h6
        cases hod : od σ.1 with
        | some c =>
          dsimp only
          refine ⟨fun _ => ⟨fun _ => ⟨by dsimp only; omega, fun f => ?_⟩, fun q => by omega⟩, fun h => absurd h (by decide)⟩
          dsimp only
          rw [show f + (σ.1 + 1 - σ.1) = f + 1 by omega, sy_opd (hO _ _ hod) hod]
        | none =>
          dsimp only
          by_cases hnot : sb σ.1 = 33 ∧ t < 8
          · rw [if_pos hnot]
            have hw1 : npn (33 :: W) = o := by rw [npn, if_neg (by decide), Nat.zero_add]; exact ho
            have hw2 : nnt (33 :: W) = t + 1 := by rw [nnt, if_pos rfl, ht]; omega
            obtain ⟨y, z⟩ := ih 6 o (t + 1) (33 :: W) (σ.1 + 1, σ.2) (by omega) ho8 (by omega) (by unfold ndF; omega) hw1 hw2 (fun q => by omega)
            have hst : ∀ f, sy od sb en (f + 1) σ.1 true W σ.2.1 σ.2.2 = sy od sb en f (σ.1 + 1) true (33 :: W) σ.2.1 σ.2.2 := fun f => sy_not hnot.1 (by omega)
            obtain ⟨τ, hτ⟩ : ∃ τ, (rd od sb n 6 o (t + 1) (σ.1 + 1, σ.2)).2 = τ := ⟨_, rfl⟩
            rw [hτ] at y z ⊢
            by_cases hok : (rd od sb n 6 o (t + 1) (σ.1 + 1, σ.2)).1 = true
            · rw [if_pos hok]
              obtain ⟨p1, p2⟩ := (y hok).1 rfl
              dsimp only at p1 p2
              refine ⟨fun _ => ⟨fun _ => ⟨by dsimp only; omega, fun f => ?_⟩, fun q => by omega⟩, fun h => absurd h (by dsimp only; decide)⟩
              dsimp only
              rw [show f + (τ.1 - σ.1) = (f + (τ.1 - (σ.1 + 1))) + 1 by omega, hst, p2 f, stl, if_pos ⟨by decide, by decide⟩]
              rfl
            · rw [if_neg hok]
              have hok2 : (rd od sb n 6 o (t + 1) (σ.1 + 1, σ.2)).1 = false := by
                cases q : (rd od sb n 6 o (t + 1) (σ.1 + 1, σ.2)).1 with
                | false => rfl
                | true => exact absurd q hok
              obtain ⟨p1, p2⟩ := z hok2
              dsimp only at p1 p2
              refine ⟨fun h => absurd h (by dsimp only; decide), fun _ => ⟨by dsimp only; omega, fun f => ?_⟩⟩
              obtain ⟨C', a', e⟩ := p2 f
              refine ⟨C', a', ?_⟩
              dsimp only
              rw [show f + 1 + (τ.1 - σ.1) = (f + 1 + (τ.1 - (σ.1 + 1))) + 1 by omega, hst, e]
          · rw [if_neg hnot]
            by_cases hop : sb σ.1 = 40 ∧ o < 8
            · rw [if_pos hop]
              have hw1 : npn (40 :: W) = o + 1 := by rw [npn, if_pos rfl, ho]; omega
              have hw2 : nnt (40 :: W) = t := by rw [nnt, if_neg (by decide), Nat.zero_add]; exact ht
              obtain ⟨y, z⟩ := ih 0 (o + 1) t (40 :: W) (σ.1 + 1, σ.2) (by omega) (by omega) ht8 (by unfold ndF; omega) hw1 hw2 (fun _ => Or.inl rfl)
              have hst : ∀ f, sy od sb en (f + 1) σ.1 true W σ.2.1 σ.2.2 = sy od sb en f (σ.1 + 1) true (40 :: W) σ.2.1 σ.2.2 := fun f => sy_open hop.1 (by omega)
              obtain ⟨τ, hτ⟩ : ∃ τ, (rd od sb n 0 (o + 1) t (σ.1 + 1, σ.2)).2 = τ := ⟨_, rfl⟩
              rw [hτ] at y z ⊢
              by_cases hok : (rd od sb n 0 (o + 1) t (σ.1 + 1, σ.2)).1 = true
              · obtain ⟨y1, P, Cx, y2, y3, y4, y5⟩ := (y hok).2 (by omega)
                dsimp only at y1 y4
                have n40 := no40 y2
                have hnp : npn (P ++ 40 :: W) = o + 1 := by rw [npn_app P n40]; exact hw1
                by_cases h41 : sb τ.1 = 41
                · rw [if_pos ⟨hok, h41⟩]
                  have he : en τ.1 = false := by
                    cases q : en τ.1 with
                    | false => rfl
                    | true => have := hE τ.1 q; omega
                  refine ⟨fun _ => ⟨fun _ => ⟨by dsimp only; omega, fun f => ?_⟩, fun q => by omega⟩, fun h => absurd h (by dsimp only; decide)⟩
                  dsimp only
                  have hst0 : stl 0 (P ++ 40 :: W) Cx = (40 :: W, τ.2.1) := by
                    rw [stl_app P Cx (fun x hx => ⟨n40 x hx, by omega⟩), ← y3, stl, if_neg (fun q => q.1 rfl)]
                  rw [show f + (τ.1 + 1 - σ.1) = ((f + 1) + (τ.1 - (σ.1 + 1))) + 1 by omega, hst, y4, sy_close he h41 (by omega), hst0]
                  rfl
                · rw [if_neg (fun q => h41 q.2)]
                  refine ⟨fun h => absurd h (by dsimp only; decide), fun _ => ⟨by dsimp only; omega, fun f => ?_⟩⟩
                  dsimp only
                  rw [show f + 1 + (τ.1 - σ.1) = ((f + 1) + (τ.1 - (σ.1 + 1))) + 1 by omega, hst, y4]
                  refine sy_bad (fun _ => by omega) (fun q => absurd q h41) (fun q => ?_)
                  have hl := opr_le (sb τ.1)
                  obtain ⟨z1, z2⟩ := y5 (opr (sb τ.1) - 1) (by omega) (by omega) (by omega)
                  exact ⟨by omega, tst_yes P n40 z2⟩
              · rw [if_neg (fun q => hok q.1)]
                have hok2 : (rd od sb n 0 (o + 1) t (σ.1 + 1, σ.2)).1 = false := by
                  cases q : (rd od sb n 0 (o + 1) t (σ.1 + 1, σ.2)).1 with
                  | false => rfl
                  | true => exact absurd q hok
                obtain ⟨p1, p2⟩ := z hok2
                dsimp only at p1 p2
                refine ⟨fun h => absurd h (by dsimp only; decide), fun _ => ⟨by dsimp only; omega, fun f => ?_⟩⟩
                obtain ⟨C', a', e⟩ := p2 f
                refine ⟨C', a', ?_⟩
                dsimp only
                rw [show f + 1 + (τ.1 - σ.1) = (f + 1 + (τ.1 - (σ.1 + 1))) + 1 by omega, hst, e]
            · rw [if_neg hop]
              refine ⟨fun h => absurd h (by dsimp only; decide), fun _ => ⟨Nat.le_refl _, fun f => ⟨σ.2.1, σ.2.2, ?_⟩⟩⟩
              dsimp only
              rw [Nat.sub_self]
              exact sy_no hod (fun q => by
                rcases Nat.lt_or_ge t 8 with z | z
                · exact absurd ⟨q, z⟩ hnot
                · omega) (fun q => by
                rcases Nat.lt_or_ge o 8 with z | z
                · exact absurd ⟨q, z⟩ hop
                · omega)
/-- a whole text -/
theorem par_eq (hO : ∀ i c, od i = some c → sb i = 0) (hE : ∀ i, en i = true → sb i = 0) (h96 : ∀ i, ¬ opr (sb i) = 0 → i < 96) {n i : Nat} (hn : 79 ≤ n) : ∀ f, ∃ C' a', sy od sb en (f + 1 + ((rd od sb n 0 0 0 (i, [], 0)).2.1 - i)) i true [] [] 0 = (((rd od sb n 0 0 0 (i, [], 0)).1 && en (rd od sb n 0 0 0 (i, [], 0)).2.1), (rd od sb n 0 0 0 (i, [], 0)).2.1, C', a') ∧ (((rd od sb n 0 0 0 (i, [], 0)).1 && en (rd od sb n 0 0 0 (i, [], 0)).2.1) = true → C' = (rd od sb n 0 0 0 (i, [], 0)).2.2.1 ∧ a' = (rd od sb n 0 0 0 (i, [], 0)).2.2.2) := by
  intro f
  obtain ⟨y, z⟩ := rdy_ok hO hE h96 n 0 0 0 [] (i, [], 0) (by omega) (by omega) (by omega) (by unfold ndF; omega) rfl rfl (fun _ => trivial)
  obtain ⟨τ, hτ⟩ : ∃ τ, (rd od sb n 0 0 0 (i, [], 0)).2 = τ := ⟨_, rfl⟩
  rw [hτ] at y z ⊢
  by_cases hok : (rd od sb n 0 0 0 (i, [], 0)).1 = true
  · obtain ⟨y1, P, Cx, y2, y3, y4, y5⟩ := (y hok).2 (by omega)
    dsimp only at y1 y4
    rw [hok, y4, Bool.true_and, List.append_nil]
    have n40 := no40 y2
    have hnp : npn P = 0 := by have := npn_app (W := []) P n40; rw [List.append_nil] at this; exact this
    cases he : en τ.1 with
    | true =>
      refine ⟨τ.2.1, τ.2.2, ?_, fun _ => ⟨rfl, rfl⟩⟩
      have hs := stl_app (m := 0) (W := []) P Cx (fun x hx => ⟨n40 x hx, by omega⟩)
      rw [List.append_nil] at hs
      rw [sy, if_pos he, hnp, hs, ← y3]
      rfl
    | false =>
      obtain ⟨C', a', e⟩ := sy_bad (od := od) (sb := sb) (en := en) (f := f) (i := τ.1) (W := P) (C := Cx) (a := τ.2.2) (fun q => by rw [he] at q; exact absurd q (by decide)) (fun _ => hnp) (fun q => by
        have hl := opr_le (sb τ.1)
        obtain ⟨z1, z2⟩ := y5 (opr (sb τ.1) - 1) (by omega) (by omega) (by omega)
        have := tst_yes (W := []) P n40 z2
        rw [List.append_nil] at this
        exact ⟨by omega, this⟩)
      exact ⟨C', a', e, fun q => absurd q (by decide)⟩
  · have hok2 : (rd od sb n 0 0 0 (i, [], 0)).1 = false := by
      cases q : (rd od sb n 0 0 0 (i, [], 0)).1 with
      | false => rfl
      | true => exact absurd q hok
    obtain ⟨p1, p2⟩ := z hok2
    obtain ⟨C', a', e⟩ := p2 f
    rw [hok2, Bool.false_and]
    exact ⟨C', a', e, fun q => absurd q (by decide)⟩
end Par
