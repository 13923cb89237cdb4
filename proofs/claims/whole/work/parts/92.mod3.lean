/-! The model's reader: what waits. -/
def WO : List Nat → Prop
  | [] => True
  | x :: W => wOk x ∧ WO W ∧ (¬ opr x = 0 → sgO (rk x - 1) W)
theorem WO.all : ∀ {W : List Nat}, WO W → ∀ x, x ∈ W → wOk x := by
  intro W
  induction W with
  | nil => intro _ x hx; cases hx
  | cons y W ih =>
    intro h x hx
    rcases List.mem_cons.mp hx with q | q
    · rw [q]; exact h.1
    · exact ih h.2.1 x q
def TSo (f : Nat → Int32) : List Nat → Prop
  | [] => True
  | x :: W => (x = 40 → f (npn W) = b01 (tst W)) ∧ TSo f W
def TT (f : Nat → Int32) (W : List Nat) : Prop := f (npn W) = b01 (tst W) ∧ TSo f W
theorem TSo.up {f : Nat → Int32} {n : Nat} {v : Int32} : ∀ {W : List Nat}, npn W ≤ n → TSo f W → TSo (up1 f n v) W := by
  intro W
  induction W with
  | nil => intro _ _; trivial
  | cons x W ih =>
    intro hn h
    rw [npn] at hn
    refine ⟨fun e => ?_, ih (by omega) h.2⟩
    rw [if_pos e] at hn
    rw [up1_ne (by omega)]
    exact h.1 e
theorem stl_len {m : Nat} : ∀ (W : List Nat) (C : List Int32), (stl m W C).1.length + (stl m W C).2.length = W.length + C.length := by
  intro W
  induction W with
  | nil => intro C; rfl
  | cons x W ih =>
    intro C
    rw [stl]
    split
    · rw [ih, List.length_cons, List.length_cons]; omega
    · rfl
theorem stl_mono {m : Nat} : ∀ (W : List Nat) (C : List Int32), C.length ≤ (stl m W C).2.length := by
  intro W
  induction W with
  | nil => intro C; exact Nat.le_refl _
  | cons x W ih =>
    intro C
    rw [stl]
    split
    · have := ih (wc x :: C); rw [List.length_cons] at this; omega
    · exact Nat.le_refl _
theorem stl_wo {m : Nat} : ∀ (W : List Nat) (C : List Int32), WO W → WO (stl m W C).1 := by
  intro W
  induction W with
  | nil => intro C h; exact h
  | cons x W ih =>
    intro C h
    rw [stl]
    split
    · exact ih _ h.2.1
    · exact h
theorem rk5 {x : Nat} (h : wOk x) (h6 : 6 ≤ rk x) : x = 33 := by
  rcases h with e | e | e
  · rw [e, rk40] at h6; omega
  · exact e
  · rw [rk_op e] at h6
    have := opr_le x
    omega
/-- nots alone are taken off -/
theorem stl6 {f : Nat → Int32} : ∀ (W : List Nat) (C : List Int32), WO W → npn (stl 6 W C).1 = npn W ∧ tst (stl 6 W C).1 = tst W ∧ (TSo f W → TSo f (stl 6 W C).1) ∧ sgO 5 (stl 6 W C).1 := by
  intro W
  induction W with
  | nil => intro C _; exact ⟨rfl, rfl, fun h => h, trivial⟩
  | cons x W ih =>
    intro C h
    rw [stl]
    by_cases e : ¬ x = 40 ∧ 6 ≤ rk x
    · rw [if_pos e]
      have hx := rk5 h.1 e.2
      subst hx
      obtain ⟨a1, a2, a3, a4⟩ := ih (wc 33 :: C) h.2.1
      refine ⟨?_, ?_, fun hf => a3 hf.2, a4⟩
      · rw [a1, npn, if_neg (by decide), Nat.zero_add]
      · rw [a2, tst, if_neg (by decide), if_neg (by decide)]
    · rw [if_neg e]
      refine ⟨rfl, rfl, fun hf => hf, ?_⟩
      by_cases h40 : x = 40
      · exact Or.inl h40
      · have h6 : ¬ 6 ≤ rk x := fun q => e ⟨h40, q⟩
        rcases h.1 with q | q | q
        · exact absurd q h40
        · rw [q] at h6; exact absurd (by decide) h6
        · have := opr_le x
          rw [rk_op q] at h6
          refine Or.inr ⟨by rw [rk_op q]; omega, by rw [rk_op q]; omega, sgO_mono ?_ W (h.2.2 q)⟩
          rw [rk_op q]; omega
/-- an operator takes those off that bind no less -/
theorem stlr {f : Nat → Int32} {r : Nat} (hr1 : 1 ≤ r) (hr5 : r ≤ 5) : ∀ (W : List Nat) (C : List Int32), WO W → sgO 5 W → npn (stl r W C).1 = npn W ∧ nnt (stl r W C).1 = nnt W ∧ (3 < r → tst (stl r W C).1 = tst W) ∧ (TSo f W → TSo f (stl r W C).1) ∧ sgO (r - 1) (stl r W C).1 := by
  intro W
  induction W with
  | nil => intro C _ _; exact ⟨rfl, rfl, fun _ => rfl, fun h => h, trivial⟩
  | cons x W ih =>
    intro C h hs
    rw [stl]
    by_cases e : ¬ x = 40 ∧ r ≤ rk x
    · rw [if_pos e]
      rcases hs with q | ⟨q1, q2, q3⟩
      · exact absurd q e.1
      · have hx : ¬ opr x = 0 := by
          rcases h.1 with z | z | z
          · exact absurd z e.1
          · rw [z] at q2; exact absurd q2 (by decide)
          · exact z
        obtain ⟨a1, a2, a3, a4, a5⟩ := ih (wc x :: C) h.2.1 q3
        obtain ⟨n1, n2⟩ := npn_op hx W
        refine ⟨by rw [a1, n1], by rw [a2, n2], fun h3 => ?_, fun hf => a4 hf.2, a5⟩
        rw [a3 h3, tst, if_neg e.1, if_neg (by omega)]
    · rw [if_neg e]
      refine ⟨rfl, rfl, fun _ => rfl, fun hf => hf, ?_⟩
      by_cases h40 : x = 40
      · exact Or.inl h40
      · rcases hs with q | ⟨q1, q2, q3⟩
        · exact absurd q h40
        · have hlt : rk x < r := by
            rcases Nat.lt_or_ge (rk x) r with z | z
            · exact z
            · exact absurd ⟨h40, z⟩ e
          have hx : ¬ opr x = 0 := by
            rcases h.1 with z | z | z
            · exact absurd z h40
            · rw [z] at q2; exact absurd q2 (by decide)
            · exact z
          exact Or.inr ⟨q1, by omega, sgO_mono (by omega) W (h.2.2 hx)⟩
/-- down to the open one -/
theorem stl0 {f : Nat → Int32} : ∀ (W : List Nat) (C : List Int32), WO W → sgO 5 W → TSo f W → (npn W = 0 → (stl 0 W C).1 = []) ∧ (0 < npn W → ∃ W2, (stl 0 W C).1 = 40 :: W2 ∧ npn W = npn W2 + 1 ∧ WO W2 ∧ TT f W2) := by
  intro W
  induction W with
  | nil => intro C _ _ _; exact ⟨fun _ => rfl, fun h => absurd h (by rw [npn]; omega)⟩
  | cons x W ih =>
    intro C h hs hf
    rw [stl]
    by_cases h40 : x = 40
    · rw [if_neg (fun q => q.1 h40)]
      subst h40
      refine ⟨fun q => ?_, fun _ => ⟨W, rfl, ?_, h.2.1, hf.1 rfl, hf.2⟩⟩
      · rw [npn, if_pos rfl] at q; omega
      · rw [npn, if_pos rfl]; omega
    · rw [if_pos ⟨h40, by omega⟩]
      rcases hs with q | ⟨q1, q2, q3⟩
      · exact absurd q h40
      · obtain ⟨a1, a2⟩ := ih (wc x :: C) h.2.1 q3 hf.2
        have e : npn (x :: W) = npn W := by rw [npn, if_neg h40, Nat.zero_add]
        rw [e]
        exact ⟨a1, a2⟩
theorem ms_push {B : Nat → Nat} {L key i a x : Nat} {W : List Nat} {C : List Int32} {I : Nat → Nat → Int32} (h : MS B L key I i W C a) : MS B L key (up2 (up2 I 96 W.length (wc x)) 85 22 (nI (W.length + 1))) i (x :: W) C a := by
  obtain ⟨s1, s2, s3, s4, s5, s6, s7, s8⟩ := h
  refine ⟨s1.keep2 (by rw [up2_eq, up1_ne (by decide), up2_ne (by decide)]) (by rw [up2_ne (by decide), up2_ne (by decide)]), s2.keep (fun q h1 h2 => by rw [up2_eq, up1_ne (by omega), up2_ne (by decide)]), ?_, ?_, ?_, ?_, ?_, ?_⟩
  · rw [up2_eq, up1_ne (by decide), up2_ne (by decide)]; exact s3
  · rw [up2_eq, up1_ne (by decide), up2_ne (by decide)]; exact s4
  · rw [up2_eq, up1_ne (by decide), up2_ne (by decide)]; exact s5
  · rw [up2_eq, up1_eq, List.length_cons]
  · rw [up2_ne (by decide), up2_ne (by decide)]; exact s7
  · rw [up2_ne (by decide), up2_eq, List.map_cons]
    have := s8.push (wc x)
    rw [List.length_map] at this
    exact this
theorem ms_97 {B : Nat → Nat} {L key i a n : Nat} {v : Int32} {W : List Nat} {C : List Int32} {I : Nat → Nat → Int32} (h : MS B L key I i W C a) : MS B L key (up2 I 97 n v) i W C a := by
  obtain ⟨s1, s2, s3, s4, s5, s6, s7, s8⟩ := h
  exact ⟨s1.keep2 (by rw [up2_ne (by decide)]) (by rw [up2_ne (by decide)]), s2.keep (fun q h1 h2 => by rw [up2_ne (by decide)]), by rw [up2_ne (by decide)]; exact s3, by rw [up2_ne (by decide)]; exact s4, by rw [up2_ne (by decide)]; exact s5, by rw [up2_ne (by decide)]; exact s6, by rw [up2_ne (by decide)]; exact s7, by rw [up2_ne (by decide)]; exact s8⟩
theorem nar_b (b : Bool) : vp_nar .boolean (b01 b) = b01 b := by cases b <;> rfl
theorem wp_ic {n k m pc np a b c d e : Nat} {x : Int32} {sw : List (Int32 × Nat)} {L : List (Option Value)} {S : List Value} {h : Hp} {Q : Option Value → Hp → Prop} (hc : cd m pc = some (0, 0, np, a, b, c, d, e, x, sw, false)) (hw : wp n k m np L (.int x :: S) h Q) : wp (n + 1) k m pc L S h Q := by
  rw [wp, hc]
  exact hw
