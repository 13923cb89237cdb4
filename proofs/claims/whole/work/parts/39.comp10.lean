/-! A town becomes as another one. -/
theorem cp_at {f g : Nat → Int32} {n i : Nat} (h : i < n) : va_cpy f g 0 0 n i = f i := by
  unfold va_cpy
  rw [if_pos (by omega)]
  congr 1
  omega
/-- nothing but the town is otherwise -/
def FrT (t : Nat) (I I' : Nat → Nat → Int32) : Prop := ∀ o, (o < t ∨ t + 14 < o) → I' o = I o
theorem FrT.fr {t : Nat} {I I' : Nat → Nat → Int32} (h : FrT t I I') : Fr t I I' := fun o a _ _ => h o a
theorem l_become {nx sl : Nat} {ln : Nat → Nat} {R : Nat → Nat → Option Nat} {I : Nat → Nat → Int32} {Q : Option Value → Hp → Prop} {k : Nat} (hW : SW nx ln R) {t f n m : Nat} {T : Nat → Int32} (ht : Tw t) (hf : Tw f) (htf : ¬ t = f) (hC : CT I f T n m) (hT : T 1 = nI n) (hn : n ≤ 10) : ∀ (r i : Nat) (xi : Int32) (I1 : Nat → Nat → Int32), xi = nI i → i + r = n → I1 t 2 = nI n → (∀ q, q < i → ∀ w, w < 5 → I1 (t + 2 + q) w = T (24 + 5 * q + w)) → FrT t I I1 → (∀ I2 : Nat → Nat → Int32, I2 t 2 = nI n → (∀ q, q < n → ∀ w, w < 5 → I2 (t + 2 + q) w = T (24 + 5 * q + w)) → FrT t I I2 → wp1 200 (k + 1) mX6_become 10 [some (.ref t), some (.ref f), some (.int (nI n))] [] (nx, sl, ln, R, I2) Q) → GoF (k + 1) mX6_become 10 [some (.ref t), some (.ref f), some (.int xi)] [] (nx, sl, ln, R, I1) Q := by
  have htl := tw_lt ht
  have hfl := tw_lt hf
  have hap : f + 14 < t ∨ t + 14 < f := by rcases ht with rfl | rfl | rfl <;> rcases hf with rfl | rfl | rfl <;> omega
  intro r
  induction r with
  | zero =>
    intro i xi I1 hxi hir h2 hj hF hQ
    subst hxi
    have hid : i = n := by omega
    subst hid
    exact GoF_wp1 200 (hQ I1 h2 hj hF)
  | succ r ih =>
    intro i xi I1 hxi hir h2 hj hF hQ
    subst hxi
    have hi10 : i < 10 := by omega
    refine GoF_wp1 40 ?_
    refine And.intro (w_t hW ht) ?_
    rw [h2]
    refine And.intro (fun h => absurd h (nI_ge (show i < n by omega) (by omega))) (fun _ => ?_)
    refine And.intro (fun h => absurd h (nI_ge (b := 10) hi10 (by decide))) (fun _ => ?_)
    refine And.intro (w_t hW ht) (Exists.intro _ (And.intro (w_r1 hW ht) ?_))
    refine And.intro (w_aj hW ht (hi10)) (Exists.intro _ (And.intro (w_jug hW ht (hi10)) ?_))
    refine And.intro (w_t hW hf) (Exists.intro _ (And.intro (w_r1 hW hf) ?_))
    refine And.intro (w_aj hW hf hi10) (Exists.intro _ (And.intro (w_jug hW hf hi10) ?_))
    refine And.intro (w_kj hW ht (hi10)) ?_
    refine c_jbecome (w_kj hW ht hi10) (w_kj hW hf hi10) (by omega) ?_
    refine ih (i + 1) _ _ (nI_1 i) (by omega) (by rw [jb_ne (by omega)]; exact h2) (fun q hq w hw => ?_) (fun o ho => by rw [jb_ne (by omega)]; exact hF o ho) hQ
    by_cases hqi : q = i
    · subst hqi
      rw [jb_at hw, hF _ (by omega)]
      exact hC.2.1 q (by omega) w hw
    · rw [jb_ne (by omega)]; exact hj q (by omega) w hw
set_option maxHeartbeats 2000000 in
theorem c_become {nx sl : Nat} {ln : Nat → Nat} {R : Nat → Nat → Option Nat} {I : Nat → Nat → Int32} {Q : Option Value → Hp → Prop} {k : Nat} (hW : SW nx ln R) {t f n m : Nat} {T : Nat → Int32} (ht : Tw t) (hf : Tw f) (htf : ¬ t = f) (hC : CT I f T n m) (hT : T 1 = nI n) (hn : n ≤ 10) (hQ : ∀ I2, CT I2 t T n m → FrT t I I2 → Q none (nx, sl, ln, R, I2)) : Go (k + 1) mX6_become [.ref t, .ref f] (nx, sl, ln, R, I) Q := by
  have htl := tw_lt ht
  have hfl := tw_lt hf
  have hap : f + 14 < t ∨ t + 14 < f := by rcases ht with rfl | rfl | rfl <;> rcases hf with rfl | rfl | rfl <;> omega
  obtain ⟨c1, c2, c3, c4, c5, c6, c7, c8, c9, c10, c11, c12⟩ := id hC
  have lh : ∀ t, Tw t → ln (t + 12) = 8 ∧ ln (t + 13) = 8 ∧ ln (t + 14) = 3 := by
    intro t ht
    have := tw_lt ht
    rw [hW.2.1 (t + 12) (by omega), hW.2.1 (t + 13) (by omega), hW.2.1 (t + 14) (by omega)]
    rcases ht with rfl | rfl | rfl <;> exact ⟨rfl, rfl, rfl⟩
  obtain ⟨lt1, lt2, lt3⟩ := lh t ht
  obtain ⟨lf1, lf2, lf3⟩ := lh f hf
  refine Go_wp 20 rfl ?_
  refine And.intro (w_t hW hf) ?_
  refine And.intro (w_t hW ht) ?_
  rw [c1, hT]
  refine l_become hW ht hf htf hC hT hn n 0 _ _ rfl (by omega) (by rw [up2_eq, up1_eq]) (fun q hq => absurd hq (Nat.not_lt_zero q)) (fun o ho => up2_ne (by omega)) (fun I1 h2 hj hF => ?_)
  refine And.intro (w_t hW ht) ?_
  rw [h2]
  refine And.intro (fun _ => ?_) (fun h => absurd (nI_le (Nat.le_refl n) (by omega)) h)
  refine And.intro (w_t hW hf) (Exists.intro _ (And.intro (w_r3 hW hf) ?_))
  refine And.intro (w_t hW ht) (Exists.intro _ (And.intro (w_r3 hW ht) ?_))
  refine And.intro ⟨(w_h hW hf (i := 0) (by decide)).1, (w_h hW ht (i := 0) (by decide)).1, by decide, by decide, by decide, by rw [lf1]; decide, by rw [lt1]; decide⟩ ?_
  obtain ⟨I2, e2⟩ : ∃ I2, up1 I1 (t + 12) (va_cpy (I1 (f + 12)) (I1 (t + 12)) (0 : Int32).toNatClampNeg (0 : Int32).toNatClampNeg (8 : Int32).toNatClampNeg) = I2 := ⟨_, rfl⟩
  rw [e2]
  have o2 : ∀ o, ¬ o = t + 12 → I2 o = I1 o := fun o ho => by rw [← e2, up1_ne ho]
  have v2 : ∀ i, i < 8 → I2 (t + 12) i = T (8 + i) := fun i hi => by
    rw [← e2, up1_eq]
    show va_cpy (I1 (f + 12)) (I1 (t + 12)) 0 0 8 i = _
    rw [cp_at hi, hF _ (by omega)]
    exact c3 i hi
  refine And.intro (w_t hW hf) (Exists.intro _ (And.intro (w_r4 hW hf) ?_))
  refine And.intro (w_t hW ht) (Exists.intro _ (And.intro (w_r4 hW ht) ?_))
  refine And.intro ⟨(w_d hW hf (i := 0) (by decide)).1, (w_d hW ht (i := 0) (by decide)).1, by decide, by decide, by decide, by rw [lf2]; decide, by rw [lt2]; decide⟩ ?_
  obtain ⟨I3, e3⟩ : ∃ I3, up1 I2 (t + 13) (va_cpy (I2 (f + 13)) (I2 (t + 13)) (0 : Int32).toNatClampNeg (0 : Int32).toNatClampNeg (8 : Int32).toNatClampNeg) = I3 := ⟨_, rfl⟩
  rw [e3]
  have o3 : ∀ o, ¬ o = t + 13 → I3 o = I2 o := fun o ho => by rw [← e3, up1_ne ho]
  have v3 : ∀ i, i < 8 → I3 (t + 13) i = T (16 + i) := fun i hi => by
    rw [← e3, up1_eq]
    show va_cpy (I2 (f + 13)) (I2 (t + 13)) 0 0 8 i = _
    rw [cp_at hi, o2 _ (by omega), hF _ (by omega)]
    exact c4 i hi
  have of3 : ∀ o, (o < t ∨ t + 14 < o) → I3 o = I o := fun o ho => by rw [o3 _ (by omega), o2 _ (by omega), hF o ho]
  have f3 : I3 f = I f := of3 f (by omega)
  have ft : ∀ (J : Nat → Nat → Int32) (a : Nat) (v : Int32), J f = I f → up2 J t a v f = I f := fun J a v h => by rw [up2_ne (by omega)]; exact h
  refine And.intro (w_t hW hf) ?_
  refine And.intro (w_t hW ht) ?_
  rw [f3, c5]
  refine And.intro (w_t hW hf) ?_
  refine And.intro (w_t hW ht) ?_
  rw [ft _ _ _ f3, c6]
  refine And.intro (w_t hW hf) ?_
  refine And.intro (w_t hW ht) ?_
  rw [ft _ _ _ (ft _ _ _ f3), c7]
  refine And.intro (w_t hW hf) ?_
  refine And.intro (w_t hW ht) ?_
  rw [ft _ _ _ (ft _ _ _ (ft _ _ _ f3)), c8]
  refine And.intro (w_t hW hf) ?_
  refine And.intro (w_t hW ht) ?_
  rw [ft _ _ _ (ft _ _ _ (ft _ _ _ (ft _ _ _ f3))), c9]
  refine And.intro (w_t hW hf) ?_
  refine And.intro (w_t hW ht) ?_
  rw [ft _ _ _ (ft _ _ _ (ft _ _ _ (ft _ _ _ (ft _ _ _ f3)))), c10]
  refine And.intro (w_t hW hf) ?_
  refine And.intro (w_t hW ht) ?_
  rw [ft _ _ _ (ft _ _ _ (ft _ _ _ (ft _ _ _ (ft _ _ _ (ft _ _ _ f3))))), c11]
  obtain ⟨I4, e4⟩ : ∃ I4, up2 (up2 (up2 (up2 (up2 (up2 (up2 I3 t 5 (T 3)) t 6 (T 4)) t 7 (T 5)) t 8 (T 6)) t 9 (T 2)) t 10 (T 0)) t 11 (T 7) = I4 := ⟨_, rfl⟩
  rw [e4]
  have o4 : ∀ o, ¬ o = t → I4 o = I3 o := fun o ho => by rw [← e4, up2_ne ho, up2_ne ho, up2_ne ho, up2_ne ho, up2_ne ho, up2_ne ho, up2_ne ho]
  have r4 : I4 t = up1 (up1 (up1 (up1 (up1 (up1 (up1 (I3 t) 5 (T 3)) 6 (T 4)) 7 (T 5)) 8 (T 6)) 9 (T 2)) 10 (T 0)) 11 (T 7) := by rw [← e4, up2_eq, up2_eq, up2_eq, up2_eq, up2_eq, up2_eq, up2_eq]
  refine And.intro (w_t hW hf) (Exists.intro _ (And.intro (w_r12 hW hf) ?_))
  refine And.intro (w_t hW ht) (Exists.intro _ (And.intro (w_r12 hW ht) ?_))
  refine And.intro ⟨(w_c hW hf (i := 0) (by decide)).1, (w_c hW ht (i := 0) (by decide)).1, by decide, by decide, by decide, by rw [lf3]; decide, by rw [lt3]; decide⟩ ?_
  obtain ⟨I5, e5⟩ : ∃ I5, up1 I4 (t + 14) (va_cpy (I4 (f + 14)) (I4 (t + 14)) (0 : Int32).toNatClampNeg (0 : Int32).toNatClampNeg (3 : Int32).toNatClampNeg) = I5 := ⟨_, rfl⟩
  rw [e5]
  have o5 : ∀ o, ¬ o = t + 14 → I5 o = I4 o := fun o ho => by rw [← e5, up1_ne ho]
  have v5 : ∀ i, i < 3 → I5 (t + 14) i = coF T i m := fun i hi => by
    rw [← e5, up1_eq]
    show va_cpy (I4 (f + 14)) (I4 (t + 14)) 0 0 3 i = _
    rw [cp_at hi, o4 _ (by omega), of3 _ (by omega)]
    exact c12 i hi
  have r5 := (o5 t (by omega)).trans r4
  refine hQ I5 ⟨?_, fun q hq w hw => ?_, fun q hq => ?_, fun q hq => ?_, ?_, ?_, ?_, ?_, ?_, ?_, ?_, v5⟩ (fun o ho => by rw [o5 _ (by omega), o4 _ (by omega), of3 o ho])
  · rw [r5, up1_ne (by decide), up1_ne (by decide), up1_ne (by decide), up1_ne (by decide), up1_ne (by decide), up1_ne (by decide), up1_ne (by decide), o3 _ (by omega), o2 _ (by omega), h2, hT]
  · rw [o5 _ (by omega), o4 _ (by omega), o3 _ (by omega), o2 _ (by omega)]; exact hj q hq w hw
  · rw [o5 _ (by omega), o4 _ (by omega), o3 _ (by omega)]; exact v2 q hq
  · rw [o5 _ (by omega), o4 _ (by omega)]; exact v3 q hq
  · rw [r5, up1_ne (by decide), up1_ne (by decide), up1_ne (by decide), up1_ne (by decide), up1_ne (by decide), up1_ne (by decide), up1_eq]
  · rw [r5, up1_ne (by decide), up1_ne (by decide), up1_ne (by decide), up1_ne (by decide), up1_ne (by decide), up1_eq]
  · rw [r5, up1_ne (by decide), up1_ne (by decide), up1_ne (by decide), up1_ne (by decide), up1_eq]
  · rw [r5, up1_ne (by decide), up1_ne (by decide), up1_ne (by decide), up1_eq]
  · rw [r5, up1_ne (by decide), up1_ne (by decide), up1_eq]
  · rw [r5, up1_ne (by decide), up1_eq]
  · rw [r5, up1_eq]
