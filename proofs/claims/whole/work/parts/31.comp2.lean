/-! The component's towns and texts: how they stand for the model's row. -/
def Tw (t : Nat) : Prop := t = 5 ∨ t = 20 ∨ t = 35
theorem kj_all : ∀ j, j < 10 → KD (5 + 2 + j) = 0 ∧ KD (20 + 2 + j) = 0 ∧ KD (35 + 2 + j) = 0 := by decide
theorem rj_all : ∀ j, j < 10 → RR (5 + 1) j = some (5 + 2 + j) ∧ RR (20 + 1) j = some (20 + 2 + j) ∧ RR (35 + 1) j = some (35 + 2 + j) := by decide
section TwL
variable {nx : Nat} {ln : Nat → Nat} {R : Nat → Nat → Option Nat} {t j : Nat}
theorem tw_lt (ht : Tw t) : t + 14 < 85 ∧ 5 ≤ t := by rcases ht with rfl | rfl | rfl <;> decide
theorem tw_b2 {o : Nat} (h : 5 ≤ o) : Nat.beq o 2 = false := by
  cases hq : Nat.beq o 2 with
  | false => rfl
  | true => exact absurd (Nat.eq_of_beq_eq_true hq) (by omega)
theorem w_t (hW : SW nx ln R) (ht : Tw t) : KD t = 6 ∧ t < nx := ⟨by rcases ht with rfl | rfl | rfl <;> rfl, sw_lt hW (by have := tw_lt ht; omega)⟩
theorem w_r0 (hW : SW nx ln R) (ht : Tw t) : rv (R t 0) = .ref 1 := sw_r hW (by have := tw_lt ht; omega) (tw_b2 (tw_lt ht).2) (by rcases ht with rfl | rfl | rfl <;> rfl)
theorem w_r1 (hW : SW nx ln R) (ht : Tw t) : rv (R t 1) = .ref (t + 1) := sw_r hW (by have := tw_lt ht; omega) (tw_b2 (tw_lt ht).2) (by rcases ht with rfl | rfl | rfl <;> rfl)
theorem w_r3 (hW : SW nx ln R) (ht : Tw t) : rv (R t 3) = .ref (t + 12) := sw_r hW (by have := tw_lt ht; omega) (tw_b2 (tw_lt ht).2) (by rcases ht with rfl | rfl | rfl <;> rfl)
theorem w_r4 (hW : SW nx ln R) (ht : Tw t) : rv (R t 4) = .ref (t + 13) := sw_r hW (by have := tw_lt ht; omega) (tw_b2 (tw_lt ht).2) (by rcases ht with rfl | rfl | rfl <;> rfl)
theorem w_r12 (hW : SW nx ln R) (ht : Tw t) : rv (R t 12) = .ref (t + 14) := sw_r hW (by have := tw_lt ht; omega) (tw_b2 (tw_lt ht).2) (by rcases ht with rfl | rfl | rfl <;> rfl)
theorem w_kj (hW : SW nx ln R) (ht : Tw t) (hj : j < 10) : KD (t + 2 + j) = 0 ∧ t + 2 + j < nx := ⟨by rcases ht with rfl | rfl | rfl; exact (kj_all j hj).1; exact (kj_all j hj).2.1; exact (kj_all j hj).2.2, sw_lt hW (by have := tw_lt ht; omega)⟩
theorem w_aj (hW : SW nx ln R) (ht : Tw t) (hj : j < 10) : (12 < KD (t + 1) ∧ t + 1 < nx) ∧ ¬ nI j < 0 ∧ (nI j).toNatClampNeg < ln (t + 1) := by
  refine ⟨⟨by rcases ht with rfl | rfl | rfl <;> decide, sw_lt hW (by have := tw_lt ht; omega)⟩, nI_pos (by omega), ?_⟩
  rw [ix (by omega), hW.2.1 (t + 1) (by have := tw_lt ht; omega), show LN (t + 1) = 10 by rcases ht with rfl | rfl | rfl <;> rfl]
  exact hj
theorem w_jug (hW : SW nx ln R) (ht : Tw t) (hj : j < 10) : rv (R (t + 1) (nI j).toNatClampNeg) = .ref (t + 2 + j) := by
  rw [ix (by omega)]
  exact sw_r hW (by have := tw_lt ht; omega) (tw_b2 (by have := tw_lt ht; omega)) (by rcases ht with rfl | rfl | rfl; exact (rj_all j hj).1; exact (rj_all j hj).2.1; exact (rj_all j hj).2.2)
theorem w_h (hW : SW nx ln R) (ht : Tw t) {i : Nat} (hi : i < 8) : (KD (t + 12) = 11 ∧ t + 12 < nx) ∧ ¬ nI i < 0 ∧ (nI i).toNatClampNeg < ln (t + 12) := sw_n hW (by have := tw_lt ht; omega) (by rcases ht with rfl | rfl | rfl <;> rfl) (by rcases ht with rfl | rfl | rfl <;> rfl) hi (by decide)
theorem w_d (hW : SW nx ln R) (ht : Tw t) {i : Nat} (hi : i < 8) : (KD (t + 13) = 11 ∧ t + 13 < nx) ∧ ¬ nI i < 0 ∧ (nI i).toNatClampNeg < ln (t + 13) := sw_n hW (by have := tw_lt ht; omega) (by rcases ht with rfl | rfl | rfl <;> rfl) (by rcases ht with rfl | rfl | rfl <;> rfl) hi (by decide)
theorem w_c (hW : SW nx ln R) (ht : Tw t) {i : Nat} (hi : i < 3) : (KD (t + 14) = 11 ∧ t + 14 < nx) ∧ ¬ nI i < 0 ∧ (nI i).toNatClampNeg < ln (t + 14) := sw_n hW (by have := tw_lt ht; omega) (by rcases ht with rfl | rfl | rfl <;> rfl) (by rcases ht with rfl | rfl | rfl <;> rfl) hi (by decide)
end TwL
/-- the text that counts, as the component tells it -/
def coF (T : Nat → Int32) (q m : Nat) : Int32 := if cnF T (nI q) m < 0 then -1000000005 else cnF T (nI q) m
/-- town t stands for the row T -/
def CT (I : Nat → Nat → Int32) (t : Nat) (T : Nat → Int32) (n m : Nat) : Prop := I t 2 = T 1 ∧ (∀ j, j < n → ∀ w, w < 5 → I (t + 2 + j) w = T (24 + 5 * j + w)) ∧ (∀ i, i < 8 → I (t + 12) i = T (8 + i)) ∧ (∀ i, i < 8 → I (t + 13) i = T (16 + i)) ∧ I t 5 = T 3 ∧ I t 6 = T 4 ∧ I t 7 = T 5 ∧ I t 8 = T 6 ∧ I t 9 = T 2 ∧ I t 10 = T 0 ∧ I t 11 = T 7 ∧ ∀ q, q < 3 → I (t + 14) q = coF T q m
theorem cn_up {T : Nat → Int32} {key v : Int32} {p : Nat} (hp : p < 74) : ∀ m, cnF (up1 T p v) key m = cnF T key m := by
  intro m
  induction m with
  | zero => rfl
  | succ m ih => unfold cnF; rw [up1_gt (by omega), ih]
theorem co_up {T : Nat → Int32} {v : Int32} {p q m : Nat} (hp : p < 74) : coF (up1 T p v) q m = coF T q m := by unfold coF; rw [cn_up hp]
/-- what else a town's method may change: the names and the stack of the laws -/
def Fr (t : Nat) (I I' : Nat → Nat → Int32) : Prop := ∀ o, (o < t ∨ t + 14 < o) → ¬ o = 3 → ¬ o = 4 → I' o = I o
theorem Fr.rf {t : Nat} {I : Nat → Nat → Int32} : Fr t I I := fun _ _ _ _ => rfl
theorem Fr.tr {t : Nat} {I I1 I2 : Nat → Nat → Int32} (h1 : Fr t I I1) (h2 : Fr t I1 I2) : Fr t I I2 := fun o a b c => (h2 o a b c).trans (h1 o a b c)
theorem Fr.up {t : Nat} {I : Nat → Nat → Int32} {o k : Nat} {v : Int32} (ho : t ≤ o ∧ o ≤ t + 14) : Fr t I (up2 I o k v) := fun q h1 _ _ => up2_ne (by omega)
section CTu
variable {I : Nat → Nat → Int32} {t : Nat} {T : Nat → Int32} {n m : Nat} {v : Int32}
theorem CT.jug (h : CT I t T n m) (hn : n ≤ 10) {j w : Nat} (hj : j < n) (hw : w < 5) : CT (up2 I (t + 2 + j) w v) t (up1 T (24 + 5 * j + w) v) n m := by
  obtain ⟨c1, c2, c3, c4, c5, c6, c7, c8, c9, c10, c11, c12⟩ := h
  refine ⟨by rw [up2_ne (by omega), up1_ne (by omega)]; exact c1, fun q hq u hu => ?_, fun i hi => by rw [up2_ne (by omega), up1_ne (by omega)]; exact c3 i hi, fun i hi => by rw [up2_ne (by omega), up1_ne (by omega)]; exact c4 i hi, by rw [up2_ne (by omega), up1_ne (by omega)]; exact c5, by rw [up2_ne (by omega), up1_ne (by omega)]; exact c6, by rw [up2_ne (by omega), up1_ne (by omega)]; exact c7, by rw [up2_ne (by omega), up1_ne (by omega)]; exact c8, by rw [up2_ne (by omega), up1_ne (by omega)]; exact c9, by rw [up2_ne (by omega), up1_ne (by omega)]; exact c10, by rw [up2_ne (by omega), up1_ne (by omega)]; exact c11, fun q hq => by rw [up2_ne (by omega), co_up (by omega)]; exact c12 q hq⟩
  by_cases hqj : q = j
  · subst hqj
    rw [up2_eq]
    by_cases huw : u = w
    · subst huw; rw [up1_eq, up1_eq]
    · rw [up1_ne huw, up1_ne (by omega)]; exact c2 q hq u hu
  · rw [up2_ne (by omega), up1_ne (by omega)]; exact c2 q hq u hu
theorem CT.had (h : CT I t T n m) (hn : n ≤ 10) {i : Nat} (hi : i < 8) : CT (up2 I (t + 13) i v) t (up1 T (16 + i) v) n m := by
  obtain ⟨c1, c2, c3, c4, c5, c6, c7, c8, c9, c10, c11, c12⟩ := h
  refine ⟨by rw [up2_ne (by omega), up1_ne (by omega)]; exact c1, fun q hq u hu => by rw [up2_ne (by omega), up1_ne (by omega)]; exact c2 q hq u hu, fun i hi => by rw [up2_ne (by omega), up1_ne (by omega)]; exact c3 i hi, fun q hq => ?_, by rw [up2_ne (by omega), up1_ne (by omega)]; exact c5, by rw [up2_ne (by omega), up1_ne (by omega)]; exact c6, by rw [up2_ne (by omega), up1_ne (by omega)]; exact c7, by rw [up2_ne (by omega), up1_ne (by omega)]; exact c8, by rw [up2_ne (by omega), up1_ne (by omega)]; exact c9, by rw [up2_ne (by omega), up1_ne (by omega)]; exact c10, by rw [up2_ne (by omega), up1_ne (by omega)]; exact c11, fun q hq => by rw [up2_ne (by omega), co_up (by omega)]; exact c12 q hq⟩
  rw [up2_eq]
  by_cases hqi : q = i
  · subst hqi; rw [up1_eq, up1_eq]
  · rw [up1_ne hqi, up1_ne (by omega)]; exact c4 q hq
theorem CT.heart (h : CT I t T n m) (hn : n ≤ 10) {i : Nat} (hi : i < 8) : CT (up2 I (t + 12) i v) t (up1 T (8 + i) v) n m := by
  obtain ⟨c1, c2, c3, c4, c5, c6, c7, c8, c9, c10, c11, c12⟩ := h
  refine ⟨by rw [up2_ne (by omega), up1_ne (by omega)]; exact c1, fun q hq u hu => by rw [up2_ne (by omega), up1_ne (by omega)]; exact c2 q hq u hu, fun q hq => ?_, fun i hi => by rw [up2_ne (by omega), up1_ne (by omega)]; exact c4 i hi, by rw [up2_ne (by omega), up1_ne (by omega)]; exact c5, by rw [up2_ne (by omega), up1_ne (by omega)]; exact c6, by rw [up2_ne (by omega), up1_ne (by omega)]; exact c7, by rw [up2_ne (by omega), up1_ne (by omega)]; exact c8, by rw [up2_ne (by omega), up1_ne (by omega)]; exact c9, by rw [up2_ne (by omega), up1_ne (by omega)]; exact c10, by rw [up2_ne (by omega), up1_ne (by omega)]; exact c11, fun q hq => by rw [up2_ne (by omega), co_up (by omega)]; exact c12 q hq⟩
  rw [up2_eq]
  by_cases hqi : q = i
  · subst hqi; rw [up1_eq, up1_eq]
  · rw [up1_ne hqi, up1_ne (by omega)]; exact c3 q hq
/-- a number of the town itself: FROST, GOT, SOLD, BROKEN, DAY, z -/
theorem CT.num (h : CT I t T n m) (hn : n ≤ 10) {a p : Nat} (hp : (a = 5 ∧ p = 3) ∨ (a = 6 ∧ p = 4) ∨ (a = 7 ∧ p = 5) ∨ (a = 8 ∧ p = 6) ∨ (a = 9 ∧ p = 2) ∨ (a = 10 ∧ p = 0)) : CT (up2 I t a v) t (up1 T p v) n m := by
  obtain ⟨c1, c2, c3, c4, c5, c6, c7, c8, c9, c10, c11, c12⟩ := h
  have key : ∀ b r, ((b = 2 ∧ r = 1) ∨ (b = 5 ∧ r = 3) ∨ (b = 6 ∧ r = 4) ∨ (b = 7 ∧ r = 5) ∨ (b = 8 ∧ r = 6) ∨ (b = 9 ∧ r = 2) ∨ (b = 10 ∧ r = 0) ∨ (b = 11 ∧ r = 7)) → I t b = T r → up2 I t a v t b = up1 T p v r := by
    intro b r hb e
    rw [up2_eq]
    by_cases hab : b = a
    · have : r = p := by omega
      subst hab; subst this; rw [up1_eq, up1_eq]
    · rw [up1_ne hab, up1_ne (by omega)]; exact e
  exact ⟨key 2 1 (by omega) c1, fun q hq u hu => by rw [up2_ne (by omega), up1_ne (by omega)]; exact c2 q hq u hu, fun i hi => by rw [up2_ne (by omega), up1_ne (by omega)]; exact c3 i hi, fun i hi => by rw [up2_ne (by omega), up1_ne (by omega)]; exact c4 i hi, key 5 3 (by omega) c5, key 6 4 (by omega) c6, key 7 5 (by omega) c7, key 8 6 (by omega) c8, key 9 2 (by omega) c9, key 10 0 (by omega) c10, key 11 7 (by omega) c11, fun q hq => by rw [up2_ne (by omega), co_up (by omega)]; exact c12 q hq⟩
/-- what lies elsewhere doesn't matter -/
theorem CT.keep {I' : Nat → Nat → Int32} (h : CT I t T n m) (hn : n ≤ 10) (he : ∀ o, t ≤ o → o ≤ t + 14 → I' o = I o) : CT I' t T n m := by
  obtain ⟨c1, c2, c3, c4, c5, c6, c7, c8, c9, c10, c11, c12⟩ := h
  have e0 := he t (by omega) (by omega)
  exact ⟨by rw [e0]; exact c1, fun q hq u hu => by rw [he _ (by omega) (by omega)]; exact c2 q hq u hu, fun i hi => by rw [he _ (by omega) (by omega)]; exact c3 i hi, fun i hi => by rw [he _ (by omega) (by omega)]; exact c4 i hi, by rw [e0]; exact c5, by rw [e0]; exact c6, by rw [e0]; exact c7, by rw [e0]; exact c8, by rw [e0]; exact c9, by rw [e0]; exact c10, by rw [e0]; exact c11, fun q hq => by rw [he _ (by omega) (by omega)]; exact c12 q hq⟩
end CTu
