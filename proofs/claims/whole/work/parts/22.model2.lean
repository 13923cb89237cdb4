/-! The model: texts that count, what a text gives. -/
theorem nw_oth (J : Nat → Nat → Int32) (T : Nat → Int32) {o : Nat} (ho : ¬ o = 86) (i : Nat) (v : Int32) : up2 (nw J T) o i v = nw (up2 J o i v) T := by
  funext q
  by_cases h : q = 86
  · subst h; rw [up2_ne (fun e => ho e.symm)]; show up1 J 86 T 86 = up1 _ 86 T 86; rw [up1_eq, up1_eq]
  · show up2 (nw J T) o i v q = up1 (up2 J o i v) 86 T q
    rw [up1_ne h]
    by_cases h2 : q = o
    · subst h2; rw [up2_eq, up2_eq]; show up1 (up1 J 86 T q) i v = _; rw [up1_ne h]
    · rw [up2_ne h2, up2_ne h2]; show up1 J 86 T q = _; rw [up1_ne h]
/-- the text that counts for a key, of the first m; -1: none -/
def cnF (T : Nat → Int32) (key : Int32) : Nat → Int32
  | 0 => -1
  | m + 1 => if T (74 + 2 * m) / 1000 = key then nI m else cnF T key m
theorem cx (m : Nat) : (74 : Int32) + 2 * nI m = nI (74 + 2 * m) := by
  rw [show (74 : Int32) = nI 74 from rfl, show (2 : Int32) = nI 2 from rfl, nI_mul, nI_add]
theorem l_counts {nx sl : Nat} {ln : Nat → Nat} {R : Nat → Nat → Option Nat} {J : Nat → Nat → Int32} {T : Nat → Int32} {Q : Option Value → Hp → Prop} {k : Nat} (hW : SW nx ln R) {key : Int32} : ∀ (m : Nat) (x : Int32), m ≤ 14 → x.toInt = (m : Int) - 1 → Q (some (.int (cnF T key m))) (nx, sl, ln, R, nw J T) → GoF k mX8_counts 10 [some (.ref 85), some (.int key), some (.int x)] [] (nx, sl, ln, R, nw J T) Q := by
  intro m
  induction m with
  | zero =>
    intro x _ hx hQ
    refine GoF_wp1 30 ?_
    refine And.intro (fun _ => hQ) (fun h => absurd ((tI_lt _ _).mpr ?_) h)
    have : (0 : Int32).toInt = 0 := rfl
    omega
  | succ m ih =>
    intro x hm hx hQ
    have hx' : x = nI m := by rw [tI_eq, hx, tI_nI (by omega)]; omega
    subst hx'
    refine GoF_wp1 30 ?_
    refine And.intro (fun h => absurd h (nI_pos (by omega))) (fun _ => ?_)
    refine And.intro (sw_k hW (Nat.le_of_ble_eq_true rfl) rfl) ?_
    refine Exists.intro _ (And.intro (sw_r hW (Nat.le_of_ble_eq_true rfl) rfl rfl) ?_)
    refine And.intro (by rw [cx]; exact sw_n hW (Nat.le_of_ble_eq_true rfl) rfl rfl (show 74 + 2 * m < 1446 by omega) (Nat.le_of_ble_eq_true rfl)) ?_
    have e : ((74 : Int32) + 2 * nI m).toNatClampNeg = 74 + 2 * m := by rw [cx]; exact ix (by omega)
    unfold cnF at hQ
    rw [← e] at hQ
    refine And.intro (by decide) ?_
    refine And.intro (fun (h : ¬ T ((74 : Int32) + 2 * nI m).toNatClampNeg / 1000 = key) => ?_) (fun (h : ¬ ¬ T ((74 : Int32) + 2 * nI m).toNatClampNeg / 1000 = key) => ?_)
    · rw [if_neg h] at hQ
      refine ih (nI m + -1) (by omega) ?_ hQ
      have e1 : (-1 : Int32).toInt = -1 := rfl
      have e2 : (nI m).toInt = (m : Int) := tI_nI (by omega)
      rw [tI_add (by omega) (by omega)]
      omega
    · rw [if_pos (Decidable.of_not_not h)] at hQ
      exact hQ
theorem s_counts {nx sl : Nat} {ln : Nat → Nat} {R : Nat → Nat → Option Nat} {J : Nat → Nat → Int32} {T : Nat → Int32} {Q : Option Value → Hp → Prop} {k : Nat} (hW : SW nx ln R) {key : Int32} {m : Nat} (hm : m ≤ 14) (hT : T 7 = nI m) (hQ : Q (some (.int (cnF T key m))) (nx, sl, ln, R, nw J T)) : Go k mX8_counts [.ref 85, .int key] (nx, sl, ln, R, nw J T) Q := by
  refine Go_wp 30 rfl ?_
  refine And.intro (sw_k hW (Nat.le_of_ble_eq_true rfl) rfl) ?_
  refine Exists.intro _ (And.intro (sw_r hW (Nat.le_of_ble_eq_true rfl) rfl rfl) ?_)
  refine And.intro (sw_n hW (Nat.le_of_ble_eq_true rfl) rfl rfl ((Nat.le_of_ble_eq_true rfl)) (Nat.le_of_ble_eq_true rfl)) ?_
  refine l_counts hW m (T 7 - 1) hm ?_ hQ
  have e1 : (1 : Int32).toInt = 1 := rfl
  have e2 : (nI m).toInt = (m : Int) := tI_nI (by omega)
  rw [hT, tI_sub (by omega) (by omega)]
  omega
/-- two numbers joined by a sign -/
def twF (s a b : Int32) : Int32 := if s = -8 then a * b else if s = -7 then a - b else if s = -6 then a + b else if s = -5 then (if b < a then 1 else 0) else if s = -4 then (if a = b then 1 else 0) else if s = -3 then (if a < b then 1 else 0) else if s = -2 then (if ¬ a = 0 ∧ ¬ b = 0 then 1 else 0) else if s = -1 then (if ¬ a = 0 ∨ ¬ b = 0 then 1 else 0) else (if b = 0 then 0 else a / b)
theorem s_two {k : Nat} {h : Hp} {s a b : Int32} {Q : Option Value → Hp → Prop} (hQ : Q (some (.int (twF s a b))) h) : Go k mX8_two [.int s, .int a, .int b] h Q := by
  unfold twF at hQ
  refine Go_wp 40 rfl ?_
  refine And.intro (fun q => ?_) (fun q1 => And.intro (fun q => ?_) (fun q2 => And.intro (fun q => ?_) (fun q3 => And.intro (fun q => ?_) (fun q4 => And.intro (fun q => ?_) (fun q5 => And.intro (fun q => ?_) (fun q6 => And.intro (fun q => ?_) (fun q7 => And.intro (fun q => ?_) (fun q8 => ?_))))))))
  · rw [if_pos q] at hQ; exact hQ
  · rw [if_neg q1, if_pos q] at hQ; exact hQ
  · rw [if_neg q1, if_neg q2, if_pos q] at hQ; exact hQ
  · rw [if_neg q1, if_neg q2, if_neg q3, if_pos q] at hQ
    refine And.intro (fun c => ?_) (fun c => ?_)
    · rw [if_neg (fun w => by rw [tI_le] at c; rw [tI_lt] at w; omega)] at hQ; exact hQ
    · rw [if_pos (by rw [tI_le] at c; rw [tI_lt]; omega)] at hQ; exact hQ
  · rw [if_neg q1, if_neg q2, if_neg q3, if_neg q4, if_pos q] at hQ
    refine And.intro (fun c => ?_) (fun c => ?_)
    · rw [if_neg c] at hQ; exact hQ
    · rw [if_pos (Decidable.of_not_not c)] at hQ; exact hQ
  · rw [if_neg q1, if_neg q2, if_neg q3, if_neg q4, if_neg q5, if_pos q] at hQ
    refine And.intro (fun c => ?_) (fun c => ?_)
    · rw [if_neg (fun w => by rw [tI_le] at c; rw [tI_lt] at w; omega)] at hQ; exact hQ
    · rw [if_pos (by rw [tI_le] at c; rw [tI_lt]; omega)] at hQ; exact hQ
  · rw [if_neg q1, if_neg q2, if_neg q3, if_neg q4, if_neg q5, if_neg q6, if_pos q] at hQ
    refine And.intro (fun c => ?_) (fun c => And.intro (fun d => ?_) (fun d => ?_))
    · rw [if_neg (fun w => w.1 c)] at hQ; exact hQ
    · rw [if_neg (fun w => w.2 d)] at hQ; exact hQ
    · rw [if_pos ⟨c, d⟩] at hQ; exact hQ
  · rw [if_neg q1, if_neg q2, if_neg q3, if_neg q4, if_neg q5, if_neg q6, if_neg q7, if_pos q] at hQ
    refine And.intro (fun c => ?_) (fun c => And.intro (fun d => ?_) (fun d => ?_))
    · rw [if_pos (Or.inl c)] at hQ; exact hQ
    · rw [if_neg (fun w => w.elim c (fun z => z d))] at hQ; exact hQ
    · rw [if_pos (Or.inr d)] at hQ; exact hQ
  · rw [if_neg q1, if_neg q2, if_neg q3, if_neg q4, if_neg q5, if_neg q6, if_neg q7, if_neg q8] at hQ
    refine And.intro (fun c => ?_) (fun c => ?_)
    · rw [if_neg c] at hQ; exact And.intro c hQ
    · rw [if_pos (Decidable.of_not_not c)] at hQ; exact hQ
/-- one piece of a text's code, over a stack (its top first); f: the names -/
def stF (f : Nat → Int32) (c : Int32) (s : List Int32) : List Int32 := if 0 ≤ c then (if c < 10000 then c else f (c - 10000).toNatClampNeg) :: s else if c = -10 then (match s with
    | x :: r => (if x = 0 then 1 else 0) :: r
    | [] => []) else (match s with
    | y :: x :: r => twF c x y :: r
    | _ => [])
/-- the pieces from i on, r of them -/
def evF (C : Nat → Int32) (f : Nat → Int32) : Nat → Nat → List Int32 → List Int32
  | _, 0, s => s
  | i, r + 1, s => evF C f (i + 1) r (stF f (C i) s)
/-- the code can be worked out: from i on, r pieces, with d on the stack -/
def okF (C : Nat → Int32) : Nat → Nat → Nat → Prop
  | _, 0, d => d = 1
  | i, r + 1, d => (0 ≤ C i ∧ C i < 10004 ∧ okF C (i + 1) r (d + 1)) ∨ (C i = -10 ∧ 1 ≤ d ∧ okF C (i + 1) r d) ∨ (C i < 0 ∧ ¬ C i = -10 ∧ 2 ≤ d ∧ okF C (i + 1) r (d - 1))
/-- the stack's row holds s -/
def SK (st : Nat → Int32) (s : List Int32) : Prop := ∀ i, i < s.length → st i = s.getD (s.length - 1 - i) 0
theorem SK.push {st : Nat → Int32} {s : List Int32} (h : SK st s) (v : Int32) : SK (up1 st s.length v) (v :: s) := by
  intro i hi
  rw [List.length_cons] at hi
  by_cases hq : i = s.length
  · subst hq; rw [up1_eq]; simp
  · rw [up1_ne hq, h i (by omega), List.length_cons, show s.length + 1 - 1 - i = (s.length - 1 - i) + 1 by omega, List.getD_cons_succ]
theorem SK.one {st : Nat → Int32} {x : Int32} {s : List Int32} (h : SK st (x :: s)) (v : Int32) : st s.length = x ∧ SK (up1 st s.length v) (v :: s) := by
  refine ⟨by rw [h s.length (by simp)]; simp, fun i hi => ?_⟩
  rw [List.length_cons] at hi
  by_cases hq : i = s.length
  · subst hq; rw [up1_eq]; simp
  · rw [up1_ne hq, h i (by simp; omega), List.length_cons, List.length_cons, show s.length + 1 - 1 - i = (s.length - 1 - i) + 1 by omega, List.getD_cons_succ, List.getD_cons_succ]
theorem SK.two {st : Nat → Int32} {x y : Int32} {s : List Int32} (h : SK st (y :: x :: s)) (v : Int32) : st (s.length + 1) = y ∧ st s.length = x ∧ SK (up1 st s.length v) (v :: s) := by
  refine ⟨by rw [h (s.length + 1) (by simp)]; simp, by rw [h s.length (by simp; omega)]; simp, fun i hi => ?_⟩
  rw [List.length_cons] at hi
  by_cases hq : i = s.length
  · subst hq; rw [up1_eq]; simp
  · rw [up1_ne hq, h i (by simp; omega)]
    simp only [List.length_cons]
    rw [show s.length + 1 + 1 - 1 - i = (s.length - 1 - i) + 1 + 1 by omega, List.getD_cons_succ, List.getD_cons_succ, show s.length + 1 - 1 - i = (s.length - 1 - i) + 1 by omega, List.getD_cons_succ]
theorem wx (t i : Nat) : (102 : Int32) + 96 * nI t + nI i = nI (102 + 96 * t + i) := by
  rw [show (102 : Int32) = nI 102 from rfl, show (96 : Int32) = nI 96 from rfl, nI_mul, nI_add, nI_add]
/-- the stack's row and the scratch that a text's working out leaves -/
def Sc (J J' : Nat → Nat → Int32) : Prop := ∀ o, ¬ o = 98 → ¬ o = 99 → J' o = J o
theorem Sc.rf {J : Nat → Nat → Int32} : Sc J J := fun _ _ _ => rfl
theorem Sc.tr {J J1 J2 : Nat → Nat → Int32} (h1 : Sc J J1) (h2 : Sc J1 J2) : Sc J J2 := fun o a b => (h2 o a b).trans (h1 o a b)
theorem nIs (n : Nat) : nI (n + 1) - 1 = nI n := nI_pred n
theorem nw86 (J : Nat → Nat → Int32) (T : Nat → Int32) (x : Nat) : nw J T 86 x = T x := rfl
theorem nwo (J : Nat → Nat → Int32) (T : Nat → Int32) {o : Nat} (h : ¬ o = 86) : nw J T o = J o := up1_ne h
theorem nI_m1 (n : Nat) : nI (n + 1) + -1 = nI n := by
  have h := nI_pred n
  rw [Int32.sub_eq_add_neg] at h
  exact h
set_option maxHeartbeats 1000000 in
theorem l_works {nx sl : Nat} {ln : Nat → Nat} {R : Nat → Nat → Option Nat} {J : Nat → Nat → Int32} {T : Nat → Int32} {Q : Option Value → Hp → Prop} {k : Nat} (hW : SW nx ln R) {t n : Nat} {xt xm : Int32} {f : Nat → Int32} (ht : t < 14) (hxt : xt = nI t) (hxm : xm = nI n) (hn : n ≤ 96) : ∀ (r i : Nat) (s : List Int32) (J1 : Nat → Nat → Int32) (xs : Option Value) (xp xi : Int32) (I1 : Nat → Nat → Int32), xp = nI s.length → xi = nI i → I1 = nw J1 T → i + r = n → s.length ≤ i → okF (fun q => T (102 + 96 * t + q)) i r s.length → SK (J1 98) s → (∀ q, q < 4 → J1 99 q = f q) → (∀ o, ¬ o = 98 → J1 o = J o) →
    (∀ J2 : Nat → Nat → Int32, (∀ o, ¬ o = 98 → J2 o = J o) → Q (some (.int ((evF (fun q => T (102 + 96 * t + q)) f i r s).headD 0))) (nx, sl, ln, R, nw J2 T)) → GoF (k + 1) mX8_worksOut 21 [some (.ref 85), some (.int xt), some (.int xp), some (.int xm), some (.int xi), xs] [] (nx, sl, ln, R, I1) Q := by
  subst hxt
  subst hxm
  intro r
  induction r with
  | zero =>
    intro i s J1 xs xp xi I1 hxp hxi hI hin hsi hok hSK hf hJ hQ
    subst hxp
    subst hxi
    subst hI
    have hi : i = n := by omega
    subst hi
    refine GoF_wp1 60 ?_
    refine And.intro (fun _ => ?_) (fun h => absurd (nI_le (Nat.le_refl i) (by omega)) h)
    refine And.intro (sw_k hW (Nat.le_of_ble_eq_true rfl) rfl) ?_
    refine Exists.intro _ (And.intro (sw_r hW (Nat.le_of_ble_eq_true rfl) rfl rfl) ?_)
    refine And.intro (sw_n hW (Nat.le_of_ble_eq_true rfl) rfl rfl ((Nat.le_of_ble_eq_true rfl)) (Nat.le_of_ble_eq_true rfl)) ?_
    have hok' : s.length = 1 := hok
    obtain ⟨x, rfl⟩ : ∃ x, s = [x] := by
      match s, hok' with
      | [x], _ => exact ⟨x, rfl⟩
    have h0 := hSK 0 (Nat.zero_lt_succ 0)
    have hq := hQ J1 hJ
    have hq2 : Q (some (.int (J1 98 0))) (nx, sl, ln, R, nw J1 T) := by rw [h0]; exact hq
    exact hq2
  | succ r ih =>
    intro i s J1 xs xp xi I1 hxp hxi hI hin hsi hok hSK hf hJ hQ
    subst hxp
    subst hxi
    subst hI
    refine GoF_wp1 60 ?_
    refine And.intro (fun h => absurd h (nI_ge (show i < n by omega) (by omega))) (fun _ => ?_)
    refine And.intro (sw_k hW (Nat.le_of_ble_eq_true rfl) rfl) ?_
    refine Exists.intro _ (And.intro (sw_r hW (Nat.le_of_ble_eq_true rfl) rfl rfl) ?_)
    refine And.intro (by rw [wx]; exact sw_n hW (Nat.le_of_ble_eq_true rfl) rfl rfl (show 102 + 96 * t + i < 1446 by omega) (Nat.le_of_ble_eq_true rfl)) ?_
    have e : ((102 : Int32) + 96 * nI t + nI i).toNatClampNeg = 102 + 96 * t + i := by rw [wx]; exact ix (by omega)
    obtain ⟨c, hc⟩ : ∃ c, T (102 + 96 * t + i) = c := ⟨_, rfl⟩
    have hcv : nw J1 T 86 ((102 : Int32) + 96 * nI t + nI i).toNatClampNeg = c := by rw [nw86, e]; exact hc
    have hQ' : ∀ J2 : Nat → Nat → Int32, (∀ o, ¬ o = 98 → J2 o = J o) → Q (some (.int ((evF (fun q => T (102 + 96 * t + q)) f (i + 1) r (stF f c s)).headD 0))) (nx, sl, ln, R, nw J2 T) := by
      intro J2 h2; have := hQ J2 h2; rw [← hc]; exact this
    replace hok : (0 ≤ T (102 + 96 * t + i) ∧ T (102 + 96 * t + i) < 10004 ∧ okF (fun q => T (102 + 96 * t + q)) (i + 1) r (s.length + 1)) ∨ (T (102 + 96 * t + i) = -10 ∧ 1 ≤ s.length ∧ okF (fun q => T (102 + 96 * t + q)) (i + 1) r s.length) ∨ (T (102 + 96 * t + i) < 0 ∧ ¬ T (102 + 96 * t + i) = -10 ∧ 2 ≤ s.length ∧ okF (fun q => T (102 + 96 * t + q)) (i + 1) r (s.length - 1)) := hok
    rw [hc] at hok
    rw [hcv]
    have z0 : (0 : Int32).toInt = 0 := rfl
    refine And.intro (fun hneg => ?_) (fun hpos => ?_)
    · have hneg' := (tI_lt _ _).mp hneg
      have hst0 : ¬ 0 ≤ c := fun q => by have := (tI_le _ _).mp q; omega
      refine And.intro (fun h10 => ?_) (fun h10 => ?_)
      · -- two
        rcases hok with hq | hq | hq
        · exact absurd hq.1 hst0
        · exact absurd hq.1 h10
        · obtain ⟨y, x, s', hs⟩ : ∃ y x s', s = y :: x :: s' := by
            match s, hq.2.2.1 with
            | y :: x :: s', _ => exact ⟨y, x, s', rfl⟩
          have hp : s.length = s'.length + 2 := by rw [hs]; rfl
          rw [hp] at hsi
          rw [hp]
          rw [hs] at hSK hQ'
          obtain ⟨k1, k2, k3⟩ := hSK.two (twF c x y)
          refine And.intro (sw_k hW (Nat.le_of_ble_eq_true rfl) rfl) ?_
          refine Exists.intro _ (And.intro (sw_r hW (Nat.le_of_ble_eq_true rfl) rfl rfl) ?_)
          rw [nI_m1]
          refine And.intro (sw_k hW (Nat.le_of_ble_eq_true rfl) rfl) ?_
          refine Exists.intro _ (And.intro (sw_r hW (Nat.le_of_ble_eq_true rfl) rfl rfl) ?_)
          refine And.intro (by rw [nIs]; exact sw_n hW (Nat.le_of_ble_eq_true rfl) rfl rfl (show s'.length < 96 by omega) (Nat.le_of_ble_eq_true rfl)) ?_
          refine And.intro (sw_k hW (Nat.le_of_ble_eq_true rfl) rfl) ?_
          refine Exists.intro _ (And.intro (sw_r hW (Nat.le_of_ble_eq_true rfl) rfl rfl) ?_)
          refine And.intro (sw_n hW (Nat.le_of_ble_eq_true rfl) rfl rfl (show s'.length + 1 < 96 by omega) (Nat.le_of_ble_eq_true rfl)) ?_
          have v1 : nw J1 T 98 (nI (s'.length + 1) - 1).toNatClampNeg = x := by rw [nIs, ix (by omega), nwo _ _ (by decide)]; exact k2
          have v2 : nw J1 T 98 (nI (s'.length + 1)).toNatClampNeg = y := by rw [ix (by omega), nwo _ _ (by decide)]; exact k1
          rw [v1, v2]
          refine s_two ?_
          refine And.intro (by rw [nIs]; exact sw_n hW (Nat.le_of_ble_eq_true rfl) rfl rfl (show s'.length < 96 by omega) (Nat.le_of_ble_eq_true rfl)) ?_
          refine ih (i + 1) (twF c x y :: s') (up2 J1 98 s'.length (twF c x y)) _ _ _ _ rfl (nI_1 i) (by rw [nIs, ix (by omega), nw_oth _ _ (by decide)]) (by omega) (by simp; omega) (by have := hq.2.2.2; rw [hp] at this; exact this) (by rw [up2_eq]; exact k3) (fun q hq => by rw [up2_ne (by decide)]; exact hf q hq) (fun o ho => by rw [up2_ne ho]; exact hJ o ho) (fun J2 h2 => ?_)
          have := hQ' J2 h2
          unfold stF at this
          rw [if_neg hst0, if_neg h10] at this
          exact this
      · have h10' := Decidable.of_not_not h10
        rcases hok with hq | hq | hq
        · exact absurd hq.1 hst0
        · obtain ⟨x, s', hs⟩ : ∃ x s', s = x :: s' := by
            match s, hq.2.1 with
            | x :: s', _ => exact ⟨x, s', rfl⟩
          have hp : s.length = s'.length + 1 := by rw [hs]; rfl
          rw [hp] at hsi
          rw [hp]
          rw [hs] at hSK hQ'
          have k2 := (hSK.one (0 : Int32)).1
          refine And.intro (sw_k hW (Nat.le_of_ble_eq_true rfl) rfl) ?_
          refine Exists.intro _ (And.intro (sw_r hW (Nat.le_of_ble_eq_true rfl) rfl rfl) ?_)
          refine And.intro (sw_k hW (Nat.le_of_ble_eq_true rfl) rfl) ?_
          refine Exists.intro _ (And.intro (sw_r hW (Nat.le_of_ble_eq_true rfl) rfl rfl) ?_)
          refine And.intro (by rw [nIs]; exact sw_n hW (Nat.le_of_ble_eq_true rfl) rfl rfl (show s'.length < 96 by omega) (Nat.le_of_ble_eq_true rfl)) ?_
          have v1 : nw J1 T 98 (nI (s'.length + 1) - 1).toNatClampNeg = x := by rw [nIs, ix (by omega), nwo _ _ (by decide)]; exact k2
          rw [v1]
          refine And.intro (fun hx0 => ?_) (fun hx0 => ?_)
          · refine And.intro (by rw [nIs]; exact sw_n hW (Nat.le_of_ble_eq_true rfl) rfl rfl (show s'.length < 96 by omega) (Nat.le_of_ble_eq_true rfl)) ?_
            refine ih (i + 1) (0 :: s') (up2 J1 98 s'.length 0) _ _ _ _ rfl (nI_1 i) (by rw [nIs, ix (by omega), nw_oth _ _ (by decide)]) (by omega) (by simp; omega) (by have := hq.2.2; rw [hp] at this; exact this) (by rw [up2_eq]; exact (hSK.one 0).2) (fun q hq => by rw [up2_ne (by decide)]; exact hf q hq) (fun o ho => by rw [up2_ne ho]; exact hJ o ho) (fun J2 h2 => ?_)
            have := hQ' J2 h2
            unfold stF at this
            rw [if_neg hst0, if_pos h10'] at this
            dsimp only at this
            rw [if_neg hx0] at this
            exact this
          · refine And.intro (by rw [nIs]; exact sw_n hW (Nat.le_of_ble_eq_true rfl) rfl rfl (show s'.length < 96 by omega) (Nat.le_of_ble_eq_true rfl)) ?_
            refine ih (i + 1) (1 :: s') (up2 J1 98 s'.length 1) _ _ _ _ rfl (nI_1 i) (by rw [nIs, ix (by omega), nw_oth _ _ (by decide)]) (by omega) (by simp; omega) (by have := hq.2.2; rw [hp] at this; exact this) (by rw [up2_eq]; exact (hSK.one 1).2) (fun q hq => by rw [up2_ne (by decide)]; exact hf q hq) (fun o ho => by rw [up2_ne ho]; exact hJ o ho) (fun J2 h2 => ?_)
            have := hQ' J2 h2
            unfold stF at this
            rw [if_neg hst0, if_pos h10'] at this
            dsimp only at this
            rw [if_pos (Decidable.of_not_not hx0)] at this
            exact this
        · exact absurd h10' hq.2.1
    · have hst0 : 0 ≤ c := by rw [tI_lt] at hpos; rw [tI_le]; omega
      rcases hok with hq | hq | hq
      · refine And.intro (sw_k hW (Nat.le_of_ble_eq_true rfl) rfl) ?_
        refine Exists.intro _ (And.intro (sw_r hW (Nat.le_of_ble_eq_true rfl) rfl rfl) ?_)
        refine And.intro (fun hbig => ?_) (fun hsm => ?_)
        · refine And.intro (sw_k hW (Nat.le_of_ble_eq_true rfl) rfl) ?_
          refine Exists.intro _ (And.intro (sw_r hW (Nat.le_of_ble_eq_true rfl) rfl rfl) ?_)
          have hb' := (tI_le _ _).mp hbig
          have hl' := (tI_lt _ _).mp hq.2.1
          have c1 : (10000 : Int32).toInt = 10000 := rfl
          have c2 : (10004 : Int32).toInt = 10004 := rfl
          have e4 : (c - 10000).toInt = c.toInt - 10000 := by rw [tI_sub (by omega) (by omega)]; omega
          obtain ⟨w, hw, hw4⟩ : ∃ w, c - 10000 = nI w ∧ w < 4 := ⟨(c - 10000).toInt.toNat, nI_ofI (by omega), by omega⟩
          refine And.intro (by rw [hw]; exact sw_n hW (Nat.le_of_ble_eq_true rfl) rfl rfl hw4 (Nat.le_of_ble_eq_true rfl)) ?_
          refine And.intro (sw_n hW (Nat.le_of_ble_eq_true rfl) rfl rfl (show s.length < 96 by omega) (Nat.le_of_ble_eq_true rfl)) ?_
          refine ih (i + 1) (f w :: s) (up2 J1 98 s.length (f w)) _ _ _ _ (nI_1 s.length) (nI_1 i) (by rw [hw, ix (by omega), ix (by omega), nwo _ _ (by decide), hf w hw4, nw_oth _ _ (by decide)]) (by omega) (by simp; omega) hq.2.2 (by rw [up2_eq]; exact hSK.push _) (fun q hq => by rw [up2_ne (by decide)]; exact hf q hq) (fun o ho => by rw [up2_ne ho]; exact hJ o ho) (fun J2 h2 => ?_)
          have := hQ' J2 h2
          unfold stF at this
          rw [if_pos hst0, if_neg (fun q => by have := (tI_lt _ _).mp q; omega), hw, ix (by omega)] at this
          exact this
        · refine And.intro (sw_n hW (Nat.le_of_ble_eq_true rfl) rfl rfl (show s.length < 96 by omega) (Nat.le_of_ble_eq_true rfl)) ?_
          refine ih (i + 1) (c :: s) (up2 J1 98 s.length c) _ _ _ _ (nI_1 s.length) (nI_1 i) (by rw [ix (by omega), nw_oth _ _ (by decide)]) (by omega) (by simp; omega) hq.2.2 (by rw [up2_eq]; exact hSK.push _) (fun q hq => by rw [up2_ne (by decide)]; exact hf q hq) (fun o ho => by rw [up2_ne ho]; exact hJ o ho) (fun J2 h2 => ?_)
          have := hQ' J2 h2
          unfold stF at this
          rw [if_pos hst0, if_pos (by rw [tI_le] at hsm; rw [tI_lt]; omega)] at this
          exact this
      · exact absurd hst0 (by rw [hq.1]; decide)
      · exact absurd ((tI_le _ _).mp hst0) (by have := (tI_lt _ _).mp hq.1; omega)
