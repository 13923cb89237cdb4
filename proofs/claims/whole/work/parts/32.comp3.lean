/-! The component's texts: how they stand for the model's, and what they give. -/
/-- the letter of a name -/
def ltF (key q : Nat) : Nat := if key = 0 then (if q = 0 then 109 else if q = 1 then 98 else if q = 2 then 104 else 110) else if key = 1 then (if q = 0 then 103 else 115) else (if q = 0 then 109 else 98)
def nnF (key : Nat) : Nat := if key = 0 then 4 else 2
/-- a piece of the model's code, as the component writes it -/
def eN (key : Nat) (c : Int32) : Int32 := if 0 ≤ c then (if c < 10000 then c else -nI (ltF key (c - 10000).toNatClampNeg)) else -obF c
def cOk (key : Nat) (c : Int32) : Prop := (0 ≤ c ∧ c < 10000) ∨ (∃ q, q < nnF key ∧ c = nI (10000 + q)) ∨ (-10 ≤ c ∧ c ≤ -1)
/-- a text -/
def TL (nx : Nat) (ln : Nat → Nat) (R : Nat → Nat → Option Nat) (I : Nat → Nat → Int32) (T : Nat → Int32) (x : Nat) : Prop := ∃ q c key len : Nat, R 2 x = some q ∧ (KD q = 5 ∧ q < nx) ∧ R q 2 = some c ∧ (KD c = 11 ∧ c < nx) ∧ 109 ≤ q ∧ 109 ≤ c ∧ ln c = len ∧ T (74 + 2 * x) = nI (1000 * key + len) ∧ key ≤ 2 ∧ len ≤ 96 ∧ I q 0 = nI key ∧ I q 1 = T (74 + 2 * x + 1) ∧ ∀ i, i < len → cOk key (T (102 + 96 * x + i)) ∧ I c i = eN key (T (102 + 96 * x + i))
def LT (nx : Nat) (ln : Nat → Nat) (R : Nat → Nat → Option Nat) (I : Nat → Nat → Int32) (T : Nat → Int32) (m : Nat) : Prop := ∀ x, x < m → TL nx ln R I T x
theorem ltF_ok (key q : Nat) : 97 ≤ ltF key q ∧ ltF key q ≤ 122 := by
  unfold ltF
  repeat' split
  all_goals decide
theorem LT.keep {nx : Nat} {ln : Nat → Nat} {R : Nat → Nat → Option Nat} {I I' : Nat → Nat → Int32} {T T' : Nat → Int32} {m : Nat} (h : LT nx ln R I T m) (h1 : ∀ o, 109 ≤ o → I' o = I o) (h2 : ∀ p, 74 ≤ p → T' p = T p) : LT nx ln R I' T' m := by
  intro x hx
  obtain ⟨q, c, key, len, a1, a2, a3, a4, a5, a6, a7, a8, a9, a10, a11, a12, a13⟩ := h x hx
  exact ⟨q, c, key, len, a1, a2, a3, a4, a5, a6, a7, by rw [h2 _ (by omega)]; exact a8, a9, a10, by rw [h1 _ a5]; exact a11, by rw [h1 _ a5, h2 _ (by omega)]; exact a12, fun i hi => by rw [h1 _ a6, h2 _ (by omega)]; exact a13 i hi⟩
theorem c_name {nx sl : Nat} {ln : Nat → Nat} {R : Nat → Nat → Option Nat} {I : Nat → Nat → Int32} {Q : Option Value → Hp → Prop} {k : Nat} (hW : SW nx ln R) {L : Nat} {v : Int32} (hL : 97 ≤ L ∧ L ≤ 122) (hQ : Q none (nx, sl, ln, R, up2 I 3 (L - 97) v)) : Go k mX1_name [.ref 1, .int (nI L), .int v] (nx, sl, ln, R, I) Q := by
  have e : nI L - 97 = nI (L - 97) := nI_sub (b := 97) hL.1
  refine Go_wp 40 rfl ?_
  refine And.intro (fun (h : nI L - 97 < 0) => absurd (by rw [e] at h; exact h) (nI_pos (by omega))) (fun _ => ?_)
  rw [e]
  refine And.intro (sw_k hW (Nat.le_of_ble_eq_true rfl) rfl) ?_
  refine Exists.intro _ (And.intro (sw_r hW (Nat.le_of_ble_eq_true rfl) rfl rfl) ?_)
  refine And.intro ⟨by decide, by decide, sw_lt hW (Nat.le_of_ble_eq_true rfl)⟩ ?_
  rw [hW.2.1 3 (Nat.le_of_ble_eq_true rfl)]
  refine And.intro (fun h => absurd h (nI_ge (show L - 97 < 26 by omega) (by decide))) (fun _ => ?_)
  refine And.intro (sw_k hW (Nat.le_of_ble_eq_true rfl) rfl) ?_
  refine Exists.intro _ (And.intro (sw_r hW (Nat.le_of_ble_eq_true rfl) rfl rfl) ?_)
  refine And.intro (sw_n hW (Nat.le_of_ble_eq_true rfl) rfl rfl (show L - 97 < 26 by omega) (Nat.le_of_ble_eq_true rfl)) ?_
  rw [ix (by omega)]
  exact hQ
theorem tI_neg {a : Int32} (h : -2147483648 < a.toInt) : (-a).toInt = -a.toInt := by
  have e : -a = 0 - a := by rw [Int32.sub_eq_add_neg, Int32.zero_add]
  have z0 : (0 : Int32).toInt = 0 := rfl
  have := tI_hi a
  rw [e, tI_sub (by omega) (by omega)]
  omega
theorem neg_neg32 (a : Int32) : - -a = a := by rw [Int32.neg_neg]
theorem ob_ok {c : Int32} (h1 : -9 ≤ c) (h2 : c ≤ -1) : 0 < obF c ∧ ¬ obF c = 33 ∧ ¬ (97 ≤ obF c ∧ obF c ≤ 122) := by
  rcases nine h1 h2 with rfl | rfl | rfl | rfl | rfl | rfl | rfl | rfl | rfl <;> decide
set_option maxHeartbeats 2000000 in
theorem l_given {nx sl : Nat} {ln : Nat → Nat} {R : Nat → Nat → Option Nat} {I : Nat → Nat → Int32} {Q : Option Value → Hp → Prop} {k : Nat} (hW : SW nx ln R) {x c key len : Nat} {C f : Nat → Int32} (hc : KD c = 11 ∧ c < nx) (hc9 : 109 ≤ c) (hl : ln c = len) (hlen : len ≤ 96) (hC : ∀ i, i < len → cOk key (C i) ∧ I c i = eN key (C i)) (hf : ∀ q, q < nnF key → I 3 (ltF key q - 97) = f q) : ∀ (r i : Nat) (s : List Int32) (xs : Option Value) (xp xi : Int32) (I1 : Nat → Nat → Int32), xp = nI s.length → xi = nI i → i + r = len → s.length ≤ i → okF C i r s.length → SK (I1 4) s → (∀ o, ¬ o = 4 → I1 o = I o) →
    (∀ I2 : Nat → Nat → Int32, (∀ o, ¬ o = 4 → I2 o = I o) → Q (some (.int ((evF C f i r s).headD 0))) (nx, sl, ln, R, I2)) → GoF (k + 1) mX1_given 36 [some (.ref 1), some (.int (nI x)), some (.ref c), some (.int xp), some (.int xi), xs] [] (nx, sl, ln, R, I1) Q := by
  intro r
  induction r with
  | zero =>
    intro i s xs xp xi I1 hxp hxi hin hsi hok hSK hI hQ
    subst hxp
    subst hxi
    have hi : i = len := by omega
    subst hi
    refine GoF_wp1 60 ?_
    refine And.intro ⟨by rw [hc.1]; decide, by rw [hc.1]; decide, hc.2⟩ ?_
    rw [hl]
    refine And.intro (fun _ => ?_) (fun h => absurd (nI_le (Nat.le_refl i) (by omega)) h)
    refine And.intro (sw_k hW (Nat.le_of_ble_eq_true rfl) rfl) ?_
    refine Exists.intro _ (And.intro (sw_r hW (Nat.le_of_ble_eq_true rfl) rfl rfl) ?_)
    refine And.intro (sw_n hW (Nat.le_of_ble_eq_true rfl) rfl rfl ((Nat.le_of_ble_eq_true rfl)) (Nat.le_of_ble_eq_true rfl)) ?_
    have hok' : s.length = 1 := hok
    obtain ⟨y, rfl⟩ : ∃ y, s = [y] := by
      match s, hok' with
      | [y], _ => exact ⟨y, rfl⟩
    have h0 := hSK 0 (Nat.zero_lt_succ 0)
    have hq2 : Q (some (.int (I1 4 0))) (nx, sl, ln, R, I1) := by rw [h0]; exact hQ I1 hI
    exact hq2
  | succ r ih =>
    intro i s xs xp xi I1 hxp hxi hin hsi hok hSK hI hQ
    subst hxp
    subst hxi
    have hil : i < len := by omega
    obtain ⟨hco, hIc⟩ := hC i hil
    refine GoF_wp1 80 ?_
    refine And.intro ⟨by rw [hc.1]; decide, by rw [hc.1]; decide, hc.2⟩ ?_
    rw [hl]
    refine And.intro (fun h => absurd h (nI_ge hil (by omega))) (fun _ => ?_)
    have hcI : (KD c = 11 ∧ c < nx) ∧ ¬ nI i < 0 ∧ (nI i).toNatClampNeg < ln c := ⟨hc, nI_pos (by omega), by rw [ix (by omega), hl]; exact hil⟩
    refine And.intro hcI ?_
    have ev : I1 c (nI i).toNatClampNeg = eN key (C i) := by rw [ix (by omega), hI c (by omega)]; exact hIc
    rw [ev]
    have z0 : (0 : Int32).toInt = 0 := rfl
    replace hok : (0 ≤ C i ∧ C i < 10004 ∧ okF C (i + 1) r (s.length + 1)) ∨ (C i = -10 ∧ 1 ≤ s.length ∧ okF C (i + 1) r s.length) ∨ (C i < 0 ∧ ¬ C i = -10 ∧ 2 ≤ s.length ∧ okF C (i + 1) r (s.length - 1)) := hok
    have hQ' : ∀ I2 : Nat → Nat → Int32, (∀ o, ¬ o = 4 → I2 o = I o) → Q (some (.int ((evF C f (i + 1) r (stF f (C i) s)).headD 0))) (nx, sl, ln, R, I2) := hQ
    have hup : ∀ (p : Nat) (v : Int32) (o : Nat), ¬ o = 4 → up2 I1 4 p v o = I o := fun p v o ho => by rw [up2_ne ho]; exact hI o ho
    rcases hco with hn | ⟨q, hq, hcq⟩ | ho
    · -- a number
      have en : eN key (C i) = C i := by unfold eN; rw [if_pos hn.1, if_pos hn.2]
      rw [en]
      have h0 := (tI_le _ _).mp hn.1
      have h1 := (tI_lt _ _).mp hn.2
      have c1 : (10000 : Int32).toInt = 10000 := rfl
      have eneg : (-C i).toInt = -(C i).toInt := tI_neg (by omega)
      refine And.intro (fun _ => ?_) (fun h => absurd ((tI_le _ _).mpr (by omega)) h)
      refine And.intro (fun h => absurd h (nI_ge (show s.length < 96 by omega) (by decide))) (fun _ => ?_)
      refine And.intro (sw_k hW (Nat.le_of_ble_eq_true rfl) rfl) ?_
      refine Exists.intro _ (And.intro (sw_r hW (Nat.le_of_ble_eq_true rfl) rfl rfl) ?_)
      refine And.intro (fun h => absurd ((tI_lt _ _).mp h) (by omega)) (fun _ => ?_)
      refine And.intro hcI ?_
      rw [ev, en]
      refine And.intro (sw_n hW (Nat.le_of_ble_eq_true rfl) rfl rfl (show s.length < 96 by omega) (Nat.le_of_ble_eq_true rfl)) ?_
      rcases hok with hk | hk | hk
      · refine ih (i + 1) (C i :: s) _ _ _ _ (nI_1 s.length) (nI_1 i) (by omega) (by simp; omega) hk.2.2 (by rw [ix (by omega), up2_eq]; exact hSK.push _) (fun o ho => hup _ _ o ho) (fun I2 h2 => ?_)
        have := hQ' I2 h2
        unfold stF at this
        rw [if_pos hn.1, if_pos hn.2] at this
        exact this
      · exact absurd hn.1 (by rw [hk.1]; decide)
      · exact absurd ((tI_lt _ _).mp hk.1) (by omega)
    · -- a name
      have hq4 : q < 4 := by unfold nnF at hq; split at hq <;> omega
      have hlt := ltF_ok key q
      have hge : 0 ≤ C i := by rw [hcq]; exact nI_pos' (by omega)
      have hnl : ¬ C i < 10000 := by rw [hcq]; exact nI_nlt (b := 10000) (by omega) (by omega)
      have hsb : C i - 10000 = nI q := by rw [hcq, show (10000 : Int32) = nI 10000 from rfl, nI_sub (Nat.le_add_right 10000 q), Nat.add_sub_cancel_left]
      have en : eN key (C i) = -nI (ltF key q) := by unfold eN; rw [if_pos hge, if_neg hnl, hsb, ix (by omega)]
      rw [en]
      refine And.intro (fun (h : - -nI (ltF key q) ≤ 0) => absurd (by rw [neg_neg32] at h; exact h) (nI_nle (show 0 < ltF key q by omega) (by omega))) (fun _ => ?_)
      rw [neg_neg32]
      refine And.intro (fun h => absurd h (nI_nlt (b := 97) hlt.1 (by omega))) (fun _ => ?_)
      refine And.intro (fun h => absurd h (nI_nlt (a := 122) hlt.2 (by decide))) (fun _ => ?_)
      refine And.intro (fun h => absurd h (nI_ge (show s.length < 96 by omega) (by decide))) (fun _ => ?_)
      refine And.intro (sw_k hW (Nat.le_of_ble_eq_true rfl) rfl) ?_
      refine Exists.intro _ (And.intro (sw_r hW (Nat.le_of_ble_eq_true rfl) rfl rfl) ?_)
      refine And.intro (fun _ => ?_) (fun h => absurd (nI_lt (a := 0) (show 0 < ltF key q by omega) (by omega)) h)
      refine And.intro (sw_k hW (Nat.le_of_ble_eq_true rfl) rfl) ?_
      refine Exists.intro _ (And.intro (sw_r hW (Nat.le_of_ble_eq_true rfl) rfl rfl) ?_)
      have esb : nI (ltF key q) - 97 = nI (ltF key q - 97) := nI_sub (b := 97) hlt.1
      refine And.intro (by rw [esb]; exact sw_n hW (Nat.le_of_ble_eq_true rfl) rfl rfl (show ltF key q - 97 < 26 by omega) (Nat.le_of_ble_eq_true rfl)) ?_
      rw [esb, ix (show ltF key q - 97 < 2147483648 by omega), hI 3 (by decide), hf q hq]
      refine And.intro (sw_n hW (Nat.le_of_ble_eq_true rfl) rfl rfl (show s.length < 96 by omega) (Nat.le_of_ble_eq_true rfl)) ?_
      rcases hok with hk | hk | hk
      · refine ih (i + 1) (f q :: s) _ _ _ _ (nI_1 s.length) (nI_1 i) (by omega) (by simp; omega) hk.2.2 (by rw [ix (by omega), up2_eq]; exact hSK.push _) (fun o ho => hup _ _ o ho) (fun I2 h2 => ?_)
        have := hQ' I2 h2
        unfold stF at this
        rw [if_pos hge, if_neg hnl, hsb, ix (by omega)] at this
        exact this
      · exact absurd hge (by rw [hk.1]; decide)
      · exact absurd ((tI_lt _ _).mp hk.1) (by have := (tI_le _ _).mp hge; omega)
    · -- a sign
      have hneg : C i < 0 := by have a := (tI_le _ _).mp ho.2; have b : (-1 : Int32).toInt = -1 := rfl; rw [tI_lt]; omega
      have hst0 : ¬ 0 ≤ C i := fun w => by have a := (tI_le _ _).mp w; have b := (tI_lt _ _).mp hneg; omega
      have en : eN key (C i) = -obF (C i) := by unfold eN; rw [if_neg hst0]
      rw [en]
      have hpos : 0 < obF (C i) := by
        by_cases h10 : C i = -10
        · rw [h10]; decide
        · have a := (tI_le _ _).mp ho.1
          have b : (-10 : Int32).toInt = -10 := rfl
          have d : (-9 : Int32).toInt = -9 := rfl
          have e : ¬ (C i).toInt = (-10 : Int32).toInt := fun w => h10 ((tI_eq _ _).mpr w)
          exact (ob_ok (by rw [tI_le]; omega) ho.2).1
      refine And.intro (fun (h : - -obF (C i) ≤ 0) => absurd ((tI_le _ _).mp (by rw [neg_neg32] at h; exact h)) (by have := (tI_lt _ _).mp hpos; omega)) (fun _ => ?_)
      rw [neg_neg32]
      by_cases h10 : C i = -10
      · have e33 : obF (C i) = 33 := by rw [h10]; decide
        rw [e33]
        refine And.intro (fun _ => ?_) (fun h => absurd (by decide) h)
        refine And.intro (fun h => absurd rfl h) (fun _ => ?_)
        rcases hok with hk | hk | hk
        · exact absurd hk.1 hst0
        · obtain ⟨y, s', hs⟩ : ∃ y s', s = y :: s' := by
            match s, hk.2.1 with
            | y :: s', _ => exact ⟨y, s', rfl⟩
          have hp : s.length = s'.length + 1 := by rw [hs]; rfl
          rw [hp] at hsi
          rw [hp]
          rw [hs] at hSK hQ'
          have k2 := (hSK.one (0 : Int32)).1
          refine And.intro (fun h => absurd h (nI_nlt (b := 1) (by omega) (by omega))) (fun _ => ?_)
          refine And.intro (sw_k hW (Nat.le_of_ble_eq_true rfl) rfl) ?_
          refine Exists.intro _ (And.intro (sw_r hW (Nat.le_of_ble_eq_true rfl) rfl rfl) ?_)
          refine And.intro (sw_k hW (Nat.le_of_ble_eq_true rfl) rfl) ?_
          refine Exists.intro _ (And.intro (sw_r hW (Nat.le_of_ble_eq_true rfl) rfl rfl) ?_)
          refine And.intro (by rw [nIs]; exact sw_n hW (Nat.le_of_ble_eq_true rfl) rfl rfl (show s'.length < 96 by omega) (Nat.le_of_ble_eq_true rfl)) ?_
          have v1 : I1 4 (nI (s'.length + 1) - 1).toNatClampNeg = y := by rw [nIs, ix (by omega)]; exact k2
          rw [v1]
          refine And.intro (fun hx0 => ?_) (fun hx0 => ?_)
          · refine And.intro (by rw [nIs]; exact sw_n hW (Nat.le_of_ble_eq_true rfl) rfl rfl (show s'.length < 96 by omega) (Nat.le_of_ble_eq_true rfl)) ?_
            refine ih (i + 1) (0 :: s') _ _ _ _ rfl (nI_1 i) (by omega) (by simp; omega) (by have := hk.2.2; rw [hp] at this; exact this) (by rw [nIs, ix (by omega), up2_eq]; exact (hSK.one 0).2) (fun o ho => hup _ _ o ho) (fun I2 h2 => ?_)
            have := hQ' I2 h2
            unfold stF at this
            rw [if_neg hst0, if_pos h10] at this
            dsimp only at this
            rw [if_neg hx0] at this
            exact this
          · refine And.intro (by rw [nIs]; exact sw_n hW (Nat.le_of_ble_eq_true rfl) rfl rfl (show s'.length < 96 by omega) (Nat.le_of_ble_eq_true rfl)) ?_
            refine ih (i + 1) (1 :: s') _ _ _ _ rfl (nI_1 i) (by omega) (by simp; omega) (by have := hk.2.2; rw [hp] at this; exact this) (by rw [nIs, ix (by omega), up2_eq]; exact (hSK.one 1).2) (fun o ho => hup _ _ o ho) (fun I2 h2 => ?_)
            have := hQ' I2 h2
            unfold stF at this
            rw [if_neg hst0, if_pos h10] at this
            dsimp only at this
            rw [if_pos (Decidable.of_not_not hx0)] at this
            exact this
        · exact absurd h10 hk.2.1
      · have h9 : -9 ≤ C i := by
          have a := (tI_le _ _).mp ho.1
          have b : (-10 : Int32).toInt = -10 := rfl
          have d : (-9 : Int32).toInt = -9 := rfl
          have e : ¬ (C i).toInt = (-10 : Int32).toInt := fun w => h10 ((tI_eq _ _).mpr w)
          rw [tI_le]; omega
        obtain ⟨o1, o2, o3⟩ := ob_ok h9 ho.2
        have fin : ∀ nn : Nat, wp (nn + 40) (k + 1) mX1_given 109 [some (.ref 1), some (.int (nI x)), some (.ref c), some (.int (nI s.length)), some (.int (nI i)), some (.int (obF (C i)))] [] (nx, sl, ln, R, I1) Q := by
          intro nn
          refine And.intro (fun _ => ?_) (fun h => absurd (Decidable.of_not_not h) o2)
          rcases hok with hk | hk | hk
          · exact absurd hk.1 hst0
          · exact absurd hk.1 h10
          · obtain ⟨y, z, s', hs⟩ : ∃ y z s', s = y :: z :: s' := by
              match s, hk.2.2.1 with
              | y :: z :: s', _ => exact ⟨y, z, s', rfl⟩
            have hp : s.length = s'.length + 2 := by rw [hs]; rfl
            rw [hp] at hsi
            rw [hp]
            rw [hs] at hSK hQ'
            obtain ⟨k1, k2, k3⟩ := hSK.two (twF (C i) z y)
            refine And.intro (fun h => absurd h (nI_nlt (b := 2) (by omega) (by omega))) (fun _ => ?_)
            refine And.intro (sw_k hW (Nat.le_of_ble_eq_true rfl) rfl) ?_
            refine Exists.intro _ (And.intro (sw_r hW (Nat.le_of_ble_eq_true rfl) rfl rfl) ?_)
            rw [nI_m1]
            refine And.intro (sw_k hW (Nat.le_of_ble_eq_true rfl) rfl) ?_
            refine Exists.intro _ (And.intro (sw_r hW (Nat.le_of_ble_eq_true rfl) rfl rfl) ?_)
            refine And.intro (by rw [nIs]; exact sw_n hW (Nat.le_of_ble_eq_true rfl) rfl rfl (show s'.length < 96 by omega) (Nat.le_of_ble_eq_true rfl)) ?_
            refine And.intro (sw_k hW (Nat.le_of_ble_eq_true rfl) rfl) ?_
            refine Exists.intro _ (And.intro (sw_r hW (Nat.le_of_ble_eq_true rfl) rfl rfl) ?_)
            refine And.intro (sw_n hW (Nat.le_of_ble_eq_true rfl) rfl rfl (show s'.length + 1 < 96 by omega) (Nat.le_of_ble_eq_true rfl)) ?_
            have v1 : I1 4 (nI (s'.length + 1) - 1).toNatClampNeg = z := by rw [nIs, ix (by omega)]; exact k2
            have v2 : I1 4 (nI (s'.length + 1)).toNatClampNeg = y := by rw [ix (by omega)]; exact k1
            rw [v1, v2]
            refine c_joined h9 ho.2 ?_
            refine And.intro (by rw [nIs]; exact sw_n hW (Nat.le_of_ble_eq_true rfl) rfl rfl (show s'.length < 96 by omega) (Nat.le_of_ble_eq_true rfl)) ?_
            refine ih (i + 1) (twF (C i) z y :: s') _ _ _ _ rfl (nI_1 i) (by omega) (by simp; omega) (by have := hk.2.2.2; rw [hp] at this; exact this) (by rw [nIs, ix (by omega), up2_eq]; exact k3) (fun o ho => hup _ _ o ho) (fun I2 h2 => ?_)
            have := hQ' I2 h2
            unfold stF at this
            rw [if_neg hst0, if_neg h10] at this
            exact this
        refine And.intro (fun _ => fin _) (fun h97 => ?_)
        refine And.intro (fun _ => fin _) (fun h122 => ?_)
        refine absurd ⟨?_, ?_⟩ o3
        · rw [tI_lt] at h97; rw [tI_le]; omega
        · rw [tI_lt] at h122; rw [tI_le]; omega
