/-! A text is read, on both sides. -/
/-- how a text is read by levels -/
def rdT (B : Nat → Nat) (L key : Nat) : Bool × Sg := rd (odK B L key) (sbK B L) 79 0 0 0 (1, [], 0)
def okT (B : Nat → Nat) (L key : Nat) : Bool := (rdT B L key).1 && enK B L (rdT B L key).2.1
theorem c_readsText {nx sl : Nat} {ln : Nat → Nat} {R : Nat → Nat → Option Nat} {I : Nat → Nat → Int32} {Q : Option Value → Hp → Prop} {k : Nat} (hW : SW nx ln R) {B : Nat → Nat} {L : Nat} (hB : TB I B L)
    (q0 : kyF B (tk B L 0) = 3 → ∀ I2, FC I I2 → I2 51 7 = nI (tk B L 0).2.1 → Q (some (.int 0)) (nx, sl, ln, R, I2))
    (q1 : ∀ key, key ≤ 2 → kyF B (tk B L 0) = key → ∀ I2, FC I I2 → CS B L key I2 (rdT B L key).2 → Q (some (.int (b01 (okT B L key)))) (nx, sl, ln, R, I2)) : Go (k + 84) mX2_readsText [.ref 51, .int (nI L)] (nx, sl, ln, R, I) Q := by
  have hL9 := hB.1
  have hB2 : ∀ j, j < L → B j < 256 := fun j hj => (hB.2 j hj).1
  refine Go_wp 80 rfl ?_
  refine And.intro (sw_k hW (Nat.le_of_ble_eq_true rfl) rfl) ?_
  rw [if_neg (show ¬ (96 : Int32) < nI L from nI_nlt (a := 96) (by omega) (by decide))]
  refine And.intro (sw_k hW (Nat.le_of_ble_eq_true rfl) rfl) ?_
  refine And.intro (sw_k hW (Nat.le_of_ble_eq_true rfl) rfl) ?_
  refine And.intro (sw_k hW (Nat.le_of_ble_eq_true rfl) rfl) ?_
  refine And.intro (sw_k hW (Nat.le_of_ble_eq_true rfl) rfl) ?_
  refine And.intro (sw_k hW (Nat.le_of_ble_eq_true rfl) rfl) ?_
  obtain ⟨I1, hI1⟩ : ∃ I1, up2 (up2 (up2 (up2 (up2 (up2 I 51 3 (nI L)) 51 2 0) 51 4 0) 51 5 (-1)) 51 7 0) 51 6 0 = I1 := ⟨_, rfl⟩
  rw [hI1]
  have g3 : I1 51 3 = nI L := by rw [← hI1, up2_eq, up1_ne (by decide), up2_eq, up1_ne (by decide), up2_eq, up1_ne (by decide), up2_eq, up1_ne (by decide), up2_eq, up1_ne (by decide), up2_eq, up1_eq]
  have g2 : I1 51 2 = 0 := by rw [← hI1, up2_eq, up1_ne (by decide), up2_eq, up1_ne (by decide), up2_eq, up1_ne (by decide), up2_eq, up1_ne (by decide), up2_eq, up1_eq]
  have g4 : I1 51 4 = 0 := by rw [← hI1, up2_eq, up1_ne (by decide), up2_eq, up1_ne (by decide), up2_eq, up1_ne (by decide), up2_eq, up1_eq]
  have g5 : I1 51 5 = -1 := by rw [← hI1, up2_eq, up1_ne (by decide), up2_eq, up1_ne (by decide), up2_eq, up1_eq]
  have g6 : I1 51 6 = 0 := by rw [← hI1, up2_eq, up1_eq]
  have hF1 : FC I I1 := fun o a b => by rw [← hI1, up2_ne a, up2_ne a, up2_ne a, up2_ne a, up2_ne a, up2_ne a]
  have hB1 : TB I1 B L := ⟨hL9, fun i hi => by rw [hF1 50 (by decide) (by decide)]; exact hB.2 i hi⟩
  refine And.intro (sw_k hW (Nat.le_of_ble_eq_true rfl) rfl) ?_
  refine c_step (w := false) (p := 0) hW hB1 g3 g6 (Nat.zero_le _) ?_ (fun I2 hF h5 h7 h6 => ?_)
  · rw [g5]
    exact ⟨fun q => (by cases q), fun q => absurd q (by decide)⟩
  have hF2 : FC I I2 := hF1.tr (fun o a b => hF.1 o a)
  have hB2' : TB I2 B L := ⟨hL9, fun i hi => by rw [hF2 50 (by decide) (by decide)]; exact hB.2 i hi⟩
  refine And.intro (sw_k hW (Nat.le_of_ble_eq_true rfl) rfl) ?_
  refine c_keyRead hW ?_
  rw [key_eq (i := 0) hB2' h5 h7 h6]
  refine And.intro (sw_k hW (Nat.le_of_ble_eq_true rfl) rfl) ?_
  refine And.intro (sw_k hW (Nat.le_of_ble_eq_true rfl) rfl) ?_
  rw [show up2 I2 51 8 (kyV (kyF B (tk B L 0))) 51 8 = kyV (kyF B (tk B L 0)) by rw [up2_eq, up1_eq]]
  have hle := ky_le B (tk B L 0)
  by_cases hk3 : kyF B (tk B L 0) = 3
  · rw [hk3]
    refine And.intro (fun h => absurd h (by decide)) (fun _ => ?_)
    refine And.intro (Or.inl rfl) (q0 hk3 _ (fun o a b => by rw [up2_ne a]; exact hF2 o a b) ?_)
    rw [up2_eq, up1_ne (by decide)]; exact h7
  · obtain ⟨key, hkey⟩ : ∃ key, kyF B (tk B L 0) = key := ⟨_, rfl⟩
    rw [hkey] at hk3 hle ⊢
    have hk2 : key ≤ 2 := by omega
    have ekv : kyV key = nI key := if_neg hk3
    rw [ekv]
    refine And.intro (fun _ => ?_) (fun h => absurd (nI_pos' (by omega)) h)
    have hC : CS B L key (up2 I2 51 8 (nI key)) (0, [], 0) := by
      refine ⟨⟨hL9, fun i hi => by rw [up2_ne (by decide)]; exact hB2'.2 i hi⟩, ?_, ?_, ?_, ?_, ?_, ?_, ?_, fun j hj => absurd hj (by simp)⟩
      · rw [up2_eq, up1_ne (by decide), hF.2 3 (by decide) (by decide) (by decide)]; exact g3
      · rw [up2_eq, up1_eq]
      · rw [up2_eq, up1_ne (by decide)]; exact h5
      · rw [up2_eq, up1_ne (by decide)]; exact h7
      · rw [up2_eq, up1_ne (by decide)]; exact h6
      · rw [up2_eq, up1_ne (by decide), hF.2 2 (by decide) (by decide) (by decide)]; exact g2
      · rw [up2_eq, up1_ne (by decide), hF.2 4 (by decide) (by decide) (by decide)]; exact g4
    refine And.intro (sw_k hW (Nat.le_of_ble_eq_true rfl) rfl) ?_
    refine c_adv hW hC (fun I3 hF3 hC3 => ?_)
    refine And.intro (sw_k hW (Nat.le_of_ble_eq_true rfl) rfl) ?_
    refine (c_rd (k := k) hW hk2 79).1 0 0 0 _ _ _ (1, [], 0) I3 _ rfl rfl rfl (by omega) (by omega) (by omega) (by decide) hC3 (by simp) (fun I4 hF4 hC4 => ?_)
    have hFF : FC I I4 := (hF2.tr (fun o a b => by rw [hF3 o a b, up2_ne a])).tr hF4
    have hq := q1 key hk2 hkey I4 hFF hC4
    have hen : enK B L (rdT B L key).2.1 = true ↔ (tk B L (rdT B L key).2.1).1 = 0 := decide_eq_true_iff
    obtain ⟨s1, s2, s3⟩ := sg_l (L := L) (i := (rdT B L key).2.1) hB2
    cases hr : (rdT B L key).1 with
    | true =>
      rw [show b01 (rd (odK B L key) (sbK B L) 79 0 0 0 (1, [], 0)).1 = 1 from congrArg b01 hr]
      refine And.intro (fun h9 => absurd h9 (by decide)) (fun _ => ?_)
      refine And.intro (sw_k hW (Nat.le_of_ble_eq_true rfl) rfl) ?_
      rw [hC4.2.2.2.1]
      by_cases e0 : (tk B L (rdT B L key).2.1).1 = 0
      · rw [show okT B L key = true by unfold okT; rw [hr, hen.mpr e0]; rfl] at hq
        refine And.intro (fun h => absurd (s3.mpr e0) h) (fun _ => ?_)
        exact And.intro (Or.inr rfl) hq
      · rw [show okT B L key = false by
          unfold okT; rw [hr, Bool.true_and]
          cases hx : enK B L (rdT B L key).2.1 with
          | false => rfl
          | true => exact absurd (hen.mp hx) e0] at hq
        refine And.intro (fun _ => ?_) (fun h => absurd (fun q => e0 (s3.mp q)) h)
        exact And.intro (Or.inl rfl) hq
    | false =>
      rw [show b01 (rd (odK B L key) (sbK B L) 79 0 0 0 (1, [], 0)).1 = 0 from congrArg b01 hr]
      rw [show okT B L key = false by unfold okT; rw [hr]; rfl] at hq
      refine And.intro (fun _ => ?_) (fun h9 => absurd rfl h9)
      exact And.intro (Or.inl rfl) hq
theorem s_takesE {nx sl : Nat} {ln : Nat → Nat} {R : Nat → Nat → Option Nat} {I : Nat → Nat → Int32} {Q : Option Value → Hp → Prop} {k : Nat} (hW : SW nx ln R) {B : Nat → Nat} {L key : Nat} (hk : key ≤ 2) (hM : MT I B L) (hP : MP B I (tk B L 1)) (h15 : I 85 15 = nI key) (hQ : ∀ I2, FP I I2 → TE B L key I2 (okT B L key, (rdT B L key).2) → Q (some (.int (b01 (okT B L key)))) (nx, sl, ln, R, I2)) : Go (k + 4) mX8_takesE [.ref 85] (nx, sl, ln, R, I) Q := by
  have hL9 := hM.1
  obtain ⟨C', a', e, eok⟩ := par_eq (od := odK B L key) (sb := sbK B L) (en := enK B L) (n := 79) (i := 1) od_sb en_sb (op_96 hL9) (by omega) 100
  refine Go_wp 40 rfl ?_
  refine And.intro (sw_k hW (Nat.le_of_ble_eq_true rfl) rfl) ?_
  refine And.intro (sw_k hW (Nat.le_of_ble_eq_true rfl) rfl) ?_
  refine And.intro (sw_k hW (Nat.le_of_ble_eq_true rfl) rfl) ?_
  refine And.intro (sw_k hW (Nat.le_of_ble_eq_true rfl) rfl) ?_
  refine Exists.intro _ (And.intro (sw_r hW (Nat.le_of_ble_eq_true rfl) rfl rfl) ?_)
  refine And.intro (sw_n hW (Nat.le_of_ble_eq_true rfl) rfl rfl ((Nat.le_of_ble_eq_true rfl)) (Nat.le_of_ble_eq_true rfl)) ?_
  rw [show vp_nar .boolean (0 : Int32) = 0 from rfl, show (0 : Int32).toNatClampNeg = 0 from rfl]
  obtain ⟨I1, hI1⟩ : ∃ I1, up2 (up2 (up2 (up2 I 85 19 0) 85 20 0) 85 22 0) 97 0 0 = I1 := ⟨_, rfl⟩
  rw [hI1]
  have hF1 : FP I I1 := by
    refine ⟨fun o a b c d => by rw [← hI1, up2_ne d, up2_ne a, up2_ne a, up2_ne a], fun q hq => ?_⟩
    rw [← hI1, up2_ne (by decide), up2_eq, up1_ne (by omega), up2_eq, up1_ne (by omega), up2_eq, up1_ne (by omega)]
  have e85 : ∀ q, ¬ q = 19 → ¬ q = 20 → ¬ q = 22 → I1 85 q = I 85 q := fun q a b c => by rw [← hI1, up2_ne (by decide), up2_eq, up1_ne c, up2_eq, up1_ne b, up2_eq, up1_ne a]
  refine l_takes (I := I) hW hk (100 + 1 + ((rd (odK B L key) (sbK B L) 79 0 0 0 (1, [], 0)).2.1 - 1)) 1 true [] [] 0 _ _ _ I1 rfl rfl (by omega) ⟨⟨hM.keep2 (e85 9 (by decide) (by decide) (by decide)) (hF1.1 92 (by decide) (by decide) (by decide) (by decide)), hP.keep (fun q h1 h2 => e85 q (by omega) (by omega) (by omega)), by rw [e85 15 (by decide) (by decide) (by decide)]; exact h15, ?_, ?_, ?_, fun j hj => absurd hj (by simp), fun j hj => absurd hj (by simp)⟩, trivial, fun q => (by cases q), ⟨?_, trivial⟩, by simp, by rw [npn]; omega, Nat.le_refl _, by omega⟩ hF1 (fun I2 hF2 hTE => ?_)
  · rw [← hI1, up2_ne (by decide), up2_eq, up1_ne (by decide), up2_eq, up1_ne (by decide), up2_eq, up1_eq]; rfl
  · rw [← hI1, up2_ne (by decide), up2_eq, up1_ne (by decide), up2_eq, up1_eq]; rfl
  · rw [← hI1, up2_ne (by decide), up2_eq, up1_eq]; rfl
  · rw [← hI1, up2_eq]; exact up1_eq
  · rw [e] at hTE ⊢
    refine hQ I2 hF2 ⟨hTE.1, hTE.2.1, fun q => ?_⟩
    obtain ⟨f1, f2⟩ := eok q
    have h3 := hTE.2.2 q
    rw [f1, f2] at h3
    exact h3
