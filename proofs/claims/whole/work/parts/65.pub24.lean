/-! Public methods: bytes come to the tape. -/
def cbF (x : Int32) (q : Nat) : Int32 := vp_nar .byte (ius x (nI (24 - 8 * q))).toInt8.toInt32
def bbF (x : Int32) (q : Nat) : Int32 := (x >>> nI (24 - 8 * q)) &&& 255
theorem bv_byte (b : BitVec 32) {n : Nat} (hn : n ≤ 24) : ((((b >>> n).signExtend 8).signExtend 32).signExtend 8).signExtend 32 &&& 255#32 = b.sshiftRight n &&& 255#32 := by
  apply BitVec.eq_of_getLsbD_eq
  intro i hi
  have e : (255#32) = (BitVec.allOnes 8).setWidth 32 := by decide
  rw [BitVec.getLsbD_and, BitVec.getLsbD_and, e, BitVec.getLsbD_setWidth, BitVec.getLsbD_allOnes]
  by_cases h8 : i < 8
  · have h1 : (((((b >>> n).signExtend 8).signExtend 32).signExtend 8).signExtend 32).getLsbD i = b.getLsbD (n + i) := by
      rw [BitVec.getLsbD_signExtend, BitVec.getLsbD_signExtend, BitVec.getLsbD_signExtend, BitVec.getLsbD_signExtend, BitVec.getLsbD_ushiftRight]
      simp [hi, h8]
    have h2 : (b.sshiftRight n).getLsbD i = b.getLsbD (n + i) := by
      rw [BitVec.getLsbD_sshiftRight]
      have : n + i < 32 := by omega
      simp [this]
      omega
    rw [h1, h2]
  · simp [h8]
theorem and255 (y : Int32) : ∃ b : Nat, b < 256 ∧ y &&& 255 = nI b := by
  refine ⟨(y &&& 255).toBitVec.toNat, ?_, ?_⟩
  · rw [Int32.toBitVec_and, BitVec.toNat_and]
    exact Nat.lt_succ_of_le (Nat.and_le_right)
  · apply Int32.toBitVec_inj.mp
    show _ = BitVec.ofNat 32 _
    rw [BitVec.ofNat_toNat, BitVec.setWidth_eq]
theorem cb_bb (x : Int32) {q : Nat} (hq : q < 4) : cbF x q &&& 255 = bbF x q := by
  rcases (show q = 0 ∨ q = 1 ∨ q = 2 ∨ q = 3 by omega) with e | e | e | e <;> subst e <;> apply Int32.toBitVec_inj.mp
  · exact bv_byte x.toBitVec (n := 24) (by omega)
  · exact bv_byte x.toBitVec (n := 16) (by omega)
  · exact bv_byte x.toBitVec (n := 8) (by omega)
  · exact bv_byte x.toBitVec (n := 0) (by omega)
theorem l_putB {nx sl : Nat} {ln : Nat → Nat} {R : Nat → Nat → Option Nat} {I : Nat → Nat → Int32} {Q : Option Value → Hp → Prop} {k : Nat} (hW : SW nx ln R) {L : Nat} {x : Int32} (hL : L + 4 ≤ 96) : ∀ (r q : Nat) (xs : Int32) (I1 : Nat → Nat → Int32), xs.toInt = 24 - 8 * (q : Int) → q + r = 4 → (∀ o, ¬ o = 0 → ¬ o = 50 → I1 o = I o) → I1 0 = up1 (I 0) 6 (nI (L + q)) → (∀ p, (p < L ∨ L + q ≤ p) → I1 50 p = I 50 p) → (∀ i, i < q → I1 50 (L + i) = cbF x i) → (∀ I2, (∀ o, ¬ o = 0 → ¬ o = 50 → I2 o = I o) → I2 0 = up1 (I 0) 6 (nI (L + 4)) → (∀ p, (p < L ∨ L + 4 ≤ p) → I2 50 p = I 50 p) → (∀ i, i < 4 → I2 50 (L + i) = cbF x i) → Q none (nx, sl, ln, R, I2)) → GoF k mX7_putBytes 3 [some (.ref 0), some (.int x), some (.int xs)] [] (nx, sl, ln, R, I1) Q := by
  have z0 : (0 : Int32).toInt = 0 := rfl
  intro r
  induction r with
  | zero =>
    intro q xs I1 hxs hqr e0 e1 e2 e3 hQ
    have hq : q = 4 := by omega
    subst hq
    refine GoF_wp1 60 ?_
    refine And.intro (fun _ => ?_) (fun h => absurd ((tI_lt _ _).mpr (by omega)) h)
    exact hQ I1 e0 e1 e2 e3
  | succ r ih =>
    intro q xs I1 hxs hqr e0 e1 e2 e3 hQ
    have hx : xs = nI (24 - 8 * q) := by rw [tI_eq, hxs, tI_nI (by omega)]; omega
    have b6 : I1 0 6 = nI (L + q) := by rw [e1, up1_eq]
    refine GoF_wp1 60 ?_
    refine And.intro (fun h => absurd ((tI_lt _ _).mp h) (by omega)) (fun _ => ?_)
    refine And.intro (sw_k hW (Nat.le_of_ble_eq_true rfl) rfl) ?_
    rw [b6]
    refine And.intro (fun h => absurd h (nI_ge (b := 96) (by omega) (by decide))) (fun _ => ?_)
    refine And.intro (sw_k hW (Nat.le_of_ble_eq_true rfl) rfl) ?_
    refine Exists.intro _ (And.intro (sw_r hW (Nat.le_of_ble_eq_true rfl) rfl rfl) ?_)
    refine And.intro (sw_k hW (Nat.le_of_ble_eq_true rfl) rfl) ?_
    rw [b6]
    refine And.intro (sw_n hW (Nat.le_of_ble_eq_true rfl) rfl rfl (show L + q < 96 by omega) (Nat.le_of_ble_eq_true rfl)) ?_
    rw [ix (show L + q < 2147483648 by omega)]
    refine And.intro (sw_k hW (Nat.le_of_ble_eq_true rfl) rfl) ?_
    rw [up2_ne (show ¬ 0 = 50 by decide), b6]
    refine And.intro (sw_k hW (Nat.le_of_ble_eq_true rfl) rfl) ?_
    rw [nI_1]
    refine ih (q + 1) _ _ ?_ (by omega) (fun o h1 h2 => by rw [up2_ne h1, up2_ne h2]; exact e0 o h1 h2) ?_ (fun p hp => ?_) (fun i hi => ?_) hQ
    · rw [tI_add (by rw [hxs, show (-8 : Int32).toInt = -8 from rfl]; omega) (by rw [hxs, show (-8 : Int32).toInt = -8 from rfl]; omega), hxs, show (-8 : Int32).toInt = -8 from rfl]; omega
    · rw [up2_eq, up2_ne (by decide), e1, up1_2]; rfl
    · rw [up2_ne (by decide), up2_eq, up1_ne (by omega)]; exact e2 p (by omega)
    · rw [up2_ne (by decide), up2_eq]
      by_cases hi2 : i = q
      · subst hi2; rw [up1_eq, hx]; rfl
      · rw [up1_ne (by omega)]; exact e3 i (by omega)
theorem c_putB {nx sl : Nat} {ln : Nat → Nat} {R : Nat → Nat → Option Nat} {I : Nat → Nat → Int32} {Q : Option Value → Hp → Prop} {k : Nat} (hW : SW nx ln R) {L : Nat} {x : Int32} (hL : L + 4 ≤ 96) (h6 : I 0 6 = nI L) (hQ : ∀ I2, (∀ o, ¬ o = 0 → ¬ o = 50 → I2 o = I o) → I2 0 = up1 (I 0) 6 (nI (L + 4)) → (∀ p, (p < L ∨ L + 4 ≤ p) → I2 50 p = I 50 p) → (∀ i, i < 4 → I2 50 (L + i) = cbF x i) → Q none (nx, sl, ln, R, I2)) : Go k mX7_putBytes [.ref 0, .int x] (nx, sl, ln, R, I) Q := by
  refine Go_wp 20 rfl ?_
  exact l_putB hW hL 4 0 24 I rfl (by omega) (fun _ _ _ => rfl) (by rw [Nat.add_zero, ← h6, up1_self]) (fun _ _ => rfl) (fun i hi => absurd hi (by omega)) hQ
/-- the twelve bytes -/
def fdF (a b c : Int32) (j : Nat) : Int32 := bbF (if j < 4 then a else if j < 8 then b else c) (j % 4)
theorem sh_eq : ∀ j, j < 12 → ((24 : Int32) - 8 * irm (nI j) 4) &&& 31 = nI (24 - 8 * (j % 4)) := by decide
theorem fd_up {I : Nat → Nat → Int32} {L j : Nat} {M : Nat → Int32} : up2 (up1 I 92 (fun p => if L ≤ p ∧ p < L + j then M (p - L) else I 92 p)) 92 (L + j) (M j) = up1 I 92 (fun p => if L ≤ p ∧ p < L + (j + 1) then M (p - L) else I 92 p) := by
  funext q
  by_cases hq : q = 92
  · subst hq
    rw [up2_eq, up1_eq, up1_eq]
    funext p
    by_cases hp : p = L + j
    · subst hp; rw [up1_eq, if_pos (by omega)]; congr 1; omega
    · rw [up1_ne hp]
      by_cases hl : L ≤ p ∧ p < L + j
      · rw [if_pos hl, if_pos (by omega)]
      · rw [if_neg hl, if_neg (by omega)]
  · rw [up2_ne hq, up1_ne hq, up1_ne hq]
theorem l_feed {nx sl : Nat} {ln : Nat → Nat} {R : Nat → Nat → Option Nat} {I : Nat → Nat → Int32} {Q : Option Value → Hp → Prop} {k : Nat} (hW : SW nx ln R) {L : Nat} {a b c : Int32} (hL : L + 12 ≤ 96) (h9 : I 85 9 = nI L) : ∀ (r j : Nat) (xj : Int32) (x5 : Option Value) (I1 : Nat → Nat → Int32), xj = nI j → I1 = up1 I 92 (fun p => if L ≤ p ∧ p < L + j then fdF a b c (p - L) else I 92 p) → j + r = 12 → Q (some (.int (nI (L + 12)))) (nx, sl, ln, R, up2 (up1 I 92 (fun p => if L ≤ p ∧ p < L + 12 then fdF a b c (p - L) else I 92 p)) 85 9 (nI (L + 12))) → GoF k mX8_feed 18 [some (.ref 85), some (.int a), some (.int b), some (.int c), some (.int xj), x5] [] (nx, sl, ln, R, I1) Q := by
  intro r
  induction r with
  | zero =>
    intro j xj x5 I1 hxj hI hjr hQ
    subst hxj
    have hid : j = 12 := by omega
    subst hid
    have b9 : I1 85 9 = nI L := by rw [hI, up1_ne (by decide)]; exact h9
    refine GoF_wp1 60 ?_
    refine And.intro (fun _ => ?_) (fun h9 => absurd (by decide) h9)
    refine And.intro (sw_k hW (Nat.le_of_ble_eq_true rfl) rfl) ?_
    rw [b9]
    refine And.intro (sw_k hW (Nat.le_of_ble_eq_true rfl) rfl) ?_
    rw [show nI L + 12 = nI (L + 12) from nI_add L 12]
    refine And.intro (sw_k hW (Nat.le_of_ble_eq_true rfl) rfl) ?_
    rw [up2_eq, up1_eq, hI]
    exact hQ
  | succ r ih =>
    intro j xj x5 I1 hxj hI hjr hQ
    subst hxj
    have b9 : I1 85 9 = nI L := by rw [hI, up1_ne (by decide)]; exact h9
    refine GoF_wp1 60 ?_
    refine And.intro (fun h => absurd h (nI_ge (b := 12) (by omega) (by decide))) (fun _ => ?_)
    by_cases h4 : j < 4
    · refine And.intro (fun h => absurd h (nI_ge (b := 4) h4 (by decide))) (fun _ => ?_)
      refine And.intro (sw_k hW (Nat.le_of_ble_eq_true rfl) rfl) ?_
      refine Exists.intro _ (And.intro (sw_r hW (Nat.le_of_ble_eq_true rfl) rfl rfl) ?_)
      refine And.intro (sw_k hW (Nat.le_of_ble_eq_true rfl) rfl) ?_
      rw [b9]
      refine And.intro (by decide) ?_
      refine And.intro (by rw [nI_add]; exact sw_n hW (Nat.le_of_ble_eq_true rfl) rfl rfl (show L + j < 96 by omega) (Nat.le_of_ble_eq_true rfl)) ?_
      rw [nI_add, ix (show L + j < 2147483648 by omega), sh_eq j (by omega), hI]
      refine ih (j + 1) _ _ _ (nI_1 j) ?_ (by omega) hQ
      rw [show a >>> nI (24 - 8 * (j % 4)) &&& 255 = fdF a b c j by unfold fdF bbF; rw [if_pos h4]]
      exact fd_up
    · refine And.intro (fun _ => ?_) (fun h => absurd (nI_le (a := 4) (by omega) (by omega)) h)
      by_cases h8 : j < 8
      · refine And.intro (fun h => absurd h (nI_ge (b := 8) h8 (by decide))) (fun _ => ?_)
        refine And.intro (sw_k hW (Nat.le_of_ble_eq_true rfl) rfl) ?_
        refine Exists.intro _ (And.intro (sw_r hW (Nat.le_of_ble_eq_true rfl) rfl rfl) ?_)
        refine And.intro (sw_k hW (Nat.le_of_ble_eq_true rfl) rfl) ?_
        rw [b9]
        refine And.intro (by decide) ?_
        refine And.intro (by rw [nI_add]; exact sw_n hW (Nat.le_of_ble_eq_true rfl) rfl rfl (show L + j < 96 by omega) (Nat.le_of_ble_eq_true rfl)) ?_
        rw [nI_add, ix (show L + j < 2147483648 by omega), sh_eq j (by omega), hI]
        refine ih (j + 1) _ _ _ (nI_1 j) ?_ (by omega) hQ
        rw [show b >>> nI (24 - 8 * (j % 4)) &&& 255 = fdF a b c j by unfold fdF bbF; rw [if_neg h4, if_pos h8]]
        exact fd_up
      · refine And.intro (fun _ => ?_) (fun h => absurd (nI_le (a := 8) (by omega) (by omega)) h)
        refine And.intro (sw_k hW (Nat.le_of_ble_eq_true rfl) rfl) ?_
        refine Exists.intro _ (And.intro (sw_r hW (Nat.le_of_ble_eq_true rfl) rfl rfl) ?_)
        refine And.intro (sw_k hW (Nat.le_of_ble_eq_true rfl) rfl) ?_
        rw [b9]
        refine And.intro (by decide) ?_
        refine And.intro (by rw [nI_add]; exact sw_n hW (Nat.le_of_ble_eq_true rfl) rfl rfl (show L + j < 96 by omega) (Nat.le_of_ble_eq_true rfl)) ?_
        rw [nI_add, ix (show L + j < 2147483648 by omega), sh_eq j (by omega), hI]
        refine ih (j + 1) _ _ _ (nI_1 j) ?_ (by omega) hQ
        rw [show c >>> nI (24 - 8 * (j % 4)) &&& 255 = fdF a b c j by unfold fdF bbF; rw [if_neg h4, if_neg h8]]
        exact fd_up
theorem Sim.sp {nx : Nat} {ln : Nat → Nat} {R : Nat → Nat → Option Nat} {I I' : Nat → Nat → Int32} (h : Sim nx ln R I) (ho : ∀ o, ¬ o = 0 → ¬ o = 50 → ¬ o = 85 → ¬ o = 92 → I' o = I o) (h0 : ∀ q, ¬ q = 6 → I' 0 q = I 0 q) (h85 : ∀ q, ¬ q = 9 → I' 85 q = I 85 q) (hs : SP I') : Sim nx ln R I' := by
  obtain ⟨b1, b2, b3, b4, b5, b6, b7⟩ := h
  exact ⟨b1, b2.keep (fun o h => ho o (by omega) (by omega) (by omega) (by omega)) (h0 4 (by decide)) (h85 3 (by decide)), hs, b4.keep (fun o h => ho o (by omega) (by omega) (by omega) (by omega)), b5.keep (fun o h => ho o (by omega) (by omega) (by omega) (by omega)), b6.keep (h0 11 (by decide)) (h85 35 (by decide)) (ho 83 (by omega) (by omega) (by omega) (by omega)) (ho 108 (by omega) (by omega) (by omega) (by omega)), b7.keep (ho 93 (by omega) (by omega) (by omega) (by omega)) (ho 94 (by omega) (by omega) (by omega) (by omega))⟩
theorem pub_feed (a b c : Int32) : Pub mX7_feed mX8_feed [.int a, .int b, .int c] := by
  intro k nx sl ln R I hS
  have hW := hS.1
  obtain ⟨L, hL, h6, h9, hb⟩ := id hS.2.2.1
  refine Go_wp 60 rfl ?_
  refine And.intro (sw_k hW (Nat.le_of_ble_eq_true rfl) rfl) ?_
  rw [h6]
  by_cases hl : L ≤ 84
  · refine And.intro (fun _ => ?_) (fun h => absurd (nI_le (b := 84) hl (by decide)) h)
    refine And.intro (sw_k hW (Nat.le_of_ble_eq_true rfl) rfl) ?_
    refine c_putB (L := L) hW (by omega) h6 (fun I1 e0 e1 e2 e3 => ?_)
    refine And.intro (sw_k hW (Nat.le_of_ble_eq_true rfl) rfl) ?_
    refine c_putB (L := L + 4) hW (by omega) (by rw [e1, up1_eq]) (fun I2 f0 f1 f2 f3 => ?_)
    refine And.intro (sw_k hW (Nat.le_of_ble_eq_true rfl) rfl) ?_
    refine c_putB (L := L + 4 + 4) hW (by omega) (by rw [f1, up1_eq]) (fun I3 g0 g1 g2 g3 => ?_)
    refine And.intro (sw_k hW (Nat.le_of_ble_eq_true rfl) rfl) ?_
    rw [show I3 0 6 = nI (L + 12) by rw [g1, up1_eq]]
    have k0 : ∀ o, ¬ o = 0 → ¬ o = 50 → I3 o = I o := fun o h1 h2 => by rw [g0 o h1 h2, f0 o h1 h2, e0 o h1 h2]
    have k9 : I3 85 9 = nI L := by rw [k0 85 (by decide) (by decide)]; exact h9
    refine ⟨_, rfl, ?_⟩
    refine Go_wp 60 rfl ?_
    refine And.intro (sw_k hW (Nat.le_of_ble_eq_true rfl) rfl) ?_
    rw [k9]
    refine And.intro (fun _ => ?_) (fun h => absurd (by rw [show nI L + 12 = nI (L + 12) from nI_add L 12]; exact nI_le (b := 96) (by omega) (by decide)) h)
    refine l_feed (I := I3) (L := L) hW (by omega) k9 12 0 0 _ I3 rfl ?_ (by omega) ?_
    · funext q
      by_cases hq : q = 92
      · subst hq
        rw [up1_eq]
        funext p
        rw [if_neg (by omega)]
      · rw [up1_ne hq]
    · refine pub_end (hS.sp (fun o h1 h2 h3 h4 => by rw [up2_ne h3, up1_ne h4]; exact k0 o h1 h2) (fun q hq => ?_) (fun q hq => ?_) ⟨L + 12, by omega, ?_, ?_, fun i hi => ?_⟩)
      · rw [up2_ne (by decide), up1_ne (by decide), g1, up1_ne hq, f1, up1_ne hq, e1, up1_ne hq]
      · rw [up2_eq, up1_ne hq, up1_ne (by decide), k0 85 (by decide) (by decide)]
      · rw [up2_ne (by decide), up1_ne (by decide), g1, up1_eq]
      · rw [up2_eq, up1_eq]
      · rw [up2_ne (show ¬ 92 = 85 by decide), up1_eq, up2_ne (show ¬ 50 = 85 by decide), up1_ne (show ¬ 50 = 92 by decide)]
        by_cases hi1 : i < L
        · rw [if_neg (by omega), g2 i (by omega), f2 i (by omega), e2 i (by omega), k0 92 (by decide) (by decide)]
          exact hb i hi1
        · rw [if_pos (by omega)]
          have key : I3 50 i &&& 255 = fdF a b c (i - L) := by
            unfold fdF
            by_cases h4 : i < L + 4
            · rw [if_pos (by omega), ← cb_bb a (show (i - L) % 4 < 4 by omega), g2 i (by omega), f2 i (by omega), show (i - L) % 4 = i - L by omega, ← e3 (i - L) (by omega)]
              congr 3
              omega
            · by_cases h8 : i < L + 8
              · rw [if_neg (by omega), if_pos (by omega), ← cb_bb b (show (i - L) % 4 < 4 by omega), g2 i (by omega), show (i - L) % 4 = i - L - 4 by omega, ← f3 (i - L - 4) (by omega)]
                congr 3
                omega
              · rw [if_neg (by omega), if_neg (by omega), ← cb_bb c (show (i - L) % 4 < 4 by omega), show (i - L) % 4 = i - L - 8 by omega, ← g3 (i - L - 8) (by omega)]
                congr 3
                omega
          obtain ⟨y, hy, e⟩ := and255 (I3 50 i)
          exact ⟨y, hy, by rw [← key]; exact e, e⟩
  · refine And.intro (fun h => absurd h (nI_ge (a := 84) (by omega) (by omega))) (fun _ => ?_)
    refine ⟨_, rfl, ?_⟩
    refine Go_wp 60 rfl ?_
    refine And.intro (sw_k hW (Nat.le_of_ble_eq_true rfl) rfl) ?_
    rw [h9]
    refine And.intro (fun h => absurd h (by rw [show nI L + 12 = nI (L + 12) from nI_add L 12]; exact nI_ge (a := 96) (by omega) (by omega))) (fun _ => ?_)
    exact pub_end hS
