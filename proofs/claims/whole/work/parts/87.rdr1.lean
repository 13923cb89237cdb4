/-! The component's reader: its small methods. -/
/-- the reader at a word, with so much code -/
def CS (B : Nat → Nat) (L key : Nat) (I : Nat → Nat → Int32) (σ : Sg) : Prop := TB I B L ∧ I 51 3 = nI L ∧ I 51 8 = nI key ∧ I 51 5 = sgF B (tk B L σ.1) ∧ I 51 7 = nI (tk B L σ.1).2.1 ∧ I 51 6 = nI (tk B L σ.1).2.2 ∧ I 51 2 = nI σ.2.1.length ∧ I 51 4 = nI σ.2.2 ∧ ∀ j, j < σ.2.1.length → I 52 j = eN key (σ.2.1.getD (σ.2.1.length - 1 - j) 0)
def FC (I I' : Nat → Nat → Int32) : Prop := ∀ o, ¬ o = 51 → ¬ o = 52 → I' o = I o
theorem FC.rf {I : Nat → Nat → Int32} : FC I I := fun _ _ _ => rfl
theorem FC.tr {I J K : Nat → Nat → Int32} (h1 : FC I J) (h2 : FC J K) : FC I K := fun o a b => (h2 o a b).trans (h1 o a b)
/-- a sign and its byte -/
def sgOk (sg : Int32) (b : Nat) : Prop := (sg = nI b ∧ b < 256) ∨ (sg < 0 ∧ b = 0)
theorem sgOk.eq {sg : Int32} {b x : Nat} (h : sgOk sg b) (hx : 0 < x) (hx2 : x < 256) : sg = nI x ↔ b = x := by
  rcases h with ⟨h1, h2⟩ | ⟨h1, h2⟩
  · rw [h1]; exact nI_eq (by omega) (by omega)
  · constructor
    · intro q; rw [q] at h1; exact absurd h1 (nI_pos (by omega))
    · intro q; omega
theorem sg_ok {B : Nat → Nat} {L i : Nat} (hB : ∀ j, j < L → B j < 256) : sgOk (sgF B (tk B L i)) (sbK B L i) := by
  obtain ⟨i1, i2, i3, i4, i5⟩ := tkn_ok B L i
  unfold sgF sbK sbT
  by_cases e0 : (tk B L i).1 = 0
  · rw [if_pos e0, if_neg (by omega)]; exact Or.inr ⟨by decide, rfl⟩
  · rw [if_neg e0]
    by_cases e1 : (tk B L i).1 = 1
    · rw [if_pos e1, if_neg (by omega)]; exact Or.inr ⟨by decide, rfl⟩
    · rw [if_neg e1]
      by_cases e2 : (tk B L i).1 = 2
      · rw [if_pos e2, if_neg (by omega)]; exact Or.inr ⟨by decide, rfl⟩
      · rw [if_neg e2]
        by_cases e4 : (tk B L i).1 = 4
        · rw [if_pos e4, if_neg (by omega)]; exact Or.inr ⟨by decide, rfl⟩
        · rw [if_neg e4, if_pos (by omega)]
          exact Or.inl ⟨rfl, hB _ (by have := i5 e0; omega)⟩
theorem c_joins {k m b : Nat} {h : Hp} {sg : Int32} {Q : Option Value → Hp → Prop} (hs : sgOk sg b) (hm : m < 5) (h1 : opr b = m + 1 → Q (some (.int 1)) h) (h0 : ¬ opr b = m + 1 → Q (some (.int 0)) h) : Go k mX2_joins [.int (nI m), .int sg] h Q := by
  have e124 : sg = 124 ↔ b = 124 := hs.eq (x := 124) (by decide) (by decide)
  have e38 : sg = 38 ↔ b = 38 := hs.eq (x := 38) (by decide) (by decide)
  have e60 : sg = 60 ↔ b = 60 := hs.eq (x := 60) (by decide) (by decide)
  have e61 : sg = 61 ↔ b = 61 := hs.eq (x := 61) (by decide) (by decide)
  have e62 : sg = 62 ↔ b = 62 := hs.eq (x := 62) (by decide) (by decide)
  have e43 : sg = 43 ↔ b = 43 := hs.eq (x := 43) (by decide) (by decide)
  have e45 : sg = 45 ↔ b = 45 := hs.eq (x := 45) (by decide) (by decide)
  have e42 : sg = 42 ↔ b = 42 := hs.eq (x := 42) (by decide) (by decide)
  have e47 : sg = 47 ↔ b = 47 := hs.eq (x := 47) (by decide) (by decide)
  have hop : opr b = (if b = 124 then 1 else if b = 38 then 2 else if b = 60 ∨ b = 61 ∨ b = 62 then 3 else if b = 43 ∨ b = 45 then 4 else if b = 42 ∨ b = 47 then 5 else 0) := rfl
  have y1 : b = 124 → opr b = 1 := fun q => by rw [q]; rfl
  have y2 : b = 38 → opr b = 2 := fun q => by rw [q]; rfl
  have y3 : b = 60 ∨ b = 61 ∨ b = 62 → opr b = 3 := fun q => by rcases q with q | q | q <;> rw [q] <;> rfl
  have y4 : b = 43 ∨ b = 45 → opr b = 4 := fun q => by rcases q with q | q <;> rw [q] <;> rfl
  have y5 : b = 42 ∨ b = 47 → opr b = 5 := fun q => by rcases q with q | q <;> rw [q] <;> rfl
  have n1 : opr b = 1 → b = 124 := fun q => by
    rw [hop] at q
    by_cases z : b = 124
    · exact z
    · rw [if_neg z] at q; repeat' split at q
      all_goals omega
  have n2 : opr b = 2 → b = 38 := fun q => by
    rw [hop] at q
    by_cases z : b = 38
    · exact z
    · rw [if_neg z] at q; repeat' split at q
      all_goals omega
  have n3 : opr b = 3 → b = 60 ∨ b = 61 ∨ b = 62 := fun q => by
    rw [hop] at q
    by_cases z : b = 60 ∨ b = 61 ∨ b = 62
    · exact z
    · rw [if_neg z] at q; repeat' split at q
      all_goals omega
  have n4 : opr b = 4 → b = 43 ∨ b = 45 := fun q => by
    rw [hop] at q
    by_cases z : b = 43 ∨ b = 45
    · exact z
    · rw [if_neg z] at q; repeat' split at q
      all_goals omega
  have n5 : opr b = 5 → b = 42 ∨ b = 47 := fun q => by
    rw [hop] at q
    by_cases z : b = 42 ∨ b = 47
    · exact z
    · rw [if_neg z] at q; repeat' split at q
      all_goals omega
  rcases (show m = 0 ∨ m = 1 ∨ m = 2 ∨ m = 3 ∨ m = 4 by omega) with e | e | e | e | e <;> subst e <;> refine Go_wp 40 rfl ?_
  · refine And.intro (fun _ => ?_) (fun h9 => absurd rfl h9)
    refine And.intro (fun q => ?_) (fun q => ?_)
    · exact And.intro (Or.inl rfl) (h0 (fun z => q (e124.mpr (n1 z))))
    · exact And.intro (Or.inr rfl) (h1 (y1 (e124.mp (Decidable.of_not_not q))))
  · refine And.intro (fun h9 => absurd h9 (by decide)) (fun _ => ?_)
    refine And.intro (fun _ => ?_) (fun h9 => absurd rfl h9)
    refine And.intro (fun q => ?_) (fun q => ?_)
    · exact And.intro (Or.inl rfl) (h0 (fun z => q (e38.mpr (n2 z))))
    · exact And.intro (Or.inr rfl) (h1 (y2 (e38.mp (Decidable.of_not_not q))))
  · refine And.intro (fun h9 => absurd h9 (by decide)) (fun _ => ?_)
    refine And.intro (fun h9 => absurd h9 (by decide)) (fun _ => ?_)
    refine And.intro (fun _ => ?_) (fun h9 => absurd rfl h9)
    refine And.intro (fun q => ?_) (fun q => ?_)
    · exact And.intro (Or.inr rfl) (h1 (y3 (Or.inl (e60.mp q))))
    · refine And.intro (fun q2 => ?_) (fun q2 => ?_)
      · exact And.intro (Or.inr rfl) (h1 (y3 (Or.inr (Or.inl (e61.mp q2)))))
      · refine And.intro (fun q3 => ?_) (fun q3 => ?_)
        · refine And.intro (Or.inl rfl) (h0 (fun z => ?_))
          rcases n3 z with w | w | w
          · exact q (e60.mpr w)
          · exact q2 (e61.mpr w)
          · exact q3 (e62.mpr w)
        · exact And.intro (Or.inr rfl) (h1 (y3 (Or.inr (Or.inr (e62.mp (Decidable.of_not_not q3))))))
  · refine And.intro (fun h9 => absurd h9 (by decide)) (fun _ => ?_)
    refine And.intro (fun h9 => absurd h9 (by decide)) (fun _ => ?_)
    refine And.intro (fun h9 => absurd h9 (by decide)) (fun _ => ?_)
    refine And.intro (fun _ => ?_) (fun h9 => absurd rfl h9)
    refine And.intro (fun q => ?_) (fun q => ?_)
    · exact And.intro (Or.inr rfl) (h1 (y4 (Or.inl (e43.mp q))))
    · refine And.intro (fun q2 => ?_) (fun q2 => ?_)
      · refine And.intro (Or.inl rfl) (h0 (fun z => ?_))
        rcases n4 z with w | w
        · exact q (e43.mpr w)
        · exact q2 (e45.mpr w)
      · exact And.intro (Or.inr rfl) (h1 (y4 (Or.inr (e45.mp (Decidable.of_not_not q2)))))
  · refine And.intro (fun h9 => absurd h9 (by decide)) (fun _ => ?_)
    refine And.intro (fun h9 => absurd h9 (by decide)) (fun _ => ?_)
    refine And.intro (fun h9 => absurd h9 (by decide)) (fun _ => ?_)
    refine And.intro (fun h9 => absurd h9 (by decide)) (fun _ => ?_)
    refine And.intro (fun _ => ?_) (fun h9 => absurd rfl h9)
    refine And.intro (fun q => ?_) (fun q => ?_)
    · exact And.intro (Or.inr rfl) (h1 (y5 (Or.inl (e42.mp q))))
    · refine And.intro (fun q2 => ?_) (fun q2 => ?_)
      · refine And.intro (Or.inl rfl) (h0 (fun z => ?_))
        rcases n5 z with w | w
        · exact q (e42.mpr w)
        · exact q2 (e47.mpr w)
      · exact And.intro (Or.inr rfl) (h1 (y5 (Or.inr (e47.mp (Decidable.of_not_not q2)))))
theorem ob_opc {b : Nat} (h : ¬ opr b = 0) : obF (opc b) = nI b := by
  have hb : b = 124 ∨ b = 38 ∨ b = 60 ∨ b = 61 ∨ b = 62 ∨ b = 43 ∨ b = 45 ∨ b = 42 ∨ b = 47 := by
    unfold opr at h
    repeat' split at h
    all_goals omega
  rcases hb with e | e | e | e | e | e | e | e | e <;> subst e <;> decide
theorem eN_op {b key : Nat} (h : ¬ opr b = 0) : eN key (opc b) = -nI b := by
  unfold eN
  obtain ⟨o1, o2⟩ := opc_ok h
  rw [if_neg (fun q => absurd (Int32.le_trans q o2) (by decide)), ob_opc h]
/-- one step on -/
theorem c_adv {nx sl : Nat} {ln : Nat → Nat} {R : Nat → Nat → Option Nat} {I : Nat → Nat → Int32} {Q : Option Value → Hp → Prop} {k : Nat} (hW : SW nx ln R) {B : Nat → Nat} {L key : Nat} {σ : Sg} (hC : CS B L key I σ) (hQ : ∀ I2, FC I I2 → CS B L key I2 (σ.1 + 1, σ.2) → Q none (nx, sl, ln, R, I2)) : Go (k + 2) mX2_step [.ref 51] (nx, sl, ln, R, I) Q := by
  obtain ⟨c1, c2, c3, c4, c5, c6, c7, c8, c9⟩ := hC
  obtain ⟨i1, i2, i3, i4, i5⟩ := tkn_ok B L σ.1
  refine c_step (w := wk (tk B L σ.1)) hW c1 c2 c6 i2 ?_ (fun I2 hF h5 h7 h6 => ?_)
  · rw [c4]
    have hw : wk (tk B L σ.1) = true ↔ (tk B L σ.1).1 = 1 ∨ (tk B L σ.1).1 = 2 := by unfold wk; exact decide_eq_true_iff
    rw [hw]
    unfold sgF
    by_cases e0 : (tk B L σ.1).1 = 0
    · rw [if_pos e0]; exact ⟨fun q => by omega, fun q => absurd q (by decide)⟩
    · rw [if_neg e0]
      by_cases e1 : (tk B L σ.1).1 = 1
      · rw [if_pos e1]; exact ⟨fun q => Or.inl rfl, fun q => Or.inl e1⟩
      · rw [if_neg e1]
        by_cases e2 : (tk B L σ.1).1 = 2
        · rw [if_pos e2]; exact ⟨fun q => Or.inr rfl, fun q => Or.inr e2⟩
        · rw [if_neg e2]
          by_cases e4 : (tk B L σ.1).1 = 4
          · rw [if_pos e4]; exact ⟨fun q => by omega, fun q => absurd q (by decide)⟩
          · rw [if_neg e4]
            refine ⟨fun q => by omega, fun q => ?_⟩
            have hb := (c1.2 (tk B L σ.1).2.1 (by have := i5 e0; omega)).1
            have hp := nI_pos (n := B (tk B L σ.1).2.1) (by omega)
            rcases q with q | q <;> rw [q] at hp <;> exact absurd (by decide) hp
  · refine hQ I2 (fun o a b => hF.1 o a) ⟨⟨c1.1, fun i hi => by rw [hF.1 50 (by decide)]; exact c1.2 i hi⟩, by rw [hF.2 3 (by decide) (by decide) (by decide)]; exact c2, by rw [hF.2 8 (by decide) (by decide) (by decide)]; exact c3, h5, h7, h6, by rw [hF.2 2 (by decide) (by decide) (by decide)]; exact c7, by rw [hF.2 4 (by decide) (by decide) (by decide)]; exact c8, fun j hj => by rw [hF.1 52 (by decide)]; exact c9 j hj⟩
theorem c_put {nx sl : Nat} {ln : Nat → Nat} {R : Nat → Nat → Option Nat} {I : Nat → Nat → Int32} {Q : Option Value → Hp → Prop} {k : Nat} (hW : SW nx ln R) {B : Nat → Nat} {L key : Nat} {σ : Sg} {v c : Int32} (hC : CS B L key I σ) (hl : σ.2.1.length < 96) (hv : v = eN key c) (hQ : ∀ I2, FC I I2 → CS B L key I2 (σ.1, c :: σ.2.1, σ.2.2) → Q none (nx, sl, ln, R, I2)) : Go k mX2_put [.ref 51, .int v] (nx, sl, ln, R, I) Q := by
  obtain ⟨c1, c2, c3, c4, c5, c6, c7, c8, c9⟩ := hC
  refine Go_wp 40 rfl ?_
  refine And.intro (sw_k hW (Nat.le_of_ble_eq_true rfl) rfl) ?_
  rw [c7]
  refine And.intro (fun h => absurd h (nI_ge (b := 96) hl (by decide))) (fun _ => ?_)
  refine And.intro (sw_k hW (Nat.le_of_ble_eq_true rfl) rfl) ?_
  refine Exists.intro _ (And.intro (sw_r hW (Nat.le_of_ble_eq_true rfl) rfl rfl) ?_)
  refine And.intro (sw_k hW (Nat.le_of_ble_eq_true rfl) rfl) ?_
  rw [c7]
  refine And.intro (sw_n hW (Nat.le_of_ble_eq_true rfl) rfl rfl hl (Nat.le_of_ble_eq_true rfl)) ?_
  rw [ix (show σ.2.1.length < 2147483648 by omega)]
  refine And.intro (sw_k hW (Nat.le_of_ble_eq_true rfl) rfl) ?_
  rw [show up2 I 52 σ.2.1.length v 51 2 = nI σ.2.1.length by rw [up2_ne (by decide)]; exact c7]
  refine And.intro (sw_k hW (Nat.le_of_ble_eq_true rfl) rfl) ?_
  rw [nI_1]
  refine hQ _ (fun o a b => by rw [up2_ne a, up2_ne b]) ⟨⟨c1.1, fun i hi => by rw [up2_ne (by decide), up2_ne (by decide)]; exact c1.2 i hi⟩, ?_, ?_, ?_, ?_, ?_, ?_, ?_, fun j hj => ?_⟩
  · rw [up2_eq, up1_ne (by decide), up2_ne (by decide)]; exact c2
  · rw [up2_eq, up1_ne (by decide), up2_ne (by decide)]; exact c3
  · rw [up2_eq, up1_ne (by decide), up2_ne (by decide)]; exact c4
  · rw [up2_eq, up1_ne (by decide), up2_ne (by decide)]; exact c5
  · rw [up2_eq, up1_ne (by decide), up2_ne (by decide)]; exact c6
  · rw [up2_eq, up1_eq, List.length_cons]
  · rw [up2_eq, up1_ne (by decide), up2_ne (by decide)]; exact c8
  · rw [up2_ne (by decide), up2_eq, List.length_cons]
    rw [List.length_cons] at hj
    by_cases e : j = σ.2.1.length
    · subst e
      rw [up1_eq, hv, show σ.2.1.length + 1 - 1 - σ.2.1.length = 0 by omega]
      rfl
    · rw [up1_ne e, c9 j (by omega), show σ.2.1.length + 1 - 1 - j = (σ.2.1.length - 1 - j) + 1 by omega, List.getD_cons_succ]
theorem l_num {nx sl : Nat} {ln : Nat → Nat} {R : Nat → Nat → Option Nat} {I : Nat → Nat → Int32} {Q : Option Value → Hp → Prop} {k : Nat} (hW : SW nx ln R) {B : Nat → Nat} {L s e : Nat} (hB : TB I B L) (h6 : I 51 6 = nI e) (he : e ≤ L) (hd : ∀ j, s ≤ j → j < e → isD (B j) = true) : ∀ (r i : Nat) (xn xi : Int32), xn = nI (nv B s (i - s)) → xi = nI i → s ≤ i → i + r = e → Q (some (.int (nI (nv B s (e - s))))) (nx, sl, ln, R, I) → GoF (k + 1) mX2_numberRead 7 [some (.ref 51), some (.int xn), some (.int xi)] [] (nx, sl, ln, R, I) Q := by
  have hL9 := hB.1
  intro r
  induction r with
  | zero =>
    intro i xn xi hn hi hsi hir hQ
    subst hi
    subst hn
    have hie : i = e := by omega
    subst hie
    refine GoF_wp1 40 ?_
    refine And.intro (sw_k hW (Nat.le_of_ble_eq_true rfl) rfl) ?_
    rw [h6]
    exact And.intro (fun _ => hQ) (fun h => absurd (Int32.le_refl _) h)
  | succ r ih =>
    intro i xn xi hn hi hsi hir hQ
    subst hi
    subst hn
    refine GoF_wp1 40 ?_
    refine And.intro (sw_k hW (Nat.le_of_ble_eq_true rfl) rfl) ?_
    rw [h6]
    refine And.intro (fun h => absurd h (nI_ge (show i < e by omega) (by omega))) (fun _ => ?_)
    refine And.intro (sw_k hW (Nat.le_of_ble_eq_true rfl) rfl) ?_
    refine c_byteAt hW hB (by omega) ?_
    have hdd : 48 ≤ B i ∧ B i ≤ 57 := by simpa only [isD, Bool.and_eq_true, Nat.ble_eq] using hd i hsi (by omega)
    refine ih (i + 1) _ _ ?_ (nI_1 i) (by omega) (by omega) hQ
    rw [Int32.mul_comm, nv_step hdd.1, show i + 1 - s = (i - s) + 1 by omega]
    show _ = nI (10 * nv B s (i - s) + (B (s + (i - s)) - 48))
    rw [show s + (i - s) = i by omega]
