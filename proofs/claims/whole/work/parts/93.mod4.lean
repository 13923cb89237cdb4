/-! The model's reader: takesE. -/
/-- how it ends: at which word; if it is a text, with which code -/
def TE (B : Nat → Nat) (L key : Nat) (I : Nat → Nat → Int32) (ρ : Bool × Nat × List Int32 × Nat) : Prop := I 85 11 = nI (tk B L ρ.2.1).2.1 ∧ I 85 15 = nI key ∧ (ρ.1 = true → I 85 19 = nI ρ.2.2.1.length ∧ I 85 20 = nI ρ.2.2.2 ∧ SK (I 95) ρ.2.2.1)
def IV (B : Nat → Nat) (L key : Nat) (I : Nat → Nat → Int32) (i : Nat) (wn : Bool) (W : List Nat) (C : List Int32) (a : Nat) : Prop := MS B L key I i W C a ∧ WO W ∧ (wn = false → sgO 5 W) ∧ TT (I 97) W ∧ W.length + C.length < i ∧ npn W ≤ 8 ∧ a ≤ C.length ∧ i ≤ 96
theorem FP.p96 {I : Nat → Nat → Int32} {n : Nat} {v w : Int32} : FP I (up2 (up2 I 96 n v) 85 22 w) := ⟨fun o a b c d => by rw [up2_ne a, up2_ne c], fun q hq => by rw [up2_eq, up1_ne (by omega), up2_ne (by decide)]⟩
theorem FP.p97 {I : Nat → Nat → Int32} {n : Nat} {v : Int32} : FP I (up2 I 97 n v) := ⟨fun o a b c d => by rw [up2_ne d], fun q hq => by rw [up2_ne (by decide)]⟩
theorem sb_k3 {B : Nat → Nat} {L i x : Nat} (h : sbK B L i = x) (hx : ¬ x = 0) : (tk B L i).1 = 3 ∧ B (tk B L i).2.1 = x := by
  unfold sbK sbT at h
  by_cases e : (tk B L i).1 = 3
  · rw [if_pos e] at h; exact ⟨e, h⟩
  · rw [if_neg e] at h; omega
theorem nnt_le : ∀ W : List Nat, nnt W ≤ W.length := by
  intro W
  induction W with
  | nil => exact Nat.le_refl _
  | cons x W ih => rw [nnt, List.length_cons]; split <;> omega
theorem opc_0 {b : Nat} : opc b = 0 ↔ opr b = 0 := by
  constructor
  · intro h
    by_cases e : opr b = 0
    · exact e
    · have := (opc_ok e).2
      rw [h] at this
      exact absurd this (by decide)
  · intro h
    unfold opr at h
    unfold opc
    by_cases a1 : b = 124
    · rw [if_pos a1] at h; omega
    rw [if_neg a1] at h ⊢
    by_cases a2 : b = 38
    · rw [if_pos a2] at h; omega
    rw [if_neg a2] at h ⊢
    by_cases a3 : b = 60 ∨ b = 61 ∨ b = 62
    · rw [if_pos a3] at h; omega
    rw [if_neg a3] at h
    by_cases a4 : b = 43 ∨ b = 45
    · rw [if_pos a4] at h; omega
    rw [if_neg a4] at h
    by_cases a5 : b = 42 ∨ b = 47
    · rw [if_pos a5] at h; omega
    rw [if_neg (by omega), if_neg (by omega), if_neg (by omega), if_neg (by omega), if_neg (by omega), if_neg (by omega), if_neg (by omega)]
theorem ms_pop {B : Nat → Nat} {L key i a x : Nat} {W : List Nat} {C : List Int32} {I : Nat → Nat → Int32} (h : MS B L key I i (x :: W) C a) : MS B L key (up2 I 85 22 (nI W.length)) i W C a := by
  obtain ⟨s1, s2, s3, s4, s5, s6, s7, s8⟩ := h
  refine ⟨s1.keep2 (by rw [up2_eq, up1_ne (by decide)]) (by rw [up2_ne (by decide)]), s2.keep (fun q h1 h2 => by rw [up2_eq, up1_ne (by omega)]), ?_, ?_, ?_, ?_, ?_, ?_⟩
  · rw [up2_eq, up1_ne (by decide)]; exact s3
  · rw [up2_eq, up1_ne (by decide)]; exact s4
  · rw [up2_eq, up1_ne (by decide)]; exact s5
  · rw [up2_eq, up1_eq]
  · rw [up2_ne (by decide)]; exact s7
  · rw [up2_ne (by decide)]; exact (SK.down (c := wc x) (C := W.map wc) s8).2
theorem FP.p22 {I : Nat → Nat → Int32} {v : Int32} : FP I (up2 I 85 22 v) := ⟨fun o a b c d => by rw [up2_ne a], fun q hq => by rw [up2_eq, up1_ne (by omega)]⟩
theorem l_takes {nx sl : Nat} {ln : Nat → Nat} {R : Nat → Nat → Option Nat} {k : Nat} (hW : SW nx ln R) {B : Nat → Nat} {L key : Nat} (hk : key ≤ 2) {I : Nat → Nat → Int32} {Q : Option Value → Hp → Prop} : ∀ (f i : Nat) (wn : Bool) (W : List Nat) (C : List Int32) (a : Nat) (xp xt : Int32) (x4 : Option Value) (I1 : Nat → Nat → Int32), xp = nI (npn W) → xt = nI (nnt W) → 98 ≤ f + i → IV B L key I1 i wn W C a → FP I I1 → (∀ I2, FP I I2 → TE B L key I2 (sy (odK B L key) (sbK B L) (enK B L) f i wn W C a) → Q (some (.int (b01 (sy (odK B L key) (sbK B L) (enK B L) f i wn W C a).1))) (nx, sl, ln, R, I2)) → GoF (k + 4) mX8_takesE 28 [some (.ref 85), some (.int xp), some (.int xt), some (.int (b01 wn)), x4] [] (nx, sl, ln, R, I1) Q := by
  intro f
  induction f with
  | zero =>
    intro i wn W C a xp xt x4 I1 _ _ hfi hV
    obtain ⟨v1, v2, v3, v4, v5, v6, v7, v8⟩ := hV
    omega
  | succ f ih =>
    intro i wn W C a xp xt x4 I1 hxp hxt hfi hV hF hQ
    subst hxp
    subst hxt
    obtain ⟨hS, hWO, hsg, hTT, hlen, hpn, hac, hi96⟩ := hV
    obtain ⟨s1, s2, s3, s4, s5, s6, s7, s8⟩ := id hS
    obtain ⟨p1, p2, p3, p4, p5, p6, p7⟩ := id s2
    obtain ⟨i1, i2, i3, i4, i5⟩ := tkn_ok B L i
    have hL9 := s1.1
    have hwo := hWO.all
    have hnW := nnt_le W
    cases wn with
    | true =>
      /- something is wanted -/
      have part : ¬ (sbK B L i = 33 ∧ nnt W < 8) → ¬ (sbK B L i = 40 ∧ npn W < 8) → ∀ nn, wp (nn + 30) (k + 4) mX8_takesE 158 [some (.ref 85), some (.int (nI (npn W))), some (.int (nI (nnt W))), some (.int (b01 true)), x4] [] (nx, sl, ln, R, I1) Q := by
        intro n33 n40 nn
        refine And.intro (sw_k hW (Nat.le_of_ble_eq_true rfl) rfl) ?_
        refine s_part hW hk hS hwo (by omega) (by omega) (fun c hod I2 hS2 hF2 h97 => ?_) (fun hod => ?_)
        · rw [sy, if_neg n33, if_neg n40, hod] at hQ
          dsimp only at hQ
          have hi := od_lt (key := key) hL9 i c hod
          obtain ⟨a1, a2, a3, a4⟩ := stl6 (f := I1 97) W (c :: C) hWO
          have hl2 := stl_len (m := 6) W (c :: C)
          have hl3 := stl_mono (m := 6) W (c :: C)
          rw [List.length_cons] at hl2 hl3
          have hW2 := stl_wo (m := 6) W (c :: C) hWO
          refine And.intro (fun h9 => absurd h9 (by decide)) (fun _ => ?_)
          refine And.intro (sw_k hW (Nat.le_of_ble_eq_true rfl) rfl) ?_
          refine s_nots hW hS2 hW2.all (by omega) ?_
          refine ih (i + 1) false _ _ (a + 1) _ _ _ I2 (by rw [a1]) rfl (by omega) ⟨hS2, hW2, fun _ => a4, ⟨by rw [h97, a1, a2]; exact hTT.1, by rw [h97]; exact a3 hTT.2⟩, by omega, by omega, by omega, by omega⟩ (hF.tr hF2) hQ
        · rw [sy, if_neg n33, if_neg n40, hod] at hQ
          dsimp only at hQ
          refine And.intro (fun _ => ?_) (fun h9 => absurd rfl h9)
          exact And.intro (Or.inl rfl) (hQ I1 hF ⟨p2, s3, fun q => absurd q (by dsimp only; decide)⟩)
      refine GoF_wp1 90 ?_
      refine And.intro (fun _ => ?_) (fun h => absurd (by decide) h)
      refine And.intro (fun h9 => absurd h9 (by decide)) (fun _ => ?_)
      refine And.intro (sw_k hW (Nat.le_of_ble_eq_true rfl) rfl) ?_
      rw [p3]
      by_cases e3 : (tk B L i).1 = 3
      · have hi := tk_lt (B := B) (i := i) hL9 (by omega)
        have hb := (s1.2.2 (tk B L i).2.1 (by have := i5 (by omega); omega)).1
        have hsb : sbK B L i = B (tk B L i).2.1 := by unfold sbK sbT; rw [if_pos e3]
        obtain ⟨b, hbb⟩ : ∃ b, sbK B L i = b := ⟨_, rfl⟩
        have p4 : I1 85 13 = nI b := by rw [← hbb, hsb]; exact p4 (Or.inr e3)
        rw [← hsb, hbb] at hb
        have ec : ∀ x, x < 256 → (nI b = nI x ↔ b = x) := fun x hx => nI_eq (by omega) (by omega)
        have e33 : nI b = 33 ↔ b = 33 := ec 33 (by decide)
        have e40 : nI b = 40 ↔ b = 40 := ec 40 (by decide)
        rw [hbb] at part
        have open_ : ∀ nn, ¬ (b = 33 ∧ nnt W < 8) → wp (nn + 60) (k + 4) mX8_takesE 97 [some (.ref 85), some (.int (nI (npn W))), some (.int (nI (nnt W))), some (.int (b01 true)), x4] [] (nx, sl, ln, R, I1) Q := by
          intro nn n33
          refine And.intro (sw_k hW (Nat.le_of_ble_eq_true rfl) rfl) ?_
          rw [p3]
          refine And.intro (fun h => absurd (by rw [e3]; rfl) h) (fun _ => ?_)
          refine And.intro (sw_k hW (Nat.le_of_ble_eq_true rfl) rfl) ?_
          rw [p4]
          by_cases h40 : b = 40
          · refine And.intro (fun h => absurd (e40.mpr h40) h) (fun _ => ?_)
            by_cases hp8 : npn W < 8
            · refine And.intro (fun h => absurd h (nI_ge (b := 8) hp8 (by decide))) (fun _ => ?_)
              rw [sy, hbb, if_neg n33, if_pos ⟨h40, hp8⟩] at hQ
              refine And.intro (sw_k hW (Nat.le_of_ble_eq_true rfl) rfl) ?_
              refine Exists.intro _ (And.intro (sw_r hW (Nat.le_of_ble_eq_true rfl) rfl rfl) ?_)
              refine And.intro (sw_k hW (Nat.le_of_ble_eq_true rfl) rfl) ?_
              rw [s6]
              refine And.intro (sw_n hW (Nat.le_of_ble_eq_true rfl) rfl rfl (show W.length < 96 by omega) (Nat.le_of_ble_eq_true rfl)) ?_
              rw [ix (show W.length < 2147483648 by omega)]
              refine And.intro (sw_k hW (Nat.le_of_ble_eq_true rfl) rfl) ?_
              rw [show up2 I1 96 W.length (-11) 85 22 = nI W.length by rw [up2_ne (by decide)]; exact s6]
              refine And.intro (sw_k hW (Nat.le_of_ble_eq_true rfl) rfl) ?_
              rw [nI_1]
              refine And.intro (sw_k hW (Nat.le_of_ble_eq_true rfl) rfl) ?_
              refine Exists.intro _ (And.intro (sw_r hW (Nat.le_of_ble_eq_true rfl) rfl rfl) ?_)
              have e1 : nI (npn W) + 1 = nI (npn W + 1) := nI_1 _
              refine And.intro (by rw [e1]; exact sw_n hW (Nat.le_of_ble_eq_true rfl) rfl rfl (show npn W + 1 < 10 by omega) (Nat.le_of_ble_eq_true rfl)) ?_
              rw [e1, ix (show npn W + 1 < 2147483648 by omega), show vp_nar .boolean (0 : Int32) = 0 from rfl]
              have hS2 : MS B L key (up2 (up2 (up2 I1 96 W.length (-11)) 85 22 (nI (W.length + 1))) 97 (npn W + 1) 0) i (40 :: W) C a := ms_97 (ms_push (x := 40) hS)
              refine And.intro (sw_k hW (Nat.le_of_ble_eq_true rfl) rfl) ?_
              refine s_adv hW hS2 (Or.inr (Or.inr e3)) (fun I3 hS3 hF3 h97 => ?_)
              refine And.intro (sw_k hW (Nat.le_of_ble_eq_true rfl) rfl) ?_
              have hWO2 : WO (40 :: W) := ⟨Or.inl rfl, hWO, fun q => absurd rfl q⟩
              refine s_nots hW hS3 hWO2.all (by rw [List.length_cons]; omega) ?_
              have en : npn (40 :: W) = npn W + 1 := by rw [npn, if_pos rfl]; omega
              refine ih (i + 1) true (40 :: W) C a _ _ _ I3 (by rw [en]) rfl (by omega) ⟨hS3, hWO2, fun q => (by cases q), ⟨?_, ?_⟩, by rw [List.length_cons]; omega, by omega, hac, by omega⟩ ((hF.tr (FP.p96.tr FP.p97)).tr hF3) hQ
              · rw [h97, en, up2_eq, up1_eq]; rfl
              · rw [h97, up2_eq, up2_ne (by decide), up2_ne (by decide)]
                refine ⟨fun _ => ?_, hTT.2.up (by omega)⟩
                rw [up1_ne (by omega)]; exact hTT.1
            · refine And.intro (fun _ => ?_) (fun h => absurd (nI_le (a := 8) (by omega) (by omega)) h)
              exact part n33 (fun q => hp8 q.2) _
          · refine And.intro (fun _ => ?_) (fun h => absurd (fun q => h40 (e40.mp q)) h)
            exact part n33 (fun q => h40 q.1) _
        refine And.intro (fun h => absurd (by rw [e3]; rfl) h) (fun _ => ?_)
        refine And.intro (sw_k hW (Nat.le_of_ble_eq_true rfl) rfl) ?_
        rw [p4]
        by_cases h33 : b = 33
        · refine And.intro (fun h => absurd (e33.mpr h33) h) (fun _ => ?_)
          by_cases hn8 : nnt W < 8
          · refine And.intro (fun h => absurd h (nI_ge (b := 8) hn8 (by decide))) (fun _ => ?_)
            rw [sy, hbb, if_pos ⟨h33, hn8⟩] at hQ
            refine And.intro (sw_k hW (Nat.le_of_ble_eq_true rfl) rfl) ?_
            refine Exists.intro _ (And.intro (sw_r hW (Nat.le_of_ble_eq_true rfl) rfl rfl) ?_)
            refine And.intro (sw_k hW (Nat.le_of_ble_eq_true rfl) rfl) ?_
            rw [s6]
            refine And.intro (sw_n hW (Nat.le_of_ble_eq_true rfl) rfl rfl (show W.length < 96 by omega) (Nat.le_of_ble_eq_true rfl)) ?_
            rw [ix (show W.length < 2147483648 by omega)]
            refine And.intro (sw_k hW (Nat.le_of_ble_eq_true rfl) rfl) ?_
            rw [show up2 I1 96 W.length (-10) 85 22 = nI W.length by rw [up2_ne (by decide)]; exact s6]
            refine And.intro (sw_k hW (Nat.le_of_ble_eq_true rfl) rfl) ?_
            rw [nI_1]
            have hS2 : MS B L key (up2 (up2 I1 96 W.length (-10)) 85 22 (nI (W.length + 1))) i (33 :: W) C a := ms_push (x := 33) hS
            refine And.intro (sw_k hW (Nat.le_of_ble_eq_true rfl) rfl) ?_
            refine s_adv hW hS2 (Or.inr (Or.inr e3)) (fun I3 hS3 hF3 h97 => ?_)
            refine And.intro (sw_k hW (Nat.le_of_ble_eq_true rfl) rfl) ?_
            have hWO2 : WO (33 :: W) := ⟨Or.inr (Or.inl rfl), hWO, fun q => absurd rfl q⟩
            refine s_nots hW hS3 hWO2.all (by rw [List.length_cons]; omega) ?_
            have en : npn (33 :: W) = npn W := by rw [npn, if_neg (by decide), Nat.zero_add]
            refine ih (i + 1) true (33 :: W) C a _ _ _ I3 (by rw [en]) rfl (by omega) ⟨hS3, hWO2, fun q => (by cases q), ⟨?_, ?_⟩, by rw [List.length_cons]; omega, by omega, hac, by omega⟩ ((hF.tr FP.p96).tr hF3) hQ
            · rw [h97, en, up2_ne (by decide), up2_ne (by decide), tst, if_neg (by decide), if_neg (by decide)]; exact hTT.1
            · rw [h97, up2_ne (by decide), up2_ne (by decide)]
              exact ⟨fun q => absurd q (by decide), hTT.2⟩
          · refine And.intro (fun _ => ?_) (fun h => absurd (nI_le (a := 8) (by omega) (by omega)) h)
            exact open_ _ (fun q => hn8 q.2)
        · refine And.intro (fun _ => ?_) (fun h => absurd (fun q => h33 (e33.mp q)) h)
          exact open_ _ (fun q => h33 q.1)
      · have hsb : sbK B L i = 0 := by unfold sbK sbT; rw [if_neg e3]
        refine And.intro (fun _ => ?_) (fun h => absurd (fun q => absurd ((nI_eq (b := 3) (by omega) (by decide)).mp q) e3) h)
        refine And.intro (sw_k hW (Nat.le_of_ble_eq_true rfl) rfl) ?_
        rw [p3]
        refine And.intro (fun _ => ?_) (fun h => absurd (fun q => absurd ((nI_eq (b := 3) (by omega) (by decide)).mp q) e3) h)
        exact part (fun q => by omega) (fun q => by omega) _
    | false =>
      have hsg := hsg rfl
      refine GoF_wp1 120 ?_
      refine And.intro (fun h9 => absurd rfl h9) (fun _ => ?_)
      refine And.intro (sw_k hW (Nat.le_of_ble_eq_true rfl) rfl) ?_
      rw [p3]
      by_cases e0 : (tk B L i).1 = 0
      · have hen : enK B L i = true := decide_eq_true e0
        rw [sy, if_pos hen] at hQ
        refine And.intro (fun _ => ?_) (fun h => absurd (by rw [e0]; rfl) h)
        refine And.intro (sw_k hW (Nat.le_of_ble_eq_true rfl) rfl) ?_
        refine s_settle (m := 0) hW hS hwo (by omega) (by omega) (fun I2 hS2 hF2 h97 => ?_)
        have hte : TE B L key I2 (decide (npn W = 0), i, (stl 0 W C).2, a) := ⟨hS2.2.1.2.1, hS2.2.2.1, fun _ => ⟨hS2.2.2.2.1, hS2.2.2.2.2.1, hS2.2.2.2.2.2.2.1⟩⟩
        have hq2 := hQ I2 (hF.tr hF2) hte
        by_cases hp0 : npn W = 0
        · rw [decide_eq_true hp0] at hq2
          refine And.intro (fun h => absurd (by rw [hp0]; rfl) h) (fun _ => ?_)
          exact And.intro (Or.inr rfl) hq2
        · rw [decide_eq_false hp0] at hq2
          refine And.intro (fun _ => ?_) (fun h => absurd (fun q => absurd ((nI_eq (b := 0) (by omega) (by decide)).mp q) hp0) h)
          exact And.intro (Or.inl rfl) hq2
      · have hen : enK B L i = false := decide_eq_false e0
        have hi := tk_lt (B := B) (i := i) hL9 e0
        refine And.intro (fun h => absurd ((nI_eq (b := 0) (by omega) (by decide)).mp h) e0) (fun _ => ?_)
        refine And.intro (fun _ => ?_) (fun h9 => absurd rfl h9)
        obtain ⟨b, hbb⟩ : ∃ b, sbK B L i = b := ⟨_, rfl⟩
        have opb : ¬ (b = 41 ∧ 0 < npn W) → ∀ nn, wp (nn + 95) (k + 4) mX8_takesE 237 [some (.ref 85), some (.int (nI (npn W))), some (.int (nI (nnt W))), some (.int (b01 false)), x4] [] (nx, sl, ln, R, I1) Q := by
          intro n41 nn
          rw [sy, if_neg (by rw [hen]; decide), hbb, if_neg n41] at hQ
          have bad : opr b = 0 ∨ (opr b = 3 ∧ tst W = true) → Q (some (.int 0)) (nx, sl, ln, R, I1) := fun h => by
            rw [if_pos h] at hQ
            exact hQ I1 hF ⟨p2, s3, fun q => absurd q (by dsimp only; decide)⟩
          refine And.intro (sw_k hW (Nat.le_of_ble_eq_true rfl) rfl) ?_
          refine s_sign hW hS ?_
          rw [hbb]
          refine And.intro (fun h0 => ?_) (fun h0 => ?_)
          · exact And.intro (Or.inl rfl) (bad (Or.inl (opc_0.mp h0)))
          · have hne : ¬ opr b = 0 := fun q => h0 (opc_0.mpr q)
            have hok : wOk b := Or.inr (Or.inr hne)
            have h40 := (op_ne hne).2.1
            have hrk := rk_op hne
            have hr5 := opr_le b
            obtain ⟨e3, hB3⟩ := sb_k3 hbb (op_ne hne).2.2.2
            rw [← wc_op hne]
            have st_ : ¬ (opr b = 3 ∧ tst W = true) → ∀ (nn : Nat) (v : Int32), v = b01 (tst (b :: (stl (opr b) W C).1)) → wp (nn + 40) (k + 4) mX8_takesE 305 [some (.ref 85), some (.int (nI (npn W))), some (.int (nI (nnt W))), some (.int (b01 false)), some (.int (wc b))] [.int v, .int (nI (npn W)), .ref 97] (nx, sl, ln, R, I1) Q := by
              intro ht3 nn v hv
              rw [if_neg (fun q => q.elim hne ht3)] at hQ
              obtain ⟨a1, a2, a3, a4, a5⟩ := stlr (f := I1 97) (r := opr b) (by omega) hr5 W C hWO hsg
              have hl2 := stl_len (m := opr b) W C
              have hl3 := stl_mono (m := opr b) W C
              have hW2 := stl_wo (m := opr b) W C hWO
              refine And.intro (sw_n hW (Nat.le_of_ble_eq_true rfl) rfl rfl (show npn W < 10 by omega) (Nat.le_of_ble_eq_true rfl)) ?_
              rw [ix (show npn W < 2147483648 by omega), hv, nar_b]
              refine s_rank hok h40 ?_
              refine And.intro (sw_k hW (Nat.le_of_ble_eq_true rfl) rfl) ?_
              refine s_settle (m := rk b) hW (ms_97 hS) hwo (by omega) (by omega) (fun I3 hS3 hF3 h97 => ?_)
              rw [hrk] at hS3
              obtain ⟨W1, hW1⟩ : ∃ W1, (stl (opr b) W C).1 = W1 := ⟨_, rfl⟩
              obtain ⟨C1, hC1⟩ : ∃ C1, (stl (opr b) W C).2 = C1 := ⟨_, rfl⟩
              rw [hW1] at a1 a2 a3 a4 a5 hl2 hW2 hS3 hQ hv h97
              rw [hC1] at hl2 hl3 hS3 hQ
              refine And.intro (sw_k hW (Nat.le_of_ble_eq_true rfl) rfl) ?_
              refine Exists.intro _ (And.intro (sw_r hW (Nat.le_of_ble_eq_true rfl) rfl rfl) ?_)
              refine And.intro (sw_k hW (Nat.le_of_ble_eq_true rfl) rfl) ?_
              rw [hS3.2.2.2.2.2.1]
              refine And.intro (sw_n hW (Nat.le_of_ble_eq_true rfl) rfl rfl (show W1.length < 96 by omega) (Nat.le_of_ble_eq_true rfl)) ?_
              rw [ix (show W1.length < 2147483648 by omega)]
              refine And.intro (sw_k hW (Nat.le_of_ble_eq_true rfl) rfl) ?_
              rw [show up2 I3 96 W1.length (wc b) 85 22 = nI W1.length by rw [up2_ne (by decide)]; exact hS3.2.2.2.2.2.1]
              refine And.intro (sw_k hW (Nat.le_of_ble_eq_true rfl) rfl) ?_
              rw [nI_1]
              refine And.intro (sw_k hW (Nat.le_of_ble_eq_true rfl) rfl) ?_
              refine s_adv hW (ms_push (x := b) hS3) (Or.inr (Or.inr e3)) (fun I4 hS4 hF4 h974 => ?_)
              have hWO2 : WO (b :: W1) := ⟨hok, hW2, fun _ => by rw [hrk]; exact a5⟩
              obtain ⟨n1, n2⟩ := npn_op hne W1
              refine ih (i + 1) true (b :: W1) C1 a _ _ _ I4 (by rw [n1, a1]) (by rw [n2, a2]) (by omega) ⟨hS4, hWO2, fun q => (by cases q), ⟨?_, ?_⟩, by rw [List.length_cons]; omega, by omega, by omega, by omega⟩ ((((hF.tr FP.p97).tr hF3).tr FP.p96).tr hF4) hQ
              · rw [h974, up2_ne (by decide), up2_ne (by decide), h97, n1, a1, up2_eq, up1_eq]
              · rw [h974, up2_ne (by decide), up2_ne (by decide), h97, up2_eq]
                exact ⟨fun q => absurd q h40, (a4 hTT.2).up (by omega)⟩
            have set_ : ¬ (opr b = 3 ∧ tst W = true) → ∀ nn, wp (nn + 60) (k + 4) mX8_takesE 268 [some (.ref 85), some (.int (nI (npn W))), some (.int (nI (nnt W))), some (.int (b01 false)), some (.int (wc b))] [] (nx, sl, ln, R, I1) Q := by
              intro ht3 nn
              obtain ⟨a1, a2, a3, a4, a5⟩ := stlr (f := I1 97) (r := opr b) (by omega) hr5 W C hWO hsg
              have htst : tst (b :: (stl (opr b) W C).1) = if opr b = 3 then true else tst (stl (opr b) W C).1 := by rw [tst, if_neg h40, hrk]
              refine And.intro (sw_k hW (Nat.le_of_ble_eq_true rfl) rfl) ?_
              refine Exists.intro _ (And.intro (sw_r hW (Nat.le_of_ble_eq_true rfl) rfl rfl) ?_)
              refine s_rank hok h40 ?_
              rw [hrk]
              by_cases h3 : opr b = 3
              · refine And.intro (fun _ => ?_) (fun h => absurd (by rw [h3]; rfl) h)
                refine wp_ic rfl ?_
                refine wp_goto rfl ?_
                refine st_ ht3 _ _ ?_
                rw [htst, if_pos h3]
                rfl
              · refine And.intro (fun h => absurd ((nI_eq (b := 3) (by omega) (by decide)).mp h) h3) (fun _ => ?_)
                refine s_rank hok h40 ?_
                rw [hrk]
                by_cases hlt : opr b ≤ 3
                · refine And.intro (fun _ => ?_) (fun h => absurd (nI_le (b := 3) hlt (by decide)) h)
                  refine wp_ic rfl ?_
                  refine st_ ht3 _ _ ?_
                  rw [htst, if_neg h3, tst_no (m := opr b - 1) (by omega) _ a5]
                  rfl
                · refine And.intro (fun h => absurd h (nI_ge (a := 3) (by omega) (by omega))) (fun _ => ?_)
                  refine And.intro (sw_k hW (Nat.le_of_ble_eq_true rfl) rfl) ?_
                  refine Exists.intro _ (And.intro (sw_r hW (Nat.le_of_ble_eq_true rfl) rfl rfl) ?_)
                  refine And.intro (sw_n hW (Nat.le_of_ble_eq_true rfl) rfl rfl (show npn W < 10 by omega) (Nat.le_of_ble_eq_true rfl)) ?_
                  rw [ix (show npn W < 2147483648 by omega), hTT.1]
                  cases htw : tst W with
                  | true =>
                    refine And.intro (fun h9 => absurd h9 (by decide)) (fun _ => ?_)
                    refine wp_ic rfl ?_
                    refine wp_goto rfl ?_
                    refine st_ ht3 _ _ ?_
                    rw [htst, if_neg h3, a3 (by omega), htw]
                    rfl
                  | false =>
                    refine And.intro (fun _ => ?_) (fun h9 => absurd rfl h9)
                    refine wp_ic rfl ?_
                    refine st_ ht3 _ _ ?_
                    rw [htst, if_neg h3, a3 (by omega), htw]
                    rfl
            refine s_rank hok h40 ?_
            rw [hrk]
            by_cases h3 : opr b = 3
            · refine And.intro (fun h => absurd (by rw [h3]; rfl) h) (fun _ => ?_)
              refine And.intro (sw_k hW (Nat.le_of_ble_eq_true rfl) rfl) ?_
              refine Exists.intro _ (And.intro (sw_r hW (Nat.le_of_ble_eq_true rfl) rfl rfl) ?_)
              refine And.intro (sw_n hW (Nat.le_of_ble_eq_true rfl) rfl rfl (show npn W < 10 by omega) (Nat.le_of_ble_eq_true rfl)) ?_
              rw [ix (show npn W < 2147483648 by omega), hTT.1]
              cases htw : tst W with
              | true =>
                refine And.intro (fun h9 => absurd h9 (by decide)) (fun _ => ?_)
                exact And.intro (Or.inl rfl) (bad (Or.inr ⟨h3, htw⟩))
              | false =>
                refine And.intro (fun _ => ?_) (fun h9 => absurd rfl h9)
                exact set_ (fun q => by rw [htw] at q; exact absurd q.2 (by decide)) _
            · refine And.intro (fun _ => ?_) (fun h => absurd (fun q => absurd ((nI_eq (b := 3) (by omega) (by decide)).mp q) h3) h)
              exact set_ (fun q => h3 q.1) _
        refine And.intro (sw_k hW (Nat.le_of_ble_eq_true rfl) rfl) ?_
        rw [p3]
        by_cases e3 : (tk B L i).1 = 3
        · refine And.intro (fun h => absurd (by rw [e3]; rfl) h) (fun _ => ?_)
          have hb := (s1.2.2 (tk B L i).2.1 (by have := i5 (by omega); omega)).1
          have hsb : sbK B L i = B (tk B L i).2.1 := by unfold sbK sbT; rw [if_pos e3]
          have p4 : I1 85 13 = nI b := by rw [← hbb, hsb]; exact p4 (Or.inr e3)
          rw [← hsb, hbb] at hb
          have e41 : nI b = 41 ↔ b = 41 := nI_eq (b := 41) (by omega) (by decide)
          refine And.intro (sw_k hW (Nat.le_of_ble_eq_true rfl) rfl) ?_
          rw [p4]
          by_cases h41 : b = 41
          · refine And.intro (fun h => absurd (e41.mpr h41) h) (fun _ => ?_)
            by_cases hp0 : npn W = 0
            · refine And.intro (fun _ => ?_) (fun h => absurd (by rw [hp0]; decide) h)
              exact opb (fun q => by omega) _
            · refine And.intro (fun h => absurd h (nI_nle (by omega) (by omega))) (fun _ => ?_)
              rw [sy, if_neg (by rw [hen]; decide), hbb, if_pos ⟨h41, by omega⟩] at hQ
              obtain ⟨W2, w1, w2, w3, w4⟩ := (stl0 (f := I1 97) W C hWO hsg hTT.2).2 (by omega)
              obtain ⟨C2, hC2⟩ : ∃ C2, (stl 0 W C).2 = C2 := ⟨_, rfl⟩
              have hl2 := stl_len (m := 0) W C
              have hl3 := stl_mono (m := 0) W C
              rw [w1, hC2, List.tail_cons] at hQ
              rw [w1, hC2, List.length_cons] at hl2
              rw [hC2] at hl3
              refine And.intro (sw_k hW (Nat.le_of_ble_eq_true rfl) rfl) ?_
              refine s_settle (m := 0) hW hS hwo (by omega) (by omega) (fun I2 hS2 hF2 h97 => ?_)
              rw [w1, hC2] at hS2
              refine And.intro (sw_k hW (Nat.le_of_ble_eq_true rfl) rfl) ?_
              rw [hS2.2.2.2.2.2.1, List.length_cons]
              refine And.intro (sw_k hW (Nat.le_of_ble_eq_true rfl) rfl) ?_
              rw [show nI (W2.length + 1) - 1 = nI W2.length from nI_pred _]
              have hS3 := ms_pop hS2
              refine And.intro (sw_k hW (Nat.le_of_ble_eq_true rfl) rfl) ?_
              refine s_settle (m := 6) hW hS3 w3.all (by omega) (by omega) (fun I4 hS4 hF4 h974 => ?_)
              obtain ⟨a1, a2, a3, a4⟩ := stl6 (f := I1 97) W2 C2 w3
              have hl4 := stl_len (m := 6) W2 C2
              have hl5 := stl_mono (m := 6) W2 C2
              have hW4 := stl_wo (m := 6) W2 C2 w3
              refine And.intro (sw_k hW (Nat.le_of_ble_eq_true rfl) rfl) ?_
              refine s_nots hW hS4 hW4.all (by omega) ?_
              refine And.intro (sw_k hW (Nat.le_of_ble_eq_true rfl) rfl) ?_
              refine s_adv hW hS4 (Or.inr (Or.inr e3)) (fun I5 hS5 hF5 h975 => ?_)
              have e97 : I5 97 = I1 97 := by rw [h975, h974, up2_ne (by decide), h97]
              refine ih (i + 1) false _ _ a _ _ _ I5 ?_ rfl (by omega) ⟨hS5, hW4, fun _ => a4, ⟨by rw [e97, a1, a2]; exact w4.1, by rw [e97]; exact a3 w4.2⟩, by omega, by omega, by omega, by omega⟩ ((((hF.tr hF2).tr FP.p22).tr hF4).tr hF5) hQ
              rw [a1, w2]
              exact nI_m1 _
          · refine And.intro (fun _ => ?_) (fun h => absurd (fun q => h41 (e41.mp q)) h)
            exact opb (fun q => h41 q.1) _
        · refine And.intro (fun _ => ?_) (fun h => absurd (fun q => absurd ((nI_eq (b := 3) (by omega) (by decide)).mp q) e3) h)
          have hsb : sbK B L i = 0 := by unfold sbK sbT; rw [if_neg e3]
          exact opb (fun q => by omega) _
