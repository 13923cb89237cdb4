/-! The key of a text. -/
def kyW (w : Nat) : List Nat := if w = 0 then [119, 97, 110, 116] else if w = 1 then [102, 101, 101] else [102, 105, 110, 101]
def wdB (B : Nat → Nat) (t : Nat × Nat × Nat) (ws : List Nat) : Bool := decide (t.2.2 - t.2.1 = ws.length) && (List.range ws.length).all (fun i => decide (B (t.2.1 + i) = ws.getD i 0))
/-- the key that a word is; 3: none -/
def kyF (B : Nat → Nat) (t : Nat × Nat × Nat) : Nat := if ¬ t.1 = 1 then 3 else if wdB B t (kyW 0) = true then 0 else if wdB B t (kyW 1) = true then 1 else if wdB B t (kyW 2) = true then 2 else 3
theorem wdB_iff {B : Nat → Nat} {t : Nat × Nat × Nat} {ws : List Nat} : wdB B t ws = true ↔ t.2.2 - t.2.1 = ws.length ∧ ∀ i, i < ws.length → B (t.2.1 + i) = ws.getD i 0 := by
  unfold wdB
  rw [Bool.and_eq_true, decide_eq_true_iff, List.all_eq_true]
  constructor
  · intro ⟨h1, h2⟩
    exact ⟨h1, fun i hi => of_decide_eq_true (h2 i (List.mem_range.mpr hi))⟩
  · intro ⟨h1, h2⟩
    exact ⟨h1, fun i hi => decide_eq_true (h2 i (List.mem_range.mp hi))⟩
theorem wd_eq {B : Nat → Nat} {L i : Nat} {I : Nat → Nat → Int32} {ws : List Nat} (hB : TB I B L) (h5 : I 51 5 = sgF B (tk B L i)) (h7 : I 51 7 = nI (tk B L i).2.1) (h6 : I 51 6 = nI (tk B L i).2.2) (hws : ∀ j, j < ws.length → ws.getD j 0 < 256) (hl : ws.length ≤ 4) : isWdF I 51 50 (ws.map nI) = true ↔ (tk B L i).1 = 1 ∧ wdB B (tk B L i) ws = true := by
  have hB2 : ∀ j, j < L → B j < 256 := fun j hj => (hB.2 j hj).1
  obtain ⟨i1, i2, i3, i4, i5⟩ := tkn_ok B L i
  obtain ⟨s1, s2, s3⟩ := sg_l (L := L) (i := i) hB2
  have hL9 := hB.1
  have hsub : I 51 6 - I 51 7 = nI ((tk B L i).2.2 - (tk B L i).2.1) := by rw [h6, h7, nI_sub i1]
  unfold isWdF
  rw [Bool.and_eq_true, Bool.and_eq_true, decide_eq_true_iff, decide_eq_true_iff, List.all_eq_true, h5, s1, hsub, List.length_map, wdB_iff]
  have e1 : nI ((tk B L i).2.2 - (tk B L i).2.1) = Int32.ofNat ws.length ↔ (tk B L i).2.2 - (tk B L i).2.1 = ws.length := nI_eq (by omega) (by omega)
  rw [e1]
  have eb : (tk B L i).2.2 - (tk B L i).2.1 = ws.length → ∀ j, j < ws.length → (bAt I 50 (I 51 7 + Int32.ofNat j) = (ws.map nI).getD j 0 ↔ B ((tk B L i).2.1 + j) = ws.getD j 0) := fun hlen j hj => by
    have hx : I 51 7 + Int32.ofNat j = nI ((tk B L i).2.1 + j) := by rw [h7]; exact nI_add _ _
    have hg : (ws.map nI).getD j 0 = nI (ws.getD j 0) := by
      rw [List.getD_eq_getElem?_getD, List.getElem?_map, List.getElem?_eq_getElem hj, List.getD_eq_getElem?_getD, List.getElem?_eq_getElem hj]
      rfl
    rw [hx, hg]
    unfold bAt
    rw [if_pos ⟨nI_pos' (by omega), nI_lt (b := 96) (by omega) (by decide)⟩, ix (by omega), (hB.2 _ (by omega)).2]
    exact nI_eq (by have := hB2 ((tk B L i).2.1 + j) (by omega); omega) (by have := hws j hj; omega)
  constructor
  · intro ⟨⟨a, b⟩, c⟩
    exact ⟨a, b, fun j hj => (eb b j hj).mp (of_decide_eq_true (c j (List.mem_range.mpr hj)))⟩
  · intro ⟨a, b, c⟩
    exact ⟨⟨a, b⟩, fun j hj => decide_eq_true ((eb b j (List.mem_range.mp hj)).mpr (c j (List.mem_range.mp hj)))⟩
def kyV (q : Nat) : Int32 := if q = 3 then -1 else nI q
theorem key_eq {B : Nat → Nat} {L i : Nat} {I : Nat → Nat → Int32} (hB : TB I B L) (h5 : I 51 5 = sgF B (tk B L i)) (h7 : I 51 7 = nI (tk B L i).2.1) (h6 : I 51 6 = nI (tk B L i).2.2) : keyF I 51 50 = kyV (kyF B (tk B L i)) := by
  have w0 := wd_eq (ws := kyW 0) hB h5 h7 h6 (by decide) (by decide)
  have w1 := wd_eq (ws := kyW 1) hB h5 h7 h6 (by decide) (by decide)
  have w2 := wd_eq (ws := kyW 2) hB h5 h7 h6 (by decide) (by decide)
  have hx : keyF I 51 50 = if isWdF I 51 50 ((kyW 0).map nI) = true then 0 else if isWdF I 51 50 ((kyW 1).map nI) = true then 1 else if isWdF I 51 50 ((kyW 2).map nI) = true then 2 else -1 := rfl
  rw [hx]
  unfold kyF
  by_cases e1 : (tk B L i).1 = 1
  · rw [if_neg (show ¬ ¬ (tk B L i).1 = 1 from fun q => q e1)]
    by_cases a0 : wdB B (tk B L i) (kyW 0) = true
    · rw [if_pos (w0.mpr ⟨e1, a0⟩), if_pos a0]; rfl
    · rw [if_neg (fun q => a0 (w0.mp q).2), if_neg a0]
      by_cases a1 : wdB B (tk B L i) (kyW 1) = true
      · rw [if_pos (w1.mpr ⟨e1, a1⟩), if_pos a1]; rfl
      · rw [if_neg (fun q => a1 (w1.mp q).2), if_neg a1]
        by_cases a2 : wdB B (tk B L i) (kyW 2) = true
        · rw [if_pos (w2.mpr ⟨e1, a2⟩), if_pos a2]; rfl
        · rw [if_neg (fun q => a2 (w2.mp q).2), if_neg a2]; rfl
  · rw [if_pos e1, if_neg (fun q => e1 (w0.mp q).1), if_neg (fun q => e1 (w1.mp q).1), if_neg (fun q => e1 (w2.mp q).1)]; rfl
theorem ky_le (B : Nat → Nat) (t : Nat × Nat × Nat) : kyF B t ≤ 3 := by
  unfold kyF
  repeat' split
  all_goals omega
theorem c_keyRead {nx sl : Nat} {ln : Nat → Nat} {R : Nat → Nat → Option Nat} {I : Nat → Nat → Int32} {Q : Option Value → Hp → Prop} {k : Nat} (hW : SW nx ln R) (hQ : Q (some (.int (keyF I 51 50))) (nx, sl, ln, R, I)) : Go k mX2_keyRead [.ref 51] (nx, sl, ln, R, I) Q := by
  refine ⟨0, _, _, ?_, hQ⟩
  have hr : R 51 0 = some 50 := by rw [hW.2.2 51 (by decide) (by decide)]; rfl
  show (match R 51 0 with
    | some tp => if KD 51 = 2 ∧ 51 < nx ∧ KD tp = 9 ∧ tp < nx ∧ ln tp = 96 then some (some (Value.int (keyF I 51 tp)), (nx, sl, ln, R, I)) else none
    | none => none) = _
  rw [hr]
  exact if_pos ⟨rfl, sw_lt hW (by decide), rfl, sw_lt hW (by decide), by rw [hW.2.1 50 (by decide)]; rfl⟩
/-- where the keys' letters lie -/
def kAt (w : Nat) : Nat := if w = 0 then 0 else if w = 1 then 4 else if w = 2 then 7 else 11
theorem kc_eq : ∀ w, w < 3 → kAt (w + 1) - kAt w = (kyW w).length ∧ kAt (w + 1) ≤ 11 ∧ kAt w ≤ kAt (w + 1) ∧ ∀ j, j < (kyW w).length → kcF (kAt w + j) = (kyW w).getD j 0 ∧ (kyW w).getD j 0 < 256 := by
  intro w hw
  rcases (show w = 0 ∨ w = 1 ∨ w = 2 by omega) with e | e | e <;> subst e <;> decide
theorem l_key2 {nx sl : Nat} {ln : Nat → Nat} {R : Nat → Nat → Option Nat} {I : Nat → Nat → Int32} {Q : Option Value → Hp → Prop} {k : Nat} (hW : SW nx ln R) {B : Nat → Nat} {L i w : Nat} (hM : MT I B L) (hSC : SC I) (hw : w < 3) (h11 : I 85 11 = nI (tk B L i).2.1) {xn : Int32} (hxn : xn = nI (kyW w).length)
    (hQ : ∀ (nn : Nat) (x3 : Int32) (x4 : Option Value), x3 = b01 (wdB B (tk B L i) (kyW w)) → wp (nn + 20) (k + 3) mX8_takesKey 106 [some (.ref 85), some (.int (nI w)), some (.int xn), some (.int x3), x4] [] (nx, sl, ln, R, I) Q) :
    ∀ (r j : Nat) (xs xj : Int32), xj = nI j → j + r = (kyW w).length → ((xs = 1 ∧ (tk B L i).2.2 - (tk B L i).2.1 = (kyW w).length ∧ ∀ q, q < j → B ((tk B L i).2.1 + q) = (kyW w).getD q 0) ∨ (xs = 0 ∧ wdB B (tk B L i) (kyW w) = false)) → GoF (k + 3) mX8_takesKey 55 [some (.ref 85), some (.int (nI w)), some (.int xn), some (.int xs), some (.int xj)] [] (nx, sl, ln, R, I) Q := by
  obtain ⟨k1, k2, k3, k4⟩ := kc_eq w hw
  obtain ⟨i1, i2, i3, i4, i5⟩ := tkn_ok B L i
  have hL9 := hM.1
  have h94 : I 94 (nI w).toNatClampNeg = nI (kAt w) := by
    rw [ix (by omega)]
    rcases (show w = 0 ∨ w = 1 ∨ w = 2 by omega) with e | e | e <;> subst e
    · exact hSC.2.1
    · exact hSC.2.2.1
    · exact hSC.2.2.2.1
  have hkl : (kyW w).length ≤ 4 := by
    rcases (show w = 0 ∨ w = 1 ∨ w = 2 by omega) with e | e | e <;> subst e <;> decide
  subst hxn
  intro r
  induction r with
  | zero =>
    intro j xs xj hxj hjr hs
    subst hxj
    have hj : j = (kyW w).length := by omega
    subst hj
    refine GoF_wp1 60 ?_
    refine And.intro (fun _ => ?_) (fun h => absurd (Int32.le_refl _) h)
    rcases hs with ⟨e, hlen, h⟩ | ⟨e, h⟩
    · refine hQ _ _ _ ?_
      rw [e, show wdB B (tk B L i) (kyW w) = true from wdB_iff.mpr ⟨hlen, h⟩]
      rfl
    · refine hQ _ _ _ ?_
      rw [e, h]
      rfl
  | succ r ih =>
    intro j xs xj hxj hjr hs
    subst hxj
    refine GoF_wp1 60 ?_
    refine And.intro (fun h => absurd h (nI_ge (show j < (kyW w).length by omega) (by omega))) (fun _ => ?_)
    rcases hs with ⟨e, hlen, h⟩ | ⟨e, h⟩
    · subst e
      refine And.intro (fun h9 => absurd h9 (by decide)) (fun _ => ?_)
      have ex : nI (tk B L i).2.1 + nI j = nI ((tk B L i).2.1 + j) := nI_add _ _
      have ey : nI (kAt w) + nI j = nI (kAt w + j) := nI_add _ _
      obtain ⟨g1, g2⟩ := k4 j (by omega)
      obtain ⟨b1, b2⟩ := hM.2.2 ((tk B L i).2.1 + j) (by omega)
      refine And.intro (sw_k hW (Nat.le_of_ble_eq_true rfl) rfl) ?_
      refine Exists.intro _ (And.intro (sw_r hW (Nat.le_of_ble_eq_true rfl) rfl rfl) ?_)
      refine And.intro (sw_k hW (Nat.le_of_ble_eq_true rfl) rfl) ?_
      rw [h11]
      refine And.intro (by rw [ex]; exact sw_n hW (Nat.le_of_ble_eq_true rfl) rfl rfl (show (tk B L i).2.1 + j < 96 by omega) (Nat.le_of_ble_eq_true rfl)) ?_
      rw [show I 92 (nI (tk B L i).2.1 + nI j).toNatClampNeg = nI (B ((tk B L i).2.1 + j)) by rw [ex, ix (by omega)]; exact b2]
      refine And.intro (sw_k hW (Nat.le_of_ble_eq_true rfl) rfl) ?_
      refine Exists.intro _ (And.intro (sw_r hW (Nat.le_of_ble_eq_true rfl) rfl rfl) ?_)
      refine And.intro (sw_k hW (Nat.le_of_ble_eq_true rfl) rfl) ?_
      refine Exists.intro _ (And.intro (sw_r hW (Nat.le_of_ble_eq_true rfl) rfl rfl) ?_)
      refine And.intro (sw_n hW (Nat.le_of_ble_eq_true rfl) rfl rfl (show w < 4 by omega) (Nat.le_of_ble_eq_true rfl)) ?_
      rw [h94]
      refine And.intro (by rw [ey]; exact sw_n hW (Nat.le_of_ble_eq_true rfl) rfl rfl (show kAt w + j < 11 by omega) (Nat.le_of_ble_eq_true rfl)) ?_
      rw [show I 93 (nI (kAt w) + nI j).toNatClampNeg = nI ((kyW w).getD j 0) by rw [ey, ix (by omega), ← g1]; exact hSC.1 _ (by omega)]
      by_cases eb : B ((tk B L i).2.1 + j) = (kyW w).getD j 0
      · refine And.intro (fun h => absurd (by rw [eb]) h) (fun _ => ?_)
        refine ih (j + 1) _ _ (nI_1 j) (by omega) (Or.inl ⟨rfl, hlen, fun q hq => ?_⟩)
        by_cases eq : q = j
        · rw [eq]; exact eb
        · exact h q (by omega)
      · refine And.intro (fun _ => ?_) (fun h => absurd (fun q => eb ((nI_eq (by omega) (by omega)).mp q)) h)
        refine ih (j + 1) _ _ (nI_1 j) (by omega) (Or.inr ⟨rfl, ?_⟩)
        cases hd : wdB B (tk B L i) (kyW w) with
        | false => rfl
        | true => exact absurd ((wdB_iff.mp hd).2 j (by omega)) eb
    · subst e
      refine And.intro (fun _ => ?_) (fun h9 => absurd rfl h9)
      refine hQ _ _ _ ?_
      rw [h]
      rfl
/-- the model takes the key -/
theorem s_key {nx sl : Nat} {ln : Nat → Nat} {R : Nat → Nat → Option Nat} {I : Nat → Nat → Int32} {Q : Option Value → Hp → Prop} {k : Nat} (hW : SW nx ln R) {B : Nat → Nat} {L : Nat} (hM : MT I B L) (hP : MP B I (tk B L 0)) (hSC : SC I)
    (q0 : kyF B (tk B L 0) = 3 → Q (some (.int 0)) (nx, sl, ln, R, I))
    (q1 : ∀ key, key ≤ 2 → kyF B (tk B L 0) = key → ∀ I2, (∀ o, ¬ o = 85 → I2 o = I o) → (∀ q, (q < 10 ∨ 15 < q) → I2 85 q = I 85 q) → I2 85 15 = nI key → MT I2 B L → MP B I2 (tk B L 1) → Q (some (.int 1)) (nx, sl, ln, R, I2)) : Go (k + 3) mX8_takesKey [.ref 85] (nx, sl, ln, R, I) Q := by
  obtain ⟨p1, p2, p3, p4, p5, p6, p7⟩ := id hP
  obtain ⟨i1, i2, i3, i4, i5⟩ := tkn_ok B L 0
  refine Go_wp 40 rfl ?_
  refine And.intro (sw_k hW (Nat.le_of_ble_eq_true rfl) rfl) ?_
  rw [p3]
  by_cases e1 : (tk B L 0).1 = 1
  · refine And.intro (fun _ => ?_) (fun h => absurd (by rw [e1]; rfl) h)
    have hit : ∀ (w nn : Nat) (x2 x3 x4 : Option Value), w ≤ 2 → kyF B (tk B L 0) = w → wp (nn + 10) (k + 3) mX8_takesKey 110 [some (.ref 85), some (.int (nI w)), x2, x3, x4] [] (nx, sl, ln, R, I) Q := by
      intro w nn x2 x3 x4 hw hk
      refine And.intro (sw_k hW (Nat.le_of_ble_eq_true rfl) rfl) ?_
      refine And.intro (sw_k hW (Nat.le_of_ble_eq_true rfl) rfl) ?_
      refine s_go (w := true) hW (hM.keep2 (by rw [up2_eq, up1_ne (by decide)]) (by rw [up2_ne (by decide)])) (by rw [up2_eq, up1_ne (by decide)]; exact p1) i2 (fun _ => by rw [up2_eq, up1_ne (by decide)]; exact p6 (Or.inl e1)) (fun q => by cases q) (fun I2 hF hM2 => ?_)
      refine And.intro (Or.inr rfl) (q1 w hw hk I2 (fun o ho => by rw [hF.1 o ho, up2_ne ho]) (fun q hq => by rw [hF.2 q (by omega), up2_eq, up1_ne (by omega)]) (by rw [hF.2 15 (by omega), up2_eq, up1_eq]) ?_ ?_)
      · exact (hM.keep2 (I' := up2 I 85 15 (nI w)) (by rw [up2_eq, up1_ne (by decide)]) (by rw [up2_ne (by decide)])).keep hF
      · have : wk (tk B L 0) = true := decide_eq_true (Or.inl e1)
        show MP B I2 (lx B L (tk B L 0).2.2 (wk (tk B L 0)))
        rw [this]
        exact hM2
    have stp : ∀ w, w < 3 → (wdB B (tk B L 0) (kyW w) = true → kyF B (tk B L 0) = w) → (wdB B (tk B L 0) (kyW w) = false → ∀ (xw : Int32) (x2 x3 x4 : Option Value), xw = nI (w + 1) → GoF (k + 3) mX8_takesKey 12 [some (.ref 85), some (.int xw), x2, x3, x4] [] (nx, sl, ln, R, I) Q) → ∀ (xw : Int32) (x2 x3 x4 : Option Value), xw = nI w → GoF (k + 3) mX8_takesKey 12 [some (.ref 85), some (.int xw), x2, x3, x4] [] (nx, sl, ln, R, I) Q := by
      intro w hw hyes hno xw x2 x3 x4 hxw
      subst hxw
      obtain ⟨k1, k2, k3, k4⟩ := kc_eq w hw
      have h94 : ∀ u, u < 4 → I 94 u = nI (kAt u) := fun u hu => by
        rcases (show u = 0 ∨ u = 1 ∨ u = 2 ∨ u = 3 by omega) with e | e | e | e <;> subst e
        · exact hSC.2.1
        · exact hSC.2.2.1
        · exact hSC.2.2.2.1
        · exact hSC.2.2.2.2
      have hkl : (kyW w).length ≤ 4 ∧ 0 < (kyW w).length := by
        rcases (show w = 0 ∨ w = 1 ∨ w = 2 by omega) with e | e | e <;> subst e <;> decide
      have ew : nI w + 1 = nI (w + 1) := nI_1 w
      have el : nI (kAt (w + 1)) - nI (kAt w) = nI (kyW w).length := by rw [nI_sub k3, k1]
      have ef : nI (tk B L 0).2.2 - nI (tk B L 0).2.1 = nI ((tk B L 0).2.2 - (tk B L 0).2.1) := nI_sub i1
      have ex : ∀ (nn : Nat) (x3 : Int32) (x4 : Option Value), x3 = b01 (wdB B (tk B L 0) (kyW w)) → wp (nn + 20) (k + 3) mX8_takesKey 106 [some (.ref 85), some (.int (nI w)), some (.int (nI (kAt (w + 1)) - nI (kAt w))), some (.int x3), x4] [] (nx, sl, ln, R, I) Q := by
        intro nn x3 x4 hx3
        subst hx3
        cases hd : wdB B (tk B L 0) (kyW w) with
        | true =>
          refine And.intro (fun h9 => absurd h9 (by decide)) (fun _ => ?_)
          exact hit w _ _ _ _ (by omega) (hyes hd)
        | false =>
          refine And.intro (fun _ => ?_) (fun h9 => absurd rfl h9)
          exact hno hd _ _ _ _ ew
      refine GoF_wp1 60 ?_
      refine And.intro (fun h => absurd h (nI_ge (b := 3) hw (by decide))) (fun _ => ?_)
      refine And.intro (sw_k hW (Nat.le_of_ble_eq_true rfl) rfl) ?_
      refine Exists.intro _ (And.intro (sw_r hW (Nat.le_of_ble_eq_true rfl) rfl rfl) ?_)
      refine And.intro (by rw [ew]; exact sw_n hW (Nat.le_of_ble_eq_true rfl) rfl rfl (show w + 1 < 4 by omega) (Nat.le_of_ble_eq_true rfl)) ?_
      rw [show I 94 (nI w + 1).toNatClampNeg = nI (kAt (w + 1)) by rw [ew, ix (by omega)]; exact h94 _ (by omega)]
      refine And.intro (sw_k hW (Nat.le_of_ble_eq_true rfl) rfl) ?_
      refine Exists.intro _ (And.intro (sw_r hW (Nat.le_of_ble_eq_true rfl) rfl rfl) ?_)
      refine And.intro (sw_n hW (Nat.le_of_ble_eq_true rfl) rfl rfl (show w < 4 by omega) (Nat.le_of_ble_eq_true rfl)) ?_
      rw [ix (show w < 2147483648 by omega), h94 w (by omega)]
      refine And.intro (sw_k hW (Nat.le_of_ble_eq_true rfl) rfl) ?_
      rw [p1]
      refine And.intro (sw_k hW (Nat.le_of_ble_eq_true rfl) rfl) ?_
      rw [p2]
      have hL9 := hM.1
      by_cases hlen : (tk B L 0).2.2 - (tk B L 0).2.1 = (kyW w).length
      · refine And.intro (fun h => absurd (by rw [el, ef, hlen]) h) (fun _ => ?_)
        exact l_key2 (i := 0) hW hM hSC hw p2 el ex (kyW w).length 0 1 0 rfl (by omega) (Or.inl ⟨rfl, hlen, fun q hq => absurd hq (by omega)⟩)
      · refine And.intro (fun _ => ?_) (fun h => absurd (fun q => by rw [el, ef] at q; exact hlen ((nI_eq (by omega) (by omega)).mp q).symm) h)
        have hd : wdB B (tk B L 0) (kyW w) = false := by
          cases hd : wdB B (tk B L 0) (kyW w) with
          | false => rfl
          | true => exact absurd (wdB_iff.mp hd).1 hlen
        exact l_key2 (i := 0) hW hM hSC hw p2 el ex (kyW w).length 0 0 0 rfl (by omega) (Or.inr ⟨rfl, hd⟩)
    have hne1 : ¬ ¬ (tk B L 0).1 = 1 := fun q => q e1
    have fl : ∀ {b : Bool}, b = false → ¬ b = true := fun h q => by rw [h] at q; cases q
    refine stp 0 (by omega) (fun h => ?_) (fun h0 => ?_) _ _ _ _ rfl
    · unfold kyF
      rw [if_neg hne1, if_pos h]
    · refine stp 1 (by omega) (fun h => ?_) (fun h1 => ?_)
      · unfold kyF
        rw [if_neg hne1, if_neg (fl h0), if_pos h]
      · refine stp 2 (by omega) (fun h => ?_) (fun h2 => ?_)
        · unfold kyF
          rw [if_neg hne1, if_neg (fl h0), if_neg (fl h1), if_pos h]
        · intro xw x2 x3 x4 hxw
          subst hxw
          refine GoF_wp1 20 ?_
          refine And.intro (fun _ => ?_) (fun h9 => absurd (by decide) h9)
          refine And.intro (Or.inl rfl) (q0 ?_)
          unfold kyF
          rw [if_neg hne1, if_neg (fl h0), if_neg (fl h1), if_neg (fl h2)]
  · refine And.intro (fun h => absurd ((nI_eq (b := 1) (by omega) (by decide)).mp h) e1) (fun _ => ?_)
    refine And.intro (Or.inl rfl) (q0 ?_)
    unfold kyF
    rw [if_pos e1]
