/-! A new text's object. -/
theorem kd_odd {o : Nat} (h : 109 ≤ o) (h1 : o % 2 = 1) : KD o = 5 := by
  unfold KD
  rw [show Nat.blt o 109 = false from by
    cases q : Nat.blt o 109 with
    | false => rfl
    | true => have : o < 109 := Nat.le_of_ble_eq_true q
              omega, cond_false, h1]
  rfl
theorem kd_even {o : Nat} (h : 109 ≤ o) (h1 : o % 2 = 0) : KD o = 11 := by
  unfold KD
  rw [show Nat.blt o 109 = false from by
    cases q : Nat.blt o 109 with
    | false => rfl
    | true => have : o < 109 := Nat.le_of_ble_eq_true q
              omega, cond_false, h1]
  rfl
theorem SW.ext {nx nx' : Nat} {ln ln' : Nat → Nat} {R R' : Nat → Nat → Option Nat} (h : SW nx ln R) (hn : nx ≤ nx') (hl : ∀ o, o < 109 → ln' o = ln o) (hr : ∀ o, o < 109 → ¬ o = 2 → R' o = R o) : SW nx' ln' R' :=
  ⟨Nat.le_trans h.1 hn, fun o ho => by rw [hl o ho]; exact h.2.1 o ho, fun o ho h2 => by rw [hr o ho h2]; exact h.2.2 o ho h2⟩
theorem c_copyOf {nx sl : Nat} {ln : Nat → Nat} {R : Nat → Nat → Option Nat} {I : Nat → Nat → Int32} {Q : Option Value → Hp → Prop} {k : Nat} (hW : SW nx ln R) {len : Nat} (hlen : len < 96) (hkd : KD nx = 11) (hQ : Q (some (.ref nx)) (nx + 1, sl + len, up1 ln nx len, R, up1 (up1 I nx (fun _ => 0)) nx (va_cpy (I 52) (fun _ => 0) 0 0 len))) : Go (k + 1) mJ7_copyOf_59c91 [.ref 52, .int (nI len)] (nx, sl, ln, R, I) Q := by
  have h109 := hW.1
  have hl : ln 52 = 96 := by rw [hW.2.1 52 (by decide)]; rfl
  refine Go_wp 40 rfl ?_
  refine And.intro ⟨by decide, by decide, sw_lt hW (by decide)⟩ ?_
  rw [hl]
  refine And.intro (fun _ => ?_) (fun h => absurd (fun q => absurd ((nI_eq (b := 96) (by omega) (by decide)).mp q) (by omega)) h)
  refine And.intro ⟨nI_pos (by omega), by rw [ix (by omega)]; omega, hkd⟩ ?_
  rw [ix (show len < 2147483648 by omega)]
  refine And.intro ⟨by decide, by decide, Nat.lt_of_lt_of_le (sw_lt hW (by decide)) (Nat.le_succ _)⟩ ?_
  rw [show up1 ln nx len 52 = 96 by rw [up1_ne (by omega)]; exact hl]
  have em : (if nI len < Int32.ofNat 96 then nI len else Int32.ofNat 96) = nI len := if_pos (nI_lt (b := 96) hlen (by decide))
  refine And.intro ⟨⟨rfl, Nat.lt_of_lt_of_le (sw_lt hW (by decide)) (Nat.le_succ _)⟩, ⟨hkd, Nat.lt_succ_self _⟩, by decide, by decide, by rw [em]; exact nI_pos (by omega), by rw [em, ix (by omega), up1_ne (by omega), hl]; show 0 + len ≤ 96; omega, by rw [em, ix (by omega), up1_eq]; show 0 + len ≤ len; omega⟩ ?_
  rw [em, ix (show len < 2147483648 by omega), up1_ne (show ¬ 52 = nx by omega), up1_eq]
  exact hQ
theorem c_newText {nx sl : Nat} {ln : Nat → Nat} {R : Nat → Nat → Option Nat} {I : Nat → Nat → Int32} {Q : Option Value → Hp → Prop} {k : Nat} (hW : SW nx ln R) (hodd : nx % 2 = 1) {len : Nat} (hlen : len < 96) (h2 : I 51 2 = nI len) (hQ : ∀ I2, (∀ o, ¬ o = nx → ¬ o = nx + 1 → I2 o = I o) → I2 nx 0 = I 51 8 → I2 nx 1 = I 51 4 → (∀ j, j < len → I2 (nx + 1) j = I 52 j) → Q (some (.ref nx)) (nx + 2, sl + 3 + len, up1 ln (nx + 1) len, up2 (up1 R nx (fun _ => none)) nx 2 (some (nx + 1)), I2)) : Go (k + 3) mX2_newText [.ref 51] (nx, sl, ln, R, I) Q := by
  have h109 := hW.1
  have hW1 : SW (nx + 1) ln (up1 R nx (fun _ => none)) := hW.ext (by omega) (fun _ _ => rfl) (fun o ho _ => up1_ne (by omega))
  have e51 : up1 I nx (fun _ => 0) 51 = I 51 := up1_ne (by omega)
  refine Go_wp 60 rfl ?_
  refine And.intro (kd_odd h109 hodd) ?_
  refine And.intro (sw_k hW1 (Nat.le_of_ble_eq_true rfl) rfl) ?_
  refine And.intro (sw_k hW1 (Nat.le_of_ble_eq_true rfl) rfl) ?_
  refine And.intro (sw_k hW1 (Nat.le_of_ble_eq_true rfl) rfl) ?_
  refine Exists.intro _ (And.intro (sw_r hW1 (Nat.le_of_ble_eq_true rfl) rfl rfl) ?_)
  refine And.intro (sw_k hW1 (Nat.le_of_ble_eq_true rfl) rfl) ?_
  rw [e51, h2]
  refine c_copyOf hW1 hlen (kd_even (by omega) (by omega)) ?_
  rw [show up1 I nx (fun _ => 0) 52 = I 52 from up1_ne (by omega)]
  obtain ⟨I1, hI1⟩ : ∃ I1, up1 (up1 (up1 I nx (fun _ => 0)) (nx + 1) (fun _ => 0)) (nx + 1) (va_cpy (I 52) (fun _ => 0) 0 0 len) = I1 := ⟨_, rfl⟩
  rw [hI1]
  have g0 : ∀ o, ¬ o = nx → ¬ o = nx + 1 → I1 o = I o := fun o a b => by rw [← hI1, up1_ne b, up1_ne b, up1_ne a]
  have g1 : ∀ j, j < len → I1 (nx + 1) j = I 52 j := fun j hj => by rw [← hI1, up1_eq]; exact cp_at hj
  refine Go_wp 40 rfl ?_
  have hkn : KD nx = 5 ∧ nx < nx + 1 + 1 := ⟨kd_odd h109 hodd, by omega⟩
  refine And.intro hkn ?_
  refine And.intro hkn ?_
  refine And.intro hkn ?_
  refine hQ _ (fun o a b => by rw [up2_ne a, up2_ne a]; exact g0 o a b) ?_ ?_ (fun j hj => by rw [up2_ne (by omega), up2_ne (by omega)]; exact g1 j hj)
  · rw [up2_eq, up1_ne (by decide), up2_eq, up1_eq]
  · rw [up2_eq, up1_eq]
