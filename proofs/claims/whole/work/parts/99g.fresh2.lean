/-! What holds of the fresh heap. -/
theorem bz00 : Bz h00 := ⟨fun _ _ _ => ⟨fun _ => rfl, fun _ => rfl⟩, fun _ _ _ => ⟨rfl, rfl⟩⟩
theorem bzA : Bz hA := by
  have h := run_bz _ _ _ _ _ _ _ _ rA_run bz00
  dsimp only at h
  exact h
theorem Bz.obj {n : Nat} : ∀ {h : Hp}, Bz h → Bz (h.1 + 1, h.2.1 + n, gL h, up1 (gR h) h.1 (fun _ => none), up1 (gI h) h.1 (fun _ => 0)) := by
  intro h hB
  obtain ⟨nx, sl, ln, R, I⟩ := h
  exact hB.new (n := 0) (fun o ho => ⟨rfl, up1_ne ho, up1_ne ho⟩) (fun k => ⟨by rw [up1_eq], by rw [up1_eq]⟩)
theorem bzA1 : Bz hA1 := by
  rw [hA1]
  exact bzA.obj
theorem bzB : Bz hB := by
  have h := run_bz _ _ _ _ _ _ _ _ rB_run bzA1
  dsimp only at h
  exact h
theorem goA (Q : Option Value → Hp → Prop) (h : Q none hA) : Go 20 mX7_init [.ref 0] h00 Q := ⟨fuelA, none, hA, (show cond (isP mX7_init) (prm mX7_init [.ref 0] h00) (run fuelA 20 mX7_init 0 (ent mX7_init [.ref 0]) [] h00) = some (none, hA) by rw [show isP mX7_init = false by decide, cond_false]; exact rA_run), h⟩
theorem goB (Q : Option Value → Hp → Prop) (h : Q none hB) : Go 20 mX8_init [.ref 85] hA1 Q := ⟨fuelA, none, hB, (show cond (isP mX8_init) (prm mX8_init [.ref 85] hA1) (run fuelA 20 mX8_init 0 (ent mX8_init [.ref 85]) [] hA1) = some (none, hB) by rw [show isP mX8_init = false by decide, cond_false]; exact rB_run), h⟩
theorem RR40 (j : Nat) : ∀ o, o < 109 → RR o (j + 40) = none := fun o ho => match o, ho with
  | 0, _ => rfl
  | 1, _ => rfl
  | 2, _ => rfl
  | 3, _ => rfl
  | 4, _ => rfl
  | 5, _ => rfl
  | 6, _ => rfl
  | 7, _ => rfl
  | 8, _ => rfl
  | 9, _ => rfl
  | 10, _ => rfl
  | 11, _ => rfl
  | 12, _ => rfl
  | 13, _ => rfl
  | 14, _ => rfl
  | 15, _ => rfl
  | 16, _ => rfl
  | 17, _ => rfl
  | 18, _ => rfl
  | 19, _ => rfl
  | 20, _ => rfl
  | 21, _ => rfl
  | 22, _ => rfl
  | 23, _ => rfl
  | 24, _ => rfl
  | 25, _ => rfl
  | 26, _ => rfl
  | 27, _ => rfl
  | 28, _ => rfl
  | 29, _ => rfl
  | 30, _ => rfl
  | 31, _ => rfl
  | 32, _ => rfl
  | 33, _ => rfl
  | 34, _ => rfl
  | 35, _ => rfl
  | 36, _ => rfl
  | 37, _ => rfl
  | 38, _ => rfl
  | 39, _ => rfl
  | 40, _ => rfl
  | 41, _ => rfl
  | 42, _ => rfl
  | 43, _ => rfl
  | 44, _ => rfl
  | 45, _ => rfl
  | 46, _ => rfl
  | 47, _ => rfl
  | 48, _ => rfl
  | 49, _ => rfl
  | 50, _ => rfl
  | 51, _ => rfl
  | 52, _ => rfl
  | 53, _ => rfl
  | 54, _ => rfl
  | 55, _ => rfl
  | 56, _ => rfl
  | 57, _ => rfl
  | 58, _ => rfl
  | 59, _ => rfl
  | 60, _ => rfl
  | 61, _ => rfl
  | 62, _ => rfl
  | 63, _ => rfl
  | 64, _ => rfl
  | 65, _ => rfl
  | 66, _ => rfl
  | 67, _ => rfl
  | 68, _ => rfl
  | 69, _ => rfl
  | 70, _ => rfl
  | 71, _ => rfl
  | 72, _ => rfl
  | 73, _ => rfl
  | 74, _ => rfl
  | 75, _ => rfl
  | 76, _ => rfl
  | 77, _ => rfl
  | 78, _ => rfl
  | 79, _ => rfl
  | 80, _ => rfl
  | 81, _ => rfl
  | 82, _ => rfl
  | 83, _ => rfl
  | 84, _ => rfl
  | 85, _ => rfl
  | 86, _ => rfl
  | 87, _ => rfl
  | 88, _ => rfl
  | 89, _ => rfl
  | 90, _ => rfl
  | 91, _ => rfl
  | 92, _ => rfl
  | 93, _ => rfl
  | 94, _ => rfl
  | 95, _ => rfl
  | 96, _ => rfl
  | 97, _ => rfl
  | 98, _ => rfl
  | 99, _ => rfl
  | 100, _ => rfl
  | 101, _ => rfl
  | 102, _ => rfl
  | 103, _ => rfl
  | 104, _ => rfl
  | 105, _ => rfl
  | 106, _ => rfl
  | 107, _ => rfl
  | 108, _ => rfl
  | n + 109, h => absurd h (by omega)
theorem swB : SW 109 (gL hB) (gR hB) := by
  refine ⟨Nat.le_refl _, lnB, fun o ho h2 => funext fun k => ?_⟩
  rcases Nat.lt_or_ge k 40 with q | q
  · exact rB40 o ho h2 k q
  · have e : RR o k = none := by
      obtain ⟨j, rfl⟩ : ∃ j, k = j + 40 := ⟨k - 40, by omega⟩
      exact RR40 j o ho
    rw [e]
    refine (bzB.1 o k q).1 ?_
    rw [lnB o ho]
    rcases kd40 o ho with w | w
    · exact Or.inl w
    · exact Or.inr (Nat.le_trans w q)
theorem zrB {o : Nat} (h : gL hB o = 1446) : Zr (gI hB o) := fun i hi => (bzB.1 o i (by omega)).2 (by rw [h]; exact hi)
theorem saB : SA 109 (gL hB) (gR hB) (gI hB) :=
  ⟨0, 0, itB, ctB, fun x hx => absurd hx (Nat.not_lt_zero x), ⟨0, 0, by decide +kernel, by decide, by decide +kernel, by decide⟩, zrB (by decide +kernel), zrB (by decide +kernel), zrB (by decide +kernel), Or.inl (by decide +kernel)⟩
theorem spB : SP (gI hB) := ⟨0, by decide, by decide +kernel, by decide +kernel, fun i hi => absurd hi (Nat.not_lt_zero i)⟩
theorem ssB : SS (gI hB) := fun s hs => ⟨(ssB1 s hs).1, Or.inl (ssB1 s hs).2.1, ⟨0, by decide, (ssB1 s hs).2.2.1, (ssB1 s hs).2.2.2⟩, ssB2 s hs⟩
theorem slotB : SL (gI hB) := fun s hs => ⟨(slB1 s hs).1, Or.inl (slB1 s hs).2⟩
theorem snB : SN (gI hB) := ⟨0, by decide, by decide +kernel, by decide +kernel, fun i hi => absurd hi (Nat.not_lt_zero i)⟩
theorem scB : SC (gI hB) := ⟨by decide +kernel, by decide +kernel⟩
theorem simB : Sim 109 (gL hB) (gR hB) (gI hB) := ⟨swB, saB, spB, ssB, slotB, snB, scB⟩

