set_option maxRecDepth 100000 in
theorem inC_0 : ∀ w ∈ u_ws RX0 TX0 5, w ∈ TBL := by decide +kernel
set_option maxRecDepth 100000 in
theorem inC_1 : ∀ w ∈ u_ws RX1 TX1 3, w ∈ TBL := by decide +kernel
set_option maxRecDepth 100000 in
theorem inC_2 : ∀ w ∈ u_ws RX2 TX2 9, w ∈ TBL := by decide +kernel
set_option maxRecDepth 100000 in
theorem inC_3 : ∀ w ∈ u_ws RX3 TX3 3, w ∈ TBL := by decide +kernel
set_option maxRecDepth 100000 in
theorem inC_4 : ∀ w ∈ u_ws RX4 TX4 4, w ∈ TBL := by decide +kernel
set_option maxRecDepth 100000 in
theorem inC_5 : ∀ w ∈ u_ws RX5 TX5 3, w ∈ TBL := by decide +kernel
set_option maxRecDepth 100000 in
theorem inC_6 : ∀ w ∈ u_ws RX6 TX6 13, w ∈ TBL := by decide +kernel
set_option maxRecDepth 100000 in
theorem inC_7 : ∀ w ∈ u_ws RX7 TX7 13, w ∈ TBL := by decide +kernel
set_option maxRecDepth 100000 in
theorem inC_8 : ∀ w ∈ u_ws RX8 TX8 36, w ∈ TBL := by decide +kernel
theorem wIn_0 : Cond.instantiable RX0 5 ∈ TBL := List.mem_filter.mpr ⟨List.mem_of_getElem? (i := 108) (by decide +kernel), by decide +kernel⟩
theorem wIi_0 : Cond.initialized RX0 ∈ TBL := List.mem_filter.mpr ⟨List.mem_of_getElem? (i := 58) (by decide +kernel), by decide +kernel⟩
theorem wIn_1 : Cond.instantiable RX1 3 ∈ TBL := List.mem_filter.mpr ⟨List.mem_of_getElem? (i := 81) (by decide +kernel), by decide +kernel⟩
theorem wIi_1 : Cond.initialized RX1 ∈ TBL := List.mem_filter.mpr ⟨List.mem_of_getElem? (i := 56) (by decide +kernel), by decide +kernel⟩
theorem wIn_2 : Cond.instantiable RX2 9 ∈ TBL := List.mem_filter.mpr ⟨List.mem_of_getElem? (i := 196) (by decide +kernel), by decide +kernel⟩
theorem wIi_2 : Cond.initialized RX2 ∈ TBL := List.mem_filter.mpr ⟨List.mem_of_getElem? (i := 60) (by decide +kernel), by decide +kernel⟩
theorem wIn_3 : Cond.instantiable RX3 3 ∈ TBL := List.mem_filter.mpr ⟨List.mem_of_getElem? (i := 234) (by decide +kernel), by decide +kernel⟩
theorem wIi_3 : Cond.initialized RX3 ∈ TBL := List.mem_filter.mpr ⟨List.mem_of_getElem? (i := 61) (by decide +kernel), by decide +kernel⟩
theorem wIn_4 : Cond.instantiable RX4 4 ∈ TBL := List.mem_filter.mpr ⟨List.mem_of_getElem? (i := 254) (by decide +kernel), by decide +kernel⟩
theorem wIi_4 : Cond.initialized RX4 ∈ TBL := List.mem_filter.mpr ⟨List.mem_of_getElem? (i := 62) (by decide +kernel), by decide +kernel⟩
theorem wIn_5 : Cond.instantiable RX5 3 ∈ TBL := List.mem_filter.mpr ⟨List.mem_of_getElem? (i := 754) (by decide +kernel), by decide +kernel⟩
theorem wIi_5 : Cond.initialized RX5 ∈ TBL := List.mem_filter.mpr ⟨List.mem_of_getElem? (i := 71) (by decide +kernel), by decide +kernel⟩
theorem wIn_6 : Cond.instantiable RX6 13 ∈ TBL := List.mem_filter.mpr ⟨List.mem_of_getElem? (i := 101) (by decide +kernel), by decide +kernel⟩
theorem wIi_6 : Cond.initialized RX6 ∈ TBL := List.mem_filter.mpr ⟨List.mem_of_getElem? (i := 57) (by decide +kernel), by decide +kernel⟩
theorem wIn_7 : Cond.instantiable RX7 13 ∈ TBL := List.mem_filter.mpr ⟨List.mem_of_getElem? (i := 73) (by decide +kernel), by decide +kernel⟩
theorem wIi_7 : Cond.initialized RX7 ∈ TBL := List.mem_filter.mpr ⟨List.mem_of_getElem? (i := 55) (by decide +kernel), by decide +kernel⟩
theorem wIn_8 : Cond.instantiable RX8 36 ∈ TBL := List.mem_filter.mpr ⟨List.mem_of_getElem? (i := 879) (by decide +kernel), by decide +kernel⟩
theorem wIi_8 : Cond.initialized RX8 ∈ TBL := List.mem_filter.mpr ⟨List.mem_of_getElem? (i := 63) (by decide +kernel), by decide +kernel⟩
def tyM (ci : Nat) : Nat → FieldType := if ci = 0 then tyX0 else if ci = 1 then tyX1 else if ci = 2 then tyX2 else if ci = 3 then tyX3 else if ci = 4 then tyX4 else if ci = 5 then tyX5 else if ci = 6 then tyX6 else if ci = 7 then tyX7 else tyX8
theorem inC : ∀ ci, ci < 9 → ∀ w ∈ u_ws (RM ci) (TM ci) (nF ci), w ∈ TBL := by
  intro ci hci
  match ci, hci with
  | 0, _ => exact inC_0
  | 1, _ => exact inC_1
  | 2, _ => exact inC_2
  | 3, _ => exact inC_3
  | 4, _ => exact inC_4
  | 5, _ => exact inC_5
  | 6, _ => exact inC_6
  | 7, _ => exact inC_7
  | 8, _ => exact inC_8
  | n + 9, hci => exact absurd hci (by omega)
theorem vwAt : ∀ ci, ci < 9 → vwCl[ci]? = some (RM ci, TM ci, nF ci) := by
  intro ci hci
  match ci, hci with
  | 0, _ => exact rfl
  | 1, _ => exact rfl
  | 2, _ => exact rfl
  | 3, _ => exact rfl
  | 4, _ => exact rfl
  | 5, _ => exact rfl
  | 6, _ => exact rfl
  | 7, _ => exact rfl
  | 8, _ => exact rfl
  | n + 9, hci => exact absurd hci (by omega)
theorem tyMok : ∀ ci, ci < 9 → ∀ k, k < nF ci → parseFieldDescriptor (TM ci k).2.2.1 = some (tyM ci k) := by
  intro ci hci
  match ci, hci with
  | 0, _ => exact tyX0_ok
  | 1, _ => exact tyX1_ok
  | 2, _ => exact tyX2_ok
  | 3, _ => exact tyX3_ok
  | 4, _ => exact tyX4_ok
  | 5, _ => exact tyX5_ok
  | 6, _ => exact tyX6_ok
  | 7, _ => exact tyX7_ok
  | 8, _ => exact tyX8_ok
  | n + 9, hci => exact absurd hci (by omega)
theorem nmMok : ∀ ci, ci < 9 → ∀ a, a < nF ci → ∀ b, b < nF ci → a ≠ b → (TM ci a).2.1 ≠ (TM ci b).2.1 := by
  intro ci hci
  match ci, hci with
  | 0, _ => exact nmX0
  | 1, _ => exact nmX1
  | 2, _ => exact nmX2
  | 3, _ => exact nmX3
  | 4, _ => exact nmX4
  | 5, _ => exact nmX5
  | 6, _ => exact nmX6
  | 7, _ => exact nmX7
  | 8, _ => exact nmX8
  | n + 9, hci => exact absurd hci (by omega)
theorem wIn : ∀ ci, ci < 9 → Cond.instantiable (RM ci) (nF ci) ∈ TBL := by
  intro ci hci
  match ci, hci with
  | 0, _ => exact wIn_0
  | 1, _ => exact wIn_1
  | 2, _ => exact wIn_2
  | 3, _ => exact wIn_3
  | 4, _ => exact wIn_4
  | 5, _ => exact wIn_5
  | 6, _ => exact wIn_6
  | 7, _ => exact wIn_7
  | 8, _ => exact wIn_8
  | n + 9, hci => exact absurd hci (by omega)
theorem wIi : ∀ ci, ci < 9 → Cond.initialized (RM ci) ∈ TBL := by
  intro ci hci
  match ci, hci with
  | 0, _ => exact wIi_0
  | 1, _ => exact wIi_1
  | 2, _ => exact wIi_2
  | 3, _ => exact wIi_3
  | 4, _ => exact wIi_4
  | 5, _ => exact wIi_5
  | 6, _ => exact wIi_6
  | 7, _ => exact wIi_7
  | 8, _ => exact wIi_8
  | n + 9, hci => exact absurd hci (by omega)
theorem dfM_0 : ∀ j, j < 5 → defaultValue (tyX0 j) = cond (fr 0 j) .null (.int 0) := by decide +kernel
theorem dfM_1 : ∀ j, j < 3 → defaultValue (tyX1 j) = cond (fr 1 j) .null (.int 0) := by decide +kernel
theorem dfM_2 : ∀ j, j < 9 → defaultValue (tyX2 j) = cond (fr 2 j) .null (.int 0) := by decide +kernel
theorem dfM_3 : ∀ j, j < 3 → defaultValue (tyX3 j) = cond (fr 3 j) .null (.int 0) := by decide +kernel
theorem dfM_4 : ∀ j, j < 4 → defaultValue (tyX4 j) = cond (fr 4 j) .null (.int 0) := by decide +kernel
theorem dfM_5 : ∀ j, j < 3 → defaultValue (tyX5 j) = cond (fr 5 j) .null (.int 0) := by decide +kernel
theorem dfM_6 : ∀ j, j < 13 → defaultValue (tyX6 j) = cond (fr 6 j) .null (.int 0) := by decide +kernel
theorem dfM_7 : ∀ j, j < 13 → defaultValue (tyX7 j) = cond (fr 7 j) .null (.int 0) := by decide +kernel
theorem dfM_8 : ∀ j, j < 36 → defaultValue (tyX8 j) = cond (fr 8 j) .null (.int 0) := by decide +kernel
theorem dfM : ∀ ci, ci < 9 → ∀ j, j < nF ci → defaultValue (tyM ci j) = cond (fr ci j) .null (.int 0) := by
  intro ci hci
  match ci, hci with
  | 0, _ => exact dfM_0
  | 1, _ => exact dfM_1
  | 2, _ => exact dfM_2
  | 3, _ => exact dfM_3
  | 4, _ => exact dfM_4
  | 5, _ => exact dfM_5
  | 6, _ => exact dfM_6
  | 7, _ => exact dfM_7
  | 8, _ => exact dfM_8
  | n + 9, hci => exact absurd hci (by omega)
theorem frM_0 : ∀ j, j < 5 → fr 0 j = true → (match tyX0 j with
  | .object _ => true
  | .array _ => true
  | _ => false) = true := by decide +kernel
theorem frM_1 : ∀ j, j < 3 → fr 1 j = true → (match tyX1 j with
  | .object _ => true
  | .array _ => true
  | _ => false) = true := by decide +kernel
theorem frM_2 : ∀ j, j < 9 → fr 2 j = true → (match tyX2 j with
  | .object _ => true
  | .array _ => true
  | _ => false) = true := by decide +kernel
theorem frM_3 : ∀ j, j < 3 → fr 3 j = true → (match tyX3 j with
  | .object _ => true
  | .array _ => true
  | _ => false) = true := by decide +kernel
theorem frM_4 : ∀ j, j < 4 → fr 4 j = true → (match tyX4 j with
  | .object _ => true
  | .array _ => true
  | _ => false) = true := by decide +kernel
theorem frM_5 : ∀ j, j < 3 → fr 5 j = true → (match tyX5 j with
  | .object _ => true
  | .array _ => true
  | _ => false) = true := by decide +kernel
theorem frM_6 : ∀ j, j < 13 → fr 6 j = true → (match tyX6 j with
  | .object _ => true
  | .array _ => true
  | _ => false) = true := by decide +kernel
theorem frM_7 : ∀ j, j < 13 → fr 7 j = true → (match tyX7 j with
  | .object _ => true
  | .array _ => true
  | _ => false) = true := by decide +kernel
theorem frM_8 : ∀ j, j < 36 → fr 8 j = true → (match tyX8 j with
  | .object _ => true
  | .array _ => true
  | _ => false) = true := by decide +kernel
def isRT (t : FieldType) : Bool := match t with
  | .object _ => true
  | .array _ => true
  | _ => false
theorem frM : ∀ ci, ci < 9 → ∀ j, j < nF ci → fr ci j = true → isRT (tyM ci j) = true := by
  intro ci hci
  match ci, hci with
  | 0, _ => exact frM_0
  | 1, _ => exact frM_1
  | 2, _ => exact frM_2
  | 3, _ => exact frM_3
  | 4, _ => exact frM_4
  | 5, _ => exact frM_5
  | 6, _ => exact frM_6
  | 7, _ => exact frM_7
  | 8, _ => exact frM_8
  | n + 9, hci => exact absurd hci (by omega)
theorem KD_lt (o : Nat) : KD o < 17 := by
  by_cases h : o < 109
  · have : ∀ o, o < 109 → KD o < 17 := by decide +kernel
    exact this o h
  · unfold KD
    have hb : Nat.blt o 109 = false := by
      cases hq : Nat.blt o 109 with
      | false => rfl
      | true => exact absurd (Nat.le_of_ble_eq_true hq) h
    rw [hb]
    show cond (Nat.beq (o % 2) 1) 5 11 < 17
    cases (Nat.beq (o % 2) 1) <;> decide
theorem isRT_fits {t : FieldType} {a : Nat} (h : isRT t = true) : narrow t (.ref a) = .ref a ∧ fits t (.ref a) = true := by
  cases t <;> first | (exact ⟨rfl, rfl⟩) | (cases h)
theorem St.heap {s : State} {dC : Nat → ClassId} {dI : Nat → Nat → Nat} {cy : Nat → ClassId} {base : Nat} {Od : State → Heap → Prop} {m : Nat} {hF : Hp} {MC MS : Nat} {H H1 : Heap} {locs locs1 : List Loc} {ls : Array Slot} {L : List (Option Value)} {h h' : Hp} {cells slots : Nat} (hS : St s dC dI cy base Od m hF MC MS H locs ls L h cells slots) (hO : OdOk base Od) (h1 : HR dC dI cy base h' H1) (h2 : va_S (fun q => base ≤ q) s.heap H1 locs1) (o : Nat) (h3 : ∀ q : Nat, q ≠ base + o → H1[q]? = H[q]?) (e1 : h'.1 = h.1) (e2 : h'.2.1 = h.2.1) : St s dC dI cy base Od m hF MC MS H1 locs1 ls L h' cells slots :=
  ⟨h1, hO.2 s H H1 (fun q _ hq => h3 q (by omega)) hS.2.1, h2, hS.2.2.2.1, hS.2.2.2.2.1, by rw [e1]; exact hS.2.2.2.2.2.1, by rw [e2]; exact hS.2.2.2.2.2.2⟩
theorem one_P {dC : Nat → ClassId} {dI : Nat → Nat → Nat} {a : Nat} {x : va_E} {H : Heap} (h : va_at (dC, dI) vwCl (a, x) H) : va_P (dC, dI) vwCl [(a, x)] H := by
  intro k q hq
  match k, hq with
  | 0, hq => cases hq; exact h
  | k + 1, hq => simp at hq
section Rows
variable {p : Program} {l : Launch} {e : Env} {R : Room} {s : State} {mid : MethodId} {args : Array Value} {below : List Frame} {meth : Method} {c : Code} {dC : Nat → ClassId} {dI : Nat → Nat → Nat} {cy : Nat → ClassId} {base : Nat} {Od : State → Heap → Prop} {m k : Nat} {rF : Option Value} {hF : Hp} {MC MS : Nat} {Q : State → Prop}
variable {H : Heap} {locs : List Loc} {ls : Array Slot} {L : List (Option Value)} {S : List Value} {h : Hp} {cells slots pc : Nat}
variable {go : Nat → List (Option Value) → List Value → Hp → Rs}

theorem r_get {o ci b idx : Nat} {rest : List Value} (hC : Cx p R s mid args meth c dC dI cy base Od m k MC MS) (hR : HR dC dI cy base h H) (hk : KD o = ci) (ho : o < h.1) (hci : ci < 9) (hb9 : b < nF ci) (hl : Cond.fieldLink (yM m).cls idx (TM ci b).1 (TM ci b).2.1 (TM ci b).2.2.1 ∈ TBL) (hd : decode (bM m) pc = .ok (.getfield idx, 3))
    (kk : W p l e R s mid args below meth c H locs cells slots Q (F0 mid (pc + 3) ls (fvV base ci (gR h o) (gI h o) b :: rest))) : W p l e R s mid args below meth c H locs cells slots Q (F0 mid pc ls (.ref (base + o) :: rest)) := by
  obtain ⟨hx, hb, hr, hml, hown, hts, hlocks, hnm, hK, hOd, hbs, hfr, hlo, hrc, hrs⟩ := id hC
  have hP := one_P (hR.2 o ho)
  rw [cel_cls hk hci] at hP
  exact va_get (D := (dC, dI)) (ci := ci) hx hb hts (inC ci hci) hown hK hP 0 rfl (vwAt ci hci) b hb9 (hts _ hl) (fun _ q => q) (range_map_get hb9) hd kk
set_option maxHeartbeats 1000000 in
theorem r_put {o ci b idx : Nat} {v : Value} {rest : List Value} {h' : Hp} (hC : Cx p R s mid args meth c dC dI cy base Od m k MC MS) (hS : St s dC dI cy base Od m hF MC MS H locs ls L h cells slots) (hk : KD o = ci) (ho : o < h.1) (hci : ci < 9) (hb9 : b < nF ci) (hl : Cond.fieldLink (yM m).cls idx (TM ci b).1 (TM ci b).2.1 (TM ci b).2.2.1 ∈ TBL) (hfin : (TM ci b).2.2.2 = false) (hn : narrow (tyM ci b) v = v) (hfit : fits (tyM ci b) v = true) (hd : decode (bM m) pc = .ok (.putfield idx, 3))
    (hv : fvV base ci (gR h' o) (gI h' o) b = v) (hoth : ∀ j, ¬ j = b → fvV base ci (gR h' o) (gI h' o) j = fvV base ci (gR h o) (gI h o) j) (e1 : h'.1 = h.1) (e2 : h'.2.1 = h.2.1) (hc : ∀ j, ¬ j = o → cel cy base h' j = cel cy base h j)
    (kk : ∀ (H1 : Heap) (locs1 : List Loc), St s dC dI cy base Od m hF MC MS H1 locs1 ls L h' cells slots → W p l e R s mid args below meth c H1 locs1 cells slots Q (F0 mid (pc + 3) ls rest)) : W p l e R s mid args below meth c H locs cells slots Q (F0 mid pc ls (v :: .ref (base + o) :: rest)) := by
  obtain ⟨hx, hb, hr, hml, hown, hts, hlocks, hnm, hK, hOd, hbs, hfr, hlo, hrc, hrs⟩ := id hC
  have hR := hS.1
  have hap := va_apart (own := (yM m).cls) (D := (dC, dI)) (cl := vwCl) hts (inC ci hci) (tyM ci) (tyMok ci hci) (nmMok ci hci) hK (vwAt ci hci)
  have hat := hR.2 o ho
  rw [cel_cls hk hci] at hat
  obtain ⟨r, h1, cell, q1, q2, q3, q4⟩ := hat
  have hr : r = (RM ci, TM ci, nF ci) := Option.some.inj (h1.symm.trans (vwAt ci hci))
  subst hr
  obtain ⟨hSl, hfc, kC, hkC, hkind⟩ := hK.1 ci _ (vwAt ci hci)
  obtain ⟨cf, kf, fi, f, hi, hsl⟩ := hSl b hb9
  have hlay := hts _ (inC ci hci _ (u_in_lay hb9))
  unfold u_lay at hlay
  rw [if_neg (by rw [hfin]; decide)] at hlay
  have hst := (u_facts hfc hkC (u_lays hts (inC ci hci) hb9) hi).1
  have h6 := u_store hfc hkC hkind hlay hi (tyMok ci hci b hb9) hn hfit
  refine W.putK hx hb (f := f) ⟨hown, hts _ hl, ⟨_, _, _, hi⟩, hst⟩ (by rw [q2]; exact h6) q1 q3 (by rw [hsl]; exact k2_hasslot (q4 b hb9)) rfl rfl hd fun H' g1 g2 g3 => ?_
  rw [hsl] at g1 ⊢
  refine kk H' _ (hS.heap hOd (hR.put e1 hc ?_ g2 g3) (hS.2.2.1.put g2 g3 (Nat.le_add_right base o)) o g3 e1 e2)
  rw [cel_cls hk hci]
  refine ⟨_, vwAt ci hci, t_OB.to (V := updV (vp_V ((List.range (nF ci)).map (fvV base ci (gR h o) (gI h o)))) b v) ⟨_, g1, q2, q3, t_set q4 hap hb9 v⟩ (fun j _ => ?_)⟩
  rw [vp_updV_set (by simp; exact hb9) v j, range_map_set hv hoth]
set_option maxHeartbeats 1000000 in
theorem r_putF {o ci b idx : Nat} {v : Value} {rest : List Value} {h' : Hp} (hC : Cx p R s mid args meth c dC dI cy base Od m k MC MS) (hS : St s dC dI cy base Od m hF MC MS H locs ls L h cells slots) (hk : KD o = ci) (ho : o < h.1) (hci : ci < 9) (hb9 : b < nF ci) (hl : Cond.fieldLink (yM m).cls idx (TM ci b).1 (TM ci b).2.1 (TM ci b).2.2.1 ∈ TBL) (hfin : (TM ci b).2.2.2 = true) (hin2 : (yM m).name = "<init>") (hdecl : (TM ci b).1 = (yM m).cls) (hn : narrow (tyM ci b) v = v) (hfit : fits (tyM ci b) v = true) (hd : decode (bM m) pc = .ok (.putfield idx, 3))
    (hv : fvV base ci (gR h' o) (gI h' o) b = v) (hoth : ∀ j, ¬ j = b → fvV base ci (gR h' o) (gI h' o) j = fvV base ci (gR h o) (gI h o) j) (e1 : h'.1 = h.1) (e2 : h'.2.1 = h.2.1) (hc : ∀ j, ¬ j = o → cel cy base h' j = cel cy base h j)
    (kk : ∀ (H1 : Heap) (locs1 : List Loc), St s dC dI cy base Od m hF MC MS H1 locs1 ls L h' cells slots → W p l e R s mid args below meth c H1 locs1 cells slots Q (F0 mid (pc + 3) ls rest)) : W p l e R s mid args below meth c H locs cells slots Q (F0 mid pc ls (v :: .ref (base + o) :: rest)) := by
  obtain ⟨hx, hb, hr, hml, hown, hts, hlocks, hnm, hK, hOd, hbs, hfr, hlo, hrc, hrs⟩ := id hC
  have hR := hS.1
  have hap := va_apart (own := (yM m).cls) (D := (dC, dI)) (cl := vwCl) hts (inC ci hci) (tyM ci) (tyMok ci hci) (nmMok ci hci) hK (vwAt ci hci)
  have hat := hR.2 o ho
  rw [cel_cls hk hci] at hat
  obtain ⟨r, h1, cell, q1, q2, q3, q4⟩ := hat
  have hr : r = (RM ci, TM ci, nF ci) := Option.some.inj (h1.symm.trans (vwAt ci hci))
  subst hr
  obtain ⟨hSl, hfc, kC, hkC, hkind⟩ := hK.1 ci _ (vwAt ci hci)
  obtain ⟨cf, kf, fi, f, hi, hsl⟩ := hSl b hb9
  have hlay := hts _ (inC ci hci _ (u_in_lay hb9))
  unfold u_lay at hlay
  rw [if_pos hfin] at hlay
  have hst := (u_facts hfc hkC (u_lays hts (inC ci hci) hb9) hi).1
  have hcf : mid.cls = cf := by
    obtain ⟨_, _, c', _, _, _, -, -, hf', -, -, -, hown2, -⟩ := Cond.laysFinal_spec hlay
    have e1 : c' = cf := by have := hi.symm.trans hf'; simp at this; exact this.1.symm
    rw [hdecl] at hown2
    rw [← e1]; exact Option.some.inj (hown.symm.trans hown2)
  have h6 := u_fits hfc hkC hkind (Or.inr hlay) hi (tyMok ci hci b hb9) hn hfit
  refine W.putFinK hx hb hown (hts _ hl) hi hst hcf (hnm.trans hin2) (by rw [q2]; exact h6) q1 q3 (by rw [hsl]; exact k2_hasslot (q4 b hb9)) rfl rfl hd fun H' g1 g2 g3 => ?_
  rw [hsl] at g1 ⊢
  refine kk H' _ (hS.heap hOd (hR.put e1 hc ?_ g2 g3) (hS.2.2.1.put g2 g3 (Nat.le_add_right base o)) o g3 e1 e2)
  rw [cel_cls hk hci]
  refine ⟨_, vwAt ci hci, t_OB.to (V := updV (vp_V ((List.range (nF ci)).map (fvV base ci (gR h o) (gI h o)))) b v) ⟨_, g1, q2, q3, t_set q4 hap hb9 v⟩ (fun j _ => ?_)⟩
  rw [vp_updV_set (by simp; exact hb9) v j, range_map_set hv hoth]
set_option maxHeartbeats 2000000 in
theorem sd6 {s0 np a b cc d e0 : Nat} {x : Int32} {sw : List (Int32 × Nat)} {fl : Bool} (hC : Cx p R s mid args meth c dC dI cy base Od m k MC MS) (hgo : Sn p l e R s mid args below meth c dC dI cy base Od m rF hF MC MS Q go) (hok : okI m pc (6, s0, np, a, b, cc, d, e0, x, sw, fl) = true)
    (hst : stp6 chkO bndO go none s0 np a b L S h = some (rF, hF)) (hS : St s dC dI cy base Od m hF MC MS H locs ls L h cells slots) : W p l e R s mid args below meth c H locs cells slots Q (F0 mid pc ls (S.map (cvV base))) := by
  obtain ⟨hd, hnp, ha⟩ := hd_of hok (show ¬ (6 : Nat) = 99 by decide)
  obtain ⟨hx, hb, hr, hml, hown, hts, hlocks, hnm, hK, hOd, hbs, hfr, hlo, hrc, hrs⟩ := id hC
  have hLR := hS.2.2.2.1
  obtain ⟨nx, sl, ln, Rr, I⟩ := h
  unfold stp6 at hst
  dsimp only at hst
  split at hst
  · replace hnp : np = pc + 3 := hnp
    subst hnp
    unfold chkO at hst
    split at hst
    rotate_left
    · cases hst
    rename_i hq
    replace ha : (tbB d (.fieldLink (yM m).cls cc (TM a b).1 (TM a b).2.1 (TM a b).2.2.1) && Nat.blt b (nF a) && !fr a b && Nat.blt a 9) = true := ha
    simp only [Bool.and_eq_true] at ha
    obtain ⟨⟨⟨a1, a2⟩, a3⟩, a4⟩ := ha
    have a3 : fr a b = false := by simpa using a3
    refine r_get hC hS.1 hq.1 hq.2 (Nat.le_of_ble_eq_true a4) (Nat.le_of_ble_eq_true a2) (tb_of a1) hd ?_
    rw [show fvV base a (gR (nx, sl, ln, Rr, I) _) (gI (nx, sl, ln, Rr, I) _) b = .int (I _ b) by unfold fvV; rw [a3]; rfl]
    exact hgo _ _ _ _ _ _ _ _ _ hst hS
  · replace hnp : np = pc + 3 := hnp
    subst hnp
    unfold chkO at hst
    split at hst
    rotate_left
    · cases hst
    rename_i hq
    replace ha : (tbB d (.fieldLink (yM m).cls cc (TM a b).1 (TM a b).2.1 (TM a b).2.2.1) && Nat.blt b (nF a) && fr a b && Nat.blt a 9) = true := ha
    simp only [Bool.and_eq_true] at ha
    obtain ⟨⟨⟨a1, a2⟩, a3⟩, a4⟩ := ha
    refine r_get hC hS.1 hq.1 hq.2 (Nat.le_of_ble_eq_true a4) (Nat.le_of_ble_eq_true a2) (tb_of a1) hd ?_
    rw [show fvV base a (gR (nx, sl, ln, Rr, I) _) (gI (nx, sl, ln, Rr, I) _) b = cvV base (rv (Rr _ b)) by unfold fvV; rw [a3, cvV_rv]; rfl]
    exact hgo _ _ _ _ _ _ _ _ _ hst hS
  · replace hnp : np = pc + 3 := hnp
    subst hnp
    unfold chkO at hst
    split at hst
    rotate_left
    · cases hst
    rename_i v o r hq
    replace ha : (tbB d (.fieldLink (yM m).cls cc (TM a b).1 (TM a b).2.1 (TM a b).2.2.1) && Nat.blt b (nF a) && !fr a b && Nat.blt a 9 && decide ((TM a b).2.2.1 = "I") && !(TM a b).2.2.2) = true := ha
    simp only [Bool.and_eq_true] at ha
    obtain ⟨⟨⟨⟨⟨a1, a2⟩, a3⟩, a4⟩, a5⟩, a6⟩ := ha
    have a3 : fr a b = false := by simpa using a3
    have a6 : (TM a b).2.2.2 = false := by simpa using a6
    have hty : tyM a b = .int := by have := tyMok a (Nat.le_of_ble_eq_true a4) b (Nat.le_of_ble_eq_true a2); rw [of_decide_eq_true a5] at this; exact (Option.some.inj ((show parseFieldDescriptor "I" = some .int by decide +kernel).symm.trans this)).symm
    exact r_put (h' := (nx, sl, ln, Rr, up2 I o b v)) hC hS hq.1 hq.2 (Nat.le_of_ble_eq_true a4) (Nat.le_of_ble_eq_true a2) (tb_of a1) a6 (by rw [hty]; rfl) (by rw [hty]; rfl) hd (by unfold fvV; rw [a3]; show Value.int (up2 I _ b _ _ b) = _; rw [up2_eq, up1_eq]; rfl) (fun j hj => by unfold fvV; cases hf : fr a j <;> first | rfl | (show Value.int (up2 I _ b _ _ j) = Value.int (I _ j); rw [up2_eq, up1_ne hj])) rfl rfl (fun j hj => cel_same rfl rfl (up2_ne hj)) (fun H1 locs1 hS1 => hgo _ _ _ _ _ _ _ _ _ hst hS1)
  · replace hnp : np = pc + 3 := hnp
    subst hnp
    unfold chkO at hst
    split at hst
    rotate_left
    · cases hst
    rename_i v o r hq
    replace ha : (tbB d (.fieldLink (yM m).cls cc (TM a b).1 (TM a b).2.1 (TM a b).2.2.1) && Nat.blt b (nF a) && !fr a b && Nat.blt a 9 && decide ((TM a b).2.2.1 = "Z") && !(TM a b).2.2.2) = true := ha
    simp only [Bool.and_eq_true] at ha
    obtain ⟨⟨⟨⟨⟨a1, a2⟩, a3⟩, a4⟩, a5⟩, a6⟩ := ha
    have a3 : fr a b = false := by simpa using a3
    have a6 : (TM a b).2.2.2 = false := by simpa using a6
    have hty : tyM a b = .boolean := by have := tyMok a (Nat.le_of_ble_eq_true a4) b (Nat.le_of_ble_eq_true a2); rw [of_decide_eq_true a5] at this; exact (Option.some.inj ((show parseFieldDescriptor "Z" = some .boolean by decide +kernel).symm.trans this)).symm
    exact r_put (h' := (nx, sl, ln, Rr, up2 I o b v)) hC hS hq.1.1 hq.1.2 (Nat.le_of_ble_eq_true a4) (Nat.le_of_ble_eq_true a2) (tb_of a1) a6 (by rw [hty]; rcases hq.2 with q | q <;> rw [q] <;> rfl) (by rw [hty]; rcases hq.2 with q | q <;> rw [q] <;> rfl) hd (by unfold fvV; rw [a3]; show Value.int (up2 I _ b _ _ b) = _; rw [up2_eq, up1_eq]; rfl) (fun j hj => by unfold fvV; cases hf : fr a j <;> first | rfl | (show Value.int (up2 I _ b _ _ j) = Value.int (I _ j); rw [up2_eq, up1_ne hj])) rfl rfl (fun j hj => cel_same rfl rfl (up2_ne hj)) (fun H1 locs1 hS1 => hgo _ _ _ _ _ _ _ _ _ hst hS1)
  · replace hnp : np = pc + 3 := hnp
    subst hnp
    unfold chkO at hst
    split at hst
    rotate_left
    · cases hst
    rename_i v o r hq
    replace ha : (tbB d (.fieldLink (yM m).cls cc (TM a b).1 (TM a b).2.1 (TM a b).2.2.1) && Nat.blt b (nF a) && !fr a b && Nat.blt a 9 && decide ((TM a b).2.2.1 = "I") && (TM a b).2.2.2 && decide ((TM a b).1 = (yM m).cls) && decide ((yM m).name = "<init>")) = true := ha
    simp only [Bool.and_eq_true] at ha
    obtain ⟨⟨⟨⟨⟨⟨⟨a1, a2⟩, a3⟩, a4⟩, a5⟩, a6⟩, a7⟩, a8⟩ := ha
    have a3 : fr a b = false := by simpa using a3
    have hty : tyM a b = .int := by have := tyMok a (Nat.le_of_ble_eq_true a4) b (Nat.le_of_ble_eq_true a2); rw [of_decide_eq_true a5] at this; exact (Option.some.inj ((show parseFieldDescriptor "I" = some .int by decide +kernel).symm.trans this)).symm
    exact r_putF (h' := (nx, sl, ln, Rr, up2 I o b v)) hC hS hq.1 hq.2 (Nat.le_of_ble_eq_true a4) (Nat.le_of_ble_eq_true a2) (tb_of a1) a6 (of_decide_eq_true a8) (of_decide_eq_true a7) (by rw [hty]; rfl) (by rw [hty]; rfl) hd (by unfold fvV; rw [a3]; show Value.int (up2 I _ b _ _ b) = _; rw [up2_eq, up1_eq]; rfl) (fun j hj => by unfold fvV; cases hf : fr a j <;> first | rfl | (show Value.int (up2 I _ b _ _ j) = Value.int (I _ j); rw [up2_eq, up1_ne hj])) rfl rfl (fun j hj => cel_same rfl rfl (up2_ne hj)) (fun H1 locs1 hS1 => hgo _ _ _ _ _ _ _ _ _ hst hS1)
  · replace hnp : np = pc + 3 := hnp
    subst hnp
    unfold chkO at hst
    split at hst
    rotate_left
    · cases hst
    rename_i v o r hq
    replace ha : (tbB d (.fieldLink (yM m).cls cc (TM a b).1 (TM a b).2.1 (TM a b).2.2.1) && Nat.blt b (nF a) && fr a b && Nat.blt a 9 && (TM a b).2.2.2 && decide ((TM a b).1 = (yM m).cls) && decide ((yM m).name = "<init>")) = true := ha
    simp only [Bool.and_eq_true] at ha
    obtain ⟨⟨⟨⟨⟨⟨a1, a2⟩, a3⟩, a4⟩, a6⟩, a7⟩, a8⟩ := ha
    have hrt := frM a (Nat.le_of_ble_eq_true a4) b (Nat.le_of_ble_eq_true a2) a3
    exact r_putF (h' := (nx, sl, ln, up2 Rr o b (some v), I)) hC hS hq.1 hq.2 (Nat.le_of_ble_eq_true a4) (Nat.le_of_ble_eq_true a2) (tb_of a1) a6 (of_decide_eq_true a8) (of_decide_eq_true a7) (isRT_fits hrt).1 (isRT_fits hrt).2 hd (by unfold fvV; rw [a3]; show va_rf (rA base (up2 Rr _ b _ _ b)) = _; rw [up2_eq, up1_eq]; rfl) (fun j hj => by unfold fvV; cases hf : fr a j <;> first | rfl | (show va_rf (rA base (up2 Rr _ b _ _ j)) = va_rf (rA base (Rr _ j)); rw [up2_eq, up1_ne hj])) rfl rfl (fun j hj => cel_same rfl (up2_ne hj) rfl) (fun H1 locs1 hS1 => hgo _ _ _ _ _ _ _ _ _ hst hS1)
  · cases hst

end Rows
