/-! What the start gives: the classes, the array classes, the constants. -/
theorem inst_0 : Cond.instantiable (RM 0) (nF 0) ∈ lw_tbl := List.mem_of_getElem? (i := 108) (by decide +kernel)
theorem inst_1 : Cond.instantiable (RM 1) (nF 1) ∈ lw_tbl := List.mem_of_getElem? (i := 81) (by decide +kernel)
theorem inst_2 : Cond.instantiable (RM 2) (nF 2) ∈ lw_tbl := List.mem_of_getElem? (i := 196) (by decide +kernel)
theorem inst_3 : Cond.instantiable (RM 3) (nF 3) ∈ lw_tbl := List.mem_of_getElem? (i := 234) (by decide +kernel)
theorem inst_4 : Cond.instantiable (RM 4) (nF 4) ∈ lw_tbl := List.mem_of_getElem? (i := 254) (by decide +kernel)
theorem inst_5 : Cond.instantiable (RM 5) (nF 5) ∈ lw_tbl := List.mem_of_getElem? (i := 754) (by decide +kernel)
theorem inst_6 : Cond.instantiable (RM 6) (nF 6) ∈ lw_tbl := List.mem_of_getElem? (i := 101) (by decide +kernel)
theorem inst_7 : Cond.instantiable (RM 7) (nF 7) ∈ lw_tbl := List.mem_of_getElem? (i := 73) (by decide +kernel)
theorem inst_8 : Cond.instantiable (RM 8) (nF 8) ∈ lw_tbl := List.mem_of_getElem? (i := 879) (by decide +kernel)
theorem inst_w : ∀ ci, ci < 9 → Cond.instantiable (RM ci) (nF ci) ∈ lw_tbl := fun ci h => match ci, h with
  | 0, _ => inst_0
  | 1, _ => inst_1
  | 2, _ => inst_2
  | 3, _ => inst_3
  | 4, _ => inst_4
  | 5, _ => inst_5
  | 6, _ => inst_6
  | 7, _ => inst_7
  | 8, _ => inst_8
  | n + 9, h => absurd h (by omega)
theorem aw_byte : Cond.arrayClass .byte ∈ lw_tbl := List.mem_of_getElem? (i := 231) (by decide +kernel)
theorem aw_char : Cond.arrayClass .char ∈ lw_tbl := List.mem_of_getElem? (i := 993) (by decide +kernel)
theorem aw_int : Cond.arrayClass .int ∈ lw_tbl := List.mem_of_getElem? (i := 99) (by decide +kernel)
theorem aw_boolean : Cond.arrayClass .boolean ∈ lw_tbl := List.mem_of_getElem? (i := 994) (by decide +kernel)
theorem ao_0 : Cond.arrayOver (.object RX0) ∈ lw_tbl := List.mem_of_getElem? (i := 107) (by decide +kernel)
theorem ao_3 : Cond.arrayOver (.object RX3) ∈ lw_tbl := List.mem_of_getElem? (i := 233) (by decide +kernel)
theorem ao_4 : Cond.arrayOver (.object RX4) ∈ lw_tbl := List.mem_of_getElem? (i := 253) (by decide +kernel)
theorem ao_5 : Cond.arrayOver (.object RX5) ∈ lw_tbl := List.mem_of_getElem? (i := 87) (by decide +kernel)
theorem ls_cs : Cond.laysStatic "java/lang/String" "COMPACT_STRINGS" "Z" ∈ lw_tbl := List.mem_of_getElem? (i := 627) (by decide +kernel)
theorem in_cs : Cond.initialized "java/lang/String" ∈ lw_tbl := List.mem_of_getElem? (i := 66) (by decide +kernel)
theorem ls_sf : Cond.laysStatic "jdk/internal/util/Preconditions" "SIOOBE_FORMATTER" "Ljava/util/function/BiFunction;" ∈ lw_tbl := List.mem_of_getElem? (i := 643) (by decide +kernel)
theorem in_sf : Cond.initialized "jdk/internal/util/Preconditions" ∈ lw_tbl := List.mem_of_getElem? (i := 68) (by decide +kernel)
theorem ls_ka : Cond.laysStatic "JugMemory$Jug" "KIND_ABOVE" "[I" ∈ lw_tbl := List.mem_of_getElem? (i := 393) (by decide +kernel)
theorem in_ka : Cond.initialized "JugMemory$Jug" ∈ lw_tbl := List.mem_of_getElem? (i := 58) (by decide +kernel)
theorem sw_0 : Cond.stringRef RX2 (srK 0) (srT 0) ∈ lw_tbl := List.mem_of_getElem? (i := 613) (by decide +kernel)
theorem sw_1 : Cond.stringRef RX2 (srK 1) (srT 1) ∈ lw_tbl := List.mem_of_getElem? (i := 666) (by decide +kernel)
theorem sw_2 : Cond.stringRef RX2 (srK 2) (srT 2) ∈ lw_tbl := List.mem_of_getElem? (i := 667) (by decide +kernel)
theorem sw_3 : Cond.stringRef RX2 (srK 3) (srT 3) ∈ lw_tbl := List.mem_of_getElem? (i := 680) (by decide +kernel)
theorem sw_4 : Cond.stringRef RX2 (srK 4) (srT 4) ∈ lw_tbl := List.mem_of_getElem? (i := 681) (by decide +kernel)
theorem sw_5 : Cond.stringRef RX2 (srK 5) (srT 5) ∈ lw_tbl := List.mem_of_getElem? (i := 682) (by decide +kernel)
theorem sw_w : ∀ i, i < 6 → Cond.stringRef RX2 (srK i) (srT i) ∈ lw_tbl := fun i h => match i, h with
  | 0, _ => sw_0
  | 1, _ => sw_1
  | 2, _ => sw_2
  | 3, _ => sw_3
  | 4, _ => sw_4
  | 5, _ => sw_5
  | n + 6, h => absurd h (by omega)
theorem arP {s : State} {args : Array Value} {ty : FieldType} (h : (Cond.arrayClass ty).before args s = true) : ∃ cA, ArrOfT s cA ty ∧ s.vm.findClass ("[" ++ ty.toString) = some cA := by
  obtain ⟨c, k, comp, h1, h2, h3⟩ := Cond.arrayClass_spec h
  exact ⟨c, fun n z => ⟨fun _ h => (by cases h), k, h2, comp, h3⟩, h1⟩
theorem arR {s : State} {args : Array Value} {C : String} (h : (Cond.arrayOver (.object C)).before args s = true) : ∃ cA, ArrOfT s cA (.object C) ∧ va_RA s cA (.object C) := by
  obtain ⟨comp, c, k, h1, -, h3, h4, h5⟩ := Cond.arrayOver_spec h
  exact ⟨c, fun n z => ⟨fun _ h => (by cases h), k, h3, comp, h4⟩, k, comp, h3, h4, h1, h5⟩
theorem env_K {s : State} {args : Array Value} (hts : ∀ w ∈ lw_tbl, w.before args s = true) : ∃ (dC : Nat → ClassId) (dI : Nat → Nat → Nat) (cy : Nat → ClassId), va_K (dC, dI) vwCl (tysL cy) s := by
  have hT : ∀ w ∈ TBL, w.before args s = true := fun w hw => hts w (List.mem_filter.mp hw).1
  have h0 : ∀ ci, ∃ d : ClassId × (Nat → Nat), ci < 9 → u_Kn s (RM ci) (TM ci) (nF ci) d.1 d.2 := by
    intro ci
    by_cases hci : ci < 9
    · obtain ⟨c, i, h⟩ := u_known hT (inC ci hci) (hts _ (inst_w ci hci))
      exact ⟨(c, i), fun _ => h⟩
    · exact ⟨(0, fun _ => 0), fun h => absurd h hci⟩
  obtain ⟨d, hd⟩ := Classical.axiomOfChoice h0
  obtain ⟨c9, a9, b9⟩ := arP (hts _ aw_byte)
  obtain ⟨c10, a10, b10⟩ := arP (hts _ aw_char)
  obtain ⟨c11, a11, b11⟩ := arP (hts _ aw_int)
  obtain ⟨c12, a12, b12⟩ := arP (hts _ aw_boolean)
  obtain ⟨c13, a13, b13⟩ := arR (hts _ ao_0)
  obtain ⟨c14, a14, b14⟩ := arR (hts _ ao_3)
  obtain ⟨c15, a15, b15⟩ := arR (hts _ ao_4)
  obtain ⟨c16, a16, b16⟩ := arR (hts _ ao_5)
  refine ⟨fun k => (d k).1, fun k => (d k).2, fun k => [c9, c10, c11, c12, c13, c14, c15, c16].getD (k - 9) c9, fun k q hq => ?_, fun k q hq => ?_⟩
  · have hk : k < 9 := (List.getElem?_eq_some_iff.mp hq).1
    have e := (vwAt k hk).symm.trans hq
    cases e
    exact hd k hk
  · match k, hq with
    | 0, hq => cases hq; exact ⟨a9, b9⟩
    | 1, hq => cases hq; exact ⟨a10, b10⟩
    | 2, hq => cases hq; exact ⟨a11, b11⟩
    | 3, hq => cases hq; exact ⟨a12, b12⟩
    | 4, hq => cases hq; exact ⟨a13, b13⟩
    | 5, hq => cases hq; exact ⟨a14, b14⟩
    | 6, hq => cases hq; exact ⟨a15, b15⟩
    | 7, hq => cases hq; exact ⟨a16, b16⟩
    | k + 8, hq => cases hq
def GN : List Cond := flatC (Jvm.Cond.and given_1 narrow_1)
theorem gn_cs : Cond.eq (.static "java/lang/String" "COMPACT_STRINGS" "Z") (.int 1) ∈ GN := by decide +kernel
theorem gn_sf : Cond.isRef (.static "jdk/internal/util/Preconditions" "SIOOBE_FORMATTER" "Ljava/util/function/BiFunction;") ∈ GN := by decide +kernel
theorem gn_ka : Cond.arrayOf (.static "JugMemory$Jug" "KIND_ABOVE" "[I") .int ∈ GN := by decide +kernel
theorem gn_kl : Cond.eq (.length (.static "JugMemory$Jug" "KIND_ABOVE" "[I")) (.int (Int32.ofNat 6)) ∈ GN := by decide +kernel
theorem gn_ke : ∀ j, j < 6 → Cond.eq (.elem (.static "JugMemory$Jug" "KIND_ABOVE" "[I") (.int (Int32.ofNat j))) (.int (kAb j)) ∈ GN := by decide +kernel
def tmS (i : Nat) : Term := .string "JugMemory$Reader" (srK i)
theorem gn_ex : ∀ i, i < 6 → Cond.exactly (tmS i) "java/lang/String" ∈ GN := by decide +kernel
theorem gn_co : ∀ i, i < 6 → Cond.eq (.field (tmS i) "java/lang/String" "coder" "B") (.int 0) ∈ GN := by decide +kernel
theorem gn_ar : ∀ i, i < 6 → Cond.arrayOf (.field (tmS i) "java/lang/String" "value" "[B") .byte ∈ GN := by decide +kernel
theorem gn_le : ∀ i, i < 6 → Cond.eq (.length (.field (tmS i) "java/lang/String" "value" "[B")) (.int (Int32.ofNat (srL.getD i 0))) ∈ GN := by decide +kernel
theorem gn_el : ∀ i, i < 6 → ∀ j, j < srL.getD i 0 → Cond.eq (.elem (.field (tmS i) "java/lang/String" "value" "[B") (.int (Int32.ofNat j))) (.int ((srB.getD i []).getD j 0)) ∈ GN := by decide +kernel
theorem gn_ne : ∀ i, i < 6 → ∀ j, j < 6 → i ≠ j → Cond.not (Cond.eq (tmS i) (tmS j)) ∈ GN ∨ Cond.not (Cond.eq (tmS j) (tmS i)) ∈ GN := by decide +kernel
theorem env_J {s : State} {args : Array Value} (hts : ∀ w ∈ lw_tbl, w.before args s = true) (hgv : (Jvm.Cond.and given_1 narrow_1).before args s = true) : ∃ (ad av : Nat → Nat) (ta : Nat), OJ s.heap.size ad av ta s s.heap := by
  have hs : ∀ w ∈ GN, w.before args s = true := flat_of_before _ hgv
  have hA : ∀ a : Nat, a < s.heap.size → ¬ (fun q : Nat => s.heap.size ≤ q) a := fun a h => Nat.not_le.mpr h
  obtain ⟨ta, ht, hT⟩ := va_Tof (N := 6) (f := fun j => .int (kAb j)) (A := fun q : Nat => s.heap.size ≤ q) (by decide) (hs _ gn_ka) (va_eqt (hs _ gn_kl)) (fun j hj => va_eqt (hs _ (gn_ke j hj))) hA
  obtain ⟨ad, av, hS, hE⟩ := vk_Sof (N := 6) (tm := tmS) (len := srL) (byt := srB) (A := fun q : Nat => s.heap.size ≤ q) (fun i hi => Nat.lt_of_le_of_lt (sr_len i hi) (by decide)) (fun i hi => hs _ (gn_ex i hi)) (fun i hi => hs _ (gn_co i hi)) (fun i hi => hs _ (gn_ar i hi)) (fun i hi => hs _ (gn_le i hi)) (fun i hi j hj => hs _ (gn_el i hi j hj)) (fun i j hi hj hn => by
    rcases gn_ne i hi j hj hn with q | q
    · exact Or.inl (hs _ q)
    · exact Or.inr (hs _ q)) hA
  exact ⟨ad, av, ta, va_Zof (hts _ ls_cs) (hts _ in_cs) (va_eqi (hs _ gn_cs)) hA, va_Zqof (hts _ ls_sf) (hts _ in_sf) (hs _ gn_sf) hA, hS, ⟨va_Zref (hts _ ls_ka) (hts _ in_ka) ht hA, hT⟩, fun i hi => vk_R.of (hts _ (sw_w i hi)) (hE i hi)⟩
theorem odOk_J (base ta : Nat) (ad av : Nat → Nat) : OdOk base (OJ base ad av ta) := ⟨fun _ _ _ hW h => h.warm hW, fun _ _ _ hq h => h.kept hq⟩
