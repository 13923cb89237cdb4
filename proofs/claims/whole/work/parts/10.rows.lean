theorem St.loc {s : State} {dC : Nat → ClassId} {dI : Nat → Nat → Nat} {cy : Nat → ClassId} {base : Nat} {Od : State → Heap → Prop} {m : Nat} {hF : Hp} {MC MS : Nat} {H : Heap} {locs : List Loc} {ls ls' : Array Slot} {L L' : List (Option Value)} {h : Hp} {cells slots : Nat} (hS : St s dC dI cy base Od m hF MC MS H locs ls L h cells slots) (h1 : LR base ls' L') (h2 : L'.length = L.length) : St s dC dI cy base Od m hF MC MS H locs ls' L' h cells slots :=
  ⟨hS.1, hS.2.1, hS.2.2.1, h1, h2.trans hS.2.2.2.2.1, hS.2.2.2.2.2⟩
def swT (v : Int32) (d : Nat) : List (Int32 × Nat) → Nat
  | [] => d
  | (k, t) :: r => if v = k then t else swT v d r
theorem swF_O (v : Int32) (g : Nat → Rs) (d : Nat) (sw : List (Int32 × Nat)) : swF brO v g d sw = g (swT v d sw) := by
  induction sw with
  | nil => rfl
  | cons q r ih =>
    obtain ⟨k, t⟩ := q
    by_cases h : v = k
    · simp only [swF, swT, brO, if_pos h]
    · simp only [swF, swT, brO, if_neg h]; exact ih
theorem swT_in (x : Int32) (d : Nat) : ∀ (sw : List (Int32 × Nat)) (lo : Int), (∀ i, i < sw.length → (sw.getD i (0, 0)).1.toInt = lo + (i : Int)) → lo ≤ x.toInt → x.toInt < lo + sw.length → swT x d sw = (sw.getD (x.toInt - lo).toNat (0, 0)).2 := by
  intro sw
  induction sw with
  | nil => intro lo _ h1 h2; simp at h2; omega
  | cons q r ih =>
    intro lo hk h1 h2
    obtain ⟨k, t⟩ := q
    have h0 : k.toInt = lo := by have := hk 0 (Nat.zero_lt_succ _); simpa using this
    by_cases hx : x = k
    · subst hx
      rw [h0]
      simp [swT]
    · have hne : ¬ x.toInt = lo := fun q => hx (Int32.toInt_inj.mp (q.trans h0.symm))
      simp only [swT, if_neg hx]
      rw [ih (lo + 1) (fun i hi => by have := hk (i + 1) (Nat.succ_lt_succ hi); simp only [List.getD_cons_succ] at this; rw [this]; push_cast; omega) (by omega) (by simp at h2; omega)]
      rw [show (x.toInt - lo).toNat = (x.toInt - (lo + 1)).toNat + 1 by omega, List.getD_cons_succ]
theorem swT_out (x : Int32) (d : Nat) : ∀ (sw : List (Int32 × Nat)) (lo : Int), (∀ i, i < sw.length → (sw.getD i (0, 0)).1.toInt = lo + (i : Int)) → (x.toInt < lo ∨ lo + sw.length ≤ x.toInt) → swT x d sw = d := by
  intro sw
  induction sw with
  | nil => intro lo _ _; rfl
  | cons q r ih =>
    intro lo hk h1
    obtain ⟨k, t⟩ := q
    have h0 : k.toInt = lo := by have := hk 0 (Nat.zero_lt_succ _); simpa using this
    have hx : ¬ x = k := fun q => by rw [q, h0] at h1; simp at h1; omega
    simp only [swT, if_neg hx]
    exact ih (lo + 1) (fun i hi => by have := hk (i + 1) (Nat.succ_lt_succ hi); simp only [List.getD_cons_succ] at this; rw [this]; push_cast; omega) (by simp at h1; omega)
theorem swT_off (x : Int32) (pc d : Nat) : ∀ (sw : List (Int32 × Nat)), Op.lookupswitch.offset (sw.map (fun q => (q.1.toInt, (q.2 : Int) - (pc : Int)))) ((d : Int) - (pc : Int)) x.toInt = (swT x d sw : Int) - (pc : Int) := by
  intro sw
  induction sw with
  | nil => rfl
  | cons q r ih =>
    obtain ⟨k, t⟩ := q
    by_cases hx : x = k
    · subst hx
      simp [swT, Op.lookupswitch.offset]
    · simp only [swT, if_neg hx, List.map_cons]
      rw [lv_osw hx rfl]
      exact ih
theorem sw_sorted (pc : Nat) (sw : List (Int32 × Nat)) (h : ((sw.map (fun q => (q.1.toInt, q.2))).zip ((sw.map (fun q => (q.1.toInt, q.2))).drop 1)).all (fun q => decide (q.1.1 < q.2.1)) = true) : (((sw.map (fun q => (q.1.toInt, (q.2 : Int) - (pc : Int)))).toArray.toList).zip (((sw.map (fun q => (q.1.toInt, (q.2 : Int) - (pc : Int)))).toArray.toList).drop 1)).all (fun (a, next) => a.1 < next.1) = true := by
  rw [← List.map_drop, List.zip_map, List.all_map] at h ⊢
  exact h
theorem cat_sum (r : List Value) : (r.map fun v => v.category).sum ≤ 2 * r.length := by
  induction r with
  | nil => simp
  | cons v r ih =>
    rcases lv_cat v with q | q <;> simp [q] <;> omega
theorem cat_sumC (base : Nat) (r : List Value) : ((r.map (cvV base)).map fun v => v.category).sum ≤ 2 * r.length := by
  have := cat_sum (r.map (cvV base)); rw [List.length_map] at this; exact this
theorem wS_min : Cond.static Lib.Math.min.name ∈ TBL := List.mem_filter.mpr ⟨List.mem_of_getElem? (i := 365) (by decide +kernel), by decide +kernel⟩
theorem wC_min : Cond.code Lib.Math.min.name Lib.Math.min.code 2 (some .int) ∈ TBL := List.mem_filter.mpr ⟨List.mem_of_getElem? (i := 366) (by decide +kernel), by decide +kernel⟩
theorem wS_max : Cond.static Lib.Math.max.name ∈ TBL := List.mem_filter.mpr ⟨List.mem_of_getElem? (i := 368) (by decide +kernel), by decide +kernel⟩
theorem wC_max : Cond.code Lib.Math.max.name Lib.Math.max.code 2 (some .int) ∈ TBL := List.mem_filter.mpr ⟨List.mem_of_getElem? (i := 369) (by decide +kernel), by decide +kernel⟩
theorem wS_abs : Cond.static Lib.Math.abs.name ∈ TBL := List.mem_filter.mpr ⟨List.mem_of_getElem? (i := 556) (by decide +kernel), by decide +kernel⟩
theorem wC_abs : Cond.code Lib.Math.abs.name Lib.Math.abs.code 1 (some .int) ∈ TBL := List.mem_filter.mpr ⟨List.mem_of_getElem? (i := 557) (by decide +kernel), by decide +kernel⟩
theorem wI_math : Cond.initialized "java/lang/Math" ∈ TBL := List.mem_filter.mpr ⟨List.mem_of_getElem? (i := 64) (by decide +kernel), by decide +kernel⟩
section Rows
variable {p : Program} {l : Launch} {e : Env} {R : Room} {s : State} {mid : MethodId} {args : Array Value} {below : List Frame} {meth : Method} {c : Code} {dC : Nat → ClassId} {dI : Nat → Nat → Nat} {cy : Nat → ClassId} {base : Nat} {Od : State → Heap → Prop} {m k : Nat} {rF : Option Value} {hF : Hp} {MC MS : Nat} {Q : State → Prop}
variable {H : Heap} {locs : List Loc} {ls : Array Slot} {L : List (Option Value)} {S : List Value} {h : Hp} {cells slots pc : Nat}
variable {go : Nat → List (Option Value) → List Value → Hp → Rs}

set_option maxHeartbeats 2000000 in
theorem sd1 {s0 np a b cc d e0 : Nat} {x : Int32} {sw : List (Int32 × Nat)} {fl : Bool} (hC : Cx p R s mid args meth c dC dI cy base Od m k MC MS) (hgo : Sn p l e R s mid args below meth c dC dI cy base Od m rF hF MC MS Q go) (hok : okI m pc (1, s0, np, a, b, cc, d, e0, x, sw, fl) = true)
    (hst : stp1 go none s0 np a x L S h = some (rF, hF)) (hS : St s dC dI cy base Od m hF MC MS H locs ls L h cells slots) : W p l e R s mid args below meth c H locs cells slots Q (F0 mid pc ls (S.map (cvV base))) := by
  obtain ⟨hd, hnp, ha⟩ := hd_of hok (show ¬ (1 : Nat) = 99 by decide)
  obtain ⟨hx, hb, hr, hml, hown, hts, hlocks, hnm, hK, hOd, hbs, hfr, hlo, hrc, hrs⟩ := id hC
  have hLR := hS.2.2.2.1
  unfold stp1 at hst
  split at hst
  · replace hnp : np = pc + 1 := hnp
    subst hnp
    obtain ⟨hi, h2⟩ := stL_some hst
    exact lv_istore_n hx hb hd (Nat.mod_eq_of_lt (Nat.le_of_ble_eq_true ha)) hLR.has hi rfl (fun ls2 h9 => hgo _ _ _ _ _ _ _ _ _ h2 (hS.loc (hLR.set hi rfl h9) (List.length_set)))
  · replace hnp : np = pc + 2 := hnp
    subst hnp
    obtain ⟨hi, h2⟩ := stL_some hst
    exact lv_istore hx hb hd  hLR.has hi rfl (fun ls2 h9 => hgo _ _ _ _ _ _ _ _ _ h2 (hS.loc (hLR.set hi rfl h9) (List.length_set)))
  · replace hnp : np = pc + 1 := hnp
    subst hnp
    obtain ⟨hi, h2⟩ := stL_some hst
    exact lv_astore_n hx hb hd (Nat.mod_eq_of_lt (Nat.le_of_ble_eq_true ha)) hLR.has hi rfl (fun ls2 h9 => hgo _ _ _ _ _ _ _ _ _ h2 (hS.loc (hLR.set hi rfl h9) (List.length_set)))
  · replace hnp : np = pc + 2 := hnp
    subst hnp
    obtain ⟨hi, h2⟩ := stL_some hst
    exact lv_astore hx hb hd  hLR.has hi rfl (fun ls2 h9 => hgo _ _ _ _ _ _ _ _ _ h2 (hS.loc (hLR.set hi rfl h9) (List.length_set)))
  · replace hnp : np = pc + 3 := hnp
    subst hnp
    obtain ⟨v, h1, h2⟩ := lk_some hst
    cases v <;> first | (cases h2; done) | skip
    rename_i y
    obtain ⟨hi, h3⟩ := stL_some h2
    obtain ⟨kk, hkk⟩ := List.getElem?_of_mem (mem_prs.mpr ⟨.int y, h1, rfl⟩ : (a, Value.int y) ∈ prs base L)
    exact lv_iinc hx hb hd hLR.has hkk (by rw [Int32.ofInt_toInt]) hi rfl (fun ls2 h9 => hgo _ _ _ _ _ _ _ _ _ h3 (hS.loc (hLR.set hi rfl h9) List.length_set))
  · replace hnp : np = pc + 1 := hnp
    subst hnp
    exact lv_dup hx hb hd rfl (hgo _ _ _ _ _ _ _ _ _ hst hS)
  · replace hnp : np = pc + 1 := hnp
    subst hnp
    exact lv_dup hx hb hd rfl (hgo _ _ _ _ _ _ _ _ _ hst hS)
  · replace hnp : np = pc + 1 := hnp
    subst hnp
    exact lv_dup2_11 hx hb hd rfl rfl (hgo _ _ _ _ _ _ _ _ _ hst hS)
  · replace hnp : np = pc + 1 := hnp
    subst hnp
    exact lv_pop hx hb hd rfl (hgo _ _ _ _ _ _ _ _ _ hst hS)
  · exact lv_goto (tgt := a) hx hb hd (by omega) (hgo _ _ _ _ _ _ _ _ _ hst hS)
  · exact lv_ifnonnull (tgt := a) hx hb hd (by omega) (hgo _ _ _ _ _ _ _ _ _ hst hS)
  · replace hnp : np = pc + 3 := hnp
    subst hnp
    exact lv_ifnonnullN hx hb hd (hgo _ _ _ _ _ _ _ _ _ hst hS)
  · cases hst

set_option maxHeartbeats 2000000 in
theorem sd2 {s0 np a b cc d e0 : Nat} {x : Int32} {sw : List (Int32 × Nat)} {fl : Bool} (hC : Cx p R s mid args meth c dC dI cy base Od m k MC MS) (hgo : Sn p l e R s mid args below meth c dC dI cy base Od m rF hF MC MS Q go) (hok : okI m pc (2, s0, np, a, b, cc, d, e0, x, sw, fl) = true)
    (hst : stp2 chkO go none s0 np L S h = some (rF, hF)) (hS : St s dC dI cy base Od m hF MC MS H locs ls L h cells slots) : W p l e R s mid args below meth c H locs cells slots Q (F0 mid pc ls (S.map (cvV base))) := by
  obtain ⟨hd, hnp, ha⟩ := hd_of hok (show ¬ (2 : Nat) = 99 by decide)
  obtain ⟨hx, hb, hr, hml, hown, hts, hlocks, hnm, hK, hOd, hbs, hfr, hlo, hrc, hrs⟩ := id hC
  have hLR := hS.2.2.2.1
  unfold stp2 at hst
  split at hst
  · replace hnp : np = pc + 1 := hnp
    subst hnp
    exact lv_iadd hx hb hd (hgo _ _ _ _ _ _ _ _ _ hst hS)
  · replace hnp : np = pc + 1 := hnp
    subst hnp
    exact lv_isub hx hb hd (hgo _ _ _ _ _ _ _ _ _ hst hS)
  · replace hnp : np = pc + 1 := hnp
    subst hnp
    exact lv_imul hx hb hd (hgo _ _ _ _ _ _ _ _ _ hst hS)
  · replace hnp : np = pc + 1 := hnp
    subst hnp
    exact lv_iand hx hb hd (hgo _ _ _ _ _ _ _ _ _ hst hS)
  · replace hnp : np = pc + 1 := hnp
    subst hnp
    exact lv_ior hx hb hd (hgo _ _ _ _ _ _ _ _ _ hst hS)
  · replace hnp : np = pc + 1 := hnp
    subst hnp
    unfold chkO at hst
    split at hst
    · rename_i hne
      exact lv_idiv hx hb hd hne (hgo _ _ _ _ _ _ _ _ _ hst hS)
    · cases hst
  · replace hnp : np = pc + 1 := hnp
    subst hnp
    unfold chkO at hst
    split at hst
    · rename_i hne
      exact lv_irem hx hb hd hne (hgo _ _ _ _ _ _ _ _ _ hst hS)
    · cases hst
  · replace hnp : np = pc + 1 := hnp
    subst hnp
    exact lv_ineg hx hb hd (hgo _ _ _ _ _ _ _ _ _ hst hS)
  · replace hnp : np = pc + 1 := hnp
    subst hnp
    exact lv_ishl hx hb hd (hgo _ _ _ _ _ _ _ _ _ hst hS)
  · replace hnp : np = pc + 1 := hnp
    subst hnp
    exact lv_ishr hx hb hd (hgo _ _ _ _ _ _ _ _ _ hst hS)
  · cases hst

set_option maxHeartbeats 2000000 in
theorem sd3 {s0 np a b cc d e0 : Nat} {x : Int32} {sw : List (Int32 × Nat)} {fl : Bool} (hC : Cx p R s mid args meth c dC dI cy base Od m k MC MS) (hgo : Sn p l e R s mid args below meth c dC dI cy base Od m rF hF MC MS Q go) (hgr : ∀ pc L S h x, go pc L S h = some x → h.1 ≤ x.2.1 ∧ h.2.1 ≤ x.2.2.1) (hok : okI m pc (3, s0, np, a, b, cc, d, e0, x, sw, fl) = true)
    (hst : stp3 brO go none s0 np a k sw L S h = some (rF, hF)) (hS : St s dC dI cy base Od m hF MC MS H locs ls L h cells slots) : W p l e R s mid args below meth c H locs cells slots Q (F0 mid pc ls (S.map (cvV base))) := by
  obtain ⟨hd, hnp, ha⟩ := hd_of hok (show ¬ (3 : Nat) = 99 by decide)
  obtain ⟨hx, hb, hr, hml, hown, hts, hlocks, hnm, hK, hOd, hbs, hfr, hlo, hrc, hrs⟩ := id hC
  have hLR := hS.2.2.2.1
  unfold stp3 at hst
  split at hst
  · replace hnp : np = pc + 1 := hnp
    subst hnp
    exact lv_iushr hx hb hd rfl (hgo _ _ _ _ _ _ _ _ _ hst hS)
  · replace hnp : np = pc + 1 := hnp
    subst hnp
    exact lv_i2b hx hb hd rfl (hgo _ _ _ _ _ _ _ _ _ hst hS)
  · replace hnp : np = pc + 1 := hnp
    subst hnp
    exact lv_i2s hx hb hd rfl (hgo _ _ _ _ _ _ _ _ _ hst hS)
  · replace hnp : np = pc + 1 := hnp
    subst hnp
    exact lv_i2c hx hb hd rfl (hgo _ _ _ _ _ _ _ _ _ hst hS)
  · rename_i v r
    rw [swF_O] at hst
    have hk : ∀ i, i < sw.length → (sw.getD i (0, 0)).1.toInt = x.toInt + (i : Int) := fun i hi => of_decide_eq_true (List.all_eq_true.mp ha i (List.mem_range.mpr hi))
    by_cases h1 : v.toInt < x.toInt
    · rw [swT_out v a sw x.toInt hk (Or.inl h1)] at hst
      exact lv_tableOut (tgt := a) hx hb hd (Or.inl h1) (by omega) (hgo _ _ _ _ _ _ _ _ _ hst hS)
    · by_cases h2 : x.toInt + sw.length - 1 < v.toInt
      · rw [swT_out v a sw x.toInt hk (Or.inr (by omega))] at hst
        exact lv_tableOut (tgt := a) hx hb hd (Or.inr h2) (by omega) (hgo _ _ _ _ _ _ _ _ _ hst hS)
      · rw [swT_in v a sw x.toInt hk (by omega) (by omega)] at hst
        have hi : (v.toInt - x.toInt).toNat < sw.length := by omega
        exact lv_tableIn (tgt := (sw.getD (v.toInt - x.toInt).toNat (0, 0)).2) (off := ((sw.getD (v.toInt - x.toInt).toNat (0, 0)).2 : Int) - (pc : Int)) hx hb hd h1 h2 (by simp [hi]) (by omega) (hgo _ _ _ _ _ _ _ _ _ hst hS)
  · rename_i v r
    rw [swF_O] at hst
    exact lv_lookup (tgt := swT v a sw) hx hb hd (sw_sorted pc sw ha) (swT_off v pc a sw) (by omega) (hgo _ _ _ _ _ _ _ _ _ hst hS)
  · replace hnp : np = pc + 3 := hnp
    subst hnp
    rename_i r
    cases hq : (Nat.blt 0 k && Nat.ble r.length 8) with
    | false => rw [hq] at hst; cases hst
    | true =>
      rw [hq] at hst
      rw [Bool.and_eq_true] at hq
      have hk0 : 0 < k := Nat.le_of_ble_eq_true hq.1
      have hr8 : r.length ≤ 8 := Nat.le_of_ble_eq_true hq.2
      have hsum := cat_sumC base r
      obtain ⟨g1, g2⟩ := hgr _ _ _ _ _ hst
      have e1 := hS.2.2.2.2.2.1
      have e2 := hS.2.2.2.2.2.2
      exact va_mmin hx hb (by rw [hml, hLR.1, hS.2.2.2.2.1]) hown (hts _ (tb_of ha)) (hts _ wS_min) (hts _ wI_math) (hts _ wC_min) (by rw [hfr]; omega) (by rw [hlo]; omega) (by rw [hrc]; simp only at g1; omega) (by rw [hrs]; simp only at g2; omega) hd (hgo _ _ _ _ _ _ _ _ _ hst hS)
  · replace hnp : np = pc + 3 := hnp
    subst hnp
    rename_i r
    cases hq : (Nat.blt 0 k && Nat.ble r.length 8) with
    | false => rw [hq] at hst; cases hst
    | true =>
      rw [hq] at hst
      rw [Bool.and_eq_true] at hq
      have hk0 : 0 < k := Nat.le_of_ble_eq_true hq.1
      have hr8 : r.length ≤ 8 := Nat.le_of_ble_eq_true hq.2
      have hsum := cat_sumC base r
      obtain ⟨g1, g2⟩ := hgr _ _ _ _ _ hst
      have e1 := hS.2.2.2.2.2.1
      have e2 := hS.2.2.2.2.2.2
      exact va_mmax hx hb (by rw [hml, hLR.1, hS.2.2.2.2.1]) hown (hts _ (tb_of ha)) (hts _ wS_max) (hts _ wI_math) (hts _ wC_max) (by rw [hfr]; omega) (by rw [hlo]; omega) (by rw [hrc]; simp only at g1; omega) (by rw [hrs]; simp only at g2; omega) hd (hgo _ _ _ _ _ _ _ _ _ hst hS)
  · replace hnp : np = pc + 3 := hnp
    subst hnp
    rename_i r
    cases hq : (Nat.blt 0 k && Nat.ble r.length 8) with
    | false => rw [hq] at hst; cases hst
    | true =>
      rw [hq] at hst
      rw [Bool.and_eq_true] at hq
      have hk0 : 0 < k := Nat.le_of_ble_eq_true hq.1
      have hr8 : r.length ≤ 8 := Nat.le_of_ble_eq_true hq.2
      have hsum := cat_sumC base r
      obtain ⟨g1, g2⟩ := hgr _ _ _ _ _ hst
      have e1 := hS.2.2.2.2.2.1
      have e2 := hS.2.2.2.2.2.2
      exact va_mabs hx hb (by rw [hml, hLR.1, hS.2.2.2.2.1]) hown (hts _ (tb_of ha)) (hts _ wS_abs) (hts _ wI_math) (hts _ wC_abs) (by rw [hfr]; omega) (by rw [hlo]; omega) (by rw [hrc]; simp only at g1; omega) (by rw [hrs]; simp only at g2; omega) hd (hgo _ _ _ _ _ _ _ _ _ hst hS)
  · cases hst

set_option maxHeartbeats 2000000 in
theorem sd4 {s0 np a b cc d e0 : Nat} {x : Int32} {sw : List (Int32 × Nat)} {fl : Bool} (hC : Cx p R s mid args meth c dC dI cy base Od m k MC MS) (hgo : Sn p l e R s mid args below meth c dC dI cy base Od m rF hF MC MS Q go) (hok : okI m pc (4, s0, np, a, b, cc, d, e0, x, sw, fl) = true)
    (hst : stp4 brO go none s0 np a L S h = some (rF, hF)) (hS : St s dC dI cy base Od m hF MC MS H locs ls L h cells slots) : W p l e R s mid args below meth c H locs cells slots Q (F0 mid pc ls (S.map (cvV base))) := by
  obtain ⟨hd, hnp, ha⟩ := hd_of hok (show ¬ (4 : Nat) = 99 by decide)
  obtain ⟨hx, hb, hr, hml, hown, hts, hlocks, hnm, hK, hOd, hbs, hfr, hlo, hrc, hrs⟩ := id hC
  have hLR := hS.2.2.2.1
  unfold stp4 at hst
  split at hst
  · replace hnp : np = pc + 3 := hnp
    subst hnp
    exact lv_if_eq (tgt := a) hx hb hd (by omega) (fun h1 => hgo _ _ _ _ _ _ _ _ _ (by simp only [brO, if_pos h1] at hst; exact hst) hS) (fun h1 => hgo _ _ _ _ _ _ _ _ _ (by simp only [brO, if_neg h1] at hst; exact hst) hS)
  · replace hnp : np = pc + 3 := hnp
    subst hnp
    exact lv_if_ne (tgt := a) hx hb hd (by omega) (fun h1 => hgo _ _ _ _ _ _ _ _ _ (by simp only [brO, if_pos h1] at hst; exact hst) hS) (fun h1 => hgo _ _ _ _ _ _ _ _ _ (by simp only [brO, if_neg (fun q => q h1 : ¬ ¬ _)] at hst; exact hst) hS)
  · replace hnp : np = pc + 3 := hnp
    subst hnp
    exact lv_if_lt (tgt := a) hx hb hd (by omega) (fun h1 => hgo _ _ _ _ _ _ _ _ _ (by simp only [brO, if_pos h1] at hst; exact hst) hS) (fun h1 => hgo _ _ _ _ _ _ _ _ _ (by simp only [brO, if_neg h1] at hst; exact hst) hS)
  · replace hnp : np = pc + 3 := hnp
    subst hnp
    exact lv_if_ge (tgt := a) hx hb hd (by omega) (fun h1 => hgo _ _ _ _ _ _ _ _ _ (by simp only [brO, if_pos h1] at hst; exact hst) hS) (fun h1 => hgo _ _ _ _ _ _ _ _ _ (by simp only [brO, if_neg h1] at hst; exact hst) hS)
  · replace hnp : np = pc + 3 := hnp
    subst hnp
    exact lv_if_gt (tgt := a) hx hb hd (by omega) (fun h1 => hgo _ _ _ _ _ _ _ _ _ (by simp only [brO, if_pos h1] at hst; exact hst) hS) (fun h1 => hgo _ _ _ _ _ _ _ _ _ (by simp only [brO, if_neg h1] at hst; exact hst) hS)
  · replace hnp : np = pc + 3 := hnp
    subst hnp
    exact lv_if_le (tgt := a) hx hb hd (by omega) (fun h1 => hgo _ _ _ _ _ _ _ _ _ (by simp only [brO, if_pos h1] at hst; exact hst) hS) (fun h1 => hgo _ _ _ _ _ _ _ _ _ (by simp only [brO, if_neg h1] at hst; exact hst) hS)
  · cases hst

set_option maxHeartbeats 2000000 in
theorem sd5 {s0 np a b cc d e0 : Nat} {x : Int32} {sw : List (Int32 × Nat)} {fl : Bool} (hC : Cx p R s mid args meth c dC dI cy base Od m k MC MS) (hgo : Sn p l e R s mid args below meth c dC dI cy base Od m rF hF MC MS Q go) (hok : okI m pc (5, s0, np, a, b, cc, d, e0, x, sw, fl) = true)
    (hst : stp5 brO go none s0 np a L S h = some (rF, hF)) (hS : St s dC dI cy base Od m hF MC MS H locs ls L h cells slots) : W p l e R s mid args below meth c H locs cells slots Q (F0 mid pc ls (S.map (cvV base))) := by
  obtain ⟨hd, hnp, ha⟩ := hd_of hok (show ¬ (5 : Nat) = 99 by decide)
  obtain ⟨hx, hb, hr, hml, hown, hts, hlocks, hnm, hK, hOd, hbs, hfr, hlo, hrc, hrs⟩ := id hC
  have hLR := hS.2.2.2.1
  unfold stp5 at hst
  split at hst
  · replace hnp : np = pc + 3 := hnp
    subst hnp
    exact lv_icmp_eq (tgt := a) hx hb hd (by omega) (fun h1 => hgo _ _ _ _ _ _ _ _ _ (by simp only [brO, if_pos h1] at hst; exact hst) hS) (fun h1 => hgo _ _ _ _ _ _ _ _ _ (by simp only [brO, if_neg h1] at hst; exact hst) hS)
  · replace hnp : np = pc + 3 := hnp
    subst hnp
    exact lv_icmp_ne (tgt := a) hx hb hd (by omega) (fun h1 => hgo _ _ _ _ _ _ _ _ _ (by simp only [brO, if_pos h1] at hst; exact hst) hS) (fun h1 => hgo _ _ _ _ _ _ _ _ _ (by simp only [brO, if_neg (fun q => q h1 : ¬ ¬ _)] at hst; exact hst) hS)
  · replace hnp : np = pc + 3 := hnp
    subst hnp
    exact lv_icmp_lt (tgt := a) hx hb hd (by omega) (fun h1 => hgo _ _ _ _ _ _ _ _ _ (by simp only [brO, if_pos h1] at hst; exact hst) hS) (fun h1 => hgo _ _ _ _ _ _ _ _ _ (by simp only [brO, if_neg h1] at hst; exact hst) hS)
  · replace hnp : np = pc + 3 := hnp
    subst hnp
    exact lv_icmp_ge (tgt := a) hx hb hd (by omega) (fun h1 => hgo _ _ _ _ _ _ _ _ _ (by simp only [brO, if_pos h1] at hst; exact hst) hS) (fun h1 => hgo _ _ _ _ _ _ _ _ _ (by simp only [brO, if_neg h1] at hst; exact hst) hS)
  · replace hnp : np = pc + 3 := hnp
    subst hnp
    exact lv_icmp_gt (tgt := a) hx hb hd (by omega) (fun h1 => hgo _ _ _ _ _ _ _ _ _ (by simp only [brO, if_pos h1] at hst; exact hst) hS) (fun h1 => hgo _ _ _ _ _ _ _ _ _ (by simp only [brO, if_neg h1] at hst; exact hst) hS)
  · replace hnp : np = pc + 3 := hnp
    subst hnp
    exact lv_icmp_le (tgt := a) hx hb hd (by omega) (fun h1 => hgo _ _ _ _ _ _ _ _ _ (by simp only [brO, if_pos h1] at hst; exact hst) hS) (fun h1 => hgo _ _ _ _ _ _ _ _ _ (by simp only [brO, if_neg h1] at hst; exact hst) hS)
  · cases hst

end Rows
