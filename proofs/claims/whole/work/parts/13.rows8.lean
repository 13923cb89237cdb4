theorem wIm_obj : Cond.instanceMethod objectInit ∈ TBL := List.mem_filter.mpr ⟨List.mem_of_getElem? (i := 78) (by decide +kernel), by decide +kernel⟩
theorem wC_obj : Cond.code objectInit ⟨#[0xb1]⟩ 1 none ∈ TBL := List.mem_filter.mpr ⟨List.mem_of_getElem? (i := 79) (by decide +kernel), by decide +kernel⟩
section Rows
variable {p : Program} {l : Launch} {e : Env} {R : Room} {s : State} {mid : MethodId} {args : Array Value} {below : List Frame} {meth : Method} {c : Code} {dC : Nat → ClassId} {dI : Nat → Nat → Nat} {cy : Nat → ClassId} {base : Nat} {Od : State → Heap → Prop} {m k : Nat} {rF : Option Value} {hF : Hp} {MC MS : Nat} {Q : State → Prop}
variable {H : Heap} {locs : List Loc} {ls : Array Slot} {L : List (Option Value)} {S : List Value} {h : Hp} {cells slots pc : Nat}
variable {go : Nat → List (Option Value) → List Value → Hp → Rs}

set_option maxHeartbeats 2000000 in
theorem sd8 {s0 np a b cc d e0 : Nat} {x : Int32} {sw : List (Int32 × Nat)} {fl : Bool} (hC : Cx p R s mid args meth c dC dI cy base Od m k MC MS) (hgo : Sn p l e R s mid args below meth c dC dI cy base Od m rF hF MC MS (MQ below (Qf dC dI cy base Od rF hF) args s MC MS (fun q => base ≤ q)) go) (hgr : ∀ pc L S h x, go pc L S h = some x → h.1 ≤ x.2.1 ∧ h.2.1 ≤ x.2.2.1) (hok : okI m pc (8, s0, np, a, b, cc, d, e0, x, sw, fl) = true)
    (hst : stp8 chkO go (fun r h2 => some (r, h2)) none k s0 np a L S h = some (rF, hF)) (hS : St s dC dI cy base Od m hF MC MS H locs ls L h cells slots) : W p l e R s mid args below meth c H locs cells slots (MQ below (Qf dC dI cy base Od rF hF) args s MC MS (fun q => base ≤ q)) (F0 mid pc ls (S.map (cvV base))) := by
  obtain ⟨hd, hnp, ha⟩ := hd_of hok (show ¬ (8 : Nat) = 99 by decide)
  obtain ⟨hx, hb, hr, hml, hown, hts, hlocks, hnm, hK, hOd, hbs, hfr, hlo, hrc, hrs⟩ := id hC
  have hLR := hS.2.2.2.1
  obtain ⟨nx, sl, ln, Rr, I⟩ := h
  unfold stp8 at hst
  dsimp only at hst
  have hz : H.size = base + nx := hS.1.1
  have e1' := hS.2.2.2.2.2.1
  have e2' := hS.2.2.2.2.2.2
  dsimp only at e1' e2'
  split at hst
  · replace hnp : np = pc + 1 := hnp
    subst hnp
    unfold chkO at hst
    split at hst
    rotate_left
    · cases hst
    rename_i o r hq
    have hP := one_P (hS.1.2 o hq.2.2)
    have h8 : KD o = 9 ∨ KD o = 10 ∨ KD o = 11 ∨ KD o = 12 ∨ KD o = 13 ∨ KD o = 14 ∨ KD o = 15 ∨ KD o = 16 := by omega
    rcases h8 with q | q | q | q | q | q | q | q
    · rw [cel_arr q (by decide) (by decide)] at hP
      exact va_alen (D := (dC, dI)) (cl := vwCl) hx hb hK hP 0 0 rfl rfl rfl hd (hgo _ _ _ _ _ _ _ _ _ hst hS)
    · rw [cel_arr q (by decide) (by decide)] at hP
      exact va_alen (D := (dC, dI)) (cl := vwCl) hx hb hK hP 0 1 rfl rfl rfl hd (hgo _ _ _ _ _ _ _ _ _ hst hS)
    · rw [cel_arr q (by decide) (by decide)] at hP
      exact va_alen (D := (dC, dI)) (cl := vwCl) hx hb hK hP 0 2 rfl rfl rfl hd (hgo _ _ _ _ _ _ _ _ _ hst hS)
    · rw [cel_arr q (by decide) (by decide)] at hP
      exact va_alen (D := (dC, dI)) (cl := vwCl) hx hb hK hP 0 3 rfl rfl rfl hd (hgo _ _ _ _ _ _ _ _ _ hst hS)
    · rw [cel_ref (by omega), q] at hP
      exact va_alen (D := (dC, dI)) (cl := vwCl) hx hb hK hP 0 4 rfl rfl rfl hd (hgo _ _ _ _ _ _ _ _ _ hst hS)
    · rw [cel_ref (by omega), q] at hP
      exact va_alen (D := (dC, dI)) (cl := vwCl) hx hb hK hP 0 5 rfl rfl rfl hd (hgo _ _ _ _ _ _ _ _ _ hst hS)
    · rw [cel_ref (by omega), q] at hP
      exact va_alen (D := (dC, dI)) (cl := vwCl) hx hb hK hP 0 6 rfl rfl rfl hd (hgo _ _ _ _ _ _ _ _ _ hst hS)
    · rw [cel_ref (by omega), q] at hP
      exact va_alen (D := (dC, dI)) (cl := vwCl) hx hb hK hP 0 7 rfl rfl rfl hd (hgo _ _ _ _ _ _ _ _ _ hst hS)
  · replace hnp : np = pc + 2 := hnp
    subst hnp
    unfold chkO at hst
    split at hst
    rotate_left
    · cases hst
    rename_i n r hq
    replace ha : (tbB d (.arrayClass (akT a)) && (Nat.blt 8 a && Nat.blt a 13)) = true := ha
    simp only [Bool.and_eq_true] at ha
    have a2 : 8 < a := Nat.le_of_ble_eq_true ha.2.1
    have a3 : a < 13 := Nat.le_of_ble_eq_true ha.2.2
    obtain ⟨g1, g2⟩ := hgr _ _ _ _ _ hst
    dsimp only at g1 g2
    have h4 : a = 9 ∨ a = 10 ∨ a = 11 ∨ a = 12 := by omega
    rcases h4 with rfl | rfl | rfl | rfl
    · refine va_newaK (atype := .byte) hx hb (hts _ (tb_of ha.1)) rfl hd rfl hq.1 rfl (Nat.le_trans (Nat.mul_le_mul_right _ hq.2.1) (by decide)) (by rw [hrc]; omega) (by rw [hrs]; omega) hz fun H1 cA f1 z1 o1 hAr hNm => ?_
      have hcA : cA = cy 9 := Option.some.inj (hNm.symm.trans (hK.2 0 _ rfl).2)
      rw [hcA] at f1
      have z2 : H1.size = H.size + 1 := by rw [z1, hz]
      have o2 : ∀ q : Nat, q < H.size → H1[q]? = H[q]? := fun q hq => o1 q (by rw [← hz]; exact hq)
      refine hgo _ _ _ _ _ _ _ _ _ hst (hS.push (h' := (nx + 1, sl + n.toNatClampNeg, up1 ln nx n.toNatClampNeg, Rr, up1 I nx (fun _ => 0))) hOd (hS.1.push (h' := (nx + 1, sl + n.toNatClampNeg, up1 ln nx n.toNatClampNeg, Rr, up1 I nx (fun _ => 0))) rfl (fun j hj => cel_same (up1_ne hj) rfl (up1_ne hj)) ?_ z2 o2) z2 o2 rfl rfl)
      rw [cel_arr hq.2.2 (by decide) (by decide)]
      show H1[base + nx]? = some (vp_cell (cy 9) (up1 ln nx n.toNatClampNeg nx, .inl (up1 I nx (fun _ => 0) nx)))
      rw [up1_eq, up1_eq, vp_cell_i]
      exact f1
    · refine va_newaK (atype := .char) hx hb (hts _ (tb_of ha.1)) rfl hd rfl hq.1 rfl (Nat.le_trans (Nat.mul_le_mul_right _ hq.2.1) (by decide)) (by rw [hrc]; omega) (by rw [hrs]; omega) hz fun H1 cA f1 z1 o1 hAr hNm => ?_
      have hcA : cA = cy 10 := Option.some.inj (hNm.symm.trans (hK.2 1 _ rfl).2)
      rw [hcA] at f1
      have z2 : H1.size = H.size + 1 := by rw [z1, hz]
      have o2 : ∀ q : Nat, q < H.size → H1[q]? = H[q]? := fun q hq => o1 q (by rw [← hz]; exact hq)
      refine hgo _ _ _ _ _ _ _ _ _ hst (hS.push (h' := (nx + 1, sl + n.toNatClampNeg, up1 ln nx n.toNatClampNeg, Rr, up1 I nx (fun _ => 0))) hOd (hS.1.push (h' := (nx + 1, sl + n.toNatClampNeg, up1 ln nx n.toNatClampNeg, Rr, up1 I nx (fun _ => 0))) rfl (fun j hj => cel_same (up1_ne hj) rfl (up1_ne hj)) ?_ z2 o2) z2 o2 rfl rfl)
      rw [cel_arr hq.2.2 (by decide) (by decide)]
      show H1[base + nx]? = some (vp_cell (cy 10) (up1 ln nx n.toNatClampNeg nx, .inl (up1 I nx (fun _ => 0) nx)))
      rw [up1_eq, up1_eq, vp_cell_i]
      exact f1
    · refine va_newaK (atype := .int) hx hb (hts _ (tb_of ha.1)) rfl hd rfl hq.1 rfl (Nat.le_trans (Nat.mul_le_mul_right _ hq.2.1) (by decide)) (by rw [hrc]; omega) (by rw [hrs]; omega) hz fun H1 cA f1 z1 o1 hAr hNm => ?_
      have hcA : cA = cy 11 := Option.some.inj (hNm.symm.trans (hK.2 2 _ rfl).2)
      rw [hcA] at f1
      have z2 : H1.size = H.size + 1 := by rw [z1, hz]
      have o2 : ∀ q : Nat, q < H.size → H1[q]? = H[q]? := fun q hq => o1 q (by rw [← hz]; exact hq)
      refine hgo _ _ _ _ _ _ _ _ _ hst (hS.push (h' := (nx + 1, sl + n.toNatClampNeg, up1 ln nx n.toNatClampNeg, Rr, up1 I nx (fun _ => 0))) hOd (hS.1.push (h' := (nx + 1, sl + n.toNatClampNeg, up1 ln nx n.toNatClampNeg, Rr, up1 I nx (fun _ => 0))) rfl (fun j hj => cel_same (up1_ne hj) rfl (up1_ne hj)) ?_ z2 o2) z2 o2 rfl rfl)
      rw [cel_arr hq.2.2 (by decide) (by decide)]
      show H1[base + nx]? = some (vp_cell (cy 11) (up1 ln nx n.toNatClampNeg nx, .inl (up1 I nx (fun _ => 0) nx)))
      rw [up1_eq, up1_eq, vp_cell_i]
      exact f1
    · refine va_newaK (atype := .boolean) hx hb (hts _ (tb_of ha.1)) rfl hd rfl hq.1 rfl (Nat.le_trans (Nat.mul_le_mul_right _ hq.2.1) (by decide)) (by rw [hrc]; omega) (by rw [hrs]; omega) hz fun H1 cA f1 z1 o1 hAr hNm => ?_
      have hcA : cA = cy 12 := Option.some.inj (hNm.symm.trans (hK.2 3 _ rfl).2)
      rw [hcA] at f1
      have z2 : H1.size = H.size + 1 := by rw [z1, hz]
      have o2 : ∀ q : Nat, q < H.size → H1[q]? = H[q]? := fun q hq => o1 q (by rw [← hz]; exact hq)
      refine hgo _ _ _ _ _ _ _ _ _ hst (hS.push (h' := (nx + 1, sl + n.toNatClampNeg, up1 ln nx n.toNatClampNeg, Rr, up1 I nx (fun _ => 0))) hOd (hS.1.push (h' := (nx + 1, sl + n.toNatClampNeg, up1 ln nx n.toNatClampNeg, Rr, up1 I nx (fun _ => 0))) rfl (fun j hj => cel_same (up1_ne hj) rfl (up1_ne hj)) ?_ z2 o2) z2 o2 rfl rfl)
      rw [cel_arr hq.2.2 (by decide) (by decide)]
      show H1[base + nx]? = some (vp_cell (cy 12) (up1 ln nx n.toNatClampNeg nx, .inl (up1 I nx (fun _ => 0) nx)))
      rw [up1_eq, up1_eq, vp_cell_i]
      exact f1
  · replace hnp : np = pc + 3 := hnp
    subst hnp
    unfold chkO at hst
    split at hst
    rotate_left
    · cases hst
    rename_i n r hq
    replace ha : (tbB d (.classLink (yM m).cls cc (okC a)) && tbB e0 (.arrayOver (.object (okC a))) && (Nat.blt 12 a && Nat.blt a 17)) = true := ha
    simp only [Bool.and_eq_true] at ha
    have a2 : 12 < a := Nat.le_of_ble_eq_true ha.2.1
    have a3 : a < 17 := Nat.le_of_ble_eq_true ha.2.2
    obtain ⟨g1, g2⟩ := hgr _ _ _ _ _ hst
    dsimp only at g1 g2
    have h4 : a = 13 ∨ a = 14 ∨ a = 15 ∨ a = 16 := by omega
    rcases h4 with rfl | rfl | rfl | rfl
    · refine W.anew (C := RX0) hx hb hown (hts _ (tb_of ha.1.1)) (hts _ (tb_of ha.1.2)) rfl hd rfl hq.1 (Nat.le_trans (Nat.mul_le_mul_right _ hq.2.1) (by decide)) (by rw [hrc]; omega) (by rw [hrs]; omega) fun cA kA comp f1 f2 f3 f4 => ?_
      generalize hH1 : H.push ({ cls := cA, slots := Array.replicate n.toNatClampNeg .null, vm := .none } : Cell) = H1
      have z2 : H1.size = H.size + 1 := by rw [← hH1, Array.size_push]
      have e9 : H1[H.size]? = some (arrV cA n.toNatClampNeg (fun _ => .null)) := by rw [← hH1, Array.getElem?_push_size, ← arrV_new]
      have o2 : ∀ q : Nat, q < H.size → H1[q]? = H[q]? := fun q hq => by rw [← hH1, Array.getElem?_push, if_neg (Nat.ne_of_lt hq)]
      obtain ⟨_, _, _, _, _, k4⟩ := (hK.2 4 _ rfl).2
      have hcA : cA = cy 13 := Option.some.inj (f1.symm.trans k4)
      rw [hcA, hz] at e9
      show W p l e R s mid args below meth c H1 locs (cells + 1) (slots + n.toNatClampNeg) (MQ below (Qf dC dI cy base Od rF hF) args s MC MS (fun q => base ≤ q)) (F0 mid (pc + 3) ls (.ref H.size :: r.map (cvV base)))
      rw [hz]
      refine hgo _ _ _ _ _ _ _ _ _ hst (hS.push (h' := (nx + 1, sl + n.toNatClampNeg, up1 ln nx n.toNatClampNeg, up1 Rr nx (fun _ => none), I)) hOd (hS.1.push (h' := (nx + 1, sl + n.toNatClampNeg, up1 ln nx n.toNatClampNeg, up1 Rr nx (fun _ => none), I)) rfl (fun j hj => cel_same (up1_ne hj) (up1_ne hj) rfl) ?_ z2 o2) z2 o2 rfl rfl)
      rw [cel_ref (by dsimp only; omega)]
      show H1[base + nx]? = some (vp_cell (cy (KD nx)) (up1 ln nx n.toNatClampNeg nx, .inr (.inr (.inr (.inr (fun j => rA base (up1 Rr nx (fun _ => none) nx j)))))))
      rw [up1_eq, up1_eq, hq.2.2, vp_cell_q]
      exact e9
    · refine W.anew (C := RX3) hx hb hown (hts _ (tb_of ha.1.1)) (hts _ (tb_of ha.1.2)) rfl hd rfl hq.1 (Nat.le_trans (Nat.mul_le_mul_right _ hq.2.1) (by decide)) (by rw [hrc]; omega) (by rw [hrs]; omega) fun cA kA comp f1 f2 f3 f4 => ?_
      generalize hH1 : H.push ({ cls := cA, slots := Array.replicate n.toNatClampNeg .null, vm := .none } : Cell) = H1
      have z2 : H1.size = H.size + 1 := by rw [← hH1, Array.size_push]
      have e9 : H1[H.size]? = some (arrV cA n.toNatClampNeg (fun _ => .null)) := by rw [← hH1, Array.getElem?_push_size, ← arrV_new]
      have o2 : ∀ q : Nat, q < H.size → H1[q]? = H[q]? := fun q hq => by rw [← hH1, Array.getElem?_push, if_neg (Nat.ne_of_lt hq)]
      obtain ⟨_, _, _, _, _, k4⟩ := (hK.2 5 _ rfl).2
      have hcA : cA = cy 14 := Option.some.inj (f1.symm.trans k4)
      rw [hcA, hz] at e9
      show W p l e R s mid args below meth c H1 locs (cells + 1) (slots + n.toNatClampNeg) (MQ below (Qf dC dI cy base Od rF hF) args s MC MS (fun q => base ≤ q)) (F0 mid (pc + 3) ls (.ref H.size :: r.map (cvV base)))
      rw [hz]
      refine hgo _ _ _ _ _ _ _ _ _ hst (hS.push (h' := (nx + 1, sl + n.toNatClampNeg, up1 ln nx n.toNatClampNeg, up1 Rr nx (fun _ => none), I)) hOd (hS.1.push (h' := (nx + 1, sl + n.toNatClampNeg, up1 ln nx n.toNatClampNeg, up1 Rr nx (fun _ => none), I)) rfl (fun j hj => cel_same (up1_ne hj) (up1_ne hj) rfl) ?_ z2 o2) z2 o2 rfl rfl)
      rw [cel_ref (by dsimp only; omega)]
      show H1[base + nx]? = some (vp_cell (cy (KD nx)) (up1 ln nx n.toNatClampNeg nx, .inr (.inr (.inr (.inr (fun j => rA base (up1 Rr nx (fun _ => none) nx j)))))))
      rw [up1_eq, up1_eq, hq.2.2, vp_cell_q]
      exact e9
    · refine W.anew (C := RX4) hx hb hown (hts _ (tb_of ha.1.1)) (hts _ (tb_of ha.1.2)) rfl hd rfl hq.1 (Nat.le_trans (Nat.mul_le_mul_right _ hq.2.1) (by decide)) (by rw [hrc]; omega) (by rw [hrs]; omega) fun cA kA comp f1 f2 f3 f4 => ?_
      generalize hH1 : H.push ({ cls := cA, slots := Array.replicate n.toNatClampNeg .null, vm := .none } : Cell) = H1
      have z2 : H1.size = H.size + 1 := by rw [← hH1, Array.size_push]
      have e9 : H1[H.size]? = some (arrV cA n.toNatClampNeg (fun _ => .null)) := by rw [← hH1, Array.getElem?_push_size, ← arrV_new]
      have o2 : ∀ q : Nat, q < H.size → H1[q]? = H[q]? := fun q hq => by rw [← hH1, Array.getElem?_push, if_neg (Nat.ne_of_lt hq)]
      obtain ⟨_, _, _, _, _, k4⟩ := (hK.2 6 _ rfl).2
      have hcA : cA = cy 15 := Option.some.inj (f1.symm.trans k4)
      rw [hcA, hz] at e9
      show W p l e R s mid args below meth c H1 locs (cells + 1) (slots + n.toNatClampNeg) (MQ below (Qf dC dI cy base Od rF hF) args s MC MS (fun q => base ≤ q)) (F0 mid (pc + 3) ls (.ref H.size :: r.map (cvV base)))
      rw [hz]
      refine hgo _ _ _ _ _ _ _ _ _ hst (hS.push (h' := (nx + 1, sl + n.toNatClampNeg, up1 ln nx n.toNatClampNeg, up1 Rr nx (fun _ => none), I)) hOd (hS.1.push (h' := (nx + 1, sl + n.toNatClampNeg, up1 ln nx n.toNatClampNeg, up1 Rr nx (fun _ => none), I)) rfl (fun j hj => cel_same (up1_ne hj) (up1_ne hj) rfl) ?_ z2 o2) z2 o2 rfl rfl)
      rw [cel_ref (by dsimp only; omega)]
      show H1[base + nx]? = some (vp_cell (cy (KD nx)) (up1 ln nx n.toNatClampNeg nx, .inr (.inr (.inr (.inr (fun j => rA base (up1 Rr nx (fun _ => none) nx j)))))))
      rw [up1_eq, up1_eq, hq.2.2, vp_cell_q]
      exact e9
    · refine W.anew (C := RX5) hx hb hown (hts _ (tb_of ha.1.1)) (hts _ (tb_of ha.1.2)) rfl hd rfl hq.1 (Nat.le_trans (Nat.mul_le_mul_right _ hq.2.1) (by decide)) (by rw [hrc]; omega) (by rw [hrs]; omega) fun cA kA comp f1 f2 f3 f4 => ?_
      generalize hH1 : H.push ({ cls := cA, slots := Array.replicate n.toNatClampNeg .null, vm := .none } : Cell) = H1
      have z2 : H1.size = H.size + 1 := by rw [← hH1, Array.size_push]
      have e9 : H1[H.size]? = some (arrV cA n.toNatClampNeg (fun _ => .null)) := by rw [← hH1, Array.getElem?_push_size, ← arrV_new]
      have o2 : ∀ q : Nat, q < H.size → H1[q]? = H[q]? := fun q hq => by rw [← hH1, Array.getElem?_push, if_neg (Nat.ne_of_lt hq)]
      obtain ⟨_, _, _, _, _, k4⟩ := (hK.2 7 _ rfl).2
      have hcA : cA = cy 16 := Option.some.inj (f1.symm.trans k4)
      rw [hcA, hz] at e9
      show W p l e R s mid args below meth c H1 locs (cells + 1) (slots + n.toNatClampNeg) (MQ below (Qf dC dI cy base Od rF hF) args s MC MS (fun q => base ≤ q)) (F0 mid (pc + 3) ls (.ref H.size :: r.map (cvV base)))
      rw [hz]
      refine hgo _ _ _ _ _ _ _ _ _ hst (hS.push (h' := (nx + 1, sl + n.toNatClampNeg, up1 ln nx n.toNatClampNeg, up1 Rr nx (fun _ => none), I)) hOd (hS.1.push (h' := (nx + 1, sl + n.toNatClampNeg, up1 ln nx n.toNatClampNeg, up1 Rr nx (fun _ => none), I)) rfl (fun j hj => cel_same (up1_ne hj) (up1_ne hj) rfl) ?_ z2 o2) z2 o2 rfl rfl)
      rw [cel_ref (by dsimp only; omega)]
      show H1[base + nx]? = some (vp_cell (cy (KD nx)) (up1 ln nx n.toNatClampNeg nx, .inr (.inr (.inr (.inr (fun j => rA base (up1 Rr nx (fun _ => none) nx j)))))))
      rw [up1_eq, up1_eq, hq.2.2, vp_cell_q]
      exact e9
  · replace hnp : np = pc + 3 := hnp
    subst hnp
    unfold chkO at hst
    split at hst
    rotate_left
    · cases hst
    rename_i hq
    replace ha : (tbB d (.classLink (yM m).cls cc (RM a)) && Nat.blt a 9) = true := ha
    simp only [Bool.and_eq_true] at ha
    have a9 : a < 9 := Nat.le_of_ble_eq_true ha.2
    obtain ⟨g1, g2⟩ := hgr _ _ _ _ _ hst
    dsimp only at g1 g2
    have hKn := hK.1 a _ (vwAt a a9)
    refine W.newcK hx hb hown (hts _ (tb_of ha.1)) (hts _ (wIn a a9)) (hts _ (wIi a a9)) rfl hd (by rw [hrc]; omega) (by rw [hrs]; omega) hKn.2.1 hz fun H1 kC hkC f1 z1 o1 => ?_
    have z2 : H1.size = H.size + 1 := by rw [z1, hz]
    have o2 : ∀ q : Nat, q < H.size → H1[q]? = H[q]? := fun q hq => o1 q (by rw [← hz]; exact hq)
    refine hgo _ _ _ _ _ _ _ _ _ hst (hS.push (h' := (nx + 1, sl + nF a, ln, up1 Rr nx (fun _ => none), up1 I nx (fun _ => 0))) hOd (hS.1.push (h' := (nx + 1, sl + nF a, ln, up1 Rr nx (fun _ => none), up1 I nx (fun _ => 0))) rfl (fun j hj => cel_same rfl (up1_ne hj) (up1_ne hj)) ?_ z2 o2) z2 o2 rfl rfl)
    rw [cel_cls (show KD (nx, sl, ln, Rr, I).1 = a from hq) a9]
    refine ⟨_, vwAt a a9, (u_born (tyM a) hts (inC a a9) hKn hkC f1 (tyMok a a9)).to (fun j hj => ?_)⟩
    rw [dfM a a9 j hj]
    unfold vp_V
    rw [List.getD_eq_getElem?_getD, range_map_get hj]
    show cond (fr a j) .null (.int 0) = cond (fr a j) (va_rf (rA base (up1 Rr nx (fun _ => none) nx j))) (.int (up1 I nx (fun _ => 0) nx j))
    rw [up1_eq, up1_eq]
    rfl
  · replace hnp : np = pc + 3 := hnp
    subst hnp
    rename_i n dp dd sp oo r
    cases hq : (Nat.blt 0 k && Nat.ble r.length 8) with
    | false => rw [hq] at hst; cases hst
    | true =>
      rw [hq] at hst
      rw [Bool.and_eq_true] at hq
      unfold cond chkO at hst
      dsimp only at hst
      split at hst
      · rename_i hc9
        obtain ⟨c1, c2, c3, c4, c5, c6, c7⟩ := hc9
        exact r_copy hC hS c1 c2 c3 c4 c5 c6 c7 (Nat.le_of_ble_eq_true hq.1) (Nat.le_of_ble_eq_true hq.2) (tb_of ha) hd (fun H1 locs1 hS1 => hgo _ _ _ _ _ _ _ _ _ hst hS1)
      · cases hst
  · cases hst
    try dsimp only at e1'
    try dsimp only at e2'
    have hm1 : MC = cells := by omega
    have hm2 : MS = slots := by omega
    subst hm1
    subst hm2
    exact W.iret hx hb (hr.trans (of_decide_eq_true ha)) (fun t ht hW => ⟨rfl, ⟨by rw [ht]; exact hS.1, va_K.moved hW.alike hK, hOd.1 s t _ hW (by rw [ht]; exact hS.2.1)⟩, hS.2.2.1.F ht⟩) hS.2.2.1.2.2 hd hlocks
  · unfold chkO at hst
    split at hst
    rotate_left
    · cases hst
    rename_i hq
    cases hst
    try dsimp only at e1'
    try dsimp only at e2'
    have hm1 : MC = cells := by omega
    have hm2 : MS = slots := by omega
    subst hm1
    subst hm2
    exact W.zret (ty := .boolean) hx hb (hr.trans (of_decide_eq_true ha)) (by rcases hq with q | q <;> rw [q] <;> rfl) (fun t ht hW => ⟨rfl, ⟨by rw [ht]; exact hS.1, va_K.moved hW.alike hK, hOd.1 s t _ hW (by rw [ht]; exact hS.2.1)⟩, hS.2.2.1.F ht⟩) hS.2.2.1.2.2 hd hlocks
  · cases hst
    try dsimp only at e1'
    try dsimp only at e2'
    have hm1 : MC = cells := by omega
    have hm2 : MS = slots := by omega
    subst hm1
    subst hm2
    replace ha : (match rtM m with
      | some (.object _) => true
      | some (.array _) => true
      | _ => false) = true := ha
    obtain ⟨rt, hrt, hrk⟩ : ∃ rt, rtM m = some rt ∧ ((∃ n, rt = .object n) ∨ ∃ t, rt = .array t) := by
      split at ha
      · rename_i n hn; exact ⟨_, hn, Or.inl ⟨n, rfl⟩⟩
      · rename_i t ht; exact ⟨_, ht, Or.inr ⟨t, rfl⟩⟩
      · cases ha
    exact W.aret hx hb (hr.trans hrt) hrk (Or.inr ⟨_, rfl⟩) (fun t ht hW => ⟨rfl, ⟨by rw [ht]; exact hS.1, va_K.moved hW.alike hK, hOd.1 s t _ hW (by rw [ht]; exact hS.2.1)⟩, hS.2.2.1.F ht⟩) hS.2.2.1.2.2 hd hlocks
  · cases hst
    try dsimp only at e1'
    try dsimp only at e2'
    have hm1 : MC = cells := by omega
    have hm2 : MS = slots := by omega
    subst hm1
    subst hm2
    exact W.vret hx hb (hr.trans (of_decide_eq_true ha)) (fun t ht hW => ⟨rfl, ⟨by rw [ht]; exact hS.1, va_K.moved hW.alike hK, hOd.1 s t _ hW (by rw [ht]; exact hS.2.1)⟩, hS.2.2.1.F ht⟩) hS.2.2.1.2.2 hd hlocks
  · cases hst

end Rows
