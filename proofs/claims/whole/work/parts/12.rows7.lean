theorem St.push {s : State} {dC : Nat → ClassId} {dI : Nat → Nat → Nat} {cy : Nat → ClassId} {base : Nat} {Od : State → Heap → Prop} {m : Nat} {hF : Hp} {MC MS : Nat} {H H1 : Heap} {locs : List Loc} {ls : Array Slot} {L : List (Option Value)} {h h' : Hp} {cells slots n : Nat} (hS : St s dC dI cy base Od m hF MC MS H locs ls L h cells slots) (hO : OdOk base Od) (h1 : HR dC dI cy base h' H1) (z1 : H1.size = H.size + 1) (o1 : ∀ q : Nat, q < H.size → H1[q]? = H[q]?) (e1 : h'.1 = h.1 + 1) (e2 : h'.2.1 = h.2.1 + n) : St s dC dI cy base Od m hF MC MS H1 locs ls L h' (cells + 1) (slots + n) := by
  obtain ⟨g1, g2, g3, g4, g5, g6, g7⟩ := hS
  refine ⟨h1, hO.2 s H H1 (fun q hq _ => o1 q hq) g2, ⟨Nat.le_trans g3.1 (by omega), fun x x1 x2 => (o1 x (Nat.lt_of_lt_of_le x1 g3.1)).trans (g3.2.1 x x1 x2), g3.2.2⟩, g4, g5, by omega, by omega⟩
theorem in_vp {i : Int32} {n : Nat} (h1 : ¬ i < 0) (h2 : i.toNatClampNeg < n) : vp_in i n := fun q => q.elim h1 (fun z => absurd h2 (Nat.not_lt.mpr z))
theorem wNat_copy : Cond.native arraycopyName ∈ TBL := List.mem_filter.mpr ⟨List.mem_of_getElem? (i := 508) (by decide +kernel), by decide +kernel⟩
theorem wSt_copy : Cond.static arraycopyName ∈ TBL := List.mem_filter.mpr ⟨List.mem_of_getElem? (i := 507) (by decide +kernel), by decide +kernel⟩
theorem wIi_sys : Cond.initialized "java/lang/System" ∈ TBL := List.mem_filter.mpr ⟨List.mem_of_getElem? (i := 65) (by decide +kernel), by decide +kernel⟩
section Rows
variable {p : Program} {l : Launch} {e : Env} {R : Room} {s : State} {mid : MethodId} {args : Array Value} {below : List Frame} {meth : Method} {c : Code} {dC : Nat → ClassId} {dI : Nat → Nat → Nat} {cy : Nat → ClassId} {base : Nat} {Od : State → Heap → Prop} {m k : Nat} {rF : Option Value} {hF : Hp} {MC MS : Nat} {Q : State → Prop}
variable {H : Heap} {locs : List Loc} {ls : Array Slot} {L : List (Option Value)} {S : List Value} {h : Hp} {cells slots pc : Nat}
variable {go : Nat → List (Option Value) → List Value → Hp → Rs}

set_option maxHeartbeats 2000000 in
theorem sd7 {s0 np a b cc d e0 : Nat} {x : Int32} {sw : List (Int32 × Nat)} {fl : Bool} (hC : Cx p R s mid args meth c dC dI cy base Od m k MC MS) (hgo : Sn p l e R s mid args below meth c dC dI cy base Od m rF hF MC MS Q go) (hok : okI m pc (7, s0, np, a, b, cc, d, e0, x, sw, fl) = true)
    (hst : stp7 chkO bndO go none s0 np L S h = some (rF, hF)) (hS : St s dC dI cy base Od m hF MC MS H locs ls L h cells slots) : W p l e R s mid args below meth c H locs cells slots Q (F0 mid pc ls (S.map (cvV base))) := by
  obtain ⟨hd, hnp, ha⟩ := hd_of hok (show ¬ (7 : Nat) = 99 by decide)
  obtain ⟨hx, hb, hr, hml, hown, hts, hlocks, hnm, hK, hOd, hbs, hfr, hlo, hrc, hrs⟩ := id hC
  have hLR := hS.2.2.2.1
  obtain ⟨nx, sl, ln, Rr, I⟩ := h
  unfold stp7 at hst
  dsimp only at hst
  split at hst
  · replace hnp : np = pc + 1 := hnp
    subst hnp
    unfold chkO at hst
    split at hst
    rotate_left
    · cases hst
    rename_i hq
    have hP := one_P (hS.1.2 _ hq.1.2)
    rw [cel_arr hq.1.1 (by decide) (by decide)] at hP
    exact va_iald (D := (dC, dI)) (cl := vwCl) hx hb hK hP 0 2 rfl rfl (in_vp hq.2.1 hq.2.2) hd (hgo _ _ _ _ _ _ _ _ _ hst hS)
  · replace hnp : np = pc + 1 := hnp
    subst hnp
    unfold chkO at hst
    split at hst
    rotate_left
    · cases hst
    rename_i hq
    have hP := one_P (hS.1.2 _ hq.1.2)
    rw [cel_arr hq.1.1 (by decide) (by decide)] at hP
    exact va_bald (D := (dC, dI)) (cl := vwCl) hx hb hK hP 0 0 rfl rfl (in_vp hq.2.1 hq.2.2) hd (hgo _ _ _ _ _ _ _ _ _ hst hS)
  · replace hnp : np = pc + 1 := hnp
    subst hnp
    unfold chkO at hst
    split at hst
    rotate_left
    · cases hst
    rename_i hq
    have hP := one_P (hS.1.2 _ hq.1.2)
    rw [cel_arr hq.1.1 (by decide) (by decide)] at hP
    exact va_zald (D := (dC, dI)) (cl := vwCl) hx hb hK hP 0 3 rfl rfl (in_vp hq.2.1 hq.2.2) hd (hgo _ _ _ _ _ _ _ _ _ hst hS)
  · replace hnp : np = pc + 1 := hnp
    subst hnp
    unfold chkO at hst
    split at hst
    rotate_left
    · cases hst
    rename_i hq
    have hP := one_P (hS.1.2 _ hq.1.2)
    rw [cel_arr hq.1.1 (by decide) (by decide)] at hP
    exact va_cald (D := (dC, dI)) (cl := vwCl) hx hb hK hP 0 1 rfl rfl (in_vp hq.2.1 hq.2.2) hd (hgo _ _ _ _ _ _ _ _ _ hst hS)
  · replace hnp : np = pc + 1 := hnp
    subst hnp
    unfold chkO at hst
    split at hst
    rotate_left
    · cases hst
    rename_i i o r hq
    have hP := one_P (hS.1.2 _ hq.1.2)
    rw [cel_ref hq.1.1] at hP
    have h17 := KD_lt o
    have h13 := hq.1.1
    have h4 : KD o = 13 ∨ KD o = 14 ∨ KD o = 15 ∨ KD o = 16 := by omega
    rcases h4 with q | q | q | q
    · rw [q] at hP
      refine va_aldq (D := (dC, dI)) (cl := vwCl) (C := RX0) hx hb hK hP 0 4 rfl rfl (in_vp hq.2.1 hq.2.2) hd ?_
      show W p l e R s mid args below meth c H locs cells slots Q (F0 mid (pc + 1) ls (va_rf (rA base (Rr o i.toNatClampNeg)) :: r.map (cvV base)))
      rw [← cvV_rv]
      exact hgo _ _ _ _ _ _ _ _ _ hst hS
    · rw [q] at hP
      refine va_aldq (D := (dC, dI)) (cl := vwCl) (C := RX3) hx hb hK hP 0 5 rfl rfl (in_vp hq.2.1 hq.2.2) hd ?_
      show W p l e R s mid args below meth c H locs cells slots Q (F0 mid (pc + 1) ls (va_rf (rA base (Rr o i.toNatClampNeg)) :: r.map (cvV base)))
      rw [← cvV_rv]
      exact hgo _ _ _ _ _ _ _ _ _ hst hS
    · rw [q] at hP
      refine va_aldq (D := (dC, dI)) (cl := vwCl) (C := RX4) hx hb hK hP 0 6 rfl rfl (in_vp hq.2.1 hq.2.2) hd ?_
      show W p l e R s mid args below meth c H locs cells slots Q (F0 mid (pc + 1) ls (va_rf (rA base (Rr o i.toNatClampNeg)) :: r.map (cvV base)))
      rw [← cvV_rv]
      exact hgo _ _ _ _ _ _ _ _ _ hst hS
    · rw [q] at hP
      refine va_aldq (D := (dC, dI)) (cl := vwCl) (C := RX5) hx hb hK hP 0 7 rfl rfl (in_vp hq.2.1 hq.2.2) hd ?_
      show W p l e R s mid args below meth c H locs cells slots Q (F0 mid (pc + 1) ls (va_rf (rA base (Rr o i.toNatClampNeg)) :: r.map (cvV base)))
      rw [← cvV_rv]
      exact hgo _ _ _ _ _ _ _ _ _ hst hS
  · replace hnp : np = pc + 1 := hnp
    subst hnp
    unfold chkO at hst
    split at hst
    rotate_left
    · cases hst
    rename_i x i o r hq
    have hat := hS.1.2 _ hq.1.2
    rw [cel_arr hq.1.1 (by decide) (by decide)] at hat
    refine W.iast hx hb hat ((hK.2 2 _ rfl).1 (ln o) (fun j => .int (I o j))) (fun q => by cases q) (by show ¬ (i < 0 ∨ (arrV _ _ _).slots.size ≤ _); rw [arrV_size]; exact in_vp hq.2.1 hq.2.2) rfl rfl hd fun H1 g1 g2 g3 => ?_
    refine hgo _ _ _ _ _ _ _ _ _ hst (hS.heap hOd (hS.1.put (h' := (nx, sl, ln, Rr, up2 I o i.toNatClampNeg x)) (o := o) rfl (fun j hj => cel_same rfl rfl (up2_ne hj)) ?_ g2 g3) (hS.2.2.1.put g2 g3 (Nat.le_add_right base o)) o g3 rfl rfl)
    rw [cel_arr hq.1.1 (by decide) (by decide)]
    show H1[base + o]? = some (vp_cell _ _)
    rw [g1, vp_cell_i, arrV_store]
    show some (arrV (cy 11) (ln o) (updV (fun j => .int (I o j)) i.toNatClampNeg (.int x))) = some (arrV (cy 11) (ln o) (fun j => .int (up2 I o i.toNatClampNeg x o j)))
    congr 2
    funext z
    rw [up2_eq]
    by_cases hz : z = i.toNatClampNeg
    · subst hz; simp only [updV, up1, if_pos]; try rfl
    · simp only [updV, up1, if_neg hz]
  · replace hnp : np = pc + 1 := hnp
    subst hnp
    unfold chkO at hst
    split at hst
    rotate_left
    · cases hst
    rename_i x i o r hq
    have hat := hS.1.2 _ hq.1.2
    rw [cel_arr hq.1.1 (by decide) (by decide)] at hat
    refine W.bast hx hb hat ((hK.2 0 _ rfl).1 (ln o) (fun j => .int (I o j))) (fun q => by cases q) (by show ¬ (i < 0 ∨ (arrV _ _ _).slots.size ≤ _); rw [arrV_size]; exact in_vp hq.2.1 hq.2.2) rfl rfl hd fun H1 g1 g2 g3 => ?_
    refine hgo _ _ _ _ _ _ _ _ _ hst (hS.heap hOd (hS.1.put (h' := (nx, sl, ln, Rr, up2 I o i.toNatClampNeg (vp_nar .byte x))) (o := o) rfl (fun j hj => cel_same rfl rfl (up2_ne hj)) ?_ g2 g3) (hS.2.2.1.put g2 g3 (Nat.le_add_right base o)) o g3 rfl rfl)
    rw [cel_arr hq.1.1 (by decide) (by decide)]
    show H1[base + o]? = some (vp_cell _ _)
    rw [g1, vp_cell_i, arrV_store]
    show some (arrV (cy 9) (ln o) (updV (fun j => .int (I o j)) i.toNatClampNeg (narrow .byte (.int x)))) = some (arrV (cy 9) (ln o) (fun j => .int (up2 I o i.toNatClampNeg (vp_nar .byte x) o j)))
    congr 2
    funext z
    rw [up2_eq]
    by_cases hz : z = i.toNatClampNeg
    · subst hz; simp only [updV, up1, if_pos]; try rfl
    · simp only [updV, up1, if_neg hz]
  · replace hnp : np = pc + 1 := hnp
    subst hnp
    unfold chkO at hst
    split at hst
    rotate_left
    · cases hst
    rename_i x i o r hq
    have hat := hS.1.2 _ hq.1.2
    rw [cel_arr hq.1.1 (by decide) (by decide)] at hat
    refine W.zast hx hb hat ((hK.2 3 _ rfl).1 (ln o) (fun j => .int (I o j))) (fun q => by cases q) (by show ¬ (i < 0 ∨ (arrV _ _ _).slots.size ≤ _); rw [arrV_size]; exact in_vp hq.2.1 hq.2.2) rfl rfl hd fun H1 g1 g2 g3 => ?_
    refine hgo _ _ _ _ _ _ _ _ _ hst (hS.heap hOd (hS.1.put (h' := (nx, sl, ln, Rr, up2 I o i.toNatClampNeg (vp_nar .boolean x))) (o := o) rfl (fun j hj => cel_same rfl rfl (up2_ne hj)) ?_ g2 g3) (hS.2.2.1.put g2 g3 (Nat.le_add_right base o)) o g3 rfl rfl)
    rw [cel_arr hq.1.1 (by decide) (by decide)]
    show H1[base + o]? = some (vp_cell _ _)
    rw [g1, vp_cell_i, arrV_store]
    show some (arrV (cy 12) (ln o) (updV (fun j => .int (I o j)) i.toNatClampNeg (narrow .boolean (.int x)))) = some (arrV (cy 12) (ln o) (fun j => .int (up2 I o i.toNatClampNeg (vp_nar .boolean x) o j)))
    congr 2
    funext z
    rw [up2_eq]
    by_cases hz : z = i.toNatClampNeg
    · subst hz; simp only [updV, up1, if_pos]; try rfl
    · simp only [updV, up1, if_neg hz]
  · replace hnp : np = pc + 1 := hnp
    subst hnp
    unfold chkO at hst
    split at hst
    rotate_left
    · cases hst
    rename_i x i o r hq
    have hat := hS.1.2 _ hq.1.2
    rw [cel_arr hq.1.1 (by decide) (by decide)] at hat
    refine W.cast hx hb hat ((hK.2 1 _ rfl).1 (ln o) (fun j => .int (I o j))) (fun q => by cases q) (by show ¬ (i < 0 ∨ (arrV _ _ _).slots.size ≤ _); rw [arrV_size]; exact in_vp hq.2.1 hq.2.2) rfl rfl hd fun H1 g1 g2 g3 => ?_
    refine hgo _ _ _ _ _ _ _ _ _ hst (hS.heap hOd (hS.1.put (h' := (nx, sl, ln, Rr, up2 I o i.toNatClampNeg (vp_nar .char x))) (o := o) rfl (fun j hj => cel_same rfl rfl (up2_ne hj)) ?_ g2 g3) (hS.2.2.1.put g2 g3 (Nat.le_add_right base o)) o g3 rfl rfl)
    rw [cel_arr hq.1.1 (by decide) (by decide)]
    show H1[base + o]? = some (vp_cell _ _)
    rw [g1, vp_cell_i, arrV_store]
    show some (arrV (cy 10) (ln o) (updV (fun j => .int (I o j)) i.toNatClampNeg (narrow .char (.int x)))) = some (arrV (cy 10) (ln o) (fun j => .int (up2 I o i.toNatClampNeg (vp_nar .char x) o j)))
    congr 2
    funext z
    rw [up2_eq]
    by_cases hz : z = i.toNatClampNeg
    · subst hz; simp only [updV, up1, if_pos]; try rfl
    · simp only [updV, up1, if_neg hz]
  · replace hnp : np = pc + 1 := hnp
    subst hnp
    unfold chkO at hst
    split at hst
    rotate_left
    · cases hst
    rename_i v i o r hq
    have hat := hS.1.2 _ hq.1.1.2.2
    rw [cel_ref hq.1.1.1] at hat
    have h17 := KD_lt o
    have h13 := hq.1.1.1
    have h4 : KD o = 13 ∨ KD o = 14 ∨ KD o = 15 ∨ KD o = 16 := by omega
    rcases h4 with q | q | q | q
    · have hkv : KD v = 0 := by
        have h9 := hq.2.2
        rw [q] at h9
        have : ∀ z, z < 17 → 13 = okd z → z = 0 := by decide
        exact this _ (KD_lt v) h9
      rw [q] at hat
      have hav := hS.1.2 v hq.2.1
      rw [cel_cls hkv (by decide)] at hav
      obtain ⟨r', hr', cellV, v1, v2, v3, -⟩ := hav
      have hcls := (hK.1 0 _ (vwAt 0 (by decide))).2
      obtain ⟨kA, comp, k1, k2, k3, -⟩ := (hK.2 4 _ rfl).2
      have hcomp : comp = dC 0 := Option.some.inj (k3.symm.trans hcls.1)
      subst hcomp
      obtain ⟨kC, hkC, -⟩ := hcls.2
      refine W.aast hx hb hat (fun q h => by cases h) (fun h => by cases h) k1 k2 rfl hkC ⟨hq.1.2.1, by show _ < (arrV _ _ _).slots.size; rw [arrV_size]; exact hq.1.2.2⟩ v1 (fun q h => by rw [v3] at h; cases h) (by rw [v2]; exact hkC) (by rw [v2]; exact va_assign hcls) rfl rfl hd fun H1 g1 g2 g3 => ?_
      refine hgo _ _ _ _ _ _ _ _ _ hst (hS.heap hOd (hS.1.put (h' := (nx, sl, ln, up2 Rr o i.toNatClampNeg (some v), I)) (o := o) rfl (fun j hj => cel_same rfl (up2_ne hj) rfl) ?_ g2 g3) (hS.2.2.1.put g2 g3 (Nat.le_add_right base o)) o g3 rfl rfl)
      rw [cel_ref hq.1.1.1, q]
      show H1[base + o]? = some (vp_cell _ _)
      rw [g1, vp_cell_q, arrV_store]
      show some (arrV (cy 13) (ln o) (updV (fun j => va_rf (rA base (Rr o j))) i.toNatClampNeg (.ref (base + v)))) = some (arrV (cy 13) (ln o) (fun j => va_rf (rA base (up2 Rr o i.toNatClampNeg (some v) o j))))
      congr 2
      funext z
      rw [up2_eq]
      by_cases hz : z = i.toNatClampNeg
      · subst hz; simp only [updV, up1, if_pos]; rfl
      · simp only [updV, up1, if_neg hz]
    · have hkv : KD v = 3 := by
        have h9 := hq.2.2
        rw [q] at h9
        have : ∀ z, z < 17 → 14 = okd z → z = 3 := by decide
        exact this _ (KD_lt v) h9
      rw [q] at hat
      have hav := hS.1.2 v hq.2.1
      rw [cel_cls hkv (by decide)] at hav
      obtain ⟨r', hr', cellV, v1, v2, v3, -⟩ := hav
      have hcls := (hK.1 3 _ (vwAt 3 (by decide))).2
      obtain ⟨kA, comp, k1, k2, k3, -⟩ := (hK.2 5 _ rfl).2
      have hcomp : comp = dC 3 := Option.some.inj (k3.symm.trans hcls.1)
      subst hcomp
      obtain ⟨kC, hkC, -⟩ := hcls.2
      refine W.aast hx hb hat (fun q h => by cases h) (fun h => by cases h) k1 k2 rfl hkC ⟨hq.1.2.1, by show _ < (arrV _ _ _).slots.size; rw [arrV_size]; exact hq.1.2.2⟩ v1 (fun q h => by rw [v3] at h; cases h) (by rw [v2]; exact hkC) (by rw [v2]; exact va_assign hcls) rfl rfl hd fun H1 g1 g2 g3 => ?_
      refine hgo _ _ _ _ _ _ _ _ _ hst (hS.heap hOd (hS.1.put (h' := (nx, sl, ln, up2 Rr o i.toNatClampNeg (some v), I)) (o := o) rfl (fun j hj => cel_same rfl (up2_ne hj) rfl) ?_ g2 g3) (hS.2.2.1.put g2 g3 (Nat.le_add_right base o)) o g3 rfl rfl)
      rw [cel_ref hq.1.1.1, q]
      show H1[base + o]? = some (vp_cell _ _)
      rw [g1, vp_cell_q, arrV_store]
      show some (arrV (cy 14) (ln o) (updV (fun j => va_rf (rA base (Rr o j))) i.toNatClampNeg (.ref (base + v)))) = some (arrV (cy 14) (ln o) (fun j => va_rf (rA base (up2 Rr o i.toNatClampNeg (some v) o j))))
      congr 2
      funext z
      rw [up2_eq]
      by_cases hz : z = i.toNatClampNeg
      · subst hz; simp only [updV, up1, if_pos]; rfl
      · simp only [updV, up1, if_neg hz]
    · have hkv : KD v = 4 := by
        have h9 := hq.2.2
        rw [q] at h9
        have : ∀ z, z < 17 → 15 = okd z → z = 4 := by decide
        exact this _ (KD_lt v) h9
      rw [q] at hat
      have hav := hS.1.2 v hq.2.1
      rw [cel_cls hkv (by decide)] at hav
      obtain ⟨r', hr', cellV, v1, v2, v3, -⟩ := hav
      have hcls := (hK.1 4 _ (vwAt 4 (by decide))).2
      obtain ⟨kA, comp, k1, k2, k3, -⟩ := (hK.2 6 _ rfl).2
      have hcomp : comp = dC 4 := Option.some.inj (k3.symm.trans hcls.1)
      subst hcomp
      obtain ⟨kC, hkC, -⟩ := hcls.2
      refine W.aast hx hb hat (fun q h => by cases h) (fun h => by cases h) k1 k2 rfl hkC ⟨hq.1.2.1, by show _ < (arrV _ _ _).slots.size; rw [arrV_size]; exact hq.1.2.2⟩ v1 (fun q h => by rw [v3] at h; cases h) (by rw [v2]; exact hkC) (by rw [v2]; exact va_assign hcls) rfl rfl hd fun H1 g1 g2 g3 => ?_
      refine hgo _ _ _ _ _ _ _ _ _ hst (hS.heap hOd (hS.1.put (h' := (nx, sl, ln, up2 Rr o i.toNatClampNeg (some v), I)) (o := o) rfl (fun j hj => cel_same rfl (up2_ne hj) rfl) ?_ g2 g3) (hS.2.2.1.put g2 g3 (Nat.le_add_right base o)) o g3 rfl rfl)
      rw [cel_ref hq.1.1.1, q]
      show H1[base + o]? = some (vp_cell _ _)
      rw [g1, vp_cell_q, arrV_store]
      show some (arrV (cy 15) (ln o) (updV (fun j => va_rf (rA base (Rr o j))) i.toNatClampNeg (.ref (base + v)))) = some (arrV (cy 15) (ln o) (fun j => va_rf (rA base (up2 Rr o i.toNatClampNeg (some v) o j))))
      congr 2
      funext z
      rw [up2_eq]
      by_cases hz : z = i.toNatClampNeg
      · subst hz; simp only [updV, up1, if_pos]; rfl
      · simp only [updV, up1, if_neg hz]
    · have hkv : KD v = 5 := by
        have h9 := hq.2.2
        rw [q] at h9
        have : ∀ z, z < 17 → 16 = okd z → z = 5 := by decide
        exact this _ (KD_lt v) h9
      rw [q] at hat
      have hav := hS.1.2 v hq.2.1
      rw [cel_cls hkv (by decide)] at hav
      obtain ⟨r', hr', cellV, v1, v2, v3, -⟩ := hav
      have hcls := (hK.1 5 _ (vwAt 5 (by decide))).2
      obtain ⟨kA, comp, k1, k2, k3, -⟩ := (hK.2 7 _ rfl).2
      have hcomp : comp = dC 5 := Option.some.inj (k3.symm.trans hcls.1)
      subst hcomp
      obtain ⟨kC, hkC, -⟩ := hcls.2
      refine W.aast hx hb hat (fun q h => by cases h) (fun h => by cases h) k1 k2 rfl hkC ⟨hq.1.2.1, by show _ < (arrV _ _ _).slots.size; rw [arrV_size]; exact hq.1.2.2⟩ v1 (fun q h => by rw [v3] at h; cases h) (by rw [v2]; exact hkC) (by rw [v2]; exact va_assign hcls) rfl rfl hd fun H1 g1 g2 g3 => ?_
      refine hgo _ _ _ _ _ _ _ _ _ hst (hS.heap hOd (hS.1.put (h' := (nx, sl, ln, up2 Rr o i.toNatClampNeg (some v), I)) (o := o) rfl (fun j hj => cel_same rfl (up2_ne hj) rfl) ?_ g2 g3) (hS.2.2.1.put g2 g3 (Nat.le_add_right base o)) o g3 rfl rfl)
      rw [cel_ref hq.1.1.1, q]
      show H1[base + o]? = some (vp_cell _ _)
      rw [g1, vp_cell_q, arrV_store]
      show some (arrV (cy 16) (ln o) (updV (fun j => va_rf (rA base (Rr o j))) i.toNatClampNeg (.ref (base + v)))) = some (arrV (cy 16) (ln o) (fun j => va_rf (rA base (up2 Rr o i.toNatClampNeg (some v) o j))))
      congr 2
      funext z
      rw [up2_eq]
      by_cases hz : z = i.toNatClampNeg
      · subst hz; simp only [updV, up1, if_pos]; rfl
      · simp only [updV, up1, if_neg hz]
  · cases hst

set_option maxHeartbeats 1000000 in
theorem r_copy {o d idx : Nat} {sp dp n : Int32} {r : List Value} {nx sl : Nat} {ln : Nat → Nat} {Rr : Nat → Nat → Option Nat} {I : Nat → Nat → Int32} (hC : Cx p R s mid args meth c dC dI cy base Od m k MC MS) (hS : St s dC dI cy base Od m hF MC MS H locs ls L (nx, sl, ln, Rr, I) cells slots) (ho : KD o = 11 ∧ o < nx) (hdd : KD d = 11 ∧ d < nx) (h1 : ¬ sp < 0) (h2 : ¬ dp < 0) (h3 : ¬ n < 0) (h4 : sp.toNatClampNeg + n.toNatClampNeg ≤ ln o) (h5 : dp.toNatClampNeg + n.toNatClampNeg ≤ ln d) (hk0 : 0 < k) (hr8 : r.length ≤ 8) (hl : Cond.methodLink (yM m).cls idx arraycopyName ∈ TBL) (hd : decode (bM m) pc = .ok (.invokestatic idx, 3))
    (kk : ∀ (H1 : Heap) (locs1 : List Loc), St s dC dI cy base Od m hF MC MS H1 locs1 ls L (nx, sl, ln, Rr, up1 I d (va_cpy (I o) (I d) sp.toNatClampNeg dp.toNatClampNeg n.toNatClampNeg)) cells slots → W p l e R s mid args below meth c H1 locs1 cells slots Q (F0 mid (pc + 3) ls (r.map (cvV base)))) :
    W p l e R s mid args below meth c H locs cells slots Q (F0 mid pc ls (.int n :: .int dp :: .ref (base + d) :: .int sp :: .ref (base + o) :: r.map (cvV base))) := by
  obtain ⟨hx, hb, hr, hml, hown, hts, hlocks, hnm, hK, hOd, hbs, hfr, hlo, hrc, hrs⟩ := id hC
  have hLR := hS.2.2.2.1
  have nn : ∀ z : Int32, ¬ z < 0 → z.toInt = (z.toNatClampNeg : Int) := by
    intro z hz
    have hz0 : (0 : Int) ≤ z.toInt := by
      have := Int32.not_lt.mp hz
      simpa using Int32.le_iff_toInt_le.mp this
    show z.toInt = ((z.toInt.toNat : Nat) : Int)
    omega
  have hc0 := hS.1.2 o ho.2
  rw [cel_arr ho.1 (by decide) (by decide)] at hc0
  have hc1 := hS.1.2 d hdd.2
  rw [cel_arr hdd.1 (by decide) (by decide)] at hc1
  replace hc0 : H[base + o]? = some (vp_cell (cy 11) (ln o, .inl (I o))) := hc0
  replace hc1 : H[base + d]? = some (vp_cell (cy 11) (ln d, .inl (I d))) := hc1
  intro T hT X
  obtain ⟨-, k0, hk0', cm0, hkk0⟩ := (hK.2 2 _ rfl).1 (ln o) (fun j => .int (I o j))
  obtain ⟨-, k1, hk1', cm1, hkk1⟩ := (hK.2 2 _ rfl).1 (ln d) (fun j => .int (I d j))
  have hsum := cat_sumC base r
  have hnw : nativeFrameWords "java/lang/System" "arraycopy" 5 + 11 ≤ 40 := by decide +kernel
  obtain ⟨vm', X', step⟩ := X.arraycopy hx hown (hts _ hl) (hts _ wNat_copy) (hts _ wSt_copy) (hts _ wIi_sys) (src := base + o) (dst := base + d) (cs := vp_cell (cy 11) (ln o, .inl (I o))) (cd := vp_cell (cy 11) (ln d, .inl (I d))) (srcPos := sp) (destPos := dp) (n := n) (by rw [hT]; exact hc0) (by rw [hT]; exact hc1)
    (fun _ h => by cases h) (fun _ h => by cases h) (fun h => by cases h) (fun h => by cases h) hk0' hk1' hkk0 hkk1 (by simp [show refKind .int = false from rfl]) h1 h2 h3
    (by rw [nn sp h1, nn n h3]; show ¬ _ > ((arrV (cy 11) (ln o) (fun j => .int (I o j))).slots.size : Int); rw [arrV_size]; omega)
    (by rw [nn dp h2, nn n h3]; show ¬ _ > ((arrV (cy 11) (ln d) (fun j => .int (I d j))).slots.size : Int); rw [arrV_size]; omega)
    (fun vm₁ _ i hi => by
      have e : (vp_cell (cy 11) (ln o, .inl (I o))).slots.getD (sp.toNatClampNeg + i) .null = .int (I o (sp.toNatClampNeg + i)) := by
        show (arrV (cy 11) (ln o) (fun j => .int (I o j))).slots.getD _ _ = _
        rw [Array.getD_eq_getD_getElem?, arrV_read _ _ (by omega)]
        rfl
      refine ⟨?_, ?_⟩
      · rw [e]
        rfl
      · rw [e]
        exact trivial)
    (g := F0 mid pc ls (.int n :: .int dp :: .ref (base + d) :: .int sp :: .ref (base + o) :: r.map (cvV base))) rfl (by rw [hml, ← hS.2.2.2.2.1, ← hLR.1]) (rest := r.map (cvV base)) rfl (by rw [hb]; exact hd) (by rw [hfr]; omega) (by show 2 * 0 + _ + _ ≤ _; rw [hlo]; omega)
  have e1 : copied (vp_cell (cy 11) (ln o, .inl (I o))) (vp_cell (cy 11) (ln d, .inl (I d))) sp dp n = vp_cell (cy 11) (ln d, .inl (va_cpy (I o) (I d) sp.toNatClampNeg dp.toNatClampNeg n.toNatClampNeg)) := va_copied (fun z => .int z) (cy 11) (cy 11) (I o) (I d) h4
  rw [e1] at X' step
  generalize hce : vp_cell (cy 11) (ln d, .inl (va_cpy (I o) (I d) sp.toNatClampNeg dp.toNatClampNeg n.toNatClampNeg)) = ce at X' step
  have hl2 : base + d < H.size := (Array.getElem?_eq_some_iff.mp hc1).1
  have hheap : ((T.setVm vm').setCell (base + d) ce).heap = H.setIfInBounds (base + d) ce := by rw [← hT]; rfl
  have oq : ∀ q : Nat, q ≠ base + d → (H.setIfInBounds (base + d) ce)[q]? = H[q]? := fun q hq => by simp [Array.getElem?_setIfInBounds, Ne.symm hq]
  have z1 : (H.setIfInBounds (base + d) ce).size = H.size := by simp
  refine (fun ⟨t, a1, b1⟩ => ⟨t, step t a1, b1⟩) (kk _ _ (hS.heap hOd (hS.1.put (h' := (nx, sl, ln, Rr, up1 I d (va_cpy (I o) (I d) sp.toNatClampNeg dp.toNatClampNeg n.toNatClampNeg))) (o := d) rfl (fun j hj => cel_same rfl rfl (up1_ne hj)) ?_ z1 oq) ?_ d oq rfl rfl) _ hheap X')
  · rw [cel_arr hdd.1 (by decide) (by decide)]
    show (H.setIfInBounds (base + d) ce)[base + d]? = some (vp_cell (cy 11) (ln d, .inl (up1 I d _ d)))
    rw [up1_eq, hce]
    simp [Array.getElem?_setIfInBounds, hl2]
  · refine ⟨by rw [z1]; exact hS.2.2.1.1, fun q g1 g2 => ?_, fun q hq => ?_⟩
    · rw [oq q (fun e => g2 (by rw [e]; exact Nat.le_add_right base d))]
      exact hS.2.2.1.2.1 q g1 g2
    · rcases List.mem_append.mp hq with h | h
      · exact hS.2.2.1.2.2 q h
      · obtain ⟨z, -, hz⟩ := List.mem_map.mp h
        rw [← hz]
        exact Nat.le_add_right base d
end Rows
