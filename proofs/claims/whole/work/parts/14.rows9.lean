theorem gd_in {w : Cond} (h : w ∈ lw_tbl) (hg : goodWord w = true) : w ∈ gdT := List.mem_filter.mpr ⟨h, hg⟩
theorem tb_ofg {d : Nat} {w : Cond} (h : tbB d w = true) (hg : goodWord w = true := by rfl) : w ∈ gdT := gd_in (List.mem_of_getElem? (of_decide_eq_true h)) hg
theorem gd_TBL {w : Cond} (h : w ∈ gdT) : w ∈ TBL := by
  obtain ⟨h1, h2⟩ := List.mem_filter.mp h
  exact List.mem_filter.mpr ⟨h1, by rw [h2]; rfl⟩
theorem gdIn {big ws : List Cond} (hb : ∀ w ∈ gdT, w ∈ big) (h : ∀ w ∈ ws, w ∈ gdT) : GoodIn big ws := fun w hw => ⟨hb w (h w hw), good_of_word (List.mem_filter.mp (h w hw)).2⟩
/-- what the tables say of a method -/
def OkM (m : Nat) : Prop := Cond.code (yM m) (bM m) (mlM m) (rtM m) ∈ gdT ∧ Cond.initialized (yM m).cls ∈ gdT ∧ ((yM m).cls ≠ "java/lang/invoke/MethodHandle" ∧ (yM m).cls ≠ "java/lang/invoke/VarHandle" ∧ (parseMethodDescriptor (yM m).desc).map (fun d => d.parameters.length) = some (npM m)) ∧ plainName (yM m).cls = true ∧ mlM m ≤ 40 ∧ (kM m = 0 → Cond.static (yM m) ∈ gdT) ∧ (kM m = 1 → Cond.instanceMethod (yM m) ∈ gdT ∧ Cond.selects (yM m).cls (yM m) (yM m) ∈ gdT) ∧ (kM m = 2 → Cond.instanceMethod (yM m) ∈ gdT ∧ (yM m).name = "<init>")
theorem okM_all {m : Nat} (hm : m < NM) : OkM m := by
  obtain ⟨p0, p1, p2, p3, h⟩ := okMs m hm
  unfold okMB at h
  simp only [Bool.and_eq_true] at h
  obtain ⟨⟨⟨⟨⟨⟨⟨h0, h1⟩, h2⟩, h3⟩, h4⟩, h5⟩, h6⟩, h7⟩ := h
  refine ⟨gd_in (List.mem_of_getElem? (of_decide_eq_true h0)) rfl, tb_ofg h1, ⟨of_decide_eq_true h2, of_decide_eq_true h3, of_decide_eq_true h4⟩, h5, Nat.le_of_ble_eq_true h6, ?_, ?_, ?_⟩
  · intro hk
    rw [hk] at h7
    exact tb_ofg h7
  · intro hk
    rw [hk] at h7
    simp only [Bool.and_eq_true] at h7
    exact ⟨tb_ofg h7.1, tb_ofg h7.2⟩
  · intro hk
    rw [hk] at h7
    simp only [Bool.and_eq_true] at h7
    exact ⟨tb_ofg h7.1, of_decide_eq_true h7.2⟩
theorem wsM_gd {m : Nat} (hm : m < NM) : ∀ w ∈ wsM m, w ∈ gdT := by
  intro w hw
  rcases List.mem_cons.mp hw with q | q
  · rw [q]; exact (okM_all hm).1
  · exact q
theorem gd_S {own : String} {idx : Nat} {y : MethodName} {ws : List Cond} (h1 : Cond.methodLink own idx y ∈ gdT) (h2 : Cond.static y ∈ gdT) (h3 : Cond.initialized y.cls ∈ gdT) (h4 : ∀ w ∈ ws, w ∈ gdT) : ∀ w ∈ va_wsS own idx y ws, w ∈ gdT := by
  intro w hw
  unfold va_wsS at hw
  simp only [List.cons_append, List.nil_append, List.mem_cons] at hw
  rcases hw with q | q | q | q
  · rw [q]; exact h1
  · rw [q]; exact h2
  · rw [q]; exact h3
  · exact h4 w q
theorem gd_V {own C : String} {idx : Nat} {y : MethodName} {ws : List Cond} (h1 : Cond.methodLink own idx y ∈ gdT) (h2 : Cond.instanceMethod y ∈ gdT) (h3 : Cond.selects C y y ∈ gdT) (h5 : Cond.initialized C ∈ gdT) (h4 : ∀ w ∈ ws, w ∈ gdT) : ∀ w ∈ wsV own idx C y ws, w ∈ gdT := by
  intro w hw
  unfold wsV at hw
  simp only [List.cons_append, List.nil_append, List.mem_cons] at hw
  rcases hw with q | q | q | q | q
  · rw [q]; exact h1
  · rw [q]; exact h2
  · rw [q]; exact h3
  · rw [q]; exact h5
  · exact h4 w q
theorem callO_some {k : Nat} {ex : Nat → Nat → List Value → Hp → Rs} {a : Nat} {as : List Value} {h : Hp} {f : Option Value → Hp → Rs} {x : Option Value × Hp} (hc : callO k ex a as h f = some x) : ∃ k' r1 h1, k = k' + 1 ∧ cond (isP a) (prm a as h) (ex k' a as h) = some (r1, h1) ∧ f r1 h1 = some x := by
  cases k with
  | zero => cases hc
  | succ k' =>
    unfold callO at hc
    dsimp only at hc
    cases hq : cond (isP a) (prm a as h) (ex k' a as h) with
    | none => rw [hq] at hc; cases hc
    | some y => rw [hq] at hc; exact ⟨k', y.1, y.2, rfl, hq, hc⟩
theorem okS_sum {base : Nat} {r : List Value} (h : okS r = true) : ((r.map (cvV base)).map fun v => v.category).sum ≤ 8 := by
  have : ((r.map (cvV base)).map fun v => v.category) = r.map fun v => v.category := by
    rw [List.map_map]
    exact List.map_congr_left (fun v _ => cvV_cat base v)
  rw [this]
  exact Nat.le_of_ble_eq_true h
theorem initRt : ∀ a, a < NM → kM a = 2 → rtM a = none := by
  have h : (List.range NM).all (fun a => !(Nat.beq (kM a) 2) || (rtM a).isNone) = true := by decide +kernel
  intro a ha hk
  have h1 := List.all_eq_true.mp h a (List.mem_range.mpr ha)
  rw [hk] at h1
  simpa using h1
section Rows
variable {p : Program} {l : Launch} {e : Env} {R : Room} {s : State} {mid : MethodId} {args : Array Value} {below : List Frame} {meth : Method} {c : Code} {dC : Nat → ClassId} {dI : Nat → Nat → Nat} {cy : Nat → ClassId} {base : Nat} {Od : State → Heap → Prop} {m k : Nat} {rF : Option Value} {hF : Hp} {MC MS : Nat} {Q : State → Prop}
variable {H : Heap} {locs : List Loc} {ls : Array Slot} {L : List (Option Value)} {S : List Value} {h : Hp} {cells slots pc : Nat}
variable {go : Nat → List (Option Value) → List Value → Hp → Rs}

variable {ex : Nat → Nat → List Value → Hp → Rs}
theorem blind_Pc {av : List Value} (hOd : OdOk base Od) : FrameBlind (va_Pc av (fun U => Wd dC dI cy base Od h U ∧ NwX U)) :=
  fun a U g mk q => ⟨q.1, ⟨q.2.1.1, va_K.moved (u := U) (U := U.calling g mk a) (Vm.Alike.refl U.vm) q.2.1.2.1, hOd.1 U (U.calling g mk a) _ (State.WarmedH.refl U) q.2.1.2.2⟩, NwX.same (u := U) (U := U.calling g mk a) rfl q.2.2⟩
theorem nwx_of (hts : ∀ w ∈ TBL, w.before args s = true) : NwX s := fun w hm hw => isX_any hw (hts w (List.mem_filter.mpr ⟨hm, by rw [hw]; exact Bool.or_true _⟩))
/-- behind a call -/
theorem r_aft {st0 rest : List Value} {r1 : Option Value} {h1 : Hp} {aa : Array Value} (hC : Cx p R s mid args meth c dC dI cy base Od m k MC MS) (hS : St s dC dI cy base Od m hF MC MS H locs ls L h cells slots) (g1 : h.1 ≤ h1.1) (g2 : h.2.1 ≤ h1.2.1)
    (hrun : va_Run p l e R s mid args below meth c H locs cells slots (h1.1 - h.1) (h1.2.1 - h.2.1) (F0 mid pc ls st0) (rest.map (cvV base)) (Qf dC dI cy base Od r1 h1 aa) (fun q => base ≤ q))
    (kk : ∀ (H1 : Heap) (locs1 : List Loc), St s dC dI cy base Od m hF MC MS H1 locs1 ls L h1 (cells + (h1.1 - h.1)) (slots + (h1.2.1 - h.2.1)) → W p l e R s mid args below meth c H1 locs1 (cells + (h1.1 - h.1)) (slots + (h1.2.1 - h.2.1)) Q (F0 mid (pc + 3) ls ((ov r1 rest).map (cvV base)))) : W p l e R s mid args below meth c H locs cells slots Q (F0 mid pc ls st0) := by
  obtain ⟨hx, hb, hr, hml, hown, hts, hlocks, hnm, hK, hOd, hbs, hfr, hlo, hrc, hrs⟩ := id hC
  obtain ⟨s1, s2, s3, s4, s5, s6, s7⟩ := hS
  intro T hT X
  obtain ⟨v, st₀, t, T', L', h0, X', hL, e1, e2, ⟨hv, hWd, hz, hk⟩, st⟩ := hrun T hT X
  rw [h0] at hz hk
  cases hv
  obtain ⟨t2, a1, b1⟩ := kk T'.heap (locs ++ L') ⟨by rw [e1]; exact hWd.1, hOd.2 s H T'.heap (fun q q1 q2 => by rw [e1]; exact hk q q1 q2) s2, ⟨Nat.le_trans s3.1 (by rw [e1]; exact hz), fun q q1 q2 => by rw [e1, hk q (Nat.lt_of_lt_of_le q1 s3.1) q2]; exact s3.2.1 q q1 q2, fun q hq => by
      rcases List.mem_append.mp hq with h | h
      · exact s3.2.2 q h
      · exact hL q h⟩, s4, s5, by omega, by omega⟩ T' rfl X'
  refine ⟨t2, st t2 ?_, b1⟩
  cases r1 with
  | none => exact a1
  | some v => exact a1
set_option maxHeartbeats 2000000 in
theorem sd9 {s0 np a b cc d e0 : Nat} {x : Int32} {sw : List (Int32 × Nat)} {fl : Bool} (hC : Cx p R s mid args meth c dC dI cy base Od m k MC MS) (hgo : Sn p l e R s mid args below meth c dC dI cy base Od m rF hF MC MS Q go) (hct : ∀ (k1 a : Nat) (as : List Value) (h1 : Hp) (r1 : Option Value) (h2 : Hp), k = k1 + 1 → a < NM → asOk a as = true → cond (isP a) (prm a as h1) (ex k1 a as h1) = some (r1, h2) → Ctr l dC dI cy base Od k1 a as h1 r1 h2 ∧ h1.1 ≤ h2.1 ∧ h1.2.1 ≤ h2.2.1) (hgr : ∀ pc L S h x, go pc L S h = some x → h.1 ≤ x.2.1 ∧ h.2.1 ≤ x.2.2.1) (hok : okI m pc (9, s0, np, a, b, cc, d, e0, x, sw, fl) = true)
    (hst : stp9 chkO go (callO k ex) none k s0 np a b e0 L S h = some (rF, hF)) (hS : St s dC dI cy base Od m hF MC MS H locs ls L h cells slots) : W p l e R s mid args below meth c H locs cells slots Q (F0 mid pc ls (S.map (cvV base))) := by
  obtain ⟨hd, hnp, ha⟩ := hd_of hok (show ¬ (9 : Nat) = 99 by decide)
  obtain ⟨hx, hb, hr, hml, hown, hts, hlocks, hnm, hK, hOd, hbs, hfr, hlo, hrc, hrs⟩ := id hC
  have hLR := hS.2.2.2.1
  unfold stp9 at hst
  split at hst
  · replace hnp : np = pc + 3 := hnp
    subst hnp
    replace ha : (tbB d (.methodLink (yM m).cls cc (yM a)) && Nat.beq (kM a) 0 && Nat.beq b (npM a) && Nat.blt a NM) = true := ha
    simp only [Bool.and_eq_true] at ha
    obtain ⟨⟨⟨aL, aK⟩, aB⟩, aN⟩ := ha
    cases hq : (Nat.ble b S.length && okS (S.drop b) && asOk a (S.take b).reverse) with
    | false => rw [hq] at hst; cases hst
    | true =>
      rw [hq] at hst
      simp only [Bool.and_eq_true] at hq
      obtain ⟨⟨hbl, hok8⟩, hao⟩ := hq
      replace hbl : b ≤ S.length := Nat.le_of_ble_eq_true hbl
      replace hst : callO k ex a (S.take b).reverse h _ = some (rF, hF) := hst
      obtain ⟨k1, r1, h1, hkk, hcd, hf⟩ := callO_some hst
      have hOK := okM_all (Nat.le_of_ble_eq_true aN)
      obtain ⟨hM, g1, g2⟩ := hct k1 a _ h r1 h1 hkk (Nat.le_of_ble_eq_true aN) hao hcd
      obtain ⟨g3, g4⟩ := hgr _ _ _ _ _ hf
      have e1 := hS.2.2.2.2.2.1
      have e2 := hS.2.2.2.2.2.2
      dsimp only at g3 g4
      have hRm : (rmK k1 (h1.1 - h.1) (h1.2.1 - h.2.1)).frames + 1 ≤ R.frames ∧ 8 + (mlM a + 11) + (rmK k1 (h1.1 - h.1) (h1.2.1 - h.2.1)).locals ≤ R.locals := ⟨by rw [hfr, hkk]; show k1 + 8 + 1 ≤ k1 + 1 + 8; omega, by rw [hlo, hkk]; have := hOK.2.2.2.2.1; show 8 + (mlM a + 11) + 64 * (k1 + 8) ≤ 64 * (k1 + 1 + 8); omega⟩
      have hcs : cells + (h1.1 - h.1) ≤ R.cells ∧ slots + (h1.2.1 - h.2.1) ≤ R.slots := ⟨by rw [hrc]; omega, by rw [hrs]; omega⟩
      refine r_aft hC hS g1 g2 (va_runS (As := ((S.take b).reverse).map (cvV base)) (rest := (S.drop b).map (cvV base)) (Ts := TBL) ⟨hx, hb, hml, hown, hts⟩ hM (va_cwS (Ts := TBL) (npM a) hts (gdIn (fun _ => gd_TBL) (gd_S (tb_ofg aL) (hOK.2.2.2.2.2.1 (Nat.eq_of_beq_eq_true aK)) hOK.2.1 (wsM_gd (Nat.le_of_ble_eq_true aN)))) rfl rfl rfl hOK.2.2.1 hRm) ⟨blind_Pc hOd, fun U hU hW => ⟨by rfl, ⟨by rw [hU]; exact hS.1, va_K.moved hW.alike hK, by rw [hU]; exact hOd.1 s U H hW hS.2.1⟩, (nwx_of hts).moved hW⟩⟩ rfl (by rw [List.length_map, List.length_reverse, List.length_take, Nat.min_eq_left hbl]; exact Nat.eq_of_beq_eq_true aB) (hLR.1.trans hS.2.2.2.2.1) (by show S.map (cvV base) = (((S.take b).reverse).map (cvV base)).reverse ++ (S.drop b).map (cvV base); rw [List.map_reverse, List.reverse_reverse, ← List.map_append, List.take_append_drop]) (lv_room (okS_sum hok8)) hd hcs) (fun H1 locs1 hS1 => hgo _ _ _ _ _ _ _ _ _ hf hS1)
  · replace hnp : np = pc + 3 := hnp
    subst hnp
    replace ha : (tbB d (.methodLinkNest (yM m).cls cc (yM a) "JugMemory") && Nat.beq (kM a) 0 && Nat.beq b (npM a) && Nat.blt a NM) = true := ha
    simp only [Bool.and_eq_true] at ha
    obtain ⟨⟨⟨aL, aK⟩, aB⟩, aN⟩ := ha
    cases hq : (Nat.ble b S.length && okS (S.drop b) && asOk a (S.take b).reverse) with
    | false => rw [hq] at hst; cases hst
    | true =>
      rw [hq] at hst
      simp only [Bool.and_eq_true] at hq
      obtain ⟨⟨hbl, hok8⟩, hao⟩ := hq
      replace hbl : b ≤ S.length := Nat.le_of_ble_eq_true hbl
      replace hst : callO k ex a (S.take b).reverse h _ = some (rF, hF) := hst
      obtain ⟨k1, r1, h1, hkk, hcd, hf⟩ := callO_some hst
      have hOK := okM_all (Nat.le_of_ble_eq_true aN)
      obtain ⟨hM, g1, g2⟩ := hct k1 a _ h r1 h1 hkk (Nat.le_of_ble_eq_true aN) hao hcd
      obtain ⟨g3, g4⟩ := hgr _ _ _ _ _ hf
      have e1 := hS.2.2.2.2.2.1
      have e2 := hS.2.2.2.2.2.2
      dsimp only at g3 g4
      have hRm : (rmK k1 (h1.1 - h.1) (h1.2.1 - h.2.1)).frames + 1 ≤ R.frames ∧ 8 + (mlM a + 11) + (rmK k1 (h1.1 - h.1) (h1.2.1 - h.2.1)).locals ≤ R.locals := ⟨by rw [hfr, hkk]; show k1 + 8 + 1 ≤ k1 + 1 + 8; omega, by rw [hlo, hkk]; have := hOK.2.2.2.2.1; show 8 + (mlM a + 11) + 64 * (k1 + 8) ≤ 64 * (k1 + 1 + 8); omega⟩
      have hcs : cells + (h1.1 - h.1) ≤ R.cells ∧ slots + (h1.2.1 - h.2.1) ≤ R.slots := ⟨by rw [hrc]; omega, by rw [hrs]; omega⟩
      refine r_aft hC hS g1 g2 (va_runSN (As := ((S.take b).reverse).map (cvV base)) (rest := (S.drop b).map (cvV base)) (Ts := TBL) ⟨hx, hb, hml, hown, hts⟩ hM ⟨va_cnB (Ts := TBL) (host := "JugMemory") (npM a) hts (gdIn (fun _ => gd_TBL) (wsM_gd (Nat.le_of_ble_eq_true aN))) rfl rfl rfl (va_Nw.of rfl (hts _ (tb_of aL))) (hts _ (gd_TBL hOK.2.1)) hOK.2.2.1 hRm, hts _ (gd_TBL (hOK.2.2.2.2.2.1 (Nat.eq_of_beq_eq_true aK))), trivial⟩ ⟨blind_Pc hOd, fun U hU hW => ⟨by rfl, ⟨by rw [hU]; exact hS.1, va_K.moved hW.alike hK, by rw [hU]; exact hOd.1 s U H hW hS.2.1⟩, (nwx_of hts).moved hW⟩⟩ rfl (by rw [List.length_map, List.length_reverse, List.length_take, Nat.min_eq_left hbl]; exact Nat.eq_of_beq_eq_true aB) (hLR.1.trans hS.2.2.2.2.1) (by show S.map (cvV base) = (((S.take b).reverse).map (cvV base)).reverse ++ (S.drop b).map (cvV base); rw [List.map_reverse, List.reverse_reverse, ← List.map_append, List.take_append_drop]) (lv_room (okS_sum hok8)) hd hcs) (fun H1 locs1 hS1 => hgo _ _ _ _ _ _ _ _ _ hf hS1)
  · replace hnp : np = pc + 3 := hnp
    subst hnp
    replace ha : (tbB d (.methodLink (yM m).cls cc (yM a)) && Nat.beq (kM a) 1 && Nat.beq b (npM a) && Nat.blt a NM && Nat.blt e0 9 && decide (RM e0 = (yM a).cls)) = true := ha
    simp only [Bool.and_eq_true] at ha
    obtain ⟨⟨⟨⟨⟨aL, aK⟩, aB⟩, aN⟩, aE⟩, aR⟩ := ha
    split at hst
    rotate_left
    · cases hst
    rename_i oo rest hdr
    cases hq : (okS rest && asOk a (.ref oo :: (S.take b).reverse)) with
    | false => rw [hq] at hst; cases hst
    | true =>
      rw [hq] at hst
      simp only [Bool.and_eq_true] at hq
      obtain ⟨hok8, hao⟩ := hq
      have hbl : b ≤ S.length := by
        rcases Nat.lt_or_ge S.length b with q | q
        · rw [List.drop_eq_nil_of_le (Nat.le_of_lt q)] at hdr; cases hdr
        · exact q
      replace hst : chkO (KD oo = e0 ∧ oo < h.1) _ _ = some (rF, hF) := hst
      unfold chkO at hst
      split at hst
      rotate_left
      · cases hst
      rename_i hkd
      replace hst : callO k ex a (.ref oo :: (S.take b).reverse) h _ = some (rF, hF) := hst
      obtain ⟨k1, r1, h1, hkk, hcd, hf⟩ := callO_some hst
      have hOK := okM_all (Nat.le_of_ble_eq_true aN)
      obtain ⟨hM, g1, g2⟩ := hct k1 a _ h r1 h1 hkk (Nat.le_of_ble_eq_true aN) hao hcd
      obtain ⟨g3, g4⟩ := hgr _ _ _ _ _ hf
      have e1 := hS.2.2.2.2.2.1
      have e2 := hS.2.2.2.2.2.2
      dsimp only at g3 g4
      have hRm : (rmK k1 (h1.1 - h.1) (h1.2.1 - h.2.1)).frames + 1 ≤ R.frames ∧ 8 + (mlM a + 11) + (rmK k1 (h1.1 - h.1) (h1.2.1 - h.2.1)).locals ≤ R.locals := ⟨by rw [hfr, hkk]; show k1 + 8 + 1 ≤ k1 + 1 + 8; omega, by rw [hlo, hkk]; have := hOK.2.2.2.2.1; show 8 + (mlM a + 11) + 64 * (k1 + 8) ≤ 64 * (k1 + 1 + 8); omega⟩
      have hcs : cells + (h1.1 - h.1) ≤ R.cells ∧ slots + (h1.2.1 - h.2.1) ≤ R.slots := ⟨by rw [hrc]; omega, by rw [hrs]; omega⟩
      have hP := one_P (hS.1.2 oo hkd.2)
      rw [cel_cls hkd.1 (Nat.le_of_ble_eq_true aE)] at hP
      refine r_aft hC hS g1 g2 (va_runV (As := ((S.take b).reverse).map (cvV base)) (rest := rest.map (cvV base)) (b := base + oo) (Ts := TBL) ⟨hx, hb, hml, hown, hts⟩ hM (cwV (Ts := TBL) (C := RM e0) (npM a) hts (gdIn (fun _ => gd_TBL) (gd_V (tb_ofg aL) (hOK.2.2.2.2.2.2.1 (Nat.eq_of_beq_eq_true aK)).1 (by rw [of_decide_eq_true aR]; exact (hOK.2.2.2.2.2.2.1 (Nat.eq_of_beq_eq_true aK)).2) (by rw [of_decide_eq_true aR]; exact hOK.2.1) (wsM_gd (Nat.le_of_ble_eq_true aN)))) rfl rfl rfl ⟨(of_decide_eq_true aR).symm, hOK.2.2.1⟩ hRm) ⟨blind_Pc hOd, va_recv hK hP (ci := e0) (q0 := 0) (vwAt e0 (Nat.le_of_ble_eq_true aE)) rfl, fun U hU hW => ⟨by rfl, ⟨by rw [hU]; exact hS.1, va_K.moved hW.alike hK, by rw [hU]; exact hOd.1 s U H hW hS.2.1⟩, (nwx_of hts).moved hW⟩⟩ rfl (by rw [List.length_map, List.length_reverse, List.length_take, Nat.min_eq_left hbl]; exact Nat.eq_of_beq_eq_true aB) (hLR.1.trans hS.2.2.2.2.1) (by show S.map (cvV base) = (((S.take b).reverse).map (cvV base)).reverse ++ .ref (base + oo) :: rest.map (cvV base); rw [List.map_reverse, List.reverse_reverse, show (Value.ref (base + oo) :: rest.map (cvV base)) = (S.drop b).map (cvV base) by rw [hdr]; rfl, ← List.map_append, List.take_append_drop]) (lv_room (okS_sum hok8)) hd hcs) (fun H1 locs1 hS1 => hgo _ _ _ _ _ _ _ _ _ hf hS1)
  · replace hnp : np = pc + 3 := hnp
    subst hnp
    replace ha : (tbB d (.methodLink (yM m).cls cc (yM a)) && Nat.beq (kM a) 2 && Nat.beq b (npM a) && Nat.blt a NM) = true := ha
    simp only [Bool.and_eq_true] at ha
    obtain ⟨⟨⟨aL, aK⟩, aB⟩, aN⟩ := ha
    split at hst
    rotate_left
    · cases hst
    rename_i oo rest hdr
    cases hq : (okS rest && asOk a (.ref oo :: (S.take b).reverse)) with
    | false => rw [hq] at hst; cases hst
    | true =>
      rw [hq] at hst
      simp only [Bool.and_eq_true] at hq
      obtain ⟨hok8, hao⟩ := hq
      have hbl : b ≤ S.length := by
        rcases Nat.lt_or_ge S.length b with q | q
        · rw [List.drop_eq_nil_of_le (Nat.le_of_lt q)] at hdr; cases hdr
        · exact q
      replace hst : callO k ex a (.ref oo :: (S.take b).reverse) h _ = some (rF, hF) := hst
      obtain ⟨k1, r1, h1, hkk, hcd, hf⟩ := callO_some hst
      have hOK := okM_all (Nat.le_of_ble_eq_true aN)
      obtain ⟨hM, g1, g2⟩ := hct k1 a _ h r1 h1 hkk (Nat.le_of_ble_eq_true aN) hao hcd
      obtain ⟨g3, g4⟩ := hgr _ _ _ _ _ hf
      have e1 := hS.2.2.2.2.2.1
      have e2 := hS.2.2.2.2.2.2
      dsimp only at g3 g4
      have hRm : (rmK k1 (h1.1 - h.1) (h1.2.1 - h.2.1)).frames + 1 ≤ R.frames ∧ 8 + (mlM a + 11) + (rmK k1 (h1.1 - h.1) (h1.2.1 - h.2.1)).locals ≤ R.locals := ⟨by rw [hfr, hkk]; show k1 + 8 + 1 ≤ k1 + 1 + 8; omega, by rw [hlo, hkk]; have := hOK.2.2.2.2.1; show 8 + (mlM a + 11) + 64 * (k1 + 8) ≤ 64 * (k1 + 1 + 8); omega⟩
      have hcs : cells + (h1.1 - h.1) ≤ R.cells ∧ slots + (h1.2.1 - h.2.1) ≤ R.slots := ⟨by rw [hrc]; omega, by rw [hrs]; omega⟩
      have hws0 : wsM a = Cond.code (yM a) (bM a) (mlM a) none :: gdT := by unfold wsM; rw [initRt a (Nat.le_of_ble_eq_true aN) (Nat.eq_of_beq_eq_true aK)]
      refine r_aft hC hS g1 g2 (va_runI (As := ((S.take b).reverse).map (cvV base)) (rest := rest.map (cvV base)) (b := base + oo) (Ts := TBL) ⟨hx, hb, hml, hown, hts⟩ hM (cwI (Ts := TBL) (npM a) hts (gdIn (fun _ => gd_TBL) (wsM_gd (Nat.le_of_ble_eq_true aN))) hws0 rfl rfl (hts _ (gd_TBL hOK.2.1)) (hts _ (tb_of aL)) (hts _ (gd_TBL (hOK.2.2.2.2.2.2.2 (Nat.eq_of_beq_eq_true aK)).1)) (hOK.2.2.2.2.2.2.2 (Nat.eq_of_beq_eq_true aK)).2 hOK.2.2.1 hRm) ⟨blind_Pc hOd, fun U hU hW => ⟨by rfl, ⟨by rw [hU]; exact hS.1, va_K.moved hW.alike hK, by rw [hU]; exact hOd.1 s U H hW hS.2.1⟩, (nwx_of hts).moved hW⟩⟩ rfl (by rw [List.length_map, List.length_reverse, List.length_take, Nat.min_eq_left hbl]; exact Nat.eq_of_beq_eq_true aB) (hLR.1.trans hS.2.2.2.2.1) (by show S.map (cvV base) = (((S.take b).reverse).map (cvV base)).reverse ++ .ref (base + oo) :: rest.map (cvV base); rw [List.map_reverse, List.reverse_reverse, show (Value.ref (base + oo) :: rest.map (cvV base)) = (S.drop b).map (cvV base) by rw [hdr]; rfl, ← List.map_append, List.take_append_drop]) (lv_room (okS_sum hok8)) hd hcs) (fun H1 locs1 hS1 => hgo _ _ _ _ _ _ _ _ _ hf hS1)
  · replace hnp : np = pc + 3 := hnp
    subst hnp
    replace ha : (tbB d (.methodLinkNest (yM m).cls cc (yM a) "JugMemory") && Nat.beq (kM a) 2 && Nat.beq b (npM a) && Nat.blt a NM) = true := ha
    simp only [Bool.and_eq_true] at ha
    obtain ⟨⟨⟨aL, aK⟩, aB⟩, aN⟩ := ha
    split at hst
    rotate_left
    · cases hst
    rename_i oo rest hdr
    cases hq : (okS rest && asOk a (.ref oo :: (S.take b).reverse)) with
    | false => rw [hq] at hst; cases hst
    | true =>
      rw [hq] at hst
      simp only [Bool.and_eq_true] at hq
      obtain ⟨hok8, hao⟩ := hq
      have hbl : b ≤ S.length := by
        rcases Nat.lt_or_ge S.length b with q | q
        · rw [List.drop_eq_nil_of_le (Nat.le_of_lt q)] at hdr; cases hdr
        · exact q
      replace hst : callO k ex a (.ref oo :: (S.take b).reverse) h _ = some (rF, hF) := hst
      obtain ⟨k1, r1, h1, hkk, hcd, hf⟩ := callO_some hst
      have hOK := okM_all (Nat.le_of_ble_eq_true aN)
      obtain ⟨hM, g1, g2⟩ := hct k1 a _ h r1 h1 hkk (Nat.le_of_ble_eq_true aN) hao hcd
      obtain ⟨g3, g4⟩ := hgr _ _ _ _ _ hf
      have e1 := hS.2.2.2.2.2.1
      have e2 := hS.2.2.2.2.2.2
      dsimp only at g3 g4
      have hRm : (rmK k1 (h1.1 - h.1) (h1.2.1 - h.2.1)).frames + 1 ≤ R.frames ∧ 8 + (mlM a + 11) + (rmK k1 (h1.1 - h.1) (h1.2.1 - h.2.1)).locals ≤ R.locals := ⟨by rw [hfr, hkk]; show k1 + 8 + 1 ≤ k1 + 1 + 8; omega, by rw [hlo, hkk]; have := hOK.2.2.2.2.1; show 8 + (mlM a + 11) + 64 * (k1 + 8) ≤ 64 * (k1 + 1 + 8); omega⟩
      have hcs : cells + (h1.1 - h.1) ≤ R.cells ∧ slots + (h1.2.1 - h.2.1) ≤ R.slots := ⟨by rw [hrc]; omega, by rw [hrs]; omega⟩
      have hws0 : wsM a = Cond.code (yM a) (bM a) (mlM a) none :: gdT := by unfold wsM; rw [initRt a (Nat.le_of_ble_eq_true aN) (Nat.eq_of_beq_eq_true aK)]
      refine r_aft hC hS g1 g2 (va_runIN (As := ((S.take b).reverse).map (cvV base)) (rest := rest.map (cvV base)) (b := base + oo) (Ts := TBL) ⟨hx, hb, hml, hown, hts⟩ hM ⟨va_cnB (Ts := TBL) (host := "JugMemory") (npM a) hts (gdIn (fun _ => gd_TBL) (wsM_gd (Nat.le_of_ble_eq_true aN))) hws0 rfl rfl (va_Nw.of rfl (hts _ (tb_of aL))) (hts _ (gd_TBL hOK.2.1)) hOK.2.2.1 hRm, (hOK.2.2.2.2.2.2.2 (Nat.eq_of_beq_eq_true aK)).2, hts _ (gd_TBL (hOK.2.2.2.2.2.2.2 (Nat.eq_of_beq_eq_true aK)).1)⟩ ⟨blind_Pc hOd, fun U hU hW => ⟨by rfl, ⟨by rw [hU]; exact hS.1, va_K.moved hW.alike hK, by rw [hU]; exact hOd.1 s U H hW hS.2.1⟩, (nwx_of hts).moved hW⟩⟩ rfl (by rw [List.length_map, List.length_reverse, List.length_take, Nat.min_eq_left hbl]; exact Nat.eq_of_beq_eq_true aB) (hLR.1.trans hS.2.2.2.2.1) (by show S.map (cvV base) = (((S.take b).reverse).map (cvV base)).reverse ++ .ref (base + oo) :: rest.map (cvV base); rw [List.map_reverse, List.reverse_reverse, show (Value.ref (base + oo) :: rest.map (cvV base)) = (S.drop b).map (cvV base) by rw [hdr]; rfl, ← List.map_append, List.take_append_drop]) (lv_room (okS_sum hok8)) hd hcs) (fun H1 locs1 hS1 => hgo _ _ _ _ _ _ _ _ _ hf hS1)
  · replace hnp : np = pc + 3 := hnp
    subst hnp
    split at hst
    rotate_left
    · cases hst
    rename_i oo rest
    cases hq : (Nat.blt 0 k && Nat.ble rest.length 8) with
    | false => rw [hq] at hst; cases hst
    | true =>
      rw [hq] at hst
      rw [Bool.and_eq_true] at hq
      have hk0 : 0 < k := Nat.le_of_ble_eq_true hq.1
      have hr8 : rest.length ≤ 8 := Nat.le_of_ble_eq_true hq.2
      have hsum := cat_sumC base rest
      exact W.objInit hx hb hown (hts _ (tb_of ha)) (hts _ wIm_obj) (hts _ wC_obj) rfl (by rw [hml]; exact hLR.1.trans hS.2.2.2.2.1) rfl hd (by rw [hfr]; omega) (by show 2 * 0 + _ + 12 ≤ _; rw [hlo]; omega) (hgo _ _ _ _ _ _ _ _ _ hst hS)
  · cases hst

end Rows
