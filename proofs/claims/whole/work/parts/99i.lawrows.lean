/-! THE CLAIM OUT OF ONE WALK OF THE LAW'S BODY. Your part is whole_start (and what it stands on); all else here is the same for every law, but numbers. -/
def R_law : String := "JugMemoryLaw"
def lw_P (b : Addr) (xs : List Int32) (args : Array Value) (s : State) : Prop := args = #[.ref b] ∧ s.IntsAt b xs ∧ xs.length ≤ 3072 ∧ (Jvm.Cond.and given_1 narrow_1).before args s = true
def lw_Q (_ : Array Value) (s : State) (o : Outcome) (t : State) : Prop := o = .returned (some (.int 1)) ∧ Framed s o t [] 600000 7302250
def lw_Z (below : List Frame) (a : Array Value) (s : State) : State → Prop := fun t => ∃ o, t.status = .running ∧ Ended t below o ∧ lw_Q a s o t
/-- the law's own end, with 1 on the stack, nothing written that was there before, its room as the claim has it -/
theorem lw_ret {p : Program} {l : Launch} {e : Env} {s : State} {m : MethodId} {below : List Frame} {meth : Method} {c : Code} {b : Nat} (hx : p.tables.exec = Jvm.exec) (hb : c.code = code) (hr : meth.sig.returnType = ret) (hlocks : meth.locks = false) {pc : Nat} {H : Heap} {ls : Array Slot} (hdg : decode code pc = .ok (.ireturn, 1)) : W p l e room_1 s m #[Value.ref b] below meth c H [] 600000 7302250 (lw_Z below #[Value.ref b] s) (F0 m pc ls [.int 1]) := by
  intro T hT X
  obtain ⟨fs, hret, hrun, hended, hW, hframe⟩ := X.leave (v := some (.int 1)) (hlocks := hlocks) (fun h => by rw [hr] at h; cases h)
  have hmeth' : T.vm.method? m = some meth := X.method'
  refine ⟨T.setFrames fs, ?_, .returned (some (.int 1)), hrun, hended, rfl, ⟨_, rfl⟩, hW, hframe⟩
  jvm_step X.here [X.here.top, hx, hb, hdg, hmeth', hr, ret, narrow_b1]
  (try refine ⟨rfl, ?_⟩); (try refine ⟨rfl, ?_⟩)
  first | (intro acts; rw [hret _ acts rfl rfl rfl]) | rw [hret _ _ rfl rfl rfl]
  exact Steps.refl _
/-- what holds at the law's entry: the machine, the code, the tables' words (any of lw_tbl by 'hts w (by decide +kernel)'), the script of L ints xs at the cell b, what the Statement gives of the start (any of its parts by flat_of_before) -/
def lw_At (p : Program) (s : State) (m : MethodId) (meth : Method) (c : Code) (b L : Nat) (xs : Nat → Int32) : Prop :=
  p.tables.exec = Jvm.exec ∧ c.code = code ∧ meth.sig.returnType = ret ∧ c.maxLocals = 4 ∧ s.vm.findClass R_law = some m.cls ∧ (∀ w ∈ lw_tbl, w.before #[Value.ref b] s = true) ∧ va_X b L xs s s.heap ∧ b < s.heap.size ∧ meth.locks = false ∧ (Jvm.Cond.and given_1 narrow_1).before #[Value.ref b] s = true

def Cw (dC : Nat → ClassId) (dI : Nat → Nat → Nat) (cy : Nat → ClassId) (Od : State → Heap → Prop) (p : Program) (s : State) (m : MethodId) (args : Array Value) (c : Code) : Prop := p.tables.exec = Jvm.exec ∧ c.code = code ∧ c.maxLocals = 4 ∧ s.vm.findClass R_law = some m.cls ∧ (∀ w ∈ TBL, w.before args s = true) ∧ va_K (dC, dI) vwCl (tysL cy) s ∧ OdOk s.heap.size Od
section Lw
variable {p : Program} {l : Launch} {e : Env} {s : State} {m : MethodId} {args : Array Value} {below : List Frame} {meth : Method} {c : Code} {dC : Nat → ClassId} {dI : Nat → Nat → Nat} {cy : Nat → ClassId} {Od : State → Heap → Prop} {Q : State → Prop}
variable {H : Heap} {locs : List Loc} {ls : Array Slot} {h h1 : Hp} {pc : Nat}
theorem w_aft {base : Nat} {st0 rest : List Value} {r1 : Option Value} {aa : Array Value} (hOd : OdOk base Od) (hS : Sj dC dI cy base Od s h H locs) (g1 : h.1 ≤ h1.1) (g2 : h.2.1 ≤ h1.2.1)
    (hrun : va_Run p l e room_1 s m args below meth c H locs h.1 h.2.1 (h1.1 - h.1) (h1.2.1 - h.2.1) (F0 m pc ls st0) rest (Qf dC dI cy base Od r1 h1 aa) (fun q => base ≤ q))
    (kk : ∀ (H1 : Heap) (locs1 : List Loc), Sj dC dI cy base Od s h1 H1 locs1 → W p l e room_1 s m args below meth c H1 locs1 h1.1 h1.2.1 Q (F0 m (pc + 3) ls ((r1.map (cvV base)).toList ++ rest))) : W p l e room_1 s m args below meth c H locs h.1 h.2.1 Q (F0 m pc ls st0) := by
  obtain ⟨s1, s2, s3⟩ := hS
  have e3 : h.1 + (h1.1 - h.1) = h1.1 := by omega
  have e4 : h.2.1 + (h1.2.1 - h.2.1) = h1.2.1 := by omega
  intro T hT X
  obtain ⟨v, st₀, t, T', L', h0, X', hL, e1, e2, ⟨hv, hWd, hz, hk⟩, st⟩ := hrun T hT X
  rw [e3, e4] at X'
  rw [h0] at hz hk
  cases hv
  obtain ⟨t2, a1, b1⟩ := kk T'.heap (locs ++ L') ⟨by rw [e1]; exact hWd.1, hOd.2 s H T'.heap (fun q q1 q2 => by rw [e1]; exact hk q q1 q2) s2, ⟨Nat.le_trans s3.1 (by rw [e1]; exact hz), fun q q1 q2 => by rw [e1, hk q (Nat.lt_of_lt_of_le q1 s3.1) q2]; exact s3.2.1 q q1 q2, fun q hq => by
      rcases List.mem_append.mp hq with h | h
      · exact s3.2.2 q h
      · exact hL q h⟩⟩ T' rfl X'
  exact ⟨t2, st t2 a1, b1⟩
theorem w_V {a k ob idx e0 : Nat} {as rest st0 : List Value} {r1 : Option Value} (hC : Cw dC dI cy Od p s m args c) (hS : Sj dC dI cy s.heap.size Od s h H locs) (hM : Ctr l dC dI cy s.heap.size Od k a (.ref ob :: as) h r1 h1) (g1 : h.1 ≤ h1.1) (g2 : h.2.1 ≤ h1.2.1) (ha : a < NM) (hk1 : kM a = 1) (hkd : KD ob = e0) (ho : ob < h.1) (he : e0 < 9) (hcl : RM e0 = (yM a).cls) (hl : Cond.methodLink R_law idx (yM a) ∈ gdT) (hn : as.length = npM a) (hkk : k ≤ 200) (hc1 : h1.1 ≤ 600000) (hc2 : h1.2.1 ≤ 7302250) (hls : ls.size = 4) (hst0 : st0 = (as.map (cvV s.heap.size)).reverse ++ .ref (s.heap.size + ob) :: rest) (h8 : (rest.map fun v => v.category).sum ≤ 8) (hd : decode code pc = .ok (.invokevirtual idx, 3))
    (kk : ∀ (H1 : Heap) (locs1 : List Loc), Sj dC dI cy s.heap.size Od s h1 H1 locs1 → W p l e room_1 s m args below meth c H1 locs1 h1.1 h1.2.1 Q (F0 m (pc + 3) ls ((r1.map (cvV s.heap.size)).toList ++ rest))) : W p l e room_1 s m args below meth c H locs h.1 h.2.1 Q (F0 m pc ls st0) := by
  obtain ⟨hx, hb, hml, hown, hts, hK, hOd⟩ := id hC
  have hOK := okM_all ha
  have h40 := hOK.2.2.2.2.1
  have hRm : (rmK k (h1.1 - h.1) (h1.2.1 - h.2.1)).frames + 1 ≤ room_1.frames ∧ 8 + (mlM a + 11) + (rmK k (h1.1 - h.1) (h1.2.1 - h.2.1)).locals ≤ room_1.locals := ⟨by show k + 8 + 1 ≤ 2048; omega, by show 8 + (mlM a + 11) + 64 * (k + 8) ≤ 84000; omega⟩
  have hcs : h.1 + (h1.1 - h.1) ≤ room_1.cells ∧ h.2.1 + (h1.2.1 - h.2.1) ≤ room_1.slots := ⟨by show _ ≤ 600000; omega, by show _ ≤ 7302250; omega⟩
  have hP := one_P (hS.1.2 ob ho)
  rw [cel_cls hkd he] at hP
  exact w_aft hOd hS g1 g2 (va_runV (As := as.map (cvV s.heap.size)) (rest := rest) (b := s.heap.size + ob) (Ts := TBL) ⟨hx, hb, hml, hown, hts⟩ hM (cwV (Ts := TBL) (C := RM e0) (npM a) hts (gdIn (fun _ => gd_TBL) (gd_V hl (hOK.2.2.2.2.2.2.1 hk1).1 (by rw [hcl]; exact (hOK.2.2.2.2.2.2.1 hk1).2) (by rw [hcl]; exact hOK.2.1) (wsM_gd ha))) rfl rfl rfl ⟨hcl.symm, hOK.2.2.1⟩ hRm) ⟨blind_Pc hOd, va_recv hK hP (ci := e0) (q0 := 0) (vwAt e0 he) rfl, fun U hU hW => ⟨by rfl, ⟨by rw [hU]; exact hS.1, va_K.moved hW.alike hK, by rw [hU]; exact hOd.1 s U H hW hS.2.1⟩, (nwx_of hts).moved hW⟩⟩ rfl (by rw [List.length_map]; exact hn) hls hst0 (lv_room h8) hd hcs) kk
theorem w_I {a k ob idx : Nat} {rest st0 : List Value} {r1 : Option Value} (hC : Cw dC dI cy Od p s m args c) (hS : Sj dC dI cy s.heap.size Od s h H locs) (hM : Ctr l dC dI cy s.heap.size Od k a [.ref ob] h r1 h1) (g1 : h.1 ≤ h1.1) (g2 : h.2.1 ≤ h1.2.1) (ha : a < NM) (hk1 : kM a = 2) (hl : Cond.methodLink R_law idx (yM a) ∈ gdT) (hn : 0 = npM a) (hkk : k ≤ 200) (hc1 : h1.1 ≤ 600000) (hc2 : h1.2.1 ≤ 7302250) (hls : ls.size = 4) (hst0 : st0 = .ref (s.heap.size + ob) :: rest) (h8 : (rest.map fun v => v.category).sum ≤ 8) (hd : decode code pc = .ok (.invokespecial idx, 3))
    (kk : ∀ (H1 : Heap) (locs1 : List Loc), Sj dC dI cy s.heap.size Od s h1 H1 locs1 → W p l e room_1 s m args below meth c H1 locs1 h1.1 h1.2.1 Q (F0 m (pc + 3) ls ((r1.map (cvV s.heap.size)).toList ++ rest))) : W p l e room_1 s m args below meth c H locs h.1 h.2.1 Q (F0 m pc ls st0) := by
  obtain ⟨hx, hb, hml, hown, hts, hK, hOd⟩ := id hC
  have hOK := okM_all ha
  have h40 := hOK.2.2.2.2.1
  have hRm : (rmK k (h1.1 - h.1) (h1.2.1 - h.2.1)).frames + 1 ≤ room_1.frames ∧ 8 + (mlM a + 11) + (rmK k (h1.1 - h.1) (h1.2.1 - h.2.1)).locals ≤ room_1.locals := ⟨by show k + 8 + 1 ≤ 2048; omega, by show 8 + (mlM a + 11) + 64 * (k + 8) ≤ 84000; omega⟩
  have hcs : h.1 + (h1.1 - h.1) ≤ room_1.cells ∧ h.2.1 + (h1.2.1 - h.2.1) ≤ room_1.slots := ⟨by show _ ≤ 600000; omega, by show _ ≤ 7302250; omega⟩
  have hws0 : wsM a = Cond.code (yM a) (bM a) (mlM a) none :: gdT := by unfold wsM; rw [initRt a ha hk1]
  exact w_aft hOd hS g1 g2 (va_runI (As := []) (rest := rest) (b := s.heap.size + ob) (Ts := TBL) ⟨hx, hb, hml, hown, hts⟩ hM (cwI (Ts := TBL) (npM a) hts (gdIn (fun _ => gd_TBL) (wsM_gd ha)) hws0 rfl rfl (hts _ (gd_TBL hOK.2.1)) (hts _ (gd_TBL hl)) (hts _ (gd_TBL (hOK.2.2.2.2.2.2.2 hk1).1)) (hOK.2.2.2.2.2.2.2 hk1).2 hOK.2.2.1 hRm) ⟨blind_Pc hOd, fun U hU hW => ⟨by rfl, ⟨by rw [hU]; exact hS.1, va_K.moved hW.alike hK, by rw [hU]; exact hOd.1 s U H hW hS.2.1⟩, (nwx_of hts).moved hW⟩⟩ rfl hn hls hst0 (lv_room h8) hd hcs) kk
theorem w_new {a idx nx sl : Nat} {ln : Nat → Nat} {Rr : Nat → Nat → Option Nat} {I : Nat → Nat → Int32} {rest : List Value} (hC : Cw dC dI cy Od p s m args c) (hS : Sj dC dI cy s.heap.size Od s (nx, sl, ln, Rr, I) H locs) (a9 : a < 9) (hkd : KD nx = a) (hl : Cond.classLink R_law idx (RM a) ∈ gdT) (hc1 : nx + 1 ≤ 600000) (hc2 : sl + nF a ≤ 7302250) (hd : decode code pc = .ok (.new idx, 3))
    (kk : ∀ (H1 : Heap), Sj dC dI cy s.heap.size Od s (nx + 1, sl + nF a, ln, up1 Rr nx (fun _ => none), up1 I nx (fun _ => 0)) H1 locs → W p l e room_1 s m args below meth c H1 locs (nx + 1) (sl + nF a) Q (F0 m (pc + 3) ls (.ref (s.heap.size + nx) :: rest))) : W p l e room_1 s m args below meth c H locs nx sl Q (F0 m pc ls rest) := by
  obtain ⟨hx, hb, hml, hown, hts, hK, hOd⟩ := id hC
  have hKn := hK.1 a _ (vwAt a a9)
  have hz : H.size = s.heap.size + nx := hS.1.1
  refine W.newcK hx hb hown (hts _ (gd_TBL hl)) (hts _ (wIn a a9)) (hts _ (wIi a a9)) rfl hd (show nx + 1 ≤ 600000 from hc1) (show sl + nF a ≤ 7302250 from hc2) hKn.2.1 hz fun H1 kC hkC f1 z1 o1 => ?_
  have z2 : H1.size = H.size + 1 := by rw [z1, hz]
  have o2 : ∀ q : Nat, q < H.size → H1[q]? = H[q]? := fun q hq => o1 q (by rw [← hz]; exact hq)
  refine kk H1 ⟨hS.1.push (h' := (nx + 1, sl + nF a, ln, up1 Rr nx (fun _ => none), up1 I nx (fun _ => 0))) rfl (fun j hj => cel_same rfl (up1_ne hj) (up1_ne hj)) ?_ z2 o2, hOd.2 s H H1 (fun q hq _ => o2 q hq) hS.2.1, ⟨Nat.le_trans hS.2.2.1 (by omega), fun x x1 x2 => (o2 x (Nat.lt_of_lt_of_le x1 hS.2.2.1)).trans (hS.2.2.2.1 x x1 x2), hS.2.2.2.2⟩⟩
  rw [cel_cls (show KD (nx, sl, ln, Rr, I).1 = a from hkd) a9]
  refine ⟨_, vwAt a a9, (u_born (tyM a) hts (inC a a9) hKn hkC f1 (tyMok a a9)).to (fun j hj => ?_)⟩
  rw [dfM a a9 j hj]
  unfold vp_V
  rw [List.getD_eq_getElem?_getD, range_map_get hj]
  show cond (fr a j) .null (.int 0) = cond (fr a j) (va_rf (rA s.heap.size (up1 Rr nx (fun _ => none) nx j))) (.int (up1 I nx (fun _ => 0) nx j))
  rw [up1_eq, up1_eq]
  rfl
/-- script[i + j] is pushed -/
theorem w_arg {b L i j cells slots : Nat} {xs : Nat → Int32} {rest : List Value} {r2 r1 : Value} (hC : Cw dC dI cy Od p s m args c) (hX : va_X b L xs s s.heap) (hbl : b < s.heap.size) (hS : Sj dC dI cy s.heap.size Od s h H locs) (hi : i + 6 ≤ L) (hL : L ≤ 3072) (hj : j < 6) (hl : lv_has ls 4 [(3, .int (nI i)), (2, r2), (1, r1), (0, .ref b)]) (d : decode code pc = .ok (.aload_n 0, 1) ∧ decode code (pc + 1) = .ok (.iload_n 3, 1) ∧ decode code (pc + 2) = .ok (.iconst (j : Int), 1) ∧ decode code (pc + 3) = .ok (.iadd, 1) ∧ decode code (pc + 4) = .ok (.iaload, 1))
    (kk : W p l e room_1 s m args below meth c H locs cells slots Q (F0 m (pc + 5) ls (.int (xs (i + j)) :: rest))) : W p l e room_1 s m args below meth c H locs cells slots Q (F0 m pc ls rest) := by
  obtain ⟨hx, hb, hml, hown, hts, hK, hOd⟩ := id hC
  obtain ⟨d1, d2, d3, d4, d5⟩ := d
  refine lv_aload_n hx hb d1 rfl (lv_at hl 3 rfl) ?_
  refine lv_iload_n hx hb d2 rfl (lv_at hl 0 rfl) ?_
  refine lv_iconst (v := nI j) hx hb d3 Int32.ofInt_eq_ofNat ?_
  refine lv_iadd hx hb d4 ?_
  rw [nI_add]
  refine va_sld (A := fun q : Nat => s.heap.size ≤ q) hx hb hX hbl (Nat.not_le.mpr hbl) hS.2.2 (vp_in_nI (by omega) (by omega)) d5 ?_
  rw [nI_clamp (show i + j < 2 ^ 31 by omega)]
  exact kk
end Lw
