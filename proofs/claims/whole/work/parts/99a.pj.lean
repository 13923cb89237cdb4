/-! Methods walked by hand: real values, and the heap stays. -/
def rmJ (n : Nat) : Room := { frames := n, cells := 0, slots := 0, locals := 64 * n }
section Pj
variable (dC : Nat → ClassId) (dI : Nat → Nat → Nat) (cy : Nat → ClassId) (base : Nat) (Od : State → Heap → Prop)
def QJ (r : Option Value) (h : Hp) : Array Value → State → Outcome → State → Prop := fun _ st oc t => oc = .returned r ∧ Wd dC dI cy base Od h t ∧ va_F (fun q => base ≤ q) st t
def CtrJ (l : Launch) (n : Nat) (y : MethodName) (b : ByteArray) (ml : Nat) (rt : Option FieldType) (vals : List Value) (r : Option Value) (h : Hp) : Prop :=
  Met l y (Cond.code y b ml rt :: gdT) (rmJ n) (va_Pc vals (fun U => Wd dC dI cy base Od h U ∧ NwX U)) (QJ dC dI cy base Od r h) 0 0 (fun q => base ≤ q)
def Cj (p : Program) (R : Room) (s : State) (mid : MethodId) (args : Array Value) (meth : Method) (c : Code) (y : MethodName) (b : ByteArray) (ml : Nat) (rt : Option FieldType) (n : Nat) : Prop := p.tables.exec = Jvm.exec ∧ c.code = b ∧ meth.sig.returnType = rt ∧ c.maxLocals = ml ∧ s.vm.findClass y.cls = some mid.cls ∧ (∀ w ∈ TBL, w.before args s = true) ∧ meth.locks = false ∧ va_K (dC, dI) vwCl (tysL cy) s ∧ OdOk base Od ∧ Od s s.heap ∧ R.frames = n ∧ R.locals = 64 * n
def Sj (s : State) (h : Hp) (H : Heap) (locs : List Loc) : Prop := HR dC dI cy base h H ∧ Od s H ∧ va_S (fun q => base ≤ q) s.heap H locs
end Pj
def OkJ (y : MethodName) (b : ByteArray) (ml : Nat) (rt : Option FieldType) (np : Nat) : Prop := Cond.code y b ml rt ∈ gdT ∧ Cond.initialized y.cls ∈ gdT ∧ (y.cls ≠ "java/lang/invoke/MethodHandle" ∧ y.cls ≠ "java/lang/invoke/VarHandle" ∧ (parseMethodDescriptor y.desc).map (fun d => d.parameters.length) = some np) ∧ ml ≤ 40
theorem OkJ.ws {y : MethodName} {b : ByteArray} {ml : Nat} {rt : Option FieldType} {np : Nat} (h : OkJ y b ml rt np) : ∀ w ∈ Cond.code y b ml rt :: gdT, w ∈ gdT := by
  intro w hw
  rcases List.mem_cons.mp hw with q | q
  · rw [q]; exact h.1
  · exact q
section Pk
variable {p : Program} {l : Launch} {e : Env} {R : Room} {s : State} {mid : MethodId} {args : Array Value} {below : List Frame} {meth : Method} {c : Code} {dC : Nat → ClassId} {dI : Nat → Nat → Nat} {cy : Nat → ClassId} {base : Nat} {Od : State → Heap → Prop} {Q : State → Prop}
variable {H : Heap} {locs : List Loc} {ls : Array Slot} {h : Hp} {pc : Nat} {y y2 : MethodName} {b b2 : ByteArray} {ml ml2 n n2 np idx : Nat} {rt rt2 : Option FieldType} {r1 : Option Value}
theorem ctrJ_of {vals : List Value} {r : Option Value} (hy : plainName y.cls = true) (hOd : OdOk base Od) (hsl : (lg_sl vals).length ≤ ml)
    (hw : ∀ (p : Program) (e : Env) (R : Room) (s : State) (mid : MethodId) (args : Array Value) (below : List Frame) (meth : Method) (c : Code) (ls : Array Slot), Cj dC dI cy base Od p R s mid args meth c y b ml rt n → Sj dC dI cy base Od s h s.heap [] → lv_has ls ml (lv_args 0 vals) → W p l e R s mid args below meth c s.heap [] 0 0 (MQ below (QJ dC dI cy base Od r h) args s 0 0 (fun q => base ≤ q)) (F0 mid 0 ls [])) : CtrJ dC dI cy base Od l n y b ml rt vals r h := by
  refine Met.ofW (cc := b) (maxL := ml) (ret := rt) hy rfl ?_
  intro p e s mid args below meth c s₁ B hml hv
  obtain ⟨rfl, hWd, hNw⟩ := hv
  have hts0 := atoms_spec (ws := Cond.code y b ml rt :: gdT) B.pre
  have hts : ∀ w ∈ TBL, w.before vals.toArray s = true := by
    intro w hw
    obtain ⟨h1, h2⟩ := List.mem_filter.mp hw
    cases hg : goodWord w with
    | true => exact hts0 w (List.mem_cons_of_mem _ (List.mem_filter.mpr ⟨h1, hg⟩))
    | false =>
      rw [hg] at h2
      exact isX_any h2 (hNw w h1 h2)
  rw [lg_entry_eq]
  exact hw p e _ s mid _ below meth c _ ⟨B.exec, B.bytes, B.returns, hml, findClass_of_methodNamed B.named, hts, B.notSynchronized, hWd.2.1, hOd, hWd.2.2, rfl, rfl⟩ ⟨hWd.1, hWd.2.2, va_S.rf⟩ (lv_entry vals hsl)
theorem j_aft {st0 rest : List Value} {aa : Array Value} (hC : Cj dC dI cy base Od p R s mid args meth c y b ml rt n) (hS : Sj dC dI cy base Od s h H locs)
    (hrun : va_Run p l e R s mid args below meth c H locs 0 0 0 0 (F0 mid pc ls st0) rest (QJ dC dI cy base Od r1 h aa) (fun q => base ≤ q))
    (kk : ∀ (H1 : Heap) (locs1 : List Loc), Sj dC dI cy base Od s h H1 locs1 → W p l e R s mid args below meth c H1 locs1 0 0 Q (F0 mid (pc + 3) ls (r1.toList ++ rest))) : W p l e R s mid args below meth c H locs 0 0 Q (F0 mid pc ls st0) := by
  obtain ⟨hx, hb, hr, hml, hown, hts, hlocks, hK, hOd, hod, hfr, hlo⟩ := id hC
  obtain ⟨s1, s2, s3⟩ := hS
  intro T hT X
  obtain ⟨v, st₀, t, T', L', h0, X', hL, e1, e2, ⟨hv, hWd, hz, hk⟩, st⟩ := hrun T hT X
  rw [h0] at hz hk
  cases hv
  obtain ⟨t2, a1, b1⟩ := kk T'.heap (locs ++ L') ⟨by rw [e1]; exact hWd.1, hOd.2 s H T'.heap (fun q q1 q2 => by rw [e1]; exact hk q q1 q2) s2, ⟨Nat.le_trans s3.1 (by rw [e1]; exact hz), fun q q1 q2 => by rw [e1, hk q (Nat.lt_of_lt_of_le q1 s3.1) q2]; exact s3.2.1 q q1 q2, fun q hq => by
      rcases List.mem_append.mp hq with h | h
      · exact s3.2.2 q h
      · exact hL q h⟩⟩ T' rfl X'
  exact ⟨t2, st t2 a1, b1⟩
theorem j_S (As rest : List Value) {st0 : List Value} (hC : Cj dC dI cy base Od p R s mid args meth c y b ml rt n) (hS : Sj dC dI cy base Od s h H locs) (hM : CtrJ dC dI cy base Od l n2 y2 b2 ml2 rt2 As r1 h) (hO : OkJ y2 b2 ml2 rt2 np) (hl : Cond.methodLink y.cls idx y2 ∈ gdT) (hst : Cond.static y2 ∈ gdT) (hn : n2 + 1 ≤ n) (hnp : As.length = np) (hls : ls.size = ml) (hst0 : st0 = As.reverse ++ rest) (h8 : (rest.map fun v => v.category).sum ≤ 8) (hd : decode b pc = .ok (.invokestatic idx, 3))
    (kk : ∀ (H1 : Heap) (locs1 : List Loc), Sj dC dI cy base Od s h H1 locs1 → W p l e R s mid args below meth c H1 locs1 0 0 Q (F0 mid (pc + 3) ls (r1.toList ++ rest))) : W p l e R s mid args below meth c H locs 0 0 Q (F0 mid pc ls st0) := by
  obtain ⟨hx, hb, hr, hml, hown, hts, hlocks, hK, hOd, hod, hfr, hlo⟩ := id hC
  have h40 := hO.2.2.2
  exact j_aft hC hS (va_runS (As := As) (rest := rest) (Ts := TBL) ⟨hx, hb, hml, hown, hts⟩ hM (va_cwS (Ts := TBL) np hts (gdIn (fun _ => gd_TBL) (gd_S hl hst hO.2.1 hO.ws)) rfl rfl rfl hO.2.2.1 ⟨by rw [hfr]; exact hn, by rw [hlo]; show 8 + (ml2 + 11) + 64 * n2 ≤ 64 * n; omega⟩) ⟨blind_Pc hOd, fun U hU hW => ⟨by rfl, ⟨by rw [hU]; exact hS.1, va_K.moved hW.alike hK, by rw [hU]; exact hOd.1 s U H hW hS.2.1⟩, (nwx_of hts).moved hW⟩⟩ rfl hnp hls hst0 (lv_room h8) hd ⟨Nat.zero_le _, Nat.zero_le _⟩) kk
theorem j_V (As rest : List Value) {bb : Nat} {st0 : List Value} (hC : Cj dC dI cy base Od p R s mid args meth c y b ml rt n) (hS : Sj dC dI cy base Od s h H locs) (hM : CtrJ dC dI cy base Od l n2 y2 b2 ml2 rt2 (.ref bb :: As) r1 h) (hO : OkJ y2 b2 ml2 rt2 np) (hl : Cond.methodLink y.cls idx y2 ∈ gdT) (hin : Cond.instanceMethod y2 ∈ gdT) (hse : Cond.selects y2.cls y2 y2 ∈ gdT) (hrc : ∃ cell : Cell, H[bb]? = some cell ∧ cell.vm.isStatics = false ∧ s.vm.findClass y2.cls = some cell.cls) (hn : n2 + 1 ≤ n) (hnp : As.length = np) (hls : ls.size = ml) (hst0 : st0 = As.reverse ++ .ref bb :: rest) (h8 : (rest.map fun v => v.category).sum ≤ 8) (hd : decode b pc = .ok (.invokevirtual idx, 3))
    (kk : ∀ (H1 : Heap) (locs1 : List Loc), Sj dC dI cy base Od s h H1 locs1 → W p l e R s mid args below meth c H1 locs1 0 0 Q (F0 mid (pc + 3) ls (r1.toList ++ rest))) : W p l e R s mid args below meth c H locs 0 0 Q (F0 mid pc ls st0) := by
  obtain ⟨hx, hb, hr, hml, hown, hts, hlocks, hK, hOd, hod, hfr, hlo⟩ := id hC
  have h40 := hO.2.2.2
  exact j_aft hC hS (va_runV (As := As) (rest := rest) (b := bb) (Ts := TBL) ⟨hx, hb, hml, hown, hts⟩ hM (cwV (Ts := TBL) (C := y2.cls) np hts (gdIn (fun _ => gd_TBL) (gd_V hl hin hse hO.2.1 hO.ws)) rfl rfl rfl ⟨rfl, hO.2.2.1⟩ ⟨by rw [hfr]; exact hn, by rw [hlo]; show 8 + (ml2 + 11) + 64 * n2 ≤ 64 * n; omega⟩) ⟨blind_Pc hOd, hrc, fun U hU hW => ⟨by rfl, ⟨by rw [hU]; exact hS.1, va_K.moved hW.alike hK, by rw [hU]; exact hOd.1 s U H hW hS.2.1⟩, (nwx_of hts).moved hW⟩⟩ rfl hnp hls hst0 (lv_room h8) hd ⟨Nat.zero_le _, Nat.zero_le _⟩) kk
theorem j_rz {v : Int32} {ty : FieldType} (hC : Cj dC dI cy base Od p R s mid args meth c y b ml (some ty) n) (hS : Sj dC dI cy base Od s h H locs) (hn : narrow ty (.int v) = .int v) (hd : decode b pc = .ok (.ireturn, 1)) : W p l e R s mid args below meth c H locs 0 0 (MQ below (QJ dC dI cy base Od (some (.int v)) h) args s 0 0 (fun q => base ≤ q)) (F0 mid pc ls [.int v]) := by
  obtain ⟨hx, hb, hr, hml, hown, hts, hlocks, hK, hOd, hod, hfr, hlo⟩ := id hC
  exact W.zret (ty := ty) hx hb hr hn (fun t ht hW => ⟨rfl, ⟨by rw [ht]; exact hS.1, va_K.moved hW.alike hK, hOd.1 s t _ hW (by rw [ht]; exact hS.2.1)⟩, hS.2.2.F ht⟩) hS.2.2.2.2 hd hlocks
theorem j_rv (hC : Cj dC dI cy base Od p R s mid args meth c y b ml none n) (hS : Sj dC dI cy base Od s h H locs) (hd : decode b pc = .ok (.return_, 1)) : W p l e R s mid args below meth c H locs 0 0 (MQ below (QJ dC dI cy base Od none h) args s 0 0 (fun q => base ≤ q)) (F0 mid pc ls []) := by
  obtain ⟨hx, hb, hr, hml, hown, hts, hlocks, hK, hOd, hod, hfr, hlo⟩ := id hC
  exact W.vret hx hb hr (fun t ht hW => ⟨rfl, ⟨by rw [ht]; exact hS.1, va_K.moved hW.alike hK, hOd.1 s t _ hW (by rw [ht]; exact hS.2.1)⟩, hS.2.2.F ht⟩) hS.2.2.2.2 hd hlocks
theorem j_get {o ci bf : Nat} {rest : List Value} (hC : Cj dC dI cy base Od p R s mid args meth c y b ml rt n) (hR : HR dC dI cy base h H) (hk : KD o = ci) (ho : o < h.1) (hci : ci < 9) (hb9 : bf < nF ci) (hl : Cond.fieldLink y.cls idx (TM ci bf).1 (TM ci bf).2.1 (TM ci bf).2.2.1 ∈ gdT) (hd : decode b pc = .ok (.getfield idx, 3))
    (kk : W p l e R s mid args below meth c H locs 0 0 Q (F0 mid (pc + 3) ls (fvV base ci (gR h o) (gI h o) bf :: rest))) : W p l e R s mid args below meth c H locs 0 0 Q (F0 mid pc ls (.ref (base + o) :: rest)) := by
  obtain ⟨hx, hb, hr, hml, hown, hts, hlocks, hK, hOd, hod, hfr, hlo⟩ := id hC
  have hP := one_P (hR.2 o ho)
  rw [cel_cls hk hci] at hP
  exact va_get (D := (dC, dI)) (ci := ci) hx hb hts (inC ci hci) hown hK hP 0 rfl (vwAt ci hci) bf hb9 (hts _ (gd_TBL hl)) (fun _ q => q) (range_map_get hb9) hd kk
theorem j_rcv {o ci : Nat} (hC : Cj dC dI cy base Od p R s mid args meth c y b ml rt n) (hR : HR dC dI cy base h H) (hk : KD o = ci) (ho : o < h.1) (hci : ci < 9) : ∃ cell : Cell, H[base + o]? = some cell ∧ cell.vm.isStatics = false ∧ s.vm.findClass (RM ci) = some cell.cls := by
  obtain ⟨hx, hb, hr, hml, hown, hts, hlocks, hK, hOd, hod, hfr, hlo⟩ := id hC
  have hP := one_P (hR.2 o ho)
  rw [cel_cls hk hci] at hP
  exact va_recv hK hP (ci := ci) (q0 := 0) (vwAt ci hci) rfl
end Pk
/-- the constants that the program reads: strings, a table, two statics -/
def srL : List Nat := [4, 3, 4, 4, 2, 2]
def srB : List (List Int32) := [[119, 97, 110, 116], [102, 101, 101], [102, 105, 110, 101], [109, 98, 104, 110], [103, 115], [109, 98]]
def srK (i : Nat) : Nat := [80, 86, 88, 116, 118, 120].getD i 0
def srT (i : Nat) : String := ["want", "fee", "fine", "mbhn", "gs", "mb"].getD i ""
def OJ (base : Nat) (ad av : Nat → Nat) (ta : Nat) (U : State) (H : Heap) : Prop := va_Z "java/lang/String" "COMPACT_STRINGS" "Z" (.int 1) (fun q => base ≤ q) U H ∧ va_Zq "jdk/internal/util/Preconditions" "SIOOBE_FORMATTER" "Ljava/util/function/BiFunction;" (fun q => base ≤ q) U H ∧ vk_S 6 srL srB ad av (fun q => base ≤ q) U H ∧ (va_Z RX0 "KIND_ABOVE" "[I" (.ref ta) (fun q => base ≤ q) U H ∧ va_T .int ta 6 (fun j => .int (kAb j)) (fun q => base ≤ q) U H) ∧ ∀ i, i < 6 → vk_R RX2 (srK i) (srT i) (ad i) U
theorem OJ.warm {base ta : Nat} {ad av : Nat → Nat} {u U : State} {H : Heap} (hW : u.WarmedH U.vm) (h : OJ base ad av ta u H) : OJ base ad av ta U H :=
  ⟨h.1.moved hW.alike, h.2.1.moved hW.alike, h.2.2.1.moved hW.alike, ⟨h.2.2.2.1.1.moved hW.alike, h.2.2.2.1.2.moved hW.alike⟩, fun i hi => (h.2.2.2.2 i hi).warm hW⟩
theorem OJ.kept {base ta : Nat} {ad av : Nat → Nat} {U : State} {H H1 : Heap} (hq : ∀ q : Nat, q < H.size → ¬ base ≤ q → H1[q]? = H[q]?) (h : OJ base ad av ta U H) : OJ base ad av ta U H1 :=
  ⟨h.1.kept hq, h.2.1.kept hq, h.2.2.1.kept hq, ⟨h.2.2.2.1.1.kept hq, h.2.2.2.1.2.kept hq⟩, h.2.2.2.2⟩
def yS_coder : MethodName := ⟨"java/lang/String", "coder", "()B"⟩
abbrev cS_coder : ByteArray := prog_14_method_152_code
def yS_length : MethodName := ⟨"java/lang/String", "length", "()I"⟩
abbrev cS_length : ByteArray := prog_14_method_54_code
def yS_isL : MethodName := ⟨"java/lang/String", "isLatin1", "()Z"⟩
abbrev cS_isL : ByteArray := prog_14_method_154_code
def yS_charAt : MethodName := ⟨"java/lang/String", "charAt", "(I)C"⟩
abbrev cS_charAt : ByteArray := prog_14_method_56_code
def yS_ck0 : MethodName := ⟨"java/lang/String", "checkIndex", "(II)V"⟩
abbrev cS_ck0 : ByteArray := prog_14_method_155_code
def yS_ck3 : MethodName := ⟨"jdk/internal/util/Preconditions", "checkIndex", "(IILjava/util/function/BiFunction;)I"⟩
abbrev cS_ck3 : ByteArray := prog_19_method_11_code
def yS_chA1 : MethodName := ⟨"java/lang/StringLatin1", "charAt", "([BI)C"⟩
abbrev cS_chA1 : ByteArray := prog_15_method_2_code
def yS_ix1 : MethodName := ⟨"java/lang/String", "indexOf", "(I)I"⟩
abbrev cS_ix1 : ByteArray := prog_14_method_79_code
def yS_ix2 : MethodName := ⟨"java/lang/String", "indexOf", "(II)I"⟩
abbrev cS_ix2 : ByteArray := prog_14_method_80_code
def yS_ixL : MethodName := ⟨"java/lang/StringLatin1", "indexOf", "([BIII)I"⟩
abbrev cS_ixL : ByteArray := prog_15_method_22_code
def yS_canE : MethodName := ⟨"java/lang/StringLatin1", "canEncode", "(I)Z"⟩
abbrev cS_canE : ByteArray := prog_15_method_4_code
def yS_ixC : MethodName := ⟨"java/lang/StringLatin1", "indexOfChar", "([BIII)I"⟩
abbrev cS_ixC : ByteArray := prog_15_method_23_code
theorem okS_coder : OkJ yS_coder cS_coder 1 (some .byte) 0 := ⟨gd_in (List.mem_of_getElem? (i := 625) (by decide +kernel)) (by decide +kernel), gd_in (List.mem_of_getElem? (i := 66) (by decide +kernel)) (by decide +kernel), ⟨by decide, by decide, by decide +kernel⟩, by decide⟩
theorem iS_coder : Cond.instanceMethod yS_coder ∈ gdT := gd_in (List.mem_of_getElem? (i := 623) (by decide +kernel)) (by decide +kernel)
theorem eS_coder : Cond.selects "java/lang/String" yS_coder yS_coder ∈ gdT := gd_in (List.mem_of_getElem? (i := 624) (by decide +kernel)) (by decide +kernel)
theorem okS_length : OkJ yS_length cS_length 1 (some .int) 0 := ⟨gd_in (List.mem_of_getElem? (i := 621) (by decide +kernel)) (by decide +kernel), gd_in (List.mem_of_getElem? (i := 66) (by decide +kernel)) (by decide +kernel), ⟨by decide, by decide, by decide +kernel⟩, by decide⟩
theorem iS_length : Cond.instanceMethod yS_length ∈ gdT := gd_in (List.mem_of_getElem? (i := 619) (by decide +kernel)) (by decide +kernel)
theorem eS_length : Cond.selects "java/lang/String" yS_length yS_length ∈ gdT := gd_in (List.mem_of_getElem? (i := 620) (by decide +kernel)) (by decide +kernel)
theorem okS_isL : OkJ yS_isL cS_isL 1 (some .boolean) 0 := ⟨gd_in (List.mem_of_getElem? (i := 635) (by decide +kernel)) (by decide +kernel), gd_in (List.mem_of_getElem? (i := 66) (by decide +kernel)) (by decide +kernel), ⟨by decide, by decide, by decide +kernel⟩, by decide⟩
theorem iS_isL : Cond.instanceMethod yS_isL ∈ gdT := gd_in (List.mem_of_getElem? (i := 633) (by decide +kernel)) (by decide +kernel)
theorem eS_isL : Cond.selects "java/lang/String" yS_isL yS_isL ∈ gdT := gd_in (List.mem_of_getElem? (i := 634) (by decide +kernel)) (by decide +kernel)
theorem okS_charAt : OkJ yS_charAt cS_charAt 2 (some .char) 1 := ⟨gd_in (List.mem_of_getElem? (i := 631) (by decide +kernel)) (by decide +kernel), gd_in (List.mem_of_getElem? (i := 66) (by decide +kernel)) (by decide +kernel), ⟨by decide, by decide, by decide +kernel⟩, by decide⟩
theorem iS_charAt : Cond.instanceMethod yS_charAt ∈ gdT := gd_in (List.mem_of_getElem? (i := 629) (by decide +kernel)) (by decide +kernel)
theorem eS_charAt : Cond.selects "java/lang/String" yS_charAt yS_charAt ∈ gdT := gd_in (List.mem_of_getElem? (i := 630) (by decide +kernel)) (by decide +kernel)
theorem okS_ck0 : OkJ yS_ck0 cS_ck0 2 none 2 := ⟨gd_in (List.mem_of_getElem? (i := 641) (by decide +kernel)) (by decide +kernel), gd_in (List.mem_of_getElem? (i := 66) (by decide +kernel)) (by decide +kernel), ⟨by decide, by decide, by decide +kernel⟩, by decide⟩
theorem sS_ck0 : Cond.static yS_ck0 ∈ gdT := gd_in (List.mem_of_getElem? (i := 640) (by decide +kernel)) (by decide +kernel)
theorem okS_ck3 : OkJ yS_ck3 cS_ck3 3 (some .int) 3 := ⟨gd_in (List.mem_of_getElem? (i := 646) (by decide +kernel)) (by decide +kernel), gd_in (List.mem_of_getElem? (i := 68) (by decide +kernel)) (by decide +kernel), ⟨by decide, by decide, by decide +kernel⟩, by decide⟩
theorem sS_ck3 : Cond.static yS_ck3 ∈ gdT := gd_in (List.mem_of_getElem? (i := 645) (by decide +kernel)) (by decide +kernel)
theorem okS_chA1 : OkJ yS_chA1 cS_chA1 2 (some .char) 2 := ⟨gd_in (List.mem_of_getElem? (i := 638) (by decide +kernel)) (by decide +kernel), gd_in (List.mem_of_getElem? (i := 67) (by decide +kernel)) (by decide +kernel), ⟨by decide, by decide, by decide +kernel⟩, by decide⟩
theorem sS_chA1 : Cond.static yS_chA1 ∈ gdT := gd_in (List.mem_of_getElem? (i := 637) (by decide +kernel)) (by decide +kernel)
theorem okS_ix1 : OkJ yS_ix1 cS_ix1 2 (some .int) 1 := ⟨gd_in (List.mem_of_getElem? (i := 686) (by decide +kernel)) (by decide +kernel), gd_in (List.mem_of_getElem? (i := 66) (by decide +kernel)) (by decide +kernel), ⟨by decide, by decide, by decide +kernel⟩, by decide⟩
theorem iS_ix1 : Cond.instanceMethod yS_ix1 ∈ gdT := gd_in (List.mem_of_getElem? (i := 684) (by decide +kernel)) (by decide +kernel)
theorem eS_ix1 : Cond.selects "java/lang/String" yS_ix1 yS_ix1 ∈ gdT := gd_in (List.mem_of_getElem? (i := 685) (by decide +kernel)) (by decide +kernel)
theorem okS_ix2 : OkJ yS_ix2 cS_ix2 3 (some .int) 2 := ⟨gd_in (List.mem_of_getElem? (i := 690) (by decide +kernel)) (by decide +kernel), gd_in (List.mem_of_getElem? (i := 66) (by decide +kernel)) (by decide +kernel), ⟨by decide, by decide, by decide +kernel⟩, by decide⟩
theorem iS_ix2 : Cond.instanceMethod yS_ix2 ∈ gdT := gd_in (List.mem_of_getElem? (i := 688) (by decide +kernel)) (by decide +kernel)
theorem eS_ix2 : Cond.selects "java/lang/String" yS_ix2 yS_ix2 ∈ gdT := gd_in (List.mem_of_getElem? (i := 689) (by decide +kernel)) (by decide +kernel)
theorem okS_ixL : OkJ yS_ixL cS_ixL 4 (some .int) 4 := ⟨gd_in (List.mem_of_getElem? (i := 694) (by decide +kernel)) (by decide +kernel), gd_in (List.mem_of_getElem? (i := 67) (by decide +kernel)) (by decide +kernel), ⟨by decide, by decide, by decide +kernel⟩, by decide⟩
theorem sS_ixL : Cond.static yS_ixL ∈ gdT := gd_in (List.mem_of_getElem? (i := 693) (by decide +kernel)) (by decide +kernel)
theorem okS_canE : OkJ yS_canE cS_canE 1 (some .boolean) 1 := ⟨gd_in (List.mem_of_getElem? (i := 697) (by decide +kernel)) (by decide +kernel), gd_in (List.mem_of_getElem? (i := 67) (by decide +kernel)) (by decide +kernel), ⟨by decide, by decide, by decide +kernel⟩, by decide⟩
theorem sS_canE : Cond.static yS_canE ∈ gdT := gd_in (List.mem_of_getElem? (i := 696) (by decide +kernel)) (by decide +kernel)
theorem okS_ixC : OkJ yS_ixC cS_ixC 6 (some .int) 4 := ⟨gd_in (List.mem_of_getElem? (i := 702) (by decide +kernel)) (by decide +kernel), gd_in (List.mem_of_getElem? (i := 67) (by decide +kernel)) (by decide +kernel), ⟨by decide, by decide, by decide +kernel⟩, by decide⟩
theorem sS_ixC : Cond.static yS_ixC ∈ gdT := gd_in (List.mem_of_getElem? (i := 701) (by decide +kernel)) (by decide +kernel)
theorem fl_String_38 : Cond.fieldLink "java/lang/String" 38 "java/lang/String" "COMPACT_STRINGS" "Z" ∈ gdT := gd_in (List.mem_of_getElem? (i := 626) (by decide +kernel)) (by decide +kernel)
theorem fl_String_15 : Cond.fieldLink "java/lang/String" 15 "java/lang/String" "coder" "B" ∈ gdT := gd_in (List.mem_of_getElem? (i := 1345) (by decide +kernel)) (by decide +kernel)
theorem fl_String_9 : Cond.fieldLink "java/lang/String" 9 "java/lang/String" "value" "[B" ∈ gdT := gd_in (List.mem_of_getElem? (i := 1344) (by decide +kernel)) (by decide +kernel)
theorem fl_String_1053 : Cond.fieldLink "java/lang/String" 1053 "jdk/internal/util/Preconditions" "SIOOBE_FORMATTER" "Ljava/util/function/BiFunction;" ∈ gdT := gd_in (List.mem_of_getElem? (i := 642) (by decide +kernel)) (by decide +kernel)
theorem fl_Jug_27 : Cond.fieldLink "JugMemory$Jug" 27 "JugMemory$Jug" "KIND_ABOVE" "[I" ∈ gdT := gd_in (List.mem_of_getElem? (i := 392) (by decide +kernel)) (by decide +kernel)
theorem fl_Jug_9 : Cond.fieldLink "JugMemory$Jug" 9 "JugMemory$Jug" "kind" "I" ∈ gdT := gd_in (List.mem_of_getElem? (i := 113) (by decide +kernel)) (by decide +kernel)
theorem fl_Reader_9 : Cond.fieldLink "JugMemory$Reader" 9 "JugMemory$Reader" "tape" "[B" ∈ gdT := gd_in (List.mem_of_getElem? (i := 201) (by decide +kernel)) (by decide +kernel)
theorem fl_Reader_35 : Cond.fieldLink "JugMemory$Reader" 35 "JugMemory$Reader" "sign" "I" ∈ gdT := gd_in (List.mem_of_getElem? (i := 206) (by decide +kernel)) (by decide +kernel)
theorem fl_Reader_41 : Cond.fieldLink "JugMemory$Reader" 41 "JugMemory$Reader" "end" "I" ∈ gdT := gd_in (List.mem_of_getElem? (i := 207) (by decide +kernel)) (by decide +kernel)
theorem fl_Reader_38 : Cond.fieldLink "JugMemory$Reader" 38 "JugMemory$Reader" "start" "I" ∈ gdT := gd_in (List.mem_of_getElem? (i := 208) (by decide +kernel)) (by decide +kernel)
theorem fl_Reader_51 : Cond.fieldLink "JugMemory$Reader" 51 "JugMemory$Reader" "key" "I" ∈ gdT := gd_in (List.mem_of_getElem? (i := 210) (by decide +kernel)) (by decide +kernel)
theorem ml_String_335 : Cond.methodLink "java/lang/String" 335 yS_coder ∈ gdT := gd_in (List.mem_of_getElem? (i := 622) (by decide +kernel)) (by decide +kernel)
theorem ml_String_492 : Cond.methodLink "java/lang/String" 492 yS_isL ∈ gdT := gd_in (List.mem_of_getElem? (i := 632) (by decide +kernel)) (by decide +kernel)
theorem ml_String_495 : Cond.methodLink "java/lang/String" 495 yS_chA1 ∈ gdT := gd_in (List.mem_of_getElem? (i := 636) (by decide +kernel)) (by decide +kernel)
theorem ml_StringLatin1_9 : Cond.methodLink "java/lang/StringLatin1" 9 yS_ck0 ∈ gdT := gd_in (List.mem_of_getElem? (i := 639) (by decide +kernel)) (by decide +kernel)
theorem ml_String_1059 : Cond.methodLink "java/lang/String" 1059 yS_ck3 ∈ gdT := gd_in (List.mem_of_getElem? (i := 644) (by decide +kernel)) (by decide +kernel)
theorem ml_String_633 : Cond.methodLink "java/lang/String" 633 yS_ix2 ∈ gdT := gd_in (List.mem_of_getElem? (i := 687) (by decide +kernel)) (by decide +kernel)
theorem ml_String_505 : Cond.methodLink "java/lang/String" 505 yS_length ∈ gdT := gd_in (List.mem_of_getElem? (i := 691) (by decide +kernel)) (by decide +kernel)
theorem ml_String_637 : Cond.methodLink "java/lang/String" 637 yS_ixL ∈ gdT := gd_in (List.mem_of_getElem? (i := 692) (by decide +kernel)) (by decide +kernel)
theorem ml_StringLatin1_88 : Cond.methodLink "java/lang/StringLatin1" 88 yS_canE ∈ gdT := gd_in (List.mem_of_getElem? (i := 695) (by decide +kernel)) (by decide +kernel)
theorem ml_StringLatin1_95 : Cond.methodLink "java/lang/StringLatin1" 95 yS_ixC ∈ gdT := gd_in (List.mem_of_getElem? (i := 700) (by decide +kernel)) (by decide +kernel)
theorem ml_Reader_90 : Cond.methodLink "JugMemory$Reader" 90 yS_length ∈ gdT := gd_in (List.mem_of_getElem? (i := 618) (by decide +kernel)) (by decide +kernel)
theorem ml_Reader_94 : Cond.methodLink "JugMemory$Reader" 94 yS_charAt ∈ gdT := gd_in (List.mem_of_getElem? (i := 628) (by decide +kernel)) (by decide +kernel)
theorem ml_Reader_122 : Cond.methodLink "JugMemory$Reader" 122 yS_ix1 ∈ gdT := gd_in (List.mem_of_getElem? (i := 683) (by decide +kernel)) (by decide +kernel)
theorem ml_StringLatin1_92 : Cond.methodLink "java/lang/StringLatin1" 92 Lib.Math.max.name ∈ gdT := gd_in (List.mem_of_getElem? (i := 698) (by decide +kernel)) (by decide +kernel)
theorem ml_StringLatin1_38 : Cond.methodLink "java/lang/StringLatin1" 38 Lib.Math.min.name ∈ gdT := gd_in (List.mem_of_getElem? (i := 699) (by decide +kernel)) (by decide +kernel)
theorem ml_Reader_69 : Cond.methodLink "JugMemory$Reader" 69 yX2_byteAt ∈ gdT := gd_in (List.mem_of_getElem? (i := 599) (by decide +kernel)) (by decide +kernel)
theorem ml_Reader_82 : Cond.methodLink "JugMemory$Reader" 82 yX2_isWord ∈ gdT := gd_in (List.mem_of_getElem? (i := 614) (by decide +kernel)) (by decide +kernel)
