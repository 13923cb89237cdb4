/-! The abstract heap in the machine's heap: object o lies at base + o. -/
def cvV (base : Nat) (v : Value) : Value := match v with
  | .ref a => .ref (base + a)
  | v => v
def tysL (cy : Nat → ClassId) : List (ClassId × FieldType) := [(cy 9, .byte), (cy 10, .char), (cy 11, .int), (cy 12, .boolean), (cy 13, .object RX0), (cy 14, .object RX3), (cy 15, .object RX4), (cy 16, .object RX5)]
def rA (base : Nat) (r : Option Nat) : Option Nat := r.map (fun a => base + a)
def fvV (base ci : Nat) (Ro : Nat → Option Nat) (Io : Nat → Int32) (j : Nat) : Value := cond (fr ci j) (va_rf (rA base (Ro j))) (.int (Io j))
def celR (cy : Nat → ClassId) (base kd ln : Nat) (Ro : Nat → Option Nat) (Io : Nat → Int32) : va_E :=
  if kd < 9 then .inr (kd, (List.range (nF kd)).map (fvV base kd Ro Io))
  else if kd < 13 then .inl (cy kd, ln, .inl Io)
  else .inl (cy kd, ln, .inr (.inr (.inr (.inr (fun j => rA base (Ro j))))))
def cel (cy : Nat → ClassId) (base : Nat) (h : Hp) (o : Nat) : va_E := celR cy base (KD o) (gL h o) (gR h o) (gI h o)
def HR (dC : Nat → ClassId) (dI : Nat → Nat → Nat) (cy : Nat → ClassId) (base : Nat) (h : Hp) (H : Heap) : Prop := H.size = base + h.1 ∧ ∀ o, o < h.1 → va_at (dC, dI) vwCl (base + o, cel cy base h o) H
theorem cvV_rv (base : Nat) (r : Option Nat) : cvV base (rv r) = va_rf (rA base r) := by cases r <;> rfl
theorem up1_ne {α : Type} {f : Nat → α} {k j : Nat} {v : α} (h : ¬ j = k) : up1 f k v j = f j := if_neg h
theorem up1_eq {α : Type} {f : Nat → α} {k : Nat} {v : α} : up1 f k v k = v := if_pos rfl
theorem up2_ne {α : Type} {f : Nat → Nat → α} {o k j : Nat} {v : α} (h : ¬ j = o) : up2 f o k v j = f j := if_neg h
theorem up2_eq {α : Type} {f : Nat → Nat → α} {o k : Nat} {v : α} : up2 f o k v o = up1 (f o) k v := if_pos rfl
section Hr
variable {dC : Nat → ClassId} {dI : Nat → Nat → Nat} {cy : Nat → ClassId} {base : Nat}
theorem HR.put {h h' : Hp} {H H1 : Heap} {o : Nat} (hR : HR dC dI cy base h H) (hn : h'.1 = h.1) (hc : ∀ j, ¬ j = o → cel cy base h' j = cel cy base h j) (e : va_at (dC, dI) vwCl (base + o, cel cy base h' o) H1) (z : H1.size = H.size) (oq : ∀ q : Nat, q ≠ base + o → H1[q]? = H[q]?) : HR dC dI cy base h' H1 := by
  refine ⟨by rw [z, hn]; exact hR.1, fun j hj => ?_⟩
  by_cases hjo : j = o
  · subst hjo; exact e
  · rw [hc j hjo]; exact (hR.2 j (by omega)).kept (oq (base + j) (by omega))
theorem HR.push {h h' : Hp} {H H1 : Heap} (hR : HR dC dI cy base h H) (hn : h'.1 = h.1 + 1) (hc : ∀ j, ¬ j = h.1 → cel cy base h' j = cel cy base h j) (e : va_at (dC, dI) vwCl (base + h.1, cel cy base h' h.1) H1) (z : H1.size = H.size + 1) (oq : ∀ q : Nat, q < H.size → H1[q]? = H[q]?) : HR dC dI cy base h' H1 := by
  refine ⟨by rw [z, hn, hR.1]; omega, fun j hj => ?_⟩
  by_cases hjo : j = h.1
  · subst hjo; exact e
  · rw [hc j hjo]; exact (hR.2 j (by omega)).kept (oq (base + j) (by rw [hR.1]; omega))
theorem cel_cls {h : Hp} {o ci : Nat} (hk : KD o = ci) (hc : ci < 9) : cel cy base h o = .inr (ci, (List.range (nF ci)).map (fvV base ci (gR h o) (gI h o))) := by
  unfold cel celR; rw [hk, if_pos hc]
theorem cel_arr {h : Hp} {o kd : Nat} (hk : KD o = kd) (h1 : 8 < kd) (h2 : kd < 13) : cel cy base h o = .inl (cy kd, gL h o, .inl (gI h o)) := by
  unfold cel celR; rw [hk, if_neg (by omega), if_pos h2]
theorem cel_ref {h : Hp} {o : Nat} (h1 : 12 < KD o) : cel cy base h o = .inl (cy (KD o), gL h o, .inr (.inr (.inr (.inr (fun j => rA base (gR h o j)))))) := by
  unfold cel celR; rw [if_neg (by omega), if_neg (by omega)]
theorem cel_same {h h' : Hp} {j : Nat} (h1 : gL h' j = gL h j) (h2 : gR h' j = gR h j) (h3 : gI h' j = gI h j) : cel cy base h' j = cel cy base h j := by
  unfold cel; rw [h1, h2, h3]
theorem range_map_get {α : Type} {f : Nat → α} {n b : Nat} (h : b < n) : ((List.range n).map f)[b]? = some (f b) := by
  rw [List.getElem?_map, List.getElem?_range h]; rfl
theorem range_map_set {α : Type} {f g : Nat → α} {n b : Nat} {v : α} (h1 : g b = v) (h2 : ∀ j, ¬ j = b → g j = f j) : ((List.range n).map f).set b v = (List.range n).map g := by
  apply List.ext_getElem?
  intro i
  rw [List.getElem?_set]
  by_cases hi : b = i
  · subst hi
    rw [if_pos rfl]
    by_cases hn : b < n
    · rw [range_map_get hn, h1]; simp [hn]
    · simp [hn]
  · rw [if_neg hi]
    by_cases hn : i < n
    · rw [range_map_get hn, range_map_get hn, h2 i (fun q => hi q.symm)]
    · rw [List.getElem?_eq_none (by simp; omega), List.getElem?_eq_none (by simp; omega)]
end Hr
/-- the locals -/
def LR (base : Nat) (ls : Array Slot) (L : List (Option Value)) : Prop := ls.size = L.length ∧ lv_wf ls ∧ ∀ (i : Nat) (v : Value), L[i]? = some (some v) → v.category = 1 ∧ ls[i]? = some (.val (cvV base v))
theorem cvV_cat (base : Nat) (v : Value) : (cvV base v).category = v.category := by cases v <;> rfl
def prs (base : Nat) (L : List (Option Value)) : List (Nat × Value) := (List.range L.length).filterMap (fun i => match L[i]? with
  | some (some v) => some (i, cvV base v)
  | _ => none)
theorem mem_prs {base : Nat} {L : List (Option Value)} {q : Nat × Value} : q ∈ prs base L ↔ ∃ v, L[q.1]? = some (some v) ∧ q.2 = cvV base v := by
  unfold prs
  rw [List.mem_filterMap]
  constructor
  · rintro ⟨i, -, h⟩
    split at h
    · rename_i v hv
      cases h
      exact ⟨v, hv, rfl⟩
    · cases h
  · rintro ⟨v, h1, h2⟩
    refine ⟨q.1, List.mem_range.mpr (List.getElem?_eq_some_iff.mp h1).1, ?_⟩
    rw [h1]
    show some (q.1, cvV base v) = some q
    rw [← h2]
theorem LR.has {base : Nat} {ls : Array Slot} {L : List (Option Value)} (h : LR base ls L) : lv_has ls L.length (prs base L) := by
  refine ⟨h.1, h.2.1, fun q hq => ?_⟩
  obtain ⟨v, h1, h2⟩ := mem_prs.mp hq
  rw [h2]
  exact (h.2.2 q.1 v h1).2
theorem LR.set {base i : Nat} {ls ls' : Array Slot} {L : List (Option Value)} {v : Value} (h : LR base ls L) (hi : i < L.length) (hc : v.category = 1) (h' : lv_has ls' L.length ((i, cvV base v) :: (prs base L).filter (fun q => !(q.1 == i) && !(q.1 + 1 == i && q.2.category == 2)))) : LR base ls' (L.set i (some v)) := by
  refine ⟨by rw [List.length_set]; exact h'.1, h'.2.1, fun j w hw => ?_⟩
  rw [List.getElem?_set] at hw
  by_cases hij : i = j
  · subst hij
    rw [if_pos rfl, if_pos hi] at hw
    cases hw
    exact ⟨hc, h'.2.2 (i, cvV base v) List.mem_cons_self⟩
  · rw [if_neg hij] at hw
    refine ⟨(h.2.2 j w hw).1, h'.2.2 (j, cvV base w) (List.mem_cons_of_mem _ (List.mem_filter.mpr ⟨mem_prs.mpr ⟨w, hw, rfl⟩, ?_⟩))⟩
    have h1 : (j == i) = false := by simp; omega
    have h2 : ((cvV base w).category == 2) = false := by rw [cvV_cat, (h.2.2 j w hw).1]; rfl
    simp [h1, h2]
theorem lk_some {L : List (Option Value)} : ∀ {i : Nat} {k : Value → Rs} {x : Option Value × Hp}, lk L i k none = some x → ∃ v, L[i]? = some (some v) ∧ k v = some x := by
  induction L with
  | nil => intro i k x h; cases i <;> cases h
  | cons a r ih =>
    intro i k x h
    cases i with
    | zero => cases a with
      | none => cases h
      | some v => exact ⟨v, rfl, h⟩
    | succ i => exact ih h
theorem stL_some {L : List (Option Value)} : ∀ {i : Nat} {v : Value} {k : List (Option Value) → Rs} {x : Option Value × Hp}, stL L i v k none = some x → i < L.length ∧ k (L.set i (some v)) = some x := by
  induction L with
  | nil => intro i v k x h; cases i <;> cases h
  | cons a r ih =>
    intro i v k x h
    cases i with
    | zero => exact ⟨Nat.zero_lt_succ _, h⟩
    | succ i =>
      obtain ⟨h1, h2⟩ := ih h
      exact ⟨Nat.succ_lt_succ h1, h2⟩
/-- the words that a callee gets with its own (goodWord), and those that are handed on beside them -/
def isX (w : Cond) : Bool := match w with
  | .methodLinkNest .. => true
  | .arrayOver (.object _) => true
  | _ => false
def TBL : List Cond := lw_tbl.filter (fun w => goodWord w || isX w)
def NwX (U : State) : Prop := ∀ w ∈ lw_tbl, isX w = true → w.before #[] U = true
theorem isX_any {w : Cond} (hw : isX w = true) {A A' : Array Value} {U : State} (h : w.before A U = true) : w.before A' U = true := by
  cases w <;> first | (cases hw; done) | skip
  · exact va_Nw.use rfl (va_Nw.of rfl h)
  · rename_i t
    cases t <;> first | (cases hw; done) | skip
    exact va_AO.use (va_AO.of h)
theorem NwX.moved {s U : State} (hW : s.WarmedH U.vm) (h : NwX s) : NwX U := by
  intro w hm hw
  have h1 := h w hm hw
  cases w <;> first | (cases hw; done) | skip
  · exact va_Nw.warmM hW h1
  · rename_i t
    cases t <;> first | (cases hw; done) | skip
    exact va_AO.moved hW.alike h1
theorem NwX.same {u U : State} (hv : u.vm = U.vm) (h : NwX u) : NwX U := by
  intro w hm hw
  have h1 := h w hm hw
  cases w <;> first | (cases hw; done) | skip
  · exact va_Nw.same rfl hv h1
  · rename_i t
    cases t <;> first | (cases hw; done) | skip
    exact va_AO.moved (by rw [hv]; exact Vm.Alike.refl _) h1
/-- what is kept of the old part of the heap -/
def OdOk (base : Nat) (Od : State → Heap → Prop) : Prop := (∀ (u U : State) (H : Heap), u.WarmedH U.vm → Od u H → Od U H) ∧ ∀ (U : State) (H H1 : Heap), (∀ q : Nat, q < H.size → ¬ base ≤ q → H1[q]? = H[q]?) → Od U H → Od U H1
def Wd (dC : Nat → ClassId) (dI : Nat → Nat → Nat) (cy : Nat → ClassId) (base : Nat) (Od : State → Heap → Prop) (h : Hp) (U : State) : Prop := HR dC dI cy base h U.heap ∧ va_K (dC, dI) vwCl (tysL cy) U ∧ Od U U.heap
def gdT : List Cond := lw_tbl.filter goodWord
def wsM (m : Nat) : List Cond := Cond.code (yM m) (bM m) (mlM m) (rtM m) :: gdT
def rmK (k mc ms : Nat) : Room := { frames := k + 8, cells := mc, slots := ms, locals := 64 * (k + 8) }
def Qf (dC : Nat → ClassId) (dI : Nat → Nat → Nat) (cy : Nat → ClassId) (base : Nat) (Od : State → Heap → Prop) (r : Option Value) (h' : Hp) : Array Value → State → Outcome → State → Prop := fun _ st oc t => oc = .returned (r.map (cvV base)) ∧ Wd dC dI cy base Od h' t ∧ va_F (fun q => base ≤ q) st t
/-- the contract of a run -/
def Ctr (l : Launch) (dC : Nat → ClassId) (dI : Nat → Nat → Nat) (cy : Nat → ClassId) (base : Nat) (Od : State → Heap → Prop) (k m : Nat) (as : List Value) (h : Hp) (r : Option Value) (h' : Hp) : Prop :=
  Met l (yM m) (wsM m) (rmK k (h'.1 - h.1) (h'.2.1 - h.2.1)) (va_Pc (as.map (cvV base)) (fun U => Wd dC dI cy base Od h U ∧ NwX U)) (Qf dC dI cy base Od r h') (h'.1 - h.1) (h'.2.1 - h.2.1) (fun q => base ≤ q)
section Snd
variable (p : Program) (l : Launch) (e : Env) (R : Room) (s : State) (mid : MethodId) (args : Array Value) (below : List Frame) (meth : Method) (c : Code) (dC : Nat → ClassId) (dI : Nat → Nat → Nat) (cy : Nat → ClassId) (base : Nat) (Od : State → Heap → Prop) (m k : Nat) (rF : Option Value) (hF : Hp) (MC MS : Nat) (Q : State → Prop)
/-- what is fixed while a method's body is walked -/
def Cx : Prop := p.tables.exec = Jvm.exec ∧ c.code = bM m ∧ meth.sig.returnType = rtM m ∧ c.maxLocals = mlM m ∧ s.vm.findClass (yM m).cls = some mid.cls ∧ (∀ w ∈ TBL, w.before args s = true) ∧ meth.locks = false ∧ meth.name = (yM m).name ∧ va_K (dC, dI) vwCl (tysL cy) s ∧ OdOk base Od ∧ base ≤ s.heap.size ∧ R.frames = k + 8 ∧ R.locals = 64 * (k + 8) ∧ R.cells = MC ∧ R.slots = MS
/-- where the walk stands -/
def St (H : Heap) (locs : List Loc) (ls : Array Slot) (L : List (Option Value)) (h : Hp) (cells slots : Nat) : Prop := HR dC dI cy base h H ∧ Od s H ∧ va_S (fun q => base ≤ q) s.heap H locs ∧ LR base ls L ∧ L.length = mlM m ∧ cells + hF.1 = MC + h.1 ∧ slots + hF.2.1 = MS + h.2.1
/-- a way on that is right -/
def Sn (go : Nat → List (Option Value) → List Value → Hp → Rs) : Prop := ∀ (pc : Nat) (L : List (Option Value)) (S : List Value) (h : Hp) (H : Heap) (locs : List Loc) (cells slots : Nat) (ls : Array Slot), go pc L S h = some (rF, hF) → St s dC dI cy base Od m hF MC MS H locs ls L h cells slots → W p l e R s mid args below meth c H locs cells slots Q (F0 mid pc ls (S.map (cvV base)))
end Snd
section Rows
variable {p : Program} {l : Launch} {e : Env} {R : Room} {s : State} {mid : MethodId} {args : Array Value} {below : List Frame} {meth : Method} {c : Code} {dC : Nat → ClassId} {dI : Nat → Nat → Nat} {cy : Nat → ClassId} {base : Nat} {Od : State → Heap → Prop} {m k : Nat} {rF : Option Value} {hF : Hp} {MC MS : Nat} {Q : State → Prop}
variable {H : Heap} {locs : List Loc} {ls : Array Slot} {L : List (Option Value)} {S : List Value} {h : Hp} {cells slots pc : Nat}
variable {go : Nat → List (Option Value) → List Value → Hp → Rs}
theorem hd_of {ai : AI} (hok : okI m pc ai = true) (h9 : ¬ ai.1 = 99) : decode (bM m) pc = .ok (rawI pc ai) ∧ ai.2.2.1 = pc + (rawI pc ai).2 ∧ okA m ai = true := by
  unfold okI at hok
  rw [Bool.or_eq_true] at hok
  rcases hok with q | q
  · exact absurd (Nat.eq_of_beq_eq_true q) h9
  · rw [Bool.and_eq_true, Bool.and_eq_true] at q
    exact ⟨of_decide_eq_true q.1.1, Nat.eq_of_beq_eq_true q.1.2, q.2⟩
theorem tb_of {d : Nat} {w : Cond} (h : tbB d w = true) (hg : (goodWord w || isX w) = true := by rfl) : w ∈ TBL := List.mem_filter.mpr ⟨List.mem_of_getElem? (of_decide_eq_true h), hg⟩
set_option maxHeartbeats 1000000 in
theorem sd0 {s0 np a b cc d e0 : Nat} {x : Int32} {sw : List (Int32 × Nat)} {fl : Bool} (hC : Cx p R s mid args meth c dC dI cy base Od m k MC MS) (hgo : Sn p l e R s mid args below meth c dC dI cy base Od m rF hF MC MS Q go) (hok : okI m pc (0, s0, np, a, b, cc, d, e0, x, sw, fl) = true)
    (hst : stp0 go none s0 np a x L S h = some (rF, hF)) (hS : St s dC dI cy base Od m hF MC MS H locs ls L h cells slots) : W p l e R s mid args below meth c H locs cells slots Q (F0 mid pc ls (S.map (cvV base))) := by
  obtain ⟨hd, hnp, ha⟩ := hd_of hok (show ¬ (0 : Nat) = 99 by decide)
  obtain ⟨hx, hb, hr, hml, hown, hts, hlocks, hnm, hK, hOd, hbs, hfr, hlo, hrc, hrs⟩ := hC
  have hLR := hS.2.2.2.1
  unfold stp0 at hst
  split at hst
  · replace hnp : np = pc + 1 := hnp
    subst hnp
    exact lv_iconst hx hb hd (by rw [Int32.ofInt_toInt]) (hgo _ _ _ _ _ _ _ _ _ hst hS)
  · replace hnp : np = pc + 2 := hnp
    subst hnp
    exact lv_bipush hx hb hd (of_decide_eq_true ha) (hgo _ _ _ _ _ _ _ _ _ hst hS)
  · replace hnp : np = pc + 3 := hnp
    subst hnp
    exact lv_sipush hx hb hd (of_decide_eq_true ha) (hgo _ _ _ _ _ _ _ _ _ hst hS)
  · replace hnp : np = pc + 2 := hnp
    subst hnp
    exact lv_ldc hx hb hown (hts _ (tb_of ha)) hd (hgo _ _ _ _ _ _ _ _ _ hst hS)
  · replace hnp : np = pc + 3 := hnp
    subst hnp
    exact lv_ldcw hx hb hown (hts _ (tb_of ha)) hd (hgo _ _ _ _ _ _ _ _ _ hst hS)
  · replace hnp : np = pc + 1 := hnp
    subst hnp
    obtain ⟨v, h1, h2⟩ := lk_some hst
    cases v <;> first | (cases h2; done) | skip
    exact lv_iload_n hx hb hd (Nat.mod_eq_of_lt (Nat.le_of_ble_eq_true ha)) (hLR.2.2 _ _ h1).2 (hgo _ _ _ _ _ _ _ _ _ h2 hS)
  · replace hnp : np = pc + 2 := hnp
    subst hnp
    obtain ⟨v, h1, h2⟩ := lk_some hst
    cases v <;> first | (cases h2; done) | skip
    exact lv_iload hx hb hd (hLR.2.2 _ _ h1).2 (hgo _ _ _ _ _ _ _ _ _ h2 hS)
  · replace hnp : np = pc + 1 := hnp
    subst hnp
    obtain ⟨v, h1, h2⟩ := lk_some hst
    cases v <;> first | (cases h2; done) | skip
    exact lv_aload_n hx hb hd (Nat.mod_eq_of_lt (Nat.le_of_ble_eq_true ha)) (hLR.2.2 _ _ h1).2 (hgo _ _ _ _ _ _ _ _ _ h2 hS)
  · replace hnp : np = pc + 2 := hnp
    subst hnp
    obtain ⟨v, h1, h2⟩ := lk_some hst
    cases v <;> first | (cases h2; done) | skip
    exact lv_aload hx hb hd (hLR.2.2 _ _ h1).2 (hgo _ _ _ _ _ _ _ _ _ h2 hS)
  · cases hst
end Rows
