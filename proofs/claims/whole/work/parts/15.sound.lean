/-! What runs on the abstract machine, runs so on the machine: a contract of every run. -/
theorem padL_len : ∀ (n : Nat) (as : List Value), (padL n as).length = n := by
  intro n
  induction n with
  | zero => intro as; rfl
  | succ n ih => intro as; cases as <;> simp [padL, ih]
theorem padL_get : ∀ (n : Nat) (as : List Value) (i : Nat) (v : Value), (padL n as)[i]? = some (some v) → as[i]? = some v := by
  intro n
  induction n with
  | zero => intro as i v h; simp [padL] at h
  | succ n ih =>
    intro as i v h
    cases as with
    | nil =>
      cases i with
      | zero => simp [padL] at h
      | succ i => have := ih [] i v (by simpa [padL] using h); simp at this
    | cons a r =>
      cases i with
      | zero => simpa [padL] using h
      | succ i => have := ih r i v (by simpa [padL] using h); simpa using this
theorem args_get (base : Nat) : ∀ (as : List Value) (j i : Nat) (v : Value), (∀ w ∈ as, w.category = 1) → as[i]? = some v → (j + i, cvV base v) ∈ lv_args j (as.map (cvV base)) := by
  intro as
  induction as with
  | nil => intro j i v _ h; simp at h
  | cons a r ih =>
    intro j i v hc h
    have h2 : ¬ (cvV base a).category = 2 := by rw [cvV_cat, hc a List.mem_cons_self]; decide
    simp only [List.map_cons, lv_args, if_neg h2]
    cases i with
    | zero => simp at h; subst h; exact List.mem_cons_self
    | succ i =>
      have := ih (j + 1) i v (fun w hw => hc w (List.mem_cons_of_mem _ hw)) (by simpa using h)
      rw [show j + (i + 1) = j + 1 + i by omega]
      exact List.mem_cons_of_mem _ this
theorem sl_len (base : Nat) (as : List Value) (hc : ∀ w ∈ as, w.category = 1) : (lg_sl (as.map (cvV base))).length = as.length := by
  induction as with
  | nil => rfl
  | cons a r ih =>
    have h2 : ¬ (cvV base a).category = 2 := by rw [cvV_cat, hc a List.mem_cons_self]; decide
    have := ih (fun w hw => hc w (List.mem_cons_of_mem _ hw))
    show ((if (cvV base a).category = 2 then [Slot.val (cvV base a), .second] else [Slot.val (cvV base a)]) ++ lg_sl (r.map (cvV base))).length = r.length + 1
    rw [if_neg h2, List.length_append, this, List.length_singleton]
    omega
def WalkAt (l : Launch) (dC : Nat → ClassId) (dI : Nat → Nat → Nat) (cy : Nat → ClassId) (base : Nat) (Od : State → Heap → Prop) (n : Nat) : Prop :=
  ∀ (k m : Nat) (rF : Option Value) (hF : Hp) (p : Program) (e : Env) (R : Room) (s : State) (mid : MethodId) (args : Array Value) (below : List Frame) (meth : Method) (c : Code) (MC MS : Nat), Cx p R s mid args meth c dC dI cy base Od m k MC MS → Sn p l e R s mid args below meth c dC dI cy base Od m rF hF MC MS (MQ below (Qf dC dI cy base Od rF hF) args s MC MS (fun q => base ≤ q)) (fun pc L S h => run n k m pc L S h)
section Sound
variable {l : Launch} {dC : Nat → ClassId} {dI : Nat → Nat → Nat} {cy : Nat → ClassId} {base : Nat} {Od : State → Heap → Prop}
set_option maxHeartbeats 1000000 in
theorem ctr_of {n k m : Nat} {as : List Value} {h : Hp} {r : Option Value} {h' : Hp} (hw : WalkAt l dC dI cy base Od n) (hOd : OdOk base Od) (hm : m < NM) (hao : asOk m as = true) (hrun : run n k m 0 (ent m as) [] h = some (r, h')) : Ctr l dC dI cy base Od k m as h r h' := by
  have hOK := okM_all hm
  obtain ⟨g1, g2⟩ := run_grow _ _ _ _ _ _ _ _ hrun
  dsimp only at g1 g2
  unfold asOk at hao
  rw [Bool.and_eq_true] at hao
  have hle : as.length ≤ mlM m := Nat.le_of_ble_eq_true hao.1
  have hc1 : ∀ w ∈ as, w.category = 1 := fun w hw => Nat.eq_of_beq_eq_true (List.all_eq_true.mp hao.2 w hw)
  refine Met.ofW (cc := bM m) (maxL := mlM m) (ret := rtM m) hOK.2.2.2.1 rfl ?_
  intro p e s mid args below meth c s₁ B hml hv
  obtain ⟨rfl, hWd, hNw⟩ := hv
  have hts0 := atoms_spec (ws := wsM m) B.pre
  have hts : ∀ w ∈ TBL, w.before (as.map (cvV base)).toArray s = true := by
    intro w hw
    obtain ⟨h1, h2⟩ := List.mem_filter.mp hw
    cases hg : goodWord w with
    | true => exact hts0 w (List.mem_cons_of_mem _ (List.mem_filter.mpr ⟨h1, hg⟩))
    | false =>
      rw [hg] at h2
      exact isX_any h2 (hNw w h1 h2)
  have hC : Cx p (headSpec (wsM m) (rmK k (h'.1 - h.1) (h'.2.1 - h.2.1))).room s mid (as.map (cvV base)).toArray meth c dC dI cy base Od m k (h'.1 - h.1) (h'.2.1 - h.2.1) :=
    ⟨B.exec, B.bytes, B.returns, hml, findClass_of_methodNamed B.named, hts, B.notSynchronized, (name_of_methodNamed B.named B.method).1, hWd.2.1, hOd, by rw [hWd.1.1]; exact Nat.le_add_right _ _, rfl, rfl, rfl, rfl⟩
  have hl := lv_entry (as.map (cvV base)) (n := mlM m) (by rw [sl_len base as hc1]; exact hle)
  rw [lg_entry_eq]
  refine hw k m r h' p e _ s mid _ below meth c _ _ hC 0 (ent m as) [] h s.heap [] 0 0 _ hrun ⟨hWd.1, hWd.2.2, va_S.rf, ⟨?_, hl.2.1, fun i v hi => ?_⟩, padL_len _ _, by omega, by omega⟩
  · rw [hl.1]; exact (padL_len _ _).symm
  · have h1 := padL_get _ _ _ _ hi
    refine ⟨hc1 v (List.mem_of_getElem? h1), ?_⟩
    have := hl.2.2 _ (args_get base as 0 i v hc1 h1)
    simpa using this
set_option maxHeartbeats 2000000 in
theorem walk (hOd : OdOk base Od) (hprm : ∀ (k a : Nat) (as : List Value) (h : Hp) (r : Option Value) (h' : Hp), isP a = true → asOk a as = true → prm a as h = some (r, h') → Ctr l dC dI cy base Od k a as h r h') : ∀ n, WalkAt l dC dI cy base Od n := by
  intro n
  induction n with
  | zero => intro k m rF hF p e R s mid args below meth c MC MS hC pc L S h H locs cells slots ls hst hS; cases hst
  | succ n ih =>
    intro k m rF hF p e R s mid args below meth c MC MS hC pc L S h H locs cells slots ls hst hS
    replace hst : run (n + 1) k m pc L S h = some (rF, hF) := hst
    rw [run] at hst
    cases hc : cd m pc with
    | none => rw [hc] at hst; cases hst
    | some ai =>
      rw [hc] at hst
      have hok := okCd m pc ai hc
      have hgo := ih k m rF hF p e R s mid args below meth c MC MS hC
      have hgr : ∀ pc L S h x, (fun pc L S h => run n k m pc L S h) pc L S h = some x → h.1 ≤ x.2.1 ∧ h.2.1 ≤ x.2.2.1 := fun pc L S h x hx => run_grow _ _ _ _ _ _ _ _ hx
      have hct : ∀ (k1 a : Nat) (as : List Value) (h1 : Hp) (r1 : Option Value) (h2 : Hp), k = k1 + 1 → a < NM → asOk a as = true → cond (isP a) (prm a as h1) ((fun k' a as h' => run n k' a 0 (ent a as) [] h') k1 a as h1) = some (r1, h2) → Ctr l dC dI cy base Od k1 a as h1 r1 h2 ∧ h1.1 ≤ h2.1 ∧ h1.2.1 ≤ h2.2.1 := by
        intro k1 a as h1 r1 h2 _ ha hao hq
        cases hp : isP a with
        | true =>
          rw [hp] at hq
          refine ⟨hprm k1 a as h1 r1 h2 hp hao hq, ?_⟩
          rw [prm_heap hq]
          exact ⟨Nat.le_refl _, Nat.le_refl _⟩
        | false =>
          rw [hp] at hq
          exact ⟨ctr_of ih hOd ha hao hq, run_grow _ _ _ _ _ _ _ _ hq⟩
      obtain ⟨g, s0, np, a, b, cc, d, e0, x, sw, fl⟩ := ai
      unfold stp at hst
      dsimp only at hst
      split at hst
      · exact sd0 hC hgo hok hst hS
      · exact sd1 hC hgo hok hst hS
      · exact sd2 hC hgo hok hst hS
      · exact sd3 hC hgo hgr hok hst hS
      · exact sd4 hC hgo hok hst hS
      · exact sd5 hC hgo hok hst hS
      · exact sd6 hC hgo hok hst hS
      · exact sd7 hC hgo hok hst hS
      · exact sd8 hC hgo hgr hok hst hS
      · exact sd9 hC hgo hct hgr hok hst hS
      · cases hst
end Sound
