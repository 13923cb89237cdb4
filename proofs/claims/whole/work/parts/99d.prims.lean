/-! The three contracts that the walk asks for; and the walk itself. -/
theorem qf_J {dC : Nat → ClassId} {dI : Nat → Nat → Nat} {cy : Nat → ClassId} {base : Nat} {Od : State → Heap → Prop} {l : Launch} {k m : Nat} {as : List Value} {v : Int32} {h : Hp} (hc : CtrJ dC dI cy base Od l (k + 8) (yM m) (bM m) (mlM m) (rtM m) (as.map (cvV base)) (some (.int v)) h) : Ctr l dC dI cy base Od k m as h (some (.int v)) h := by
  unfold Ctr
  rw [Nat.sub_self, Nat.sub_self]
  exact hc
theorem prims {l : Launch} {dC : Nat → ClassId} {dI : Nat → Nat → Nat} {cy : Nat → ClassId} {base ta : Nat} {ad av : Nat → Nat} {Od : State → Heap → Prop} (hj : ∀ U H, Od U H → OJ base ad av ta U H) (hOd : OdOk base Od) (k a : Nat) (as : List Value) (h : Hp) (r : Option Value) (h' : Hp) (_ : isP a = true) (_ : asOk a as = true) (hp : prm a as h = some (r, h')) : Ctr l dC dI cy base Od k a as h r h' := by
  unfold prm at hp
  split at hp
  · rename_i hm
    subst hm
    split at hp
    · rename_i o w
      split at hp
      · rename_i hq
        cases hp
        exact qf_J (j_isOf (n := k + 8) hj hOd hq.1 hq.2)
      · cases hp
    · cases hp
  · split at hp
    · rename_i hm
      subst hm
      split at hp
      · split at hp
        · rename_i o tp htp
          split at hp
          · rename_i hq
            cases hp
            exact qf_J (j_keyRead (n := k + 3) hj hOd hq.1 hq.2.1 htp hq.2.2.1 hq.2.2.2.1 hq.2.2.2.2)
          · cases hp
        · cases hp
      · cases hp
    · split at hp
      · rename_i hm
        subst hm
        split at hp
        · split at hp
          · rename_i o tp htp
            split at hp
            · rename_i hq
              cases hp
              exact qf_J (j_isName (n := k + 4) hj hOd hq.1 hq.2.1 htp hq.2.2.1 hq.2.2.2.1 hq.2.2.2.2)
            · cases hp
          · cases hp
        · cases hp
      · cases hp
/-- a call that ends on the abstract machine has a contract -/
theorem ctr_go {l : Launch} {dC : Nat → ClassId} {dI : Nat → Nat → Nat} {cy : Nat → ClassId} {base ta : Nat} {ad av : Nat → Nat} {Od : State → Heap → Prop} (hj : ∀ U H, Od U H → OJ base ad av ta U H) (hOd : OdOk base Od) {k m : Nat} {as : List Value} {h : Hp} {Q : Option Value → Hp → Prop} (hm : m < NM) (hao : asOk m as = true) (hg : Go k m as h Q) : ∃ r h', Ctr l dC dI cy base Od k m as h r h' ∧ Q r h' ∧ h.1 ≤ h'.1 ∧ h.2.1 ≤ h'.2.1 := by
  obtain ⟨n, r, h', hr, hQ⟩ := hg
  cases hp : isP m with
  | true =>
    rw [hp] at hr
    have e := prm_heap hr
    subst e
    exact ⟨r, h', prims hj hOd k m as h' r h' hp hao hr, hQ, Nat.le_refl _, Nat.le_refl _⟩
  | false =>
    rw [hp] at hr
    obtain ⟨g1, g2⟩ := run_grow _ _ _ _ _ _ _ _ hr
    exact ⟨r, h', ctr_of (walk hOd (prims hj hOd) n) hOd hm hao hr, hQ, g1, g2⟩
