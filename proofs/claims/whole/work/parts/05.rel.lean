/-! One instruction, read in two ways that are related. -/
section Rel
variable {β γ : Type} (rel : β → γ → Prop)
theorem lk_rel (L : List (Option Value)) : ∀ (i : Nat) (k : Value → β) (f : β) (k' : Value → γ) (f' : γ), (∀ v, rel (k v) (k' v)) → rel f f' → rel (lk L i k f) (lk L i k' f') := by
  induction L with
  | nil => intro i k f k' f' _ hf; cases i <;> exact hf
  | cons a r ih =>
    intro i k f k' f' hk hf
    cases i with
    | zero => cases a with
      | none => exact hf
      | some v => exact hk v
    | succ i => exact ih i k f k' f' hk hf
theorem stL_rel (L : List (Option Value)) : ∀ (i : Nat) (v : Value) (k : List (Option Value) → β) (f : β) (k' : List (Option Value) → γ) (f' : γ), (∀ L', rel (k L') (k' L')) → rel f f' → rel (stL L i v k f) (stL L i v k' f') := by
  induction L with
  | nil => intro i v k f k' f' _ hf; cases i <;> exact hf
  | cons a r ih =>
    intro i v k f k' f' hk hf
    cases i with
    | zero => exact hk _
    | succ i => exact ih i v _ f _ f' (fun r' => hk _) hf
variable (chk : (c : Prop) → Decidable c → β → β) (br : (c : Prop) → Decidable c → β → β → β) (bnd : Value → (Value → β) → β) (go : Nat → List (Option Value) → List Value → Hp → β) (call : Nat → List Value → Hp → (Option Value → Hp → β) → β) (ret : Option Value → Hp → β) (fail : β)
variable (chk' : (c : Prop) → Decidable c → γ → γ) (br' : (c : Prop) → Decidable c → γ → γ → γ) (bnd' : Value → (Value → γ) → γ) (go' : Nat → List (Option Value) → List Value → Hp → γ) (call' : Nat → List Value → Hp → (Option Value → Hp → γ) → γ) (ret' : Option Value → Hp → γ) (fail' : γ)
theorem swF_rel (hbr : ∀ (c : Prop) (i : Decidable c) (a b : β) (a' b' : γ), (c → rel a a') → (¬ c → rel b b') → rel (br c i a b) (br' c i a' b')) (v : Int32) (g : Nat → β) (g' : Nat → γ) (hg : ∀ t, rel (g t) (g' t)) (d : Nat) (sw : List (Int32 × Nat)) : rel (swF br v g d sw) (swF br' v g' d sw) := by
  induction sw with
  | nil => exact hg d
  | cons q r ih => exact hbr _ _ _ _ _ _ (fun _ => hg q.2) (fun _ => ih)
set_option maxHeartbeats 4000000 in
theorem stp_rel (kd : Nat) (ai : AI) (L : List (Option Value)) (S : List Value) (h : Hp)
    (hchk : ∀ (c : Prop) (i : Decidable c) (b : β) (b' : γ), (c → rel b b') → rel (chk c i b) (chk' c i b'))
    (hbr : ∀ (c : Prop) (i : Decidable c) (a b : β) (a' b' : γ), (c → rel a a') → (¬ c → rel b b') → rel (br c i a b) (br' c i a' b'))
    (hbnd : ∀ (v : Value) (f : Value → β) (f' : Value → γ), (∀ w, v = w → rel (f w) (f' w)) → rel (bnd v f) (bnd' v f'))
    (hgo : ∀ pc L S h', h.1 ≤ h'.1 → h.2.1 ≤ h'.2.1 → rel (go pc L S h') (go' pc L S h'))
    (hcall : ∀ (a : Nat) (as : List Value) (f : Option Value → Hp → β) (f' : Option Value → Hp → γ), (∀ r h', h.1 ≤ h'.1 → h.2.1 ≤ h'.2.1 → rel (f r h') (f' r h')) → rel (call a as h f) (call' a as h f'))
    (hret : ∀ r, rel (ret r h) (ret' r h)) (hfail : rel fail fail') :
    rel (stp chk br bnd go call ret fail kd ai L S h) (stp chk' br' bnd' go' call' ret' fail' kd ai L S h) := by
  obtain ⟨g, s, np, a, b, c, d, e, x, sw, fl⟩ := ai
  obtain ⟨nx, sl, ln, R, I⟩ := h
  have hgo0 : ∀ pc L S R' I', rel (go pc L S (nx, sl, ln, R', I')) (go' pc L S (nx, sl, ln, R', I')) := fun pc L S R' I' => hgo pc L S _ (Nat.le_refl _) (Nat.le_refl _)
  have hgo1 : ∀ pc L S n m ln' R' I', rel (go pc L S (nx + n, sl + m, ln', R', I')) (go' pc L S (nx + n, sl + m, ln', R', I')) := fun pc L S n m ln' R' I' => hgo pc L S _ (Nat.le_add_right _ _) (Nat.le_add_right _ _)
  unfold stp
  dsimp only
  split
  · unfold stp0
    split <;> first
      | exact hgo0 _ _ _ _ _
      | exact hfail
      | (refine lk_rel rel L _ _ _ _ _ (fun v => ?_) hfail; cases v <;> first | exact hgo0 _ _ _ _ _ | exact hfail)
  · unfold stp1
    split <;> first
      | exact hgo0 _ _ _ _ _
      | exact hfail
      | exact stL_rel rel L _ _ _ _ _ _ (fun _ => hgo0 _ _ _ _ _) hfail
      | (refine lk_rel rel L _ _ _ _ _ (fun v => ?_) hfail; cases v <;> first | exact stL_rel rel L _ _ _ _ _ _ (fun _ => hgo0 _ _ _ _ _) hfail | exact hfail)
  · unfold stp2
    split <;> first
      | exact hgo0 _ _ _ _ _
      | exact hfail
      | exact hchk _ _ _ _ (fun _ => hgo0 _ _ _ _ _)
  · unfold stp3
    split <;> first
      | exact hgo0 _ _ _ _ _
      | exact hfail
      | exact swF_rel rel br br' hbr _ _ _ (fun _ => hgo0 _ _ _ _ _) _ _
      | (cases (Nat.blt 0 kd && Nat.ble _ 8) <;> first | exact hgo0 _ _ _ _ _ | exact hfail)
  · unfold stp4
    split <;> first
      | exact hbr _ _ _ _ _ _ (fun _ => hgo0 _ _ _ _ _) (fun _ => hgo0 _ _ _ _ _)
      | exact hfail
  · unfold stp5
    split <;> first
      | exact hbr _ _ _ _ _ _ (fun _ => hgo0 _ _ _ _ _) (fun _ => hgo0 _ _ _ _ _)
      | exact hfail
  · unfold stp6
    dsimp only
    split <;> first
      | exact hchk _ _ _ _ (fun _ => hgo0 _ _ _ _ _)
      | exact hchk _ _ _ _ (fun _ => hbnd _ _ _ (fun _ _ => hgo0 _ _ _ _ _))
      | exact hfail
  · unfold stp7
    dsimp only
    split <;> first
      | exact hchk _ _ _ _ (fun _ => hgo0 _ _ _ _ _)
      | exact hchk _ _ _ _ (fun _ => hbnd _ _ _ (fun _ _ => hgo0 _ _ _ _ _))
      | exact hfail
  · unfold stp8
    dsimp only
    split <;> first
      | exact hchk _ _ _ _ (fun _ => hgo0 _ _ _ _ _)
      | exact hchk _ _ _ _ (fun _ => hgo1 _ _ _ _ _ _ _ _)
      | exact hret _
      | exact hchk _ _ _ _ (fun _ => hret _)
      | exact hfail
      | (cases (Nat.blt 0 kd && Nat.ble _ 8) <;> first | exact hfail | exact hchk _ _ _ _ (fun _ => hgo0 _ _ _ _ _))
  · unfold stp9
    split
    · cases (Nat.ble b S.length && okS (S.drop b) && asOk a (S.take b).reverse)
      · exact hfail
      · exact hcall _ _ _ _ (fun r h' h1 h2 => hgo _ _ _ _ h1 h2)
    · cases (Nat.ble b S.length && okS (S.drop b) && asOk a (S.take b).reverse)
      · exact hfail
      · exact hcall _ _ _ _ (fun r h' h1 h2 => hgo _ _ _ _ h1 h2)
    · split
      · rename_i o rest _
        cases (okS rest && asOk a (.ref o :: (S.take b).reverse))
        · exact hfail
        · exact hchk _ _ _ _ (fun _ => hcall _ _ _ _ (fun r h' h1 h2 => hgo _ _ _ _ h1 h2))
      · exact hfail
    · split
      · rename_i o rest _
        cases (okS rest && asOk a (.ref o :: (S.take b).reverse))
        · exact hfail
        · exact hcall _ _ _ _ (fun r h' h1 h2 => hgo _ _ _ _ h1 h2)
      · exact hfail
    · split
      · rename_i o rest _
        cases (okS rest && asOk a (.ref o :: (S.take b).reverse))
        · exact hfail
        · exact hcall _ _ _ _ (fun r h' h1 h2 => hgo _ _ _ _ h1 h2)
      · exact hfail
    · split
      · cases (Nat.blt 0 kd && Nat.ble _ 8)
        · exact hfail
        · exact hgo0 _ _ _ _ _
      · exact hfail
    · exact hfail
  · exact hfail
end Rel
