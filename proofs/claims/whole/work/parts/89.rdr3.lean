/-! The component's reader, level by level. -/
theorem wp_ineg {n k m pc np a b c d e : Nat} {x0 x : Int32} {sw : List (Int32 × Nat)} {L : List (Option Value)} {S : List Value} {h : Hp} {Q : Option Value → Hp → Prop} (hc : cd m pc = some (2, 7, np, a, b, c, d, e, x0, sw, false)) (hw : wp n k m np L (.int (-x) :: S) h Q) : wp (n + 1) k m pc L (.int x :: S) h Q := by
  rw [wp, hc]
  exact hw
theorem c_num {nx sl : Nat} {ln : Nat → Nat} {R : Nat → Nat → Option Nat} {I : Nat → Nat → Int32} {Q : Option Value → Hp → Prop} {k : Nat} (hW : SW nx ln R) {B : Nat → Nat} {L s e : Nat} (hB : TB I B L) (h7 : I 51 7 = nI s) (h6 : I 51 6 = nI e) (hse : s ≤ e) (he : e ≤ L) (hd : ∀ j, s ≤ j → j < e → isD (B j) = true) (hQ : Q (some (.int (nI (nv B s (e - s))))) (nx, sl, ln, R, I)) : Go (k + 1) mX2_numberRead [.ref 51] (nx, sl, ln, R, I) Q := by
  refine Go_wp 20 rfl ?_
  refine And.intro (sw_k hW (Nat.le_of_ble_eq_true rfl) rfl) ?_
  rw [h7]
  exact l_num hW hB h6 he hd (e - s) s 0 _ (by rw [Nat.sub_self]; rfl) rfl (Nat.le_refl _) (by omega) hQ
theorem od_lt {B : Nat → Nat} {L key : Nat} (hL : L ≤ 96) : ∀ i c, odK B L key i = some c → i < 96 := fun i c h => by
  refine tk_lt (B := B) hL (fun e => ?_)
  unfold odK odT at h
  rw [if_neg (by omega), if_neg (by omega)] at h
  cases h
theorem sb_lt {B : Nat → Nat} {L x : Nat} (hL : L ≤ 96) (hx : ¬ x = 0) : ∀ i, sbK B L i = x → i < 96 := fun i h => by
  refine tk_lt (B := B) hL (fun e => ?_)
  unfold sbK sbT at h
  rw [if_neg (by omega)] at h
  omega
theorem CS.pie {B : Nat → Nat} {L key : Nat} {I : Nat → Nat → Int32} {σ : Sg} (h : CS B L key I σ) : CS B L key (up2 I 51 4 (nI (σ.2.2 + 1))) (σ.1, σ.2.1, σ.2.2 + 1) := by
  obtain ⟨c1, c2, c3, c4, c5, c6, c7, c8, c9⟩ := h
  refine ⟨⟨c1.1, fun i hi => by rw [up2_ne (by decide)]; exact c1.2 i hi⟩, ?_, ?_, ?_, ?_, ?_, ?_, ?_, fun j hj => ?_⟩
  · rw [up2_eq, up1_ne (by decide)]; exact c2
  · rw [up2_eq, up1_ne (by decide)]; exact c3
  · rw [up2_eq, up1_ne (by decide)]; exact c4
  · rw [up2_eq, up1_ne (by decide)]; exact c5
  · rw [up2_eq, up1_ne (by decide)]; exact c6
  · rw [up2_eq, up1_ne (by decide)]; exact c7
  · rw [up2_eq, up1_eq]
  · rw [up2_ne (by decide)]; exact c9 j hj
def b01 (b : Bool) : Int32 := if b = true then 1 else 0
theorem b01_ok (b : Bool) : b01 b = 0 ∨ b01 b = 1 := by cases b; exact Or.inl rfl; exact Or.inr rfl
theorem c_rd {nx sl : Nat} {ln : Nat → Nat} {R : Nat → Nat → Option Nat} {k : Nat} (hW : SW nx ln R) {B : Nat → Nat} {L key : Nat} (hk : key ≤ 2) : ∀ (n : Nat),
    (∀ (m o t : Nat) (xm xo xt : Int32) (σ : Sg) (I : Nat → Nat → Int32) (Q : Option Value → Hp → Prop), xm = nI m → xo = nI o → xt = nI t → m ≤ 5 → o ≤ 8 → t ≤ 8 → ndF m o t ≤ n → CS B L key I σ → σ.2.1.length < σ.1 → (∀ I2, FC I I2 → CS B L key I2 (rd (odK B L key) (sbK B L) n m o t σ).2 → Q (some (.int (b01 (rd (odK B L key) (sbK B L) n m o t σ).1))) (nx, sl, ln, R, I2)) → Go (k + n + 4) mX2_readsLevel [.ref 51, .int xm, .int xo, .int xt] (nx, sl, ln, R, I) Q) ∧
    (∀ (o t : Nat) (xo xt : Int32) (σ : Sg) (I : Nat → Nat → Int32) (Q : Option Value → Hp → Prop), xo = nI o → xt = nI t → o ≤ 8 → t ≤ 8 → ndF 6 o t ≤ n → CS B L key I σ → σ.2.1.length < σ.1 → (∀ I2, FC I I2 → CS B L key I2 (rd (odK B L key) (sbK B L) n 6 o t σ).2 → Q (some (.int (b01 (rd (odK B L key) (sbK B L) n 6 o t σ).1))) (nx, sl, ln, R, I2)) → Go (k + n + 4) mX2_readsPiece [.ref 51, .int xo, .int xt] (nx, sl, ln, R, I) Q) := by
  intro n
  induction n with
  | zero =>
    refine ⟨?_, ?_⟩
    · intro m o t xm xo xt σ I Q _ _ _ h1 h2 h3 hn
      unfold ndF at hn; omega
    · intro o t xo xt σ I Q _ _ h2 h3 hn
      unfold ndF at hn; omega
  | succ n ih =>
    obtain ⟨ihL, ihP⟩ := ih
    have wf : ∀ m o t σ, (rd (odK B L key) (sbK B L) n m o t σ).1 = true → WF (cOk key) σ (rd (odK B L key) (sbK B L) n m o t σ).2 := rd_wf (opc_cOk key) (Or.inr (Or.inr ⟨by decide, by decide⟩)) (od_ok hk) n
    refine ⟨?_, ?_⟩
    · intro m o t xm xo xt σ I Q hm ho ht hm5 ho8 ht8 hn hC hlen hQ
      subst hm
      subst ho
      subst ht
      have hL9 := hC.1.1
      have hB : ∀ j, j < L → B j < 256 := fun j hj => (hC.1.2 j hj).1
      unfold ndF at hn
      by_cases h5 : m < 5
      · have hrd : rd (odK B L key) (sbK B L) (n + 1) m o t σ = if (rd (odK B L key) (sbK B L) n (m + 1) o t σ).1 = true then lpF (sbK B L) (fun τ => rd (odK B L key) (sbK B L) n (m + 1) o t τ) m 96 0 (rd (odK B L key) (sbK B L) n (m + 1) o t σ).2 else (false, (rd (odK B L key) (sbK B L) n (m + 1) o t σ).2) := by rw [rd, if_pos h5]
        have lp : ∀ (r c : Nat) (xc : Int32) (x5 : Option Value) (σ : Sg) (I1 : Nat → Nat → Int32), xc = nI c → r + c = 96 → CS B L key I1 σ → σ.2.1.length < σ.1 → (∀ I2, FC I1 I2 → CS B L key I2 (lpF (sbK B L) (fun τ => rd (odK B L key) (sbK B L) n (m + 1) o t τ) m r c σ).2 → Q (some (.int (b01 (lpF (sbK B L) (fun τ => rd (odK B L key) (sbK B L) n (m + 1) o t τ) m r c σ).1))) (nx, sl, ln, R, I2)) → GoF (k + (n + 1) + 4) mX2_readsLevel 29 [some (.ref 51), some (.int (nI m)), some (.int (nI o)), some (.int (nI t)), some (.int xc), x5] [] (nx, sl, ln, R, I1) Q := by
          intro r
          induction r with
          | zero =>
            intro c xc x5 σ I1 hxc hrc hC hlen hQ
            subst hxc
            refine GoF_wp1 60 ?_
            refine And.intro (fun _ => ?_) (fun h => absurd (nI_le (a := 96) (by omega) (by omega)) h)
            exact And.intro (Or.inr rfl) (hQ I1 FC.rf hC)
          | succ r ihr =>
            intro c xc x5 σ I1 hxc hrc hC hlen hQ
            subst hxc
            have hsg := sg_ok (B := B) (L := L) (i := σ.1) hB
            rw [lpF] at hQ
            refine GoF_wp1 60 ?_
            refine And.intro (fun h => absurd h (nI_ge (b := 96) (by omega) (by decide))) (fun _ => ?_)
            refine And.intro (sw_k hW (Nat.le_of_ble_eq_true rfl) rfl) ?_
            rw [hC.2.2.2.1]
            refine c_joins hsg h5 (fun hj => ?_) (fun hj => ?_)
            · rw [if_pos hj] at hQ
              have hop : ¬ opr (sbK B L σ.1) = 0 := by omega
              have hb0 := (op_ne hop).2.2.2
              have hsn : sgF B (tk B L σ.1) = nI (sbK B L σ.1) := by
                rcases hsg with ⟨z, -⟩ | ⟨-, z⟩
                · exact z
                · exact absurd z hb0
              refine And.intro (fun h9 => absurd h9 (by decide)) (fun _ => ?_)
              have rest : ¬ (m = 2 ∧ 0 < c) → ∀ nn, wp (nn + 40) (k + (n + 1) + 4) mX2_readsLevel 59 [some (.ref 51), some (.int (nI m)), some (.int (nI o)), some (.int (nI t)), some (.int (nI c)), x5] [] (nx, sl, ln, R, I1) Q := by
                intro h2 nn
                rw [if_neg h2] at hQ
                refine And.intro (sw_k hW (Nat.le_of_ble_eq_true rfl) rfl) ?_
                rw [hC.2.2.2.1, hsn]
                refine And.intro (sw_k hW (Nat.le_of_ble_eq_true rfl) rfl) ?_
                refine c_adv hW hC (fun I2 hF2 hC2 => ?_)
                refine And.intro (sw_k hW (Nat.le_of_ble_eq_true rfl) rfl) ?_
                refine ihL (m + 1) o t _ _ _ (σ.1 + 1, σ.2) I2 _ (nI_1 m) rfl rfl (by omega) ho8 ht8 (by unfold ndF; omega) hC2 (by dsimp only; omega) (fun I3 hF3 hC3 => ?_)
                by_cases hok : (rd (odK B L key) (sbK B L) n (m + 1) o t (σ.1 + 1, σ.2)).1 = true
                · rw [if_pos hok] at hQ
                  obtain ⟨w1, w2, w3, w4, w5⟩ := wf (m + 1) o t (σ.1 + 1, σ.2) hok
                  have w6 := rd_96 (od_lt hL9) (sb_lt hL9 (by decide)) n (m + 1) o t (σ.1 + 1, σ.2) hok
                  dsimp only at w2
                  rw [hok]
                  refine And.intro (fun _ => ?_) (fun h9 => absurd (by decide) h9)
                  refine And.intro (sw_k hW (Nat.le_of_ble_eq_true rfl) rfl) ?_
                  refine c_put (c := opc (sbK B L σ.1)) hW hC3 (by omega) (eN_op hop).symm (fun I4 hF4 hC4 => ?_)
                  refine ihr (c + 1) _ _ _ I4 (nI_1 c) (by omega) hC4 (by rw [List.length_cons]; dsimp only; omega) (fun I5 hF5 hC5 => ?_)
                  exact hQ I5 (((hF2.tr hF3).tr hF4).tr hF5) hC5
                · rw [if_neg hok] at hQ
                  rw [show b01 (rd (odK B L key) (sbK B L) n (m + 1) o t (σ.1 + 1, σ.2)).1 = 0 from if_neg hok]
                  refine And.intro (fun h9 => absurd rfl h9) (fun _ => ?_)
                  exact And.intro (Or.inl rfl) (hQ I3 (hF2.tr hF3) hC3)
              by_cases hm2 : m = 2
              · refine And.intro (fun h => absurd (by rw [hm2]; rfl) h) (fun _ => ?_)
                by_cases hc0 : c = 0
                · refine And.intro (fun _ => ?_) (fun h => absurd (by rw [hc0]; decide) h)
                  exact rest (fun q => by omega) _
                · refine And.intro (fun h => absurd h (nI_nle (by omega) (by omega))) (fun _ => ?_)
                  rw [if_pos ⟨hm2, by omega⟩] at hQ
                  exact And.intro (Or.inr rfl) (hQ I1 FC.rf hC)
              · refine And.intro (fun _ => ?_) (fun h => absurd (fun q => absurd ((nI_eq (b := 2) (by omega) (by decide)).mp q) hm2) h)
                exact rest (fun q => hm2 q.1) _
            · refine And.intro (fun _ => ?_) (fun h9 => absurd rfl h9)
              rw [if_neg hj] at hQ
              exact And.intro (Or.inr rfl) (hQ I1 FC.rf hC)
        rw [hrd] at hQ
        refine Go_wp 60 rfl ?_
        refine And.intro (fun _ => ?_) (fun h => absurd (nI_lt (b := 5) h5 (by decide)) h)
        refine And.intro (sw_k hW (Nat.le_of_ble_eq_true rfl) rfl) ?_
        refine ihL (m + 1) o t _ _ _ σ I _ (nI_1 m) rfl rfl (by omega) ho8 ht8 (by unfold ndF; omega) hC hlen (fun I2 hF2 hC2 => ?_)
        by_cases hok : (rd (odK B L key) (sbK B L) n (m + 1) o t σ).1 = true
        · rw [if_pos hok] at hQ
          obtain ⟨w1, w2, w3, w4, w5⟩ := wf (m + 1) o t σ hok
          rw [hok]
          refine And.intro (fun _ => ?_) (fun h9 => absurd (by decide) h9)
          refine lp 96 0 0 _ _ I2 rfl (by omega) hC2 (by omega) (fun I3 hF3 hC3 => ?_)
          exact hQ I3 (hF2.tr hF3) hC3
        · rw [if_neg hok] at hQ
          rw [show b01 (rd (odK B L key) (sbK B L) n (m + 1) o t σ).1 = 0 from if_neg hok]
          refine And.intro (fun h9 => absurd rfl h9) (fun _ => ?_)
          exact And.intro (Or.inl rfl) (hQ I2 hF2 hC2)
      · have hm : m = 5 := by omega
        subst hm
        have hrd : rd (odK B L key) (sbK B L) (n + 1) 5 o t σ = rd (odK B L key) (sbK B L) n 6 o t σ := by rw [rd, if_neg (by omega), if_pos rfl]
        rw [hrd] at hQ
        refine Go_wp 60 rfl ?_
        refine And.intro (fun h => absurd h (by decide)) (fun _ => ?_)
        refine And.intro (sw_k hW (Nat.le_of_ble_eq_true rfl) rfl) ?_
        refine ihP o t _ _ σ I _ rfl rfl ho8 ht8 (by unfold ndF; omega) hC hlen (fun I2 hF2 hC2 => ?_)
        exact And.intro (b01_ok _) (hQ I2 hF2 hC2)
    · intro o t xo xt σ I Q ho ht ho8 ht8 hn hC hlen hQ
      subst ho
      subst ht
      have hL9 := hC.1.1
      have hB : ∀ j, j < L → B j < 256 := fun j hj => (hC.1.2 j hj).1
      obtain ⟨i1, i2, i3, i4, i5⟩ := tkn_ok B L σ.1
      obtain ⟨s1, s2, s3⟩ := sg_l (L := L) (i := σ.1) hB
      have hsg := sg_ok (B := B) (L := L) (i := σ.1) hB
      unfold ndF at hn
      have fin : ∀ (c v : Int32) (I0 : Nat → Nat → Int32) (nn : Nat), odK B L key σ.1 = some c → v = eN key c → I0 = I → wp (nn + 20) (k + (n + 1) + 4) mX2_readsPiece 42 [some (.ref 51), some (.int (nI o)), some (.int (nI t))] [.int v, .ref 51] (nx, sl, ln, R, I0) Q := by
        intro c v I0 nn hod hv hI0
        subst hI0
        have h96 := od_lt hL9 σ.1 c hod
        rw [rd, if_neg (by omega), if_neg (by omega), hod] at hQ
        dsimp only at hQ
        refine And.intro (sw_k hW (Nat.le_of_ble_eq_true rfl) rfl) ?_
        refine c_put (c := c) hW hC (by omega) hv (fun I2 hF2 hC2 => ?_)
        refine And.intro (sw_k hW (Nat.le_of_ble_eq_true rfl) rfl) ?_
        rw [hC2.2.2.2.2.2.2.2.1]
        refine And.intro (sw_k hW (Nat.le_of_ble_eq_true rfl) rfl) ?_
        rw [nI_1]
        refine And.intro (sw_k hW (Nat.le_of_ble_eq_true rfl) rfl) ?_
        refine c_adv hW hC2.pie (fun I3 hF3 hC3 => ?_)
        exact And.intro (Or.inr rfl) (hQ I3 (hF2.tr (fun q a b => by rw [hF3 q a b, up2_ne a])) hC3)
      refine Go_wp 80 rfl ?_
      refine And.intro (sw_k hW (Nat.le_of_ble_eq_true rfl) rfl) ?_
      rw [hC.2.2.2.1]
      by_cases e2 : (tk B L σ.1).1 = 2
      · have hod : odK B L key σ.1 = some (nI (nv B (tk B L σ.1).2.1 ((tk B L σ.1).2.2 - (tk B L σ.1).2.1))) := by unfold odK odT; rw [if_pos e2]
        have hx : (tk B L σ.1).2.2 - (tk B L σ.1).2.1 ≤ 4 ∧ ∀ j, (tk B L σ.1).2.1 ≤ j → j < (tk B L σ.1).2.2 → isD (B j) = true := by
          cases hi : σ.1 with
          | zero => rw [hi] at e2; exact lx_2 e2
          | succ i => rw [hi] at e2; exact lx_2 e2
        have hv9 := nv_9 e2
        refine And.intro (fun _ => ?_) (fun h => absurd (s2.mpr e2) h)
        refine And.intro (sw_k hW (Nat.le_of_ble_eq_true rfl) rfl) ?_
        rw [hC.2.2.2.1]
        refine And.intro (fun h => absurd (s2.mpr e2) h) (fun _ => ?_)
        refine And.intro (sw_k hW (Nat.le_of_ble_eq_true rfl) rfl) ?_
        refine c_num hW hC.1 hC.2.2.2.2.1 hC.2.2.2.2.2.1 i1 i2 hx.2 ?_
        refine wp_goto rfl ?_
        refine fin _ _ I _ hod ?_ rfl
        unfold eN
        rw [if_pos (nI_pos' (by omega)), if_pos (show nI (nv B (tk B L σ.1).2.1 ((tk B L σ.1).2.2 - (tk B L σ.1).2.1)) < 10000 from nI_lt (b := 10000) hv9 (by decide))]
      · refine And.intro (fun h => absurd (s2.mp h) e2) (fun _ => ?_)
        obtain ⟨n1, n0⟩ := nm_at hC hk e2
        refine And.intro (sw_k hW (Nat.le_of_ble_eq_true rfl) rfl) ?_
        refine c_isName hW ?_
        cases hod : odK B L key σ.1 with
        | some c =>
          obtain ⟨a1, a2, a3⟩ := n1 c hod
          have hs := i5 (by omega)
          rw [a1]
          refine And.intro (fun h9 => absurd h9 (by decide)) (fun _ => ?_)
          refine And.intro (sw_k hW (Nat.le_of_ble_eq_true rfl) rfl) ?_
          rw [hC.2.2.2.1]
          refine And.intro (fun _ => ?_) (fun h => absurd (fun q => absurd (s2.mp q) e2) h)
          refine And.intro (sw_k hW (Nat.le_of_ble_eq_true rfl) rfl) ?_
          rw [hC.2.2.2.2.1]
          refine And.intro (sw_k hW (Nat.le_of_ble_eq_true rfl) rfl) ?_
          refine c_byteAt hW hC.1 (by omega) ?_
          refine wp_ineg rfl ?_
          exact fin c _ I _ hod a3 rfl
        | none =>
          have hrd : rd (odK B L key) (sbK B L) (n + 1) 6 o t σ = if sbK B L σ.1 = 33 ∧ t < 8 then (if (rd (odK B L key) (sbK B L) n 6 o (t + 1) (σ.1 + 1, σ.2)).1 = true then (true, ((rd (odK B L key) (sbK B L) n 6 o (t + 1) (σ.1 + 1, σ.2)).2.1, -10 :: (rd (odK B L key) (sbK B L) n 6 o (t + 1) (σ.1 + 1, σ.2)).2.2.1, (rd (odK B L key) (sbK B L) n 6 o (t + 1) (σ.1 + 1, σ.2)).2.2.2)) else (false, (rd (odK B L key) (sbK B L) n 6 o (t + 1) (σ.1 + 1, σ.2)).2))
            else if sbK B L σ.1 = 40 ∧ o < 8 then (if (rd (odK B L key) (sbK B L) n 0 (o + 1) t (σ.1 + 1, σ.2)).1 = true ∧ sbK B L (rd (odK B L key) (sbK B L) n 0 (o + 1) t (σ.1 + 1, σ.2)).2.1 = 41 then (true, ((rd (odK B L key) (sbK B L) n 0 (o + 1) t (σ.1 + 1, σ.2)).2.1 + 1, (rd (odK B L key) (sbK B L) n 0 (o + 1) t (σ.1 + 1, σ.2)).2.2)) else (false, (rd (odK B L key) (sbK B L) n 0 (o + 1) t (σ.1 + 1, σ.2)).2))
            else (false, σ) := by rw [rd, if_neg (by omega), if_neg (by omega), hod]
          rw [hrd] at hQ
          have e33 : sgF B (tk B L σ.1) = 33 ↔ sbK B L σ.1 = 33 := hsg.eq (x := 33) (by decide) (by decide)
          have e40 : sgF B (tk B L σ.1) = 40 ↔ sbK B L σ.1 = 40 := hsg.eq (x := 40) (by decide) (by decide)
          rw [n0 hod]
          refine And.intro (fun _ => ?_) (fun h9 => absurd rfl h9)
          refine And.intro (sw_k hW (Nat.le_of_ble_eq_true rfl) rfl) ?_
          rw [hC.2.2.2.1]
          by_cases h33 : sbK B L σ.1 = 33
          · refine And.intro (fun h => absurd (e33.mpr h33) h) (fun _ => ?_)
            by_cases ht : t < 8
            · rw [if_pos ⟨h33, ht⟩] at hQ
              refine And.intro (fun h => absurd h (nI_ge (b := 8) ht (by decide))) (fun _ => ?_)
              refine And.intro (sw_k hW (Nat.le_of_ble_eq_true rfl) rfl) ?_
              refine c_adv hW hC (fun I2 hF2 hC2 => ?_)
              refine And.intro (sw_k hW (Nat.le_of_ble_eq_true rfl) rfl) ?_
              refine ihP o (t + 1) _ _ (σ.1 + 1, σ.2) I2 _ rfl (nI_1 t) ho8 (by omega) (by unfold ndF; omega) hC2 (by dsimp only; omega) (fun I3 hF3 hC3 => ?_)
              by_cases hok : (rd (odK B L key) (sbK B L) n 6 o (t + 1) (σ.1 + 1, σ.2)).1 = true
              · rw [if_pos hok] at hQ
                obtain ⟨w1, w2, w3, w4, w5⟩ := wf 6 o (t + 1) (σ.1 + 1, σ.2) hok
                have w6 := rd_96 (od_lt hL9) (sb_lt hL9 (by decide)) n 6 o (t + 1) (σ.1 + 1, σ.2) hok
                dsimp only at w2
                rw [hok]
                refine And.intro (fun _ => ?_) (fun h9 => absurd (by decide) h9)
                refine And.intro (sw_k hW (Nat.le_of_ble_eq_true rfl) rfl) ?_
                refine c_put (c := -10) hW hC3 (by omega) (show (-33 : Int32) = eN key (-10) from rfl) (fun I4 hF4 hC4 => ?_)
                exact And.intro (Or.inr rfl) (hQ I4 ((hF2.tr hF3).tr hF4) hC4)
              · rw [if_neg hok] at hQ
                rw [show b01 (rd (odK B L key) (sbK B L) n 6 o (t + 1) (σ.1 + 1, σ.2)).1 = 0 from if_neg hok]
                refine And.intro (fun h9 => absurd rfl h9) (fun _ => ?_)
                exact And.intro (Or.inl rfl) (hQ I3 (hF2.tr hF3) hC3)
            · rw [if_neg (fun q => ht q.2), if_neg (fun q => by omega)] at hQ
              refine And.intro (fun _ => ?_) (fun h => absurd (nI_le (a := 8) (by omega) (by omega)) h)
              refine And.intro (sw_k hW (Nat.le_of_ble_eq_true rfl) rfl) ?_
              rw [hC.2.2.2.1]
              refine And.intro (fun _ => ?_) (fun h => absurd (fun q => by have := e40.mp q; omega) h)
              exact And.intro (Or.inl rfl) (hQ I FC.rf hC)
          · rw [if_neg (fun q => h33 q.1)] at hQ
            refine And.intro (fun _ => ?_) (fun h => absurd (fun q => h33 (e33.mp q)) h)
            refine And.intro (sw_k hW (Nat.le_of_ble_eq_true rfl) rfl) ?_
            rw [hC.2.2.2.1]
            by_cases h40 : sbK B L σ.1 = 40
            · refine And.intro (fun h => absurd (e40.mpr h40) h) (fun _ => ?_)
              by_cases ho : o < 8
              · rw [if_pos ⟨h40, ho⟩] at hQ
                refine And.intro (fun h => absurd h (nI_ge (b := 8) ho (by decide))) (fun _ => ?_)
                refine And.intro (sw_k hW (Nat.le_of_ble_eq_true rfl) rfl) ?_
                refine c_adv hW hC (fun I2 hF2 hC2 => ?_)
                refine And.intro (sw_k hW (Nat.le_of_ble_eq_true rfl) rfl) ?_
                refine ihL 0 (o + 1) t _ _ _ (σ.1 + 1, σ.2) I2 _ rfl (nI_1 o) rfl (by omega) (by omega) ht8 (by unfold ndF; omega) hC2 (by dsimp only; omega) (fun I3 hF3 hC3 => ?_)
                obtain ⟨τ, hτ⟩ : ∃ τ, (rd (odK B L key) (sbK B L) n 0 (o + 1) t (σ.1 + 1, σ.2)).2 = τ := ⟨_, rfl⟩
                rw [hτ] at hQ hC3
                have f41 : sgF B (tk B L τ.1) = 41 ↔ sbK B L τ.1 = 41 := (sg_ok (B := B) (L := L) (i := τ.1) hB).eq (x := 41) (by decide) (by decide)
                by_cases hok : (rd (odK B L key) (sbK B L) n 0 (o + 1) t (σ.1 + 1, σ.2)).1 = true
                · rw [hok]
                  refine And.intro (fun h9 => absurd h9 (by decide)) (fun _ => ?_)
                  refine And.intro (sw_k hW (Nat.le_of_ble_eq_true rfl) rfl) ?_
                  rw [hC3.2.2.2.1]
                  by_cases h41 : sbK B L τ.1 = 41
                  · rw [if_pos ⟨hok, h41⟩] at hQ
                    refine And.intro (fun _ => ?_) (fun h => absurd (f41.mpr h41) h)
                    refine And.intro (sw_k hW (Nat.le_of_ble_eq_true rfl) rfl) ?_
                    refine c_adv hW hC3 (fun I4 hF4 hC4 => ?_)
                    exact And.intro (Or.inr rfl) (hQ I4 ((hF2.tr hF3).tr hF4) hC4)
                  · rw [if_neg (fun q => h41 q.2)] at hQ
                    refine And.intro (fun h => absurd (f41.mp h) h41) (fun _ => ?_)
                    exact And.intro (Or.inl rfl) (hQ I3 (hF2.tr hF3) hC3)
                · rw [if_neg (fun q => hok q.1)] at hQ
                  rw [show b01 (rd (odK B L key) (sbK B L) n 0 (o + 1) t (σ.1 + 1, σ.2)).1 = 0 from if_neg hok]
                  refine And.intro (fun _ => ?_) (fun h9 => absurd rfl h9)
                  exact And.intro (Or.inl rfl) (hQ I3 (hF2.tr hF3) hC3)
              · rw [if_neg (fun q => ho q.2)] at hQ
                refine And.intro (fun _ => ?_) (fun h => absurd (nI_le (a := 8) (by omega) (by omega)) h)
                exact And.intro (Or.inl rfl) (hQ I FC.rf hC)
            · rw [if_neg (fun q => h40 q.1)] at hQ
              refine And.intro (fun _ => ?_) (fun h => absurd (fun q => h40 (e40.mp q)) h)
              exact And.intro (Or.inl rfl) (hQ I FC.rf hC)
