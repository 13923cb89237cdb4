/-! Public methods: text, both sides. -/
def FQ (I I' : Nat → Nat → Int32) : Prop := (∀ o, ¬ o = 85 → ¬ o = 95 → ¬ o = 96 → ¬ o = 97 → I' o = I o) ∧ (∀ q, (q < 9 ∨ (15 < q ∧ ¬ q = 19 ∧ ¬ q = 20 ∧ ¬ q = 22)) → I' 85 q = I 85 q) ∧ I' 85 9 = 0
theorem s_textP {nx sl : Nat} {ln : Nat → Nat} {R : Nat → Nat → Option Nat} {I : Nat → Nat → Int32} {Q : Option Value → Hp → Prop} {k : Nat} (hW : SW nx ln R) {B : Nat → Nat} {L m : Nat} (hM : MT I B L) (hSC : SC I) (hm : m ≤ 14) (h7 : I 86 7 = nI m)
    (q3 : kyF B (tk B L 0) = 3 → ∀ J, FQ I J → Q (some (.int (-100 - nI (tk B L 0).2.1))) (nx, sl, ln, R, J))
    (qF : ∀ key, key ≤ 2 → kyF B (tk B L 0) = key → okT B L key = false → ∀ J, FQ I J → Q (some (.int (-100 - nI (tk B L (rdT B L key).2.1).2.1))) (nx, sl, ln, R, J))
    (qS : ∀ key, key ≤ 2 → kyF B (tk B L 0) = key → okT B L key = true → (rdT B L key).2.2.1.length ≤ 96 → ∀ J, FQ I J → (m = 14 → Q (some (.int (-1000000003))) (nx, sl, ln, R, J)) ∧ (m < 14 → Q (some (.int (nI m))) (nx, sl, ln, R, nw J (txF (I 86) (fun q => (rdT B L key).2.2.1.getD ((rdT B L key).2.2.1.length - 1 - q) 0) m key (rdT B L key).2.2.1.length (rdT B L key).2.2.2)))) : Go (k + 10) mX8_text [.ref 85] (nx, sl, ln, R, I) Q := by
  have hL9 := hM.1
  refine Go_wp 90 rfl ?_
  refine And.intro (sw_k hW (Nat.le_of_ble_eq_true rfl) rfl) ?_
  refine And.intro (sw_k hW (Nat.le_of_ble_eq_true rfl) rfl) ?_
  obtain ⟨I1, hI1⟩ : ∃ I1, up2 (up2 I 85 10 0) 85 14 (-1) = I1 := ⟨_, rfl⟩
  rw [hI1]
  have e1 : ∀ o, ¬ o = 85 → I1 o = I o := fun o h => by rw [← hI1, up2_ne h, up2_ne h]
  have e85 : ∀ q, ¬ q = 10 → ¬ q = 14 → I1 85 q = I 85 q := fun q a b => by rw [← hI1, up2_eq, up1_ne b, up2_eq, up1_ne a]
  refine And.intro (sw_k hW (Nat.le_of_ble_eq_true rfl) rfl) ?_
  refine s_go (p := 0) (w := false) hW (hM.keep2 (e85 9 (by decide) (by decide)) (e1 92 (by decide))) (by rw [← hI1, up2_eq, up1_ne (by decide), up2_eq, up1_eq]; rfl) (Nat.zero_le _) (fun q => (by cases q)) (fun _ => by rw [← hI1, up2_eq, up1_eq]; decide) (fun I2 hF2 hM2 => ?_)
  have hMT2 : MT I2 B L := (hM.keep2 (e85 9 (by decide) (by decide)) (e1 92 (by decide))).keep hF2
  have f2 : ∀ o, ¬ o = 85 → I2 o = I o := fun o h => by rw [hF2.1 o h, e1 o h]
  have f85 : ∀ q, (q < 10 ∨ 14 < q) → I2 85 q = I 85 q := fun q h => by rw [hF2.2 q h, e85 q (by omega) (by omega)]
  refine And.intro (sw_k hW (Nat.le_of_ble_eq_true rfl) rfl) ?_
  refine s_key hW hMT2 hM2 (hSC.keep (f2 93 (by decide)) (f2 94 (by decide))) (fun hk3 => ?_) (fun key hk hkey I3 g3 g85 g15 hMT3 hM3 => ?_)
  · refine And.intro (fun _ => ?_) (fun h9 => absurd rfl h9)
    refine And.intro (sw_k hW (Nat.le_of_ble_eq_true rfl) rfl) ?_
    refine And.intro (fun h9 => absurd rfl h9) (fun _ => ?_)
    refine And.intro (sw_k hW (Nat.le_of_ble_eq_true rfl) rfl) ?_
    rw [show up2 I2 85 9 0 85 11 = nI (tk B L 0).2.1 by rw [up2_eq, up1_ne (by decide)]; exact hM2.2.1]
    refine q3 hk3 _ ⟨fun o a b c d => by rw [up2_ne a]; exact f2 o a, fun q hq => by rw [up2_eq, up1_ne (by omega)]; exact f85 q (by omega), by rw [up2_eq, up1_eq]⟩
  · refine And.intro (fun h9 => absurd h9 (by decide)) (fun _ => ?_)
    refine And.intro (sw_k hW (Nat.le_of_ble_eq_true rfl) rfl) ?_
    refine s_takesE hW hk hMT3 hM3 g15 (fun I4 hF4 hTE => ?_)
    have t2 : ∀ o, ¬ o = 85 → ¬ o = 95 → ¬ o = 96 → ¬ o = 97 → I4 o = I o := fun o a b c d => by rw [hF4.1 o a b c d, g3 o a, f2 o a]
    have t85 : ∀ q, (q < 10 ∨ (15 < q ∧ ¬ q = 19 ∧ ¬ q = 20 ∧ ¬ q = 22)) → I4 85 q = I 85 q := fun q h => by rw [hF4.2 q h, g85 q (by omega), f85 q (by omega)]
    have hFQ : FQ I (up2 I4 85 9 0) := ⟨fun o a b c d => by rw [up2_ne a]; exact t2 o a b c d, fun q hq => by rw [up2_eq, up1_ne (by omega)]; exact t85 q (by omega), by rw [up2_eq, up1_eq]⟩
    obtain ⟨u1, u2, u3⟩ := hTE
    cases hok : okT B L key with
    | false =>
      refine And.intro (fun _ => ?_) (fun h9 => absurd rfl h9)
      refine And.intro (sw_k hW (Nat.le_of_ble_eq_true rfl) rfl) ?_
      refine And.intro (fun h9 => absurd rfl h9) (fun _ => ?_)
      refine And.intro (sw_k hW (Nat.le_of_ble_eq_true rfl) rfl) ?_
      rw [show up2 I4 85 9 0 85 11 = nI (tk B L (rdT B L key).2.1).2.1 by rw [up2_eq, up1_ne (by decide)]; exact u1]
      exact qF key hk hkey hok _ hFQ
    | true =>
      obtain ⟨v1, v2, v3⟩ := u3 hok
      have hr1 : (rdT B L key).1 = true := by
        unfold okT at hok
        cases hx : (rdT B L key).1 with
        | true => rfl
        | false => rw [hx] at hok; cases hok
      have w6 := rd_96 (od_lt hL9) (sb_lt hL9 (by decide)) 79 0 0 0 (1, [], 0) hr1
      obtain ⟨w1, w2, w3, w4, w5⟩ := rd_wf (G := cOk key) (opc_cOk key) (Or.inr (Or.inr ⟨by decide, by decide⟩)) (od_ok (B := B) (L := L) hk) 79 0 0 0 (1, [], 0) hr1
      have hlen : (rdT B L key).2.2.1.length ≤ 96 := by
        have : (rdT B L key).2.2.1.length + 1 ≤ 0 + (rdT B L key).2.1 := w2
        have : (rdT B L key).2.1 ≤ 96 := w6
        omega
      refine And.intro (fun h9 => absurd h9 (by decide)) (fun _ => ?_)
      refine And.intro (sw_k hW (Nat.le_of_ble_eq_true rfl) rfl) ?_
      refine And.intro (fun _ => ?_) (fun h9 => absurd (by decide) h9)
      have e86 : up2 I4 85 9 0 86 = I 86 := hFQ.1 86 (by decide) (by decide) (by decide) (by decide)
      obtain ⟨s14, sm⟩ := qS key hk hkey hok hlen _ hFQ
      rw [← nw_is e86]
      refine t_text (m := m) (key := key) (a := (rdT B L key).2.2.2) (C := fun q => (rdT B L key).2.2.1.getD ((rdT B L key).2.2.1.length - 1 - q) 0) (len := (rdT B L key).2.2.1.length) hW hm hk hlen h7 ?_ ?_ ?_ (fun q hq => ?_) (fun h => ?_) (fun h => ?_)
      · rw [up2_eq, up1_ne (by decide)]; exact u2
      · rw [up2_eq, up1_ne (by decide)]; exact v1
      · rw [up2_eq, up1_ne (by decide)]; exact v2
      · rw [up2_ne (by decide)]; exact v3 q hq
      · rw [nw_is e86]; exact s14 h
      · exact sm h
theorem Sim.x85 {nx : Nat} {ln : Nat → Nat} {R : Nat → Nat → Option Nat} {I I' : Nat → Nat → Int32} (h : Sim nx ln R I) (ho : ∀ o, ¬ scO o → ¬ o = 85 → I' o = I o) (h3 : I' 85 3 = I 85 3) (h9 : I' 85 9 = I 85 9) (h35 : I' 85 35 = I 85 35) : Sim nx ln R I' := by
  unfold scO at ho
  exact h.town ⟨fun o q => ho o (by unfold keepO at q; omega) (by unfold keepO at q; omega), by rw [ho 0 (by omega) (by omega)], by rw [ho 0 (by omega) (by omega)], h9, h35⟩ (h.2.1.keep (fun o q => ho o (by omega) (by omega)) (by rw [ho 0 (by omega) (by omega)]) h3)
theorem sp_0 {nx : Nat} {ln : Nat → Nat} {R : Nat → Nat → Option Nat} {I : Nat → Nat → Int32} (h : Sim nx ln R I) : Sim nx ln R (up2 (up2 I 0 6 0) 85 9 0) := by
  refine h.sp (fun o h1 h2 h3 h4 => by rw [up2_ne h3, up2_ne h1]) (fun q hq => by rw [up2_ne (by decide), up2_eq, up1_ne hq]) (fun q hq => by rw [up2_eq, up1_ne hq, up2_ne (by decide)]) ⟨0, by omega, ?_, ?_, fun i hi => absurd hi (by omega)⟩
  · rw [up2_ne (by decide), up2_eq, up1_eq]; rfl
  · rw [up2_eq, up1_eq]; rfl
def PubT (mc mm : Nat) (as : List Value) : Prop := ∀ (k nx sl : Nat) (ln : Nat → Nat) (R : Nat → Nat → Option Nat) (I : Nat → Nat → Int32), Sim nx ln R I → nx % 2 = 1 → Go (k + 100) mc (.ref 0 :: as) (nx, sl, ln, R, I) (fun r h1 => ∃ v : Int32, r = some (.int v) ∧ Go (k + 100) mm (.ref 85 :: as) h1 (fun r2 h2 => r2 = some (.int v) ∧ ∃ (nx2 sl2 : Nat) (ln2 : Nat → Nat) (R2 : Nat → Nat → Option Nat) (I2 : Nat → Nat → Int32), h2 = (nx2, sl2, ln2, R2, I2) ∧ Sim nx2 ln2 R2 I2 ∧ nx2 ≤ nx + 2 ∧ sl2 ≤ sl + 200 ∧ (nx2 = nx ∨ nx2 = nx + 2) ∧ sl ≤ sl2))
theorem pub_text : PubT mX7_text mX8_text [] := by
  intro k nx sl ln R I hS hodd
  have hW := hS.1
  have ht := tw5
  have h109 := hW.1
  obtain ⟨n, m, hT, hC, hL, hG, hZ, hZ7, hZ8, hIm⟩ := id hS.2.1
  have hn := hT.2.1
  have hm14 := hT.2.2.2.2.2.2.2.1
  have hT7 := hT.2.2.2.2.2.2.1
  obtain ⟨L, hL9, h6, h9, hb⟩ := id hS.2.2.1
  obtain ⟨B, hBB⟩ : ∃ B : Nat → Nat, ∀ i, i < L → B i < 256 ∧ I 92 i = nI (B i) ∧ I 50 i &&& 255 = nI (B i) := by
    refine ⟨fun i => (I 92 i).toNatClampNeg, fun i hi => ?_⟩
    obtain ⟨b, b1, b2, b3⟩ := hb i hi
    have e : (I 92 i).toNatClampNeg = b := by rw [b2]; exact ix (by omega)
    dsimp only
    rw [e]
    exact ⟨b1, b2, b3⟩
  have hTB : TB I B L := ⟨hL9, fun i hi => ⟨(hBB i hi).1, (hBB i hi).2.2⟩⟩
  have fails : ∀ (I2 : Nat → Nat → Int32) (x : Int32), FC I I2 → ((kyF B (tk B L 0) = 3 → x = -100 - nI (tk B L 0).2.1) ∧ (∀ key, key ≤ 2 → kyF B (tk B L 0) = key → okT B L key = false ∧ x = -100 - nI (tk B L (rdT B L key).2.1).2.1)) → Go (k + 100) mX8_text [.ref 85] (nx, sl, ln, R, up2 I2 0 6 0) (fun r2 h2 => r2 = some (.int x) ∧ ∃ (nx2 sl2 : Nat) (ln2 : Nat → Nat) (R2 : Nat → Nat → Option Nat) (I2 : Nat → Nat → Int32), h2 = (nx2, sl2, ln2, R2, I2) ∧ Sim nx2 ln2 R2 I2 ∧ nx2 ≤ nx + 2 ∧ sl2 ≤ sl + 200 ∧ (nx2 = nx ∨ nx2 = nx + 2) ∧ sl ≤ sl2) := by
    intro I2 x hF hx
    have eo : ∀ o, ¬ o = 0 → ¬ o = 51 → ¬ o = 52 → up2 I2 0 6 0 o = I o := fun o a b c => by rw [up2_ne a]; exact hF o b c
    have fin : ∀ J, FQ (up2 I2 0 6 0) J → Sim nx ln R J := fun J hJ => by
      refine (sp_0 hS).x85 (fun o h1 h2 => ?_) ?_ ?_ ?_
      · unfold scO at h1
        rw [hJ.1 o h2 (by omega) (by omega) (by omega), up2_ne h2]
        by_cases e0 : o = 0
        · subst e0; rw [up2_eq, up2_eq, hF 0 (by decide) (by decide)]
        · rw [up2_ne e0, up2_ne e0, hF o (by omega) (by omega)]
      · rw [hJ.2.1 3 (by omega), up2_ne (by decide), hF 85 (by decide) (by decide), up2_eq, up1_ne (by decide), up2_ne (by decide)]
      · rw [hJ.2.2, up2_eq, up1_eq]
      · rw [hJ.2.1 35 (by omega), up2_ne (by decide), hF 85 (by decide) (by decide), up2_eq, up1_ne (by decide), up2_ne (by decide)]
    refine s_textP (m := m) hW ⟨hL9, by rw [eo 85 (by decide) (by decide) (by decide)]; exact h9, fun i hi => by rw [eo 92 (by decide) (by decide) (by decide)]; exact ⟨(hBB i hi).1, (hBB i hi).2.1⟩⟩ (hS.2.2.2.2.2.2.keep (eo 93 (by decide) (by decide) (by decide)) (eo 94 (by decide) (by decide) (by decide))) hm14 (by rw [eo 86 (by decide) (by decide) (by decide)]; exact hT7) (fun h3 J hJ => ?_) (fun key hk hkey hok J hJ => ?_) (fun key hk hkey hok => ?_)
    · rw [← hx.1 h3]; exact pub_end (fin J hJ)
    · rw [← (hx.2 key hk hkey).2]; exact pub_end (fin J hJ)
    · rw [(hx.2 key hk hkey).1] at hok; cases hok
  refine Go_wp 80 rfl ?_
  refine And.intro (sw_k hW (Nat.le_of_ble_eq_true rfl) rfl) ?_
  refine Exists.intro _ (And.intro (sw_r hW (Nat.le_of_ble_eq_true rfl) rfl rfl) ?_)
  refine And.intro (sw_k hW (Nat.le_of_ble_eq_true rfl) rfl) ?_
  rw [h6]
  refine And.intro (sw_k hW (Nat.le_of_ble_eq_true rfl) rfl) ?_
  refine c_readsText hW hTB (fun hk3 I2 hF2 h7 => ?_) (fun key hk hkey I2 hF2 hC2 => ?_)
  · refine And.intro (sw_k hW (Nat.le_of_ble_eq_true rfl) rfl) ?_
    refine And.intro (fun h9 => absurd rfl h9) (fun _ => ?_)
    refine And.intro (sw_k hW (Nat.le_of_ble_eq_true rfl) rfl) ?_
    refine Exists.intro _ (And.intro (sw_r hW (Nat.le_of_ble_eq_true rfl) rfl rfl) ?_)
    refine And.intro (sw_k hW (Nat.le_of_ble_eq_true rfl) rfl) ?_
    rw [show up2 I2 0 6 0 51 7 = nI (tk B L 0).2.1 by rw [up2_ne (by decide)]; exact h7]
    exact ⟨_, rfl, fails I2 _ hF2 ⟨fun _ => rfl, fun key hk hkey => by omega⟩⟩
  · cases hok : okT B L key with
    | false =>
      refine And.intro (sw_k hW (Nat.le_of_ble_eq_true rfl) rfl) ?_
      refine And.intro (fun h9 => absurd rfl h9) (fun _ => ?_)
      refine And.intro (sw_k hW (Nat.le_of_ble_eq_true rfl) rfl) ?_
      refine Exists.intro _ (And.intro (sw_r hW (Nat.le_of_ble_eq_true rfl) rfl rfl) ?_)
      refine And.intro (sw_k hW (Nat.le_of_ble_eq_true rfl) rfl) ?_
      rw [show up2 I2 0 6 0 51 7 = nI (tk B L (rdT B L key).2.1).2.1 by rw [up2_ne (by decide)]; exact hC2.2.2.2.2.1]
      refine ⟨_, rfl, fails I2 _ hF2 ⟨fun h => by omega, fun key' hk' hkey' => ?_⟩⟩
      have : key' = key := by omega
      subst this
      exact ⟨hok, rfl⟩
    | true =>
      have hr1 : (rdT B L key).1 = true := by
        have hok := hok
        unfold okT at hok
        cases hx : (rdT B L key).1 with
        | true => rfl
        | false => rw [hx] at hok; cases hok
      have w6 := rd_96 (od_lt hL9) (sb_lt hL9 (by decide)) 79 0 0 0 (1, [], 0) hr1
      obtain ⟨w1, w2, w3, w4, w5⟩ := rd_wf (G := cOk key) (opc_cOk key) (Or.inr (Or.inr ⟨by decide, by decide⟩)) (od_ok (B := B) (L := L) hk) 79 0 0 0 (1, [], 0) hr1
      obtain ⟨τ, hτ⟩ : ∃ τ, (rdT B L key).2 = τ := ⟨_, rfl⟩
      have hτ' : (rd (odK B L key) (sbK B L) 79 0 0 0 (1, [], 0)).2 = τ := hτ
      rw [hτ'] at w1 w2 w3 w4 w6
      rw [hτ] at hC2
      dsimp only [List.length_nil] at w2 w3 w4 w1
      have hlen : τ.2.1.length < 96 := by omega
      have hok1 : okRv τ.2.1 1 := w1 0 rfl
      have hSK : SK (fun q => τ.2.1.getD (τ.2.1.length - 1 - q) 0) τ.2.1 := fun i hi => rfl
      have hokF : okF (fun q => τ.2.1.getD (τ.2.1.length - 1 - q) 0) 0 τ.2.1.length 0 := okF_of τ.2.1 1 0 hok1 hSK rfl
      have hcOk : ∀ q, q < τ.2.1.length → cOk key (τ.2.1.getD (τ.2.1.length - 1 - q) 0) := fun q hq => by
        refine w4 (fun c hc => by cases hc) _ ?_
        rw [List.getD_eq_getElem?_getD, List.getElem?_eq_getElem (show τ.2.1.length - 1 - q < τ.2.1.length by omega)]
        exact List.getElem_mem _
      refine And.intro (sw_k hW (Nat.le_of_ble_eq_true rfl) rfl) ?_
      refine And.intro (fun _ => ?_) (fun h9 => absurd (by decide) h9)
      obtain ⟨I3, hI3⟩ : ∃ I3, up2 I2 0 6 0 = I3 := ⟨_, rfl⟩
      rw [hI3]
      have k3 : ∀ o, ¬ o = 0 → ¬ o = 51 → ¬ o = 52 → I3 o = I o := fun o a b c => by rw [← hI3, up2_ne a]; exact hF2 o b c
      have k0 : ∀ q, ¬ q = 6 → I3 0 q = I 0 q := fun q hq => by rw [← hI3, up2_eq, up1_ne hq, hF2 0 (by decide) (by decide)]
      have k51 : I3 51 = I2 51 := by rw [← hI3, up2_ne (by decide)]
      have k52 : I3 52 = I2 52 := by rw [← hI3, up2_ne (by decide)]
      have c11 : I3 5 11 = nI m := by rw [k3 5 (by decide) (by decide) (by decide), hC.2.2.2.2.2.2.2.2.2.2.1]; exact hT7
      refine And.intro (sw_k hW (Nat.le_of_ble_eq_true rfl) rfl) ?_
      refine Exists.intro _ (And.intro (sw_r hW (Nat.le_of_ble_eq_true rfl) rfl rfl) ?_)
      refine And.intro (w_t hW ht) ?_
      rw [c11]
      have mdl : ∀ (nx4 sl4 : Nat) (ln4 : Nat → Nat) (R4 : Nat → Nat → Option Nat) (I6 : Nat → Nat → Int32) (Q : Option Value → Hp → Prop), SW nx4 ln4 R4 → (∀ o, ¬ o = 0 → ¬ o = 5 → ¬ o = 19 → ¬ o = 51 → ¬ o = 52 → ¬ o = nx → ¬ o = nx + 1 → I6 o = I o) → (∀ J, FQ I6 J → (m = 14 → Q (some (.int (-1000000003))) (nx4, sl4, ln4, R4, J)) ∧ (m < 14 → Q (some (.int (nI m))) (nx4, sl4, ln4, R4, nw J (txF (I 86) (fun q => τ.2.1.getD (τ.2.1.length - 1 - q) 0) m key τ.2.1.length τ.2.2)))) → Go (k + 100) mX8_text [.ref 85] (nx4, sl4, ln4, R4, I6) Q := by
        intro nx4 sl4 ln4 R4 I6 Q hW4 h6 hq
        have e6 : ∀ o, 20 ≤ o → o < 109 → ¬ o = 51 → ¬ o = 52 → I6 o = I o := fun o a b c d => h6 o (by omega) (by omega) (by omega) c d (by omega) (by omega)
        refine s_textP (m := m) hW4 ⟨hL9, by rw [e6 85 (by decide) (by decide) (by decide) (by decide)]; exact h9, fun i hi => by rw [e6 92 (by decide) (by decide) (by decide) (by decide)]; exact ⟨(hBB i hi).1, (hBB i hi).2.1⟩⟩ (hS.2.2.2.2.2.2.keep (e6 93 (by decide) (by decide) (by decide) (by decide)) (e6 94 (by decide) (by decide) (by decide) (by decide))) hm14 (by rw [e6 86 (by decide) (by decide) (by decide) (by decide)]; exact hT7) (fun h3 => by omega) (fun key' hk' hkey' hok' => ?_) (fun key' hk' hkey' hok' hl' J hJ => ?_)
        · have : key' = key := by omega
          subst this
          rw [hok] at hok'; cases hok'
        · have : key' = key := by omega
          subst this
          rw [hτ, e6 86 (by decide) (by decide) (by decide) (by decide)]
          exact hq J hJ
      by_cases hm : m = 14
      · refine And.intro (fun h => absurd h (nI_nlt (b := 14) (by omega) (by omega))) (fun _ => ?_)
        refine ⟨_, rfl, mdl nx sl ln R I3 _ hW (fun o a _ _ b c _ _ => k3 o a b c) (fun J hJ => ⟨fun _ => ?_, fun h => by omega⟩)⟩
        refine pub_end ((sp_0 hS).x85 (fun o h1 h2 => ?_) ?_ ?_ ?_)
        · unfold scO at h1
          rw [hJ.1 o h2 (by omega) (by omega) (by omega), up2_ne h2]
          by_cases e0 : o = 0
          · subst e0; rw [← hI3, up2_eq, up2_eq, hF2 0 (by decide) (by decide)]
          · rw [up2_ne e0, k3 o e0 (by omega) (by omega)]
        · rw [hJ.2.1 3 (by omega), k3 85 (by decide) (by decide) (by decide), up2_eq, up1_ne (by decide), up2_ne (by decide)]
        · rw [hJ.2.2, up2_eq, up1_eq]
        · rw [hJ.2.1 35 (by omega), k3 85 (by decide) (by decide) (by decide), up2_eq, up1_ne (by decide), up2_ne (by decide)]
      · have hm13 : m < 14 := by omega
        refine And.intro (fun _ => ?_) (fun h => absurd (nI_lt (b := 14) hm13 (by decide)) h)
        refine And.intro (sw_k hW (Nat.le_of_ble_eq_true rfl) rfl) ?_
        refine Exists.intro _ (And.intro (sw_r hW (Nat.le_of_ble_eq_true rfl) rfl rfl) ?_)
        refine And.intro (w_t hW ht) ?_
        rw [c11]
        refine And.intro (sw_k hW (Nat.le_of_ble_eq_true rfl) rfl) ?_
        refine Exists.intro _ (And.intro (sw_r hW (Nat.le_of_ble_eq_true rfl) rfl rfl) ?_)
        refine And.intro (sw_k hW (Nat.le_of_ble_eq_true rfl) rfl) ?_
        refine Exists.intro _ (And.intro (sw_r hW (Nat.le_of_ble_eq_true rfl) rfl rfl) ?_)
        refine And.intro (sw_k hW (Nat.le_of_ble_eq_true rfl) rfl) ?_
        refine Exists.intro _ (And.intro (sw_r hW (Nat.le_of_ble_eq_true rfl) rfl rfl) ?_)
        refine And.intro (sw_k hW (Nat.le_of_ble_eq_true rfl) rfl) ?_
        refine c_newText (len := τ.2.1.length) hW hodd hlen (by rw [k51]; exact hC2.2.2.2.2.2.2.1) (fun I4 g0 gx0 gx1 gxc => ?_)
        have hW4 : SW (nx + 2) (up1 ln (nx + 1) τ.2.1.length) (up2 (up1 R nx (fun _ => none)) nx 2 (some (nx + 1))) := hW.ext (by omega) (fun o ho => up1_ne (by omega)) (fun o ho _ => by rw [up2_ne (by omega), up1_ne (by omega)])
        have hW5 : SW (nx + 2) (up1 ln (nx + 1) τ.2.1.length) (up2 (up2 (up1 R nx (fun _ => none)) nx 2 (some (nx + 1))) 2 m (some nx)) := hW4.ext (Nat.le_refl _) (fun _ _ => rfl) (fun o ho h2 => up2_ne h2)
        refine And.intro ⟨⟨⟨by decide, by decide, sw_lt hW4 (by decide)⟩, nI_pos (by omega), by rw [ix (by omega), hW4.2.1 2 (by decide)]; exact hm13⟩, (show nx < nx + 2 by omega), by rw [kd_odd h109 hodd]; rfl⟩ ?_
        rw [ix (show m < 2147483648 by omega)]
        have hWold := hW
        clear hW
        have hW := hW5
        have k4 : ∀ o, ¬ o = 0 → ¬ o = 51 → ¬ o = 52 → ¬ o = nx → ¬ o = nx + 1 → I4 o = I o := fun o a b c d e => by rw [g0 o d e, k3 o a b c]
        have key4 : I4 51 8 = nI key := by rw [g0 51 (by omega) (by omega), k51]; exact hC2.2.2.1
        refine And.intro (sw_k hW (Nat.le_of_ble_eq_true rfl) rfl) ?_
        refine Exists.intro _ (And.intro (sw_r hW (Nat.le_of_ble_eq_true rfl) rfl rfl) ?_)
        refine And.intro (w_t hW ht) (Exists.intro _ (And.intro (w_r12 hW ht) ?_))
        refine And.intro (sw_k hW (Nat.le_of_ble_eq_true rfl) rfl) ?_
        refine Exists.intro _ (And.intro (sw_r hW (Nat.le_of_ble_eq_true rfl) rfl rfl) ?_)
        refine And.intro (sw_k hW (Nat.le_of_ble_eq_true rfl) rfl) ?_
        rw [key4]
        refine And.intro (w_c hW ht (show key < 3 by omega)) ?_
        rw [ix (show key < 2147483648 by omega)]
        refine And.intro (sw_k hW (Nat.le_of_ble_eq_true rfl) rfl) ?_
        refine Exists.intro _ (And.intro (sw_r hW (Nat.le_of_ble_eq_true rfl) rfl rfl) ?_)
        refine And.intro (w_t hW ht) ?_
        rw [show up2 I4 (5 + 14) key (nI m) 5 11 = nI m by rw [up2_ne (by decide), g0 5 (by omega) (by omega)]; exact c11]
        refine And.intro (w_t hW ht) ?_
        rw [nI_1]
        refine ⟨_, rfl, mdl _ _ _ _ _ _ hW (fun o a b c d e f g => ?_) (fun J hJ => ⟨fun h => by omega, fun _ => ?_⟩)⟩
        · rw [up2_ne b, up2_ne (show ¬ o = 5 + 14 from c)]; exact k4 o a d e f g
        · obtain ⟨I6, hI6⟩ : ∃ I6, up2 (up2 I4 (5 + 14) key (nI m)) 5 11 (nI (m + 1)) = I6 := ⟨_, rfl⟩
          rw [hI6] at hJ
          have i6 : ∀ o, ¬ o = 5 → ¬ o = 19 → I6 o = I4 o := fun o a b => by rw [← hI6, up2_ne a, up2_ne (show ¬ o = 5 + 14 from b)]
          have jo : ∀ o, ¬ o = 5 → ¬ o = 19 → ¬ o = 85 → ¬ o = 95 → ¬ o = 96 → ¬ o = 97 → J o = I4 o := fun o a b c d e f => by rw [hJ.1 o c d e f, i6 o a b]
          refine ⟨rfl, _, _, _, _, _, rfl, sim_tx (key := key) (len := τ.2.1.length) (a := τ.2.2) (C := fun q => τ.2.1.getD (τ.2.1.length - 1 - q) 0) hS hT hm13 hk (by omega) (by omega) hokF hcOk hW rfl hodd rfl rfl (fun o a1 a2 a3 a4 a5 a6 a7 a8 a9 a10 a11 a12 => ?_) (fun q hq => ?_) ?_ (fun q hq => ?_) ?_ (fun q hq => ?_) ?_ ?_ ?_ ?_ ?_ ?_ ?_ (fun q hq => ?_), by omega, by omega, Or.inr rfl, by omega⟩
          · rw [nwo _ _ a7, jo o a2 a3 a6 a8 a9 a10]; exact k4 o a1 a4 a5 a11 a12
          · rw [nwo _ _ (by decide), jo 0 (by decide) (by decide) (by decide) (by decide) (by decide) (by decide), g0 0 (by omega) (by omega)]; exact k0 q hq
          · rw [nwo _ _ (by decide), jo 0 (by decide) (by decide) (by decide) (by decide) (by decide) (by decide), g0 0 (by omega) (by omega), ← hI3, up2_eq, up1_eq]
          · rw [nwo _ _ (by decide), hJ.1 5 (by decide) (by decide) (by decide) (by decide), ← hI6, up2_eq, up1_ne hq, up2_ne (by decide), k4 5 (by decide) (by decide) (by decide) (by omega) (by omega)]
          · rw [nwo _ _ (by decide), hJ.1 5 (by decide) (by decide) (by decide) (by decide), ← hI6, up2_eq, up1_eq]
          · rw [nwo _ _ (by decide), hJ.1 19 (by decide) (by decide) (by decide) (by decide), ← hI6, up2_ne (by decide)]
            show up2 I4 19 key (nI m) 19 q = _
            rw [up2_eq, up1_ne hq, k4 19 (by decide) (by decide) (by decide) (by omega) (by omega)]
          · rw [nwo _ _ (by decide), hJ.1 19 (by decide) (by decide) (by decide) (by decide), ← hI6, up2_ne (by decide)]
            show up2 I4 19 key (nI m) 19 key = _
            rw [up2_eq, up1_eq]
          · rw [nwo _ _ (by decide), hJ.2.1 3 (by omega), i6 85 (by decide) (by decide), k4 85 (by decide) (by decide) (by decide) (by omega) (by omega)]
          · rw [nwo _ _ (by decide), hJ.2.2]
          · rw [nwo _ _ (by decide), hJ.2.1 35 (by omega), i6 85 (by decide) (by decide), k4 85 (by decide) (by decide) (by decide) (by omega) (by omega)]
          · exact up1_eq
          · rw [nwo _ _ (by omega), jo nx (by omega) (by omega) (by omega) (by omega) (by omega) (by omega), gx0, k51]; exact hC2.2.2.1
          · rw [nwo _ _ (by omega), jo nx (by omega) (by omega) (by omega) (by omega) (by omega) (by omega), gx1, k51]; exact hC2.2.2.2.2.2.2.2.1
          · rw [nwo _ _ (by omega), jo (nx + 1) (by omega) (by omega) (by omega) (by omega) (by omega) (by omega), gxc q hq, k52]; exact hC2.2.2.2.2.2.2.2.2 q hq
