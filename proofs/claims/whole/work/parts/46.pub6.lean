/-! Public methods: how many days are enough. -/
def enF (T : Nat → Int32) (h : Nat) (v : Int32) : Nat → Nat → Nat
  | 0, i => i
  | r + 1, i => if v ≤ gnF T i (16 + h) then i else enF T h v r (i + 1)
theorem gn_1 (T : Nat → Int32) (i : Nat) : gnF (gnF T i) 1 = gnF T (i + 1) := rfl
def enR (e : Nat) : Int32 := if e ≤ 200 then nI e else -1000000005
theorem l_cenough {nx sl : Nat} {ln : Nat → Nat} {R : Nat → Nat → Option Nat} {I : Nat → Nat → Int32} {Q : Option Value → Hp → Prop} {k : Nat} (hW : SW nx ln R) {n m h : Nat} {T : Nat → Int32} {v : Int32} (hT : IT T n m) (hL : LT nx ln R I T m) (hh : h < 8) : ∀ (r i n1 : Nat) (xi : Int32) (I1 : Nat → Nat → Int32), xi = nI i → CT I1 20 (gnF T i) n1 m → IT (gnF T i) n1 m → Fr 20 I I1 → i + r = 201 → (∀ I2, Fr 20 I I2 → Q (some (.int (enR (enF T h v r i)))) (nx, sl, ln, R, I2)) → GoF (k + 6) mX7_enough 34 [some (.ref 0), some (.int (nI h)), some (.int v), some (.int xi)] [] (nx, sl, ln, R, I1) Q := by
  have ht2 : Tw 20 := Or.inr (Or.inl rfl)
  intro r
  induction r with
  | zero =>
    intro i n1 xi I1 hxi hC hI hF hir hQ
    subst hxi
    have h201 : i = 201 := by omega
    subst h201
    refine GoF_wp1 40 ?_
    exact And.intro (fun _ => hQ I1 hF) (fun h9 => absurd (by decide) h9)
  | succ r ih =>
    intro i n1 xi I1 hxi hC hI hF hir hQ
    subst hxi
    refine GoF_wp1 60 ?_
    refine And.intro (fun h9 => absurd h9 (by rw [tI_lt, tI_nI (by omega)]; have : (200 : Int32).toInt = 200 := rfl; omega)) (fun _ => ?_)
    refine And.intro (sw_k hW (Nat.le_of_ble_eq_true rfl) rfl) ?_
    refine Exists.intro _ (And.intro (sw_r hW (Nat.le_of_ble_eq_true rfl) rfl rfl) ?_)
    refine And.intro (w_t hW ht2) (Exists.intro _ (And.intro (w_r4 hW ht2) ?_))
    refine And.intro (w_d hW ht2 hh) ?_
    rw [ix (show h < 2147483648 by omega), hC.2.2.2.1 h hh]
    refine And.intro (fun hb => ?_) (fun hb => ?_)
    · have hne : ¬ v ≤ gnF T i (16 + h) := fun q => by rw [tI_le] at q; rw [tI_lt] at hb; omega
      refine And.intro (sw_k hW (Nat.le_of_ble_eq_true rfl) rfl) ?_
      refine Exists.intro _ (And.intro (sw_r hW (Nat.le_of_ble_eq_true rfl) rfl rfl) ?_)
      refine And.intro (w_t hW ht2) ?_
      have hL1 : LT nx ln R I1 (gnF T i) m := hL.keep (fun o ho => hF o (by omega) (by omega) (by omega)) (fun p hp => gn_hi hT hp i)
      refine c_passDays (d := 1) hW ht2 hC hI hL1 (by decide) (fun I2 n2 hC2 hI2 hF2 => ?_)
      refine ih (i + 1) n2 _ I2 (nI_1 i) hC2 hI2 (hF.tr hF2) (by omega) (fun I3 h3 => ?_)
      have := hQ I3 h3
      unfold enF at this
      rw [if_neg hne] at this
      exact this
    · have hne : v ≤ gnF T i (16 + h) := by rw [tI_le]; rw [tI_lt] at hb; omega
      have := hQ I1 hF
      unfold enF enR at this
      rw [if_pos hne, if_pos (by omega)] at this
      exact this
theorem l_enough {nx sl : Nat} {ln : Nat → Nat} {R : Nat → Nat → Option Nat} {I : Nat → Nat → Int32} {Q : Option Value → Hp → Prop} {k : Nat} (hW : SW nx ln R) {n m h : Nat} {T : Nat → Int32} {v : Int32} (hT : IT T n m) (hz : Zr T) (hI8 : I 88 = T) (hh : h < 8) : ∀ (r i n1 : Nat) (xi : Int32) (J1 I1 : Nat → Nat → Int32), xi = nI i → I1 = nw J1 (gnF T i) → IT (gnF T i) n1 m → Sc I J1 → i + r = 201 → (∀ (J2 : Nat → Nat → Int32) (T2 : Nat → Int32), Sc I J2 → Q (some (.int (enR (enF T h v r i)))) (nx, sl, ln, R, up1 (nw J2 T2) 86 (nw J2 T2 88))) → GoF (k + 6) mX8_enough 27 [some (.ref 85), some (.int (nI h)), some (.int v), some (.int xi)] [] (nx, sl, ln, R, I1) Q := by
  intro r
  induction r with
  | zero =>
    intro i n1 xi J1 I1 hxi hI1 hI hF hir hQ
    subst hxi
    subst hI1
    have h201 : i = 201 := by omega
    subst h201
    have z8 : Zr (nw J1 (gnF T 201) 88) := by rw [nwo _ _ (by decide), hF 88 (by decide) (by decide), hI8]; exact hz
    obtain ⟨T2, hT2⟩ : ∃ T2, gnF T 201 = T2 := ⟨_, rfl⟩
    have z6 : Zr T2 := by rw [← hT2]; exact gn_zr hT hz 201
    rw [hT2] at z8 ⊢
    refine GoF_wp1 60 ?_
    refine And.intro (fun _ => ?_) (fun h9 => absurd (by decide) h9)
    refine And.intro (sw_k hW (Nat.le_of_ble_eq_true rfl) rfl) ?_
    refine s_putsBack hW z6 z8 ?_
    exact And.intro (fun h9 => absurd h9 (by decide)) (fun _ => hQ J1 T2 hF)
  | succ r ih =>
    intro i n1 xi J1 I1 hxi hI1 hI hF hir hQ
    subst hxi
    subst hI1
    have z8 : Zr (nw J1 (gnF T i) 88) := by rw [nwo _ _ (by decide), hF 88 (by decide) (by decide), hI8]; exact hz
    have z6 : Zr (gnF T i) := gn_zr hT hz i
    refine GoF_wp1 80 ?_
    refine And.intro (fun h9 => absurd h9 (by rw [tI_lt, tI_nI (by omega)]; have : (200 : Int32).toInt = 200 := rfl; omega)) (fun _ => ?_)
    refine And.intro (sw_k hW (Nat.le_of_ble_eq_true rfl) rfl) ?_
    refine Exists.intro _ (And.intro (sw_r hW (Nat.le_of_ble_eq_true rfl) rfl rfl) ?_)
    refine And.intro (by rw [hx16]; exact sw_n hW (Nat.le_of_ble_eq_true rfl) rfl rfl (show 16 + h < 1446 by omega) (Nat.le_of_ble_eq_true rfl)) ?_
    rw [show nw J1 (gnF T i) 86 ((16 : Int32) + nI h).toNatClampNeg = gnF T i (16 + h) by rw [hx16, ix (by omega)]; rfl]
    refine And.intro (fun hb => ?_) (fun hb => ?_)
    · have := hQ J1 (gnF T i) hF
      unfold enF enR at this
      rw [if_pos hb, if_pos (by omega)] at this
      refine And.intro (sw_k hW (Nat.le_of_ble_eq_true rfl) rfl) ?_
      refine s_putsBack hW z6 z8 ?_
      exact And.intro (fun _ => this) (fun h9 => absurd (nI_le (b := 200) (by omega) (by decide)) h9)
    · refine And.intro (sw_k hW (Nat.le_of_ble_eq_true rfl) rfl) ?_
      refine s_day hW hI (fun J2 hJ2 => ?_)
      obtain ⟨n2, -, hI2⟩ := it_dy hI
      refine ih (i + 1) n2 _ J2 _ (nI_1 i) rfl hI2 (hF.tr hJ2) (by omega) (fun J3 T3 h3 => ?_)
      have := hQ J3 T3 h3
      unfold enF at this
      rw [if_neg hb] at this
      exact this
theorem pub_enough (v w : Int32) : Pub mX7_enough mX8_enough [.int v, .int w] := by
  intro k nx sl ln R I hS
  have hW := hS.1
  have ht := tw5
  have ht2 : Tw 20 := Or.inr (Or.inl rfl)
  obtain ⟨n, m, hT, hC, hL, hG, hZ, hZ7, hZ8, -⟩ := id hS.2.1
  have hn := hT.2.1
  refine Go_wp 60 rfl ?_
  refine c_isHand (fun i hi e => ?_) (fun e => ?_)
  · subst e
    refine And.intro (fun h9 => absurd h9 (by decide)) (fun _ => ?_)
    refine c_isIn (m := 0) (n := 10000) rfl (fun j hj e => ?_) (fun e => ?_)
    · subst e
      refine And.intro (fun _ => ?_) (fun h9 => absurd (by decide) h9)
      refine And.intro (sw_k hW (Nat.le_of_ble_eq_true rfl) rfl) ?_
      refine Exists.intro _ (And.intro (sw_r hW (Nat.le_of_ble_eq_true rfl) rfl rfl) ?_)
      refine And.intro (sw_k hW (Nat.le_of_ble_eq_true rfl) rfl) ?_
      refine Exists.intro _ (And.intro (sw_r hW (Nat.le_of_ble_eq_true rfl) rfl rfl) ?_)
      refine And.intro (w_t hW ht2) ?_
      refine c_become hW ht2 ht (by decide) hC hT.1 hn (fun I2 hC2 hF2 => ?_)
      have hL2 : LT nx ln R I2 (I 86) m := hL.keep (fun o ho => hF2 o (by omega)) (fun _ _ => rfl)
      refine l_cenough hW hT hL2 hi 201 0 n _ I2 rfl hC2 hT Fr.rf rfl (fun I3 hF3 => ?_)
      have hF : ∀ o, (o < 20 ∨ 34 < o) → ¬ o = 3 → ¬ o = 4 → I3 o = I o := fun o h1 h2 h3 => by rw [hF3 o (by omega) h2 h3]; exact hF2 o (by omega)
      have h86 : I3 86 = I 86 := hF 86 (by omega) (by decide) (by decide)
      have h88 : I3 88 = I 88 := hF 88 (by omega) (by decide) (by decide)
      refine ⟨_, rfl, ?_⟩
      refine Go_wp 60 rfl ?_
      refine s_isHand (fun _ _ _ => ?_) (fun e => absurd rfl (e i hi))
      refine And.intro (fun h9 => absurd h9 (by decide)) (fun _ => ?_)
      refine s_isIn (n := 10000) rfl (fun _ _ _ => ?_) (fun e => absurd rfl (e j hj))
      refine And.intro (fun _ => ?_) (fun h9 => absurd (by decide) h9)
      refine And.intro (sw_k hW (Nat.le_of_ble_eq_true rfl) rfl) ?_
      refine s_thinks hW (by rw [h86]; exact hZ) (by rw [h88]; exact hZ8) ?_
      rw [h86]
      refine l_enough (I := up1 I3 88 (I 86)) (T := I 86) hW hT hZ up1_eq hi 201 0 n _ (up1 I3 88 (I 86)) _ rfl (nw_is (show up1 I3 88 (I 86) 86 = I 86 by rw [up1_ne (by decide)]; exact h86)).symm hT Sc.rf rfl (fun J2 T2 hJ2 => ?_)
      exact pub_end (sim_think hS hF hJ2)
    · refine And.intro (fun h9 => absurd rfl h9) (fun _ => ?_)
      refine ⟨_, rfl, ?_⟩
      refine Go_wp 60 rfl ?_
      refine s_isHand (fun _ _ _ => ?_) (fun e => absurd rfl (e i hi))
      refine And.intro (fun h9 => absurd h9 (by decide)) (fun _ => ?_)
      refine s_isIn (n := 10000) rfl (fun j hj e2 => absurd e2 (e j hj)) (fun _ => ?_)
      refine And.intro (fun h9 => absurd rfl h9) (fun _ => ?_)
      exact pub_end hS
  · refine And.intro (fun _ => ?_) (fun h9 => absurd rfl h9)
    refine ⟨_, rfl, ?_⟩
    refine Go_wp 60 rfl ?_
    refine s_isHand (fun j hj e2 => absurd e2 (e j hj)) (fun _ => ?_)
    refine And.intro (fun _ => ?_) (fun h9 => absurd rfl h9)
    exact pub_end hS
