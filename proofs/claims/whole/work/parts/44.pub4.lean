/-! Public methods: days. -/
theorem c_isBt {k : Nat} {h : Hp} {v lo hi : Int32} {Q : Option Value → Hp → Prop} {a b : Nat} (ha : lo.toInt = (a : Int)) (hb : hi.toInt = (b : Int)) (h1 : ∀ i, a ≤ i → i ≤ b → v = nI i → Q (some (.int 1)) h) (h0 : (∀ i, a ≤ i → i ≤ b → ¬ v = nI i) → Q (some (.int 0)) h) : Go k mX7_within [.int v, .int lo, .int hi] h Q := by
  have hh := tI_hi hi
  refine c_within (fun x y => ?_) (fun x => ?_)
  · have a' := (tI_le _ _).mp x
    have b' := (tI_le _ _).mp y
    exact h1 v.toInt.toNat (by omega) (by omega) (nI_ofI (by omega))
  · refine h0 (fun i hi1 hi2 q => x ?_)
    rw [q, tI_le, tI_le, tI_nI (by omega)]
    omega
theorem s_isBt {k : Nat} {h : Hp} {v lo hi : Int32} {Q : Option Value → Hp → Prop} {a b : Nat} (ha : lo.toInt = (a : Int)) (hb : hi.toInt = (b : Int)) (h1 : ∀ i, a ≤ i → i ≤ b → v = nI i → Q (some (.int 1)) h) (h0 : (∀ i, a ≤ i → i ≤ b → ¬ v = nI i) → Q (some (.int 0)) h) : Go k mX8_in [.int v, .int lo, .int hi] h Q := by
  have hh := tI_hi hi
  refine s_in (fun x y => ?_) (fun x => ?_)
  · have a' := (tI_le _ _).mp x
    have b' := (tI_le _ _).mp y
    exact h1 v.toInt.toNat (by omega) (by omega) (nI_ofI (by omega))
  · refine h0 (fun i hi1 hi2 q => x ?_)
    rw [q, tI_le, tI_le, tI_nI (by omega)]
    omega
theorem fi_2 (T : Nat → Int32) (j : Nat) : fiF T j 2 = T 2 := by
  unfold fiF hsF
  rw [up1_lt (by omega), up1_lt (by omega), up1_lt (by omega), up1_lt (by omega)]
theorem fi_4 (T : Nat → Int32) (j : Nat) : fiF T j 4 = T 4 + toF T j := by
  unfold fiF
  rw [up1_lt (by omega), up1_lt (by omega), up1_eq]
theorem fl_24 {T : Nat → Int32} {n m g : Nat} (hT : IT T n m) (h4 : T 4 = nI g) : ∀ i, i ≤ n → flF T i 2 = T 2 ∧ ∃ s, s ≤ 99 * i ∧ flF T i 4 = nI (g + s) := by
  intro i
  induction i with
  | zero => intro _; exact ⟨rfl, 0, by omega, h4⟩
  | succ i ih =>
    intro hi
    obtain ⟨h2, s, hs, e4⟩ := ih (by omega)
    obtain ⟨kd, b, mk, hd, fl, j1, j2, j3, j4, j5, j6, j7, j8, j9, j10, j11⟩ := (hT.fl i (by omega)).2.2.1 i (by omega)
    obtain ⟨to, hto9, eto⟩ : ∃ v, v ≤ b ∧ toF (flF T i) i = nI v := by unfold toF; rw [j3, j6]; exact tk_ok j5 j7
    refine ⟨?_, s + to, by omega, ?_⟩
    · show fiF (flF T i) i 2 = T 2
      rw [fi_2]; exact h2
    · show fiF (flF T i) i 4 = nI (g + (s + to))
      rw [fi_4, e4, eto, nI_add, Nat.add_assoc]
theorem se_lo {T : Nat → Int32} {j h p : Nat} (hp : p = 2 ∨ p = 4) : seG T j h p = T p := by
  unfold seG hsF
  split
  · rfl
  · split
    · rfl
    · rw [up1_ne (by omega), up1_lt (by omega), up1_lt (by omega), up1_lt (by omega)]
theorem br_lo {T : Nat → Int32} {n p : Nat} (hp : p = 2 ∨ p = 4) : brF T n p = T p := by
  unfold brF
  split
  · unfold goF gT brA
    rw [if_neg (by omega), up1_ne (by omega), up1_ne (by omega), up1_ne (by omega), up1_ne (by omega)]
  · unfold brA
    rw [up1_ne (by omega), up1_ne (by omega), up1_ne (by omega)]
theorem d3_lo {T : Nat → Int32} {p : Nat} (hp : p = 2 ∨ p = 4) : d3F T p = T p := by
  unfold d3F
  split
  · rw [br_lo hp, up1_ne (by omega)]
  · rw [up1_ne (by omega)]
theorem d2_lo {T : Nat → Int32} {p : Nat} (hp : p = 2 ∨ p = 4) : d2F T p = flF T (T 1).toNatClampNeg p := by
  unfold d2F
  split
  · rw [seF_G, se_lo hp, seT_eq _ (by omega)]
  · rfl
theorem dy_24 {T : Nat → Int32} {n m d g : Nat} (hT : IT T n m) (h2 : T 2 = nI d) (h4 : T 4 = nI g) : dyF T 2 = nI (d + 1) ∧ ∃ s, s ≤ 990 ∧ dyF T 4 = nI (g + s) := by
  have hn := hT.2.1
  have e : (T 1).toNatClampNeg = n := by rw [hT.1]; exact ix (by omega)
  obtain ⟨f2, s, hs, f4⟩ := fl_24 hT h4 n (Nat.le_refl n)
  unfold dyF
  refine ⟨?_, s, by omega, ?_⟩
  · rw [up1_eq, d3_lo (Or.inl rfl), d2_lo (Or.inl rfl), e, f2, h2]; exact nI_add d 1
  · rw [up1_ne (by decide), d3_lo (Or.inr rfl), d2_lo (Or.inr rfl), e, f4]
theorem gn_24 {T : Nat → Int32} {n m d g : Nat} (hT : IT T n m) (h2 : T 2 = nI d) (h4 : T 4 = nI g) : ∀ i, gnF T i 2 = nI (d + i) ∧ ∃ s, s ≤ 990 * i ∧ gnF T i 4 = nI (g + s) := by
  intro i
  induction i with
  | zero => exact ⟨h2, 0, by omega, h4⟩
  | succ i ih =>
    obtain ⟨a2, s, hs, a4⟩ := ih
    obtain ⟨n1, -, h1⟩ := it_gn hT i
    obtain ⟨b2, s2, hs2, b4⟩ := dy_24 h1 a2 a4
    exact ⟨b2, s + s2, by omega, by rw [← Nat.add_assoc]; exact b4⟩
/-- the town NOW stands for another row, with the same texts -/
theorem sim_now {nx : Nat} {ln : Nat → Nat} {R : Nat → Nat → Option Nat} {I I2 J2 : Nat → Nat → Int32} {T' : Nat → Int32} {n m n' : Nat} (hS : Sim nx ln R I) (hT : IT (I 86) n m) (hF : Fr 5 I I2) (hJ : Sc I2 J2) (hI : IT T' n' m) (hC : CT I2 5 T' n' m) (hG : GB T') (hp : ∀ p, 74 ≤ p → T' p = I 86 p) : Sim nx ln R (nw J2 T') := by
  obtain ⟨n0, m0, a1, a2, a3, a4, a5, a6, a7, a8⟩ := id hS.2.1
  have e86 : nw J2 T' 86 = T' := up1_eq
  have eo : ∀ o, ¬ o = 86 → ¬ o = 3 → ¬ o = 4 → ¬ o = 98 → ¬ o = 99 → (o < 5 ∨ 19 < o) → nw J2 T' o = I o := fun o h1 h2 h3 h4 h5 h6 => by rw [nwo _ _ h1, hJ o h4 h5, hF o (by omega) h2 h3]
  refine hS.town ⟨fun q hq => ?_, ?_, ?_, ?_, ?_⟩ (SA.now hT hS.2.1 (n' := n') ?_ ?_ ?_ ?_ ?_ (fun q hq => ?_) (fun q hq => eo q (by omega) (by omega) (by omega) (by omega) (by omega) (by omega)) ?_ ?_)
  · unfold keepO at hq; exact eo q (by omega) (by omega) (by omega) (by omega) (by omega) (by omega)
  · rw [eo 0 (by omega) (by omega) (by omega) (by omega) (by omega) (by omega)]
  · rw [eo 0 (by omega) (by omega) (by omega) (by omega) (by omega) (by omega)]
  · rw [eo 85 (by omega) (by omega) (by omega) (by omega) (by omega) (by omega)]
  · rw [eo 85 (by omega) (by omega) (by omega) (by omega) (by omega) (by omega)]
  · rw [e86]; exact hI
  · rw [e86]; exact hC.keep hI.2.1 (fun o h1 h2 => by rw [nwo _ _ (by omega), hJ o (by omega) (by omega)])
  · rw [e86]; exact hG
  · rw [e86]; exact fun i hi => by rw [hp i (by omega)]; exact a5 i hi
  · rw [eo 88 (by omega) (by omega) (by omega) (by omega) (by omega) (by omega)]; exact a7
  · rw [e86]; exact hp q hq
  · rw [eo 0 (by omega) (by omega) (by omega) (by omega) (by omega) (by omega)]
  · rw [eo 85 (by omega) (by omega) (by omega) (by omega) (by omega) (by omega)]
theorem pub_days (v : Int32) : Pub mX7_days mX8_days [.int v] := by
  intro k nx sl ln R I hS
  have hW := hS.1
  have ht := tw5
  obtain ⟨n, m, hT, hC, hL, hG, hZ, -⟩ := id hS.2.1
  have hn := hT.2.1
  obtain ⟨d, g, hd1, hd2, hg1, hg2⟩ := hG
  refine Go_wp 60 rfl ?_
  refine c_isBt (a := 1) (b := 100) rfl rfl (fun i hi0 hi e => ?_) (fun e => ?_)
  · subst e
    refine And.intro (fun _ => ?_) (fun h9 => absurd (by decide) h9)
    refine And.intro (sw_k hW (Nat.le_of_ble_eq_true rfl) rfl) ?_
    refine Exists.intro _ (And.intro (sw_r hW (Nat.le_of_ble_eq_true rfl) rfl rfl) ?_)
    refine And.intro (w_t hW ht) ?_
    refine And.intro (sw_k hW (Nat.le_of_ble_eq_true rfl) rfl) ?_
    refine Exists.intro _ (And.intro (sw_r hW (Nat.le_of_ble_eq_true rfl) rfl rfl) ?_)
    refine And.intro (sw_k hW (Nat.le_of_ble_eq_true rfl) rfl) ?_
    refine Exists.intro _ (And.intro (sw_r hW (Nat.le_of_ble_eq_true rfl) rfl rfl) ?_)
    refine And.intro (w_t hW ht) ?_
    refine And.intro (w_t hW ht) ?_
    rw [show I 5 9 = nI d by rw [hC.2.2.2.2.2.2.2.2.1]; exact hd1, show (9999 : Int32) - nI d = nI (9999 - d) from nI_sub (a := 9999) hd2]
    rw [show (if nI (9999 - d) < nI i then nI (9999 - d) else nI i) = nI (min i (9999 - d)) from mn_nI (a := i) (by omega) (by omega)]
    obtain ⟨e, he⟩ : ∃ e, min i (9999 - d) = e := ⟨_, rfl⟩
    rw [he]
    refine c_passDays hW ht hC hT hL (show e ≤ 10000 by omega) (fun I2 n2 hC2 hT2 hF => ?_)
    refine And.intro (sw_k hW (Nat.le_of_ble_eq_true rfl) rfl) ?_
    refine Exists.intro _ (And.intro (sw_r hW (Nat.le_of_ble_eq_true rfl) rfl rfl) ?_)
    refine And.intro (w_t hW ht) ?_
    rw [hC2.2.2.2.2.2.1, hC.2.2.2.2.2.1]
    refine ⟨_, rfl, ?_⟩
    have h86 : I2 86 = I 86 := hF 86 (by omega) (by decide) (by decide)
    rw [← nw_is h86]
    refine Go_wp 60 rfl ?_
    refine s_isBt (a := 1) (b := 100) rfl rfl (fun _ _ _ _ => ?_) (fun e => absurd rfl (e i hi0 hi))
    refine And.intro (fun _ => ?_) (fun h9 => absurd (by decide) h9)
    refine And.intro (sw_k hW (Nat.le_of_ble_eq_true rfl) rfl) ?_
    refine Exists.intro _ (And.intro (sw_r hW (Nat.le_of_ble_eq_true rfl) rfl rfl) ?_)
    refine And.intro (sw_n hW (Nat.le_of_ble_eq_true rfl) rfl rfl ((Nat.le_of_ble_eq_true rfl)) (Nat.le_of_ble_eq_true rfl)) ?_
    refine And.intro (sw_k hW (Nat.le_of_ble_eq_true rfl) rfl) ?_
    refine Exists.intro _ (And.intro (sw_r hW (Nat.le_of_ble_eq_true rfl) rfl rfl) ?_)
    refine And.intro (sw_n hW (Nat.le_of_ble_eq_true rfl) rfl rfl ((Nat.le_of_ble_eq_true rfl)) (Nat.le_of_ble_eq_true rfl)) ?_
    refine s_within ?_
    rw [show nw I2 (I 86) 86 (2 : Int32).toNatClampNeg = nI d from hd1, show (9999 : Int32) - nI d = nI (9999 - d) from nI_sub (a := 9999) hd2, wi_nn (by omega) (by omega), show min (9999 - d) i = e by omega]
    refine And.intro (sw_k hW (Nat.le_of_ble_eq_true rfl) rfl) ?_
    refine s_goesOn hW hT (show e ≤ 10000 by omega) (fun J2 hJ2 => ?_)
    refine And.intro (sw_k hW (Nat.le_of_ble_eq_true rfl) rfl) ?_
    refine Exists.intro _ (And.intro (sw_r hW (Nat.le_of_ble_eq_true rfl) rfl rfl) ?_)
    refine And.intro (sw_n hW (Nat.le_of_ble_eq_true rfl) rfl rfl ((Nat.le_of_ble_eq_true rfl)) (Nat.le_of_ble_eq_true rfl)) ?_
    obtain ⟨b2, s, hs, b4⟩ := gn_24 hT hd1 hg1 e
    exact pub_end (sim_now hS hT hF hJ2 hT2 hC2 ⟨d + e, g + s, b2, by omega, b4, by omega⟩ (fun p hp => gn_hi hT hp e))
  · refine And.intro (fun h9 => absurd rfl h9) (fun _ => ?_)
    refine ⟨_, rfl, ?_⟩
    refine Go_wp 60 rfl ?_
    refine s_isBt (a := 1) (b := 100) rfl rfl (fun i h1 h2 e2 => absurd e2 (e i h1 h2)) (fun _ => ?_)
    refine And.intro (fun h9 => absurd rfl h9) (fun _ => ?_)
    exact pub_end hS
