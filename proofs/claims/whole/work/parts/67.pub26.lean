/-! Public methods: heir, hearts, becomes. -/
theorem nw_2 (J : Nat → Nat → Int32) (T U : Nat → Int32) : up1 (nw J T) 86 U = nw J U := by
  funext o
  by_cases h : o = 86
  · subst h; rw [up1_eq]; exact up1_eq.symm
  · rw [up1_ne h, nwo _ _ h, nwo _ _ h]
theorem l_most {nx sl : Nat} {ln : Nat → Nat} {R : Nat → Nat → Option Nat} {I : Nat → Nat → Int32} {Q : Option Value → Hp → Prop} {k : Nat} (hW : SW nx ln R) {n m d o p tr : Nat} {T : Nat → Int32} {c w : Int32} (hT : IT T n m) (hz : Zr T) (h88 : I 88 = T) (hd : d ≤ 60) (hch : chOk n c o p tr) : ∀ (r v : Nat) (xb xm xv : Int32) (x8 : Option Value) (J1 I1 : Nat → Nat → Int32), xv = nI v → I1 = nw J1 T → v + r = tr → Sc I J1 → xb = bmB (geF T p d) v → xm = bmM (geF T p d) v → (∀ J2, Sc I J2 → Q (some (.int (if w = 0 then bmB (geF T p d) tr else bmM (geF T p d) tr))) (nx, sl, ln, R, nw J2 T)) → GoF (k + 7) mX8_mostBy 13 [some (.ref 85), some (.int (nI p)), some (.int (nI tr)), some (.int (nI d)), some (.int w), some (.int xb), some (.int xm), some (.int xv), x8] [] (nx, sl, ln, R, I1) Q := by
  have hn := hT.2.1
  obtain ⟨p1, p2, p3, p4⟩ := ch_p hch hn
  intro r
  induction r with
  | zero =>
    intro v xb xm xv x8 J1 I1 hxv hI hvr hF hb hm hQ
    subst hxv
    subst hI
    have hv : v = tr := by omega
    subst hv
    have hQ2 := hQ J1 hF
    refine GoF_wp1 40 ?_
    refine And.intro (fun _ => ?_) (fun h => absurd (Int32.le_refl _) h)
    refine And.intro (fun h => ?_) (fun h => ?_)
    · rw [if_neg h] at hQ2
      rw [hm]
      exact hQ2
    · rw [if_pos (Decidable.of_not_not h)] at hQ2
      rw [hb]
      exact hQ2
  | succ r ih =>
    intro v xb xm xv x8 J1 I1 hxv hI hvr hF hb hm hQ
    subst hxv
    subst hI
    have hv : v < tr := by omega
    have hU := ch_it hT hch hv
    have hzU : Zr (up1 T p (nI v)) := hz.up (by omega) _
    refine GoF_wp1 80 ?_
    refine And.intro (fun h => absurd h (nI_ge hv (by omega))) (fun _ => ?_)
    refine And.intro (sw_k hW (Nat.le_of_ble_eq_true rfl) rfl) ?_
    refine Exists.intro _ (And.intro (sw_r hW (Nat.le_of_ble_eq_true rfl) rfl rfl) ?_)
    refine And.intro (sw_n hW (Nat.le_of_ble_eq_true rfl) rfl rfl (show p < 1446 by omega) (Nat.le_of_ble_eq_true rfl)) ?_
    rw [ix (show p < 2147483648 by omega), nw_put]
    refine And.intro (sw_k hW (Nat.le_of_ble_eq_true rfl) rfl) ?_
    refine s_goesOn hW hU (show d ≤ 10000 by omega) (fun J2 hJ2 => ?_)
    have hJ : Sc I J2 := hF.tr hJ2
    refine And.intro (sw_k hW (Nat.le_of_ble_eq_true rfl) rfl) ?_
    refine Exists.intro _ (And.intro (sw_r hW (Nat.le_of_ble_eq_true rfl) rfl rfl) ?_)
    refine And.intro (sw_n hW (Nat.le_of_ble_eq_true rfl) rfl rfl ((Nat.le_of_ble_eq_true rfl)) (Nat.le_of_ble_eq_true rfl)) ?_
    rw [show nw J2 (gnF (up1 T p (nI v)) d) 86 (4 : Int32).toNatClampNeg = geF T p d v from rfl]
    have e88 : nw J2 (gnF (up1 T p (nI v)) d) 88 = T := by rw [nwo _ _ (by decide), hJ 88 (by decide) (by decide), h88]
    refine And.intro (fun h => ?_) (fun h => ?_)
    · refine And.intro (fun _ => ?_) (fun h9 => absurd h h9)
      refine And.intro (sw_k hW (Nat.le_of_ble_eq_true rfl) rfl) ?_
      refine s_putsBack hW (gn_zr hU hzU d) (by rw [e88]; exact hz) ?_
      rw [e88, nw_2]
      have hno : ¬ bmM (geF T p d) v < geF T p d v := by rw [← hm]; exact Int32.not_lt.mpr h
      exact ih (v + 1) _ _ _ _ J2 _ (nI_1 v) rfl (by omega) hJ (by rw [bmB_s, if_neg hno]; exact hb) (by rw [bmM_s, if_neg hno]; exact hm) hQ
    · refine And.intro (fun h9 => absurd h9 h) (fun _ => ?_)
      refine And.intro (sw_k hW (Nat.le_of_ble_eq_true rfl) rfl) ?_
      refine s_putsBack hW (gn_zr hU hzU d) (by rw [e88]; exact hz) ?_
      rw [e88, nw_2]
      have hyes : bmM (geF T p d) v < geF T p d v := by rw [← hm]; exact Int32.not_le.mp h
      exact ih (v + 1) _ _ _ _ J2 _ (nI_1 v) rfl (by omega) hJ (by rw [bmB_s, if_pos hyes]) (by rw [bmM_s, if_pos hyes]) hQ
theorem s_most {nx sl : Nat} {ln : Nat → Nat} {R : Nat → Nat → Option Nat} {I : Nat → Nat → Int32} {Q : Option Value → Hp → Prop} {k : Nat} (hW : SW nx ln R) {n m d o p tr : Nat} {T : Nat → Int32} {c w : Int32} (hT : IT T n m) (hz : Zr T) (h86 : I 86 = T) (hz8 : Zr (I 88)) (hd : d ≤ 60) (hch : chOk n c o p tr) (hQ : ∀ J2, Sc (up1 I 88 T) J2 → Q (some (.int (if w = 0 then bmB (geF T p d) tr else bmM (geF T p d) tr))) (nx, sl, ln, R, nw J2 T)) : Go (k + 7) mX8_mostBy [.ref 85, .int (nI p), .int (nI tr), .int (nI d), .int w] (nx, sl, ln, R, I) Q := by
  refine Go_wp 60 rfl ?_
  refine And.intro (sw_k hW (Nat.le_of_ble_eq_true rfl) rfl) ?_
  refine s_thinks hW (by rw [h86]; exact hz) hz8 ?_
  rw [h86]
  refine l_most (I := up1 I 88 T) hW hT hz up1_eq hd hch tr 0 0 (-1) 0 _ (up1 I 88 T) _ rfl ?_ (by omega) Sc.rf rfl rfl hQ
  exact (nw_is (by rw [up1_ne (by decide)]; exact h86)).symm
theorem sim_best {nx : Nat} {ln : Nat → Nat} {R : Nat → Nat → Option Nat} {I I3 J2 : Nat → Nat → Int32} (hS : Sim nx ln R I) (hF : Fr 20 I I3) (hJ : Sc (up1 I3 88 (I 86)) J2) : Sim nx ln R (nw J2 (I 86)) := by
  obtain ⟨n0, m0, a1, a2, a3, a4, a5, a6, a7, a8⟩ := id hS.2.1
  refine hS.scr8 (fun o h1 h2 => ?_) ?_
  · unfold scO at h1
    by_cases e : o = 86
    · subst e; exact up1_eq
    · rw [nwo _ _ e, hJ o (by omega) (by omega), up1_ne h2, hF o (by omega) (by omega) (by omega)]
  · rw [nwo _ _ (by decide), hJ 88 (by decide) (by decide), up1_eq]; exact a5
theorem ge_pos {T : Nat → Int32} {n m o p tr d v : Nat} {c : Int32} (hT : IT T n m) (hG : GB T) (hch : chOk n c o p tr) (hd : d ≤ 60) (hv : v < tr) : -1 < geF T p d v := by
  have hn := hT.2.1
  obtain ⟨p1, p2, p3, p4⟩ := ch_p hch hn
  obtain ⟨dd, g, g1, g2, g3, g4⟩ := hG
  obtain ⟨-, s, hs, e⟩ := gn_24 (d := dd) (g := g) (ch_it hT hch hv) (by rw [up1_ne (by omega)]; exact g1) (by rw [up1_ne (by omega)]; exact g3) d
  unfold geF
  rw [e, tI_lt, tI_nI (by omega)]
  have : (-1 : Int32).toInt = -1 := rfl
  omega
theorem pub_heir (v x w : Int32) : Pub mX7_heir mX8_heir [.int v, .int x, .int w] := by
  intro k nx sl ln R I hS
  have hW := hS.1
  have ht := tw5
  obtain ⟨n, m, hT, hC, hL, hG, hZ, hZ7, hZ8, -⟩ := id hS.2.1
  have hn := hT.2.1
  refine Go_wp 60 rfl ?_
  refine And.intro (sw_k hW (Nat.le_of_ble_eq_true rfl) rfl) ?_
  refine c_isJug hW hC hT.1 hn (fun i hi e => ?_) (fun e => ?_)
  · subst e
    have hch : chOk n 0 i (24 + 5 * i + 3) 8 := Or.inl ⟨rfl, hi, rfl, rfl⟩
    refine And.intro (fun h9 => absurd h9 (by decide)) (fun _ => ?_)
    refine And.intro (sw_k hW (Nat.le_of_ble_eq_true rfl) rfl) ?_
    refine c_chg hW hT hC hL hch (fun d hd v hv => ge_pos hT hG hch hd hv) (fun e => ?_) (fun d h1 h2 e e2 => ?_) (fun d h1 h2 e a ha e2 I2 hF2 => ?_)
    · refine ⟨_, rfl, ?_⟩
      rw [← nw_self I]
      refine Go_wp 60 rfl ?_
      refine And.intro (sw_k hW (Nat.le_of_ble_eq_true rfl) rfl) ?_
      refine s_isJug (n := n) hW hT.1 hn (fun _ _ _ => ?_) (fun e => absurd rfl (e i hi))
      refine And.intro (fun h9 => absurd h9 (by decide)) (fun _ => ?_)
      refine s_isBt (a := 1) (b := 60) rfl rfl (fun j h1 h2 e2 => absurd e2 (e j h1 h2)) (fun _ => ?_)
      refine And.intro (fun _ => ?_) (fun h9 => absurd rfl h9)
      rw [nw_self]
      exact pub_end hS
    · refine ⟨_, rfl, ?_⟩
      rw [← nw_self I]
      refine Go_wp 60 rfl ?_
      refine And.intro (sw_k hW (Nat.le_of_ble_eq_true rfl) rfl) ?_
      refine s_isJug (n := n) hW hT.1 hn (fun _ _ _ => ?_) (fun e => absurd rfl (e i hi))
      refine And.intro (fun h9 => absurd h9 (by decide)) (fun _ => ?_)
      refine s_isBt (a := 1) (b := 60) rfl rfl (fun _ _ _ _ => ?_) (fun e3 => absurd e (e3 d h1 h2))
      refine And.intro (fun h9 => absurd h9 (by decide)) (fun _ => ?_)
      refine s_isIn (n := 2) rfl (fun j hj e3 => absurd e3 (e2 j hj)) (fun _ => ?_)
      refine And.intro (fun _ => ?_) (fun h9 => absurd rfl h9)
      rw [nw_self]
      exact pub_end hS
    · have h86 : I2 86 = I 86 := hF2 86 (by omega) (by omega) (by omega)
      refine ⟨_, rfl, ?_⟩
      rw [← nw_is h86]
      refine Go_wp 60 rfl ?_
      refine And.intro (sw_k hW (Nat.le_of_ble_eq_true rfl) rfl) ?_
      refine s_isJug (n := n) hW hT.1 hn (fun _ _ _ => ?_) (fun e => absurd rfl (e i hi))
      refine And.intro (fun h9 => absurd h9 (by decide)) (fun _ => ?_)
      refine s_isBt (a := 1) (b := 60) rfl rfl (fun _ _ _ _ => ?_) (fun e3 => absurd e (e3 d h1 h2))
      refine And.intro (fun h9 => absurd h9 (by decide)) (fun _ => ?_)
      refine s_isIn (n := 2) rfl (fun _ _ _ => ?_) (fun e3 => absurd e2 (e3 a ha))
      refine And.intro (fun h9 => absurd h9 (by decide)) (fun _ => ?_)
      refine And.intro (sw_k hW (Nat.le_of_ble_eq_true rfl) rfl) ?_
      rw [nw_is h86, show (24 : Int32) + 5 * nI i + 3 = nI (24 + 5 * i + 3) from jx i 3, e]
      refine s_most (n := n) (m := m) (tr := 8) hW hT hZ h86 (by rw [hF2 88 (by omega) (by omega) (by omega)]; exact hZ8) h2 hch (fun J2 hJ2 => ?_)
      exact pub_end (sim_best hS hF2 hJ2)
  · refine And.intro (fun _ => ?_) (fun h9 => absurd rfl h9)
    refine ⟨_, rfl, ?_⟩
    rw [← nw_self I]
    refine Go_wp 60 rfl ?_
    refine And.intro (sw_k hW (Nat.le_of_ble_eq_true rfl) rfl) ?_
    refine s_isJug (n := n) hW hT.1 hn (fun j hj e2 => absurd e2 (e j hj)) (fun _ => ?_)
    refine And.intro (fun _ => ?_) (fun h9 => absurd rfl h9)
    rw [nw_self]
    exact pub_end hS
theorem pub_hearts (v x w : Int32) : Pub mX7_hearts mX8_hearts [.int v, .int x, .int w] := by
  intro k nx sl ln R I hS
  have hW := hS.1
  have ht := tw5
  obtain ⟨n, m, hT, hC, hL, hG, hZ, hZ7, hZ8, -⟩ := id hS.2.1
  have hn := hT.2.1
  refine Go_wp 60 rfl ?_
  refine c_isHand (fun i hi e => ?_) (fun e => ?_)
  · subst e
    have hch : chOk n 1 i (8 + i) 10 := Or.inr (Or.inl ⟨rfl, hi, rfl, rfl⟩)
    refine And.intro (fun h9 => absurd h9 (by decide)) (fun _ => ?_)
    refine And.intro (sw_k hW (Nat.le_of_ble_eq_true rfl) rfl) ?_
    refine c_chg hW hT hC hL hch (fun d hd v hv => ge_pos hT hG hch hd hv) (fun e => ?_) (fun d h1 h2 e e2 => ?_) (fun d h1 h2 e a ha e2 I2 hF2 => ?_)
    · refine ⟨_, rfl, ?_⟩
      rw [← nw_self I]
      refine Go_wp 60 rfl ?_
      refine s_isHand (fun _ _ _ => ?_) (fun e => absurd rfl (e i hi))
      refine And.intro (fun h9 => absurd h9 (by decide)) (fun _ => ?_)
      refine s_isBt (a := 1) (b := 60) rfl rfl (fun j h1 h2 e2 => absurd e2 (e j h1 h2)) (fun _ => ?_)
      refine And.intro (fun _ => ?_) (fun h9 => absurd rfl h9)
      rw [nw_self]
      exact pub_end hS
    · refine ⟨_, rfl, ?_⟩
      rw [← nw_self I]
      refine Go_wp 60 rfl ?_
      refine s_isHand (fun _ _ _ => ?_) (fun e => absurd rfl (e i hi))
      refine And.intro (fun h9 => absurd h9 (by decide)) (fun _ => ?_)
      refine s_isBt (a := 1) (b := 60) rfl rfl (fun _ _ _ _ => ?_) (fun e3 => absurd e (e3 d h1 h2))
      refine And.intro (fun h9 => absurd h9 (by decide)) (fun _ => ?_)
      refine s_isIn (n := 2) rfl (fun j hj e3 => absurd e3 (e2 j hj)) (fun _ => ?_)
      refine And.intro (fun _ => ?_) (fun h9 => absurd rfl h9)
      rw [nw_self]
      exact pub_end hS
    · have h86 : I2 86 = I 86 := hF2 86 (by omega) (by omega) (by omega)
      refine ⟨_, rfl, ?_⟩
      rw [← nw_is h86]
      refine Go_wp 60 rfl ?_
      refine s_isHand (fun _ _ _ => ?_) (fun e => absurd rfl (e i hi))
      refine And.intro (fun h9 => absurd h9 (by decide)) (fun _ => ?_)
      refine s_isBt (a := 1) (b := 60) rfl rfl (fun _ _ _ _ => ?_) (fun e3 => absurd e (e3 d h1 h2))
      refine And.intro (fun h9 => absurd h9 (by decide)) (fun _ => ?_)
      refine s_isIn (n := 2) rfl (fun _ _ _ => ?_) (fun e3 => absurd e2 (e3 a ha))
      refine And.intro (fun h9 => absurd h9 (by decide)) (fun _ => ?_)
      refine And.intro (sw_k hW (Nat.le_of_ble_eq_true rfl) rfl) ?_
      rw [nw_is h86, show (8 : Int32) + nI i = nI (8 + i) from nI_add 8 i, e]
      refine s_most (n := n) (m := m) (tr := 10) hW hT hZ h86 (by rw [hF2 88 (by omega) (by omega) (by omega)]; exact hZ8) h2 hch (fun J2 hJ2 => ?_)
      exact pub_end (sim_best hS hF2 hJ2)
  · refine And.intro (fun _ => ?_) (fun h9 => absurd rfl h9)
    refine ⟨_, rfl, ?_⟩
    rw [← nw_self I]
    refine Go_wp 60 rfl ?_
    refine s_isHand (fun j hj e2 => absurd e2 (e j hj)) (fun _ => ?_)
    refine And.intro (fun _ => ?_) (fun h9 => absurd rfl h9)
    rw [nw_self]
    exact pub_end hS
theorem pub_becomes (v x w : Int32) : Pub mX7_becomes mX8_becomes [.int v, .int x, .int w] := by
  intro k nx sl ln R I hS
  have hW := hS.1
  have ht := tw5
  obtain ⟨n, m, hT, hC, hL, hG, hZ, hZ7, hZ8, -⟩ := id hS.2.1
  have hn := hT.2.1
  refine Go_wp 60 rfl ?_
  refine And.intro (sw_k hW (Nat.le_of_ble_eq_true rfl) rfl) ?_
  refine c_isJug hW hC hT.1 hn (fun i hi e => ?_) (fun e => ?_)
  · subst e
    have hch : chOk n 2 i (24 + 5 * i + 0) 6 := Or.inr (Or.inr ⟨rfl, hi, rfl, rfl⟩)
    refine And.intro (fun h9 => absurd h9 (by decide)) (fun _ => ?_)
    refine And.intro (sw_k hW (Nat.le_of_ble_eq_true rfl) rfl) ?_
    refine c_chg hW hT hC hL hch (fun d hd v hv => ge_pos hT hG hch hd hv) (fun e => ?_) (fun d h1 h2 e e2 => ?_) (fun d h1 h2 e a ha e2 I2 hF2 => ?_)
    · refine ⟨_, rfl, ?_⟩
      rw [← nw_self I]
      refine Go_wp 60 rfl ?_
      refine And.intro (sw_k hW (Nat.le_of_ble_eq_true rfl) rfl) ?_
      refine s_isJug (n := n) hW hT.1 hn (fun _ _ _ => ?_) (fun e => absurd rfl (e i hi))
      refine And.intro (fun h9 => absurd h9 (by decide)) (fun _ => ?_)
      refine s_isBt (a := 1) (b := 60) rfl rfl (fun j h1 h2 e2 => absurd e2 (e j h1 h2)) (fun _ => ?_)
      refine And.intro (fun _ => ?_) (fun h9 => absurd rfl h9)
      rw [nw_self]
      exact pub_end hS
    · refine ⟨_, rfl, ?_⟩
      rw [← nw_self I]
      refine Go_wp 60 rfl ?_
      refine And.intro (sw_k hW (Nat.le_of_ble_eq_true rfl) rfl) ?_
      refine s_isJug (n := n) hW hT.1 hn (fun _ _ _ => ?_) (fun e => absurd rfl (e i hi))
      refine And.intro (fun h9 => absurd h9 (by decide)) (fun _ => ?_)
      refine s_isBt (a := 1) (b := 60) rfl rfl (fun _ _ _ _ => ?_) (fun e3 => absurd e (e3 d h1 h2))
      refine And.intro (fun h9 => absurd h9 (by decide)) (fun _ => ?_)
      refine s_isIn (n := 2) rfl (fun j hj e3 => absurd e3 (e2 j hj)) (fun _ => ?_)
      refine And.intro (fun _ => ?_) (fun h9 => absurd rfl h9)
      rw [nw_self]
      exact pub_end hS
    · have h86 : I2 86 = I 86 := hF2 86 (by omega) (by omega) (by omega)
      refine ⟨_, rfl, ?_⟩
      rw [← nw_is h86]
      refine Go_wp 60 rfl ?_
      refine And.intro (sw_k hW (Nat.le_of_ble_eq_true rfl) rfl) ?_
      refine s_isJug (n := n) hW hT.1 hn (fun _ _ _ => ?_) (fun e => absurd rfl (e i hi))
      refine And.intro (fun h9 => absurd h9 (by decide)) (fun _ => ?_)
      refine s_isBt (a := 1) (b := 60) rfl rfl (fun _ _ _ _ => ?_) (fun e3 => absurd e (e3 d h1 h2))
      refine And.intro (fun h9 => absurd h9 (by decide)) (fun _ => ?_)
      refine s_isIn (n := 2) rfl (fun _ _ _ => ?_) (fun e3 => absurd e2 (e3 a ha))
      refine And.intro (fun h9 => absurd h9 (by decide)) (fun _ => ?_)
      refine And.intro (sw_k hW (Nat.le_of_ble_eq_true rfl) rfl) ?_
      rw [nw_is h86, jx0, e]
      refine s_most (n := n) (m := m) (tr := 6) hW hT hZ h86 (by rw [hF2 88 (by omega) (by omega) (by omega)]; exact hZ8) h2 hch (fun J2 hJ2 => ?_)
      exact pub_end (sim_best hS hF2 hJ2)
  · refine And.intro (fun _ => ?_) (fun h9 => absurd rfl h9)
    refine ⟨_, rfl, ?_⟩
    rw [← nw_self I]
    refine Go_wp 60 rfl ?_
    refine And.intro (sw_k hW (Nat.le_of_ble_eq_true rfl) rfl) ?_
    refine s_isJug (n := n) hW hT.1 hn (fun j hj e2 => absurd e2 (e j hj)) (fun _ => ?_)
    refine And.intro (fun _ => ?_) (fun h9 => absurd rfl h9)
    rw [nw_self]
    exact pub_end hS
