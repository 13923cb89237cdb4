/-! Public methods: the rest of a number; a sheet read. -/
theorem irm_m1 (x : Int32) : irm x (-1) = 0 := by
  have h : x / -1 = -x := by
    rw [tI_eq, Int32.toInt_div, show (-1 : Int32).toInt = -1 from rfl, Int.tdiv_neg, Int.tdiv_one, Int32.toInt_neg]
  unfold irm
  rw [h, Int32.neg_mul, Int32.mul_neg, Int32.mul_one, Int32.neg_neg, Int32.sub_self]
theorem pub_rest (v w : Int32) : Pub mX7_rest mX8_rest [.int v, .int w] := by
  intro k nx sl ln R I hS
  have hW := hS.1
  refine Go_wp 60 rfl ?_
  refine c_isSlot (fun i hi e => ?_) (fun e => ?_)
  · subst e
    refine And.intro (fun _ => ?_) (fun h9 => absurd (by decide) h9)
    have m0 : ∀ o, I o (nI i).toNatClampNeg = I o i := fun o => by rw [ix (by omega)]
    obtain ⟨s0, s1⟩ := hS.2.2.2.2.1 i hi
    have s1' : I 103 i = 0 ∨ I 103 i = 1 ∨ I 103 i = 2 ∨ I 103 i = 3 ∧ I (63 + 4 * i) 3 = I 104 i := by
      rcases s1 with g0 | ⟨g0, -⟩ | ⟨g0, -⟩ | ⟨g0, g1⟩
      · exact Or.inl g0
      · exact Or.inr (Or.inl g0)
      · exact Or.inr (Or.inr (Or.inl g0))
      · exact Or.inr (Or.inr (Or.inr ⟨g0, g1⟩))
    clear s1
    refine And.intro (sw_k hW (Nat.le_of_ble_eq_true rfl) rfl) ?_
    refine Exists.intro _ (And.intro (sw_r hW (Nat.le_of_ble_eq_true rfl) rfl rfl) ?_)
    refine And.intro (w_asl hW hi) (Exists.intro _ (And.intro (w_rsl hW hi) ?_))
    refine And.intro (w_slk hW hi) ?_
    rw [s0]
    rcases s1' with g0 | g0 | g0 | ⟨g0, g1⟩
    · rw [g0]
      refine And.intro (fun h9 => absurd rfl h9) (fun _ => ?_)
      refine ⟨_, rfl, ?_⟩
      refine Go_wp 60 rfl ?_
      refine s_isSlot (fun _ _ _ => ?_) (fun e => absurd rfl (e i hi))
      refine And.intro (fun _ => ?_) (fun h9 => absurd (by decide) h9)
      refine And.intro (sw_k hW (Nat.le_of_ble_eq_true rfl) rfl) ?_
      refine Exists.intro _ (And.intro (sw_r hW (Nat.le_of_ble_eq_true rfl) rfl rfl) ?_)
      refine And.intro (sw_n hW (Nat.le_of_ble_eq_true rfl) rfl rfl (hi) (Nat.le_of_ble_eq_true rfl)) ?_
      rw [m0 103, g0]
      refine And.intro (fun h9 => absurd rfl h9) (fun _ => ?_)
      exact pub_end hS
    · rw [g0]
      refine And.intro (fun _ => ?_) (fun h9 => absurd (by decide) h9)
      refine And.intro (w_slk hW hi) ?_
      rw [s0, g0]
      refine And.intro (fun h9 => absurd h9 (by decide)) (fun _ => ?_)
      refine ⟨_, rfl, ?_⟩
      refine Go_wp 60 rfl ?_
      refine s_isSlot (fun _ _ _ => ?_) (fun e => absurd rfl (e i hi))
      refine And.intro (fun _ => ?_) (fun h9 => absurd (by decide) h9)
      refine And.intro (sw_k hW (Nat.le_of_ble_eq_true rfl) rfl) ?_
      refine Exists.intro _ (And.intro (sw_r hW (Nat.le_of_ble_eq_true rfl) rfl rfl) ?_)
      refine And.intro (sw_n hW (Nat.le_of_ble_eq_true rfl) rfl rfl (hi) (Nat.le_of_ble_eq_true rfl)) ?_
      rw [m0 103, g0]
      refine And.intro (fun _ => ?_) (fun h9 => absurd (by decide) h9)
      refine And.intro (sw_k hW (Nat.le_of_ble_eq_true rfl) rfl) ?_
      refine Exists.intro _ (And.intro (sw_r hW (Nat.le_of_ble_eq_true rfl) rfl rfl) ?_)
      refine And.intro (sw_n hW (Nat.le_of_ble_eq_true rfl) rfl rfl (hi) (Nat.le_of_ble_eq_true rfl)) ?_
      rw [m0 103, g0]
      refine And.intro (fun h9 => absurd h9 (by decide)) (fun _ => ?_)
      exact pub_end hS
    · rw [g0]
      refine And.intro (fun _ => ?_) (fun h9 => absurd (by decide) h9)
      refine And.intro (w_slk hW hi) ?_
      rw [s0, g0]
      refine And.intro (fun h9 => absurd h9 (by decide)) (fun _ => ?_)
      refine ⟨_, rfl, ?_⟩
      refine Go_wp 60 rfl ?_
      refine s_isSlot (fun _ _ _ => ?_) (fun e => absurd rfl (e i hi))
      refine And.intro (fun _ => ?_) (fun h9 => absurd (by decide) h9)
      refine And.intro (sw_k hW (Nat.le_of_ble_eq_true rfl) rfl) ?_
      refine Exists.intro _ (And.intro (sw_r hW (Nat.le_of_ble_eq_true rfl) rfl rfl) ?_)
      refine And.intro (sw_n hW (Nat.le_of_ble_eq_true rfl) rfl rfl (hi) (Nat.le_of_ble_eq_true rfl)) ?_
      rw [m0 103, g0]
      refine And.intro (fun _ => ?_) (fun h9 => absurd (by decide) h9)
      refine And.intro (sw_k hW (Nat.le_of_ble_eq_true rfl) rfl) ?_
      refine Exists.intro _ (And.intro (sw_r hW (Nat.le_of_ble_eq_true rfl) rfl rfl) ?_)
      refine And.intro (sw_n hW (Nat.le_of_ble_eq_true rfl) rfl rfl (hi) (Nat.le_of_ble_eq_true rfl)) ?_
      rw [m0 103, g0]
      refine And.intro (fun h9 => absurd h9 (by decide)) (fun _ => ?_)
      exact pub_end hS
    · rw [g0]
      refine And.intro (fun _ => ?_) (fun h9 => absurd (by decide) h9)
      refine And.intro (w_slk hW hi) ?_
      rw [s0, g0]
      refine And.intro (fun _ => ?_) (fun h9 => absurd rfl h9)
      refine And.intro (fun hw => ?_) (fun hw => ?_)
      · refine And.intro (w_slk hW hi) ?_
        refine And.intro hw ?_
        refine ⟨_, rfl, ?_⟩
        refine Go_wp 60 rfl ?_
        refine s_isSlot (fun _ _ _ => ?_) (fun e => absurd rfl (e i hi))
        refine And.intro (fun _ => ?_) (fun h9 => absurd (by decide) h9)
        refine And.intro (sw_k hW (Nat.le_of_ble_eq_true rfl) rfl) ?_
        refine Exists.intro _ (And.intro (sw_r hW (Nat.le_of_ble_eq_true rfl) rfl rfl) ?_)
        refine And.intro (sw_n hW (Nat.le_of_ble_eq_true rfl) rfl rfl (hi) (Nat.le_of_ble_eq_true rfl)) ?_
        rw [m0 103, g0]
        refine And.intro (fun _ => ?_) (fun h9 => absurd (by decide) h9)
        refine And.intro (sw_k hW (Nat.le_of_ble_eq_true rfl) rfl) ?_
        refine Exists.intro _ (And.intro (sw_r hW (Nat.le_of_ble_eq_true rfl) rfl rfl) ?_)
        refine And.intro (sw_n hW (Nat.le_of_ble_eq_true rfl) rfl rfl (hi) (Nat.le_of_ble_eq_true rfl)) ?_
        rw [m0 103, g0]
        refine And.intro (fun _ => ?_) (fun h9 => absurd rfl h9)
        refine And.intro (fun _ => ?_) (fun h9 => absurd hw h9)
        refine And.intro (fun h1 => ?_) (fun h1 => ?_)
        · refine And.intro (sw_k hW (Nat.le_of_ble_eq_true rfl) rfl) ?_
          refine Exists.intro _ (And.intro (sw_r hW (Nat.le_of_ble_eq_true rfl) rfl rfl) ?_)
          refine And.intro (sw_n hW (Nat.le_of_ble_eq_true rfl) rfl rfl (hi) (Nat.le_of_ble_eq_true rfl)) ?_
          refine And.intro hw ?_
          rw [m0 104, g1]
          exact pub_end hS
        · rw [Decidable.of_not_not h1, irm_m1]
          exact pub_end hS
      · refine ⟨_, rfl, ?_⟩
        refine Go_wp 60 rfl ?_
        refine s_isSlot (fun _ _ _ => ?_) (fun e => absurd rfl (e i hi))
        refine And.intro (fun _ => ?_) (fun h9 => absurd (by decide) h9)
        refine And.intro (sw_k hW (Nat.le_of_ble_eq_true rfl) rfl) ?_
        refine Exists.intro _ (And.intro (sw_r hW (Nat.le_of_ble_eq_true rfl) rfl rfl) ?_)
        refine And.intro (sw_n hW (Nat.le_of_ble_eq_true rfl) rfl rfl (hi) (Nat.le_of_ble_eq_true rfl)) ?_
        rw [m0 103, g0]
        refine And.intro (fun _ => ?_) (fun h9 => absurd (by decide) h9)
        refine And.intro (sw_k hW (Nat.le_of_ble_eq_true rfl) rfl) ?_
        refine Exists.intro _ (And.intro (sw_r hW (Nat.le_of_ble_eq_true rfl) rfl rfl) ?_)
        refine And.intro (sw_n hW (Nat.le_of_ble_eq_true rfl) rfl rfl (hi) (Nat.le_of_ble_eq_true rfl)) ?_
        rw [m0 103, g0]
        refine And.intro (fun _ => ?_) (fun h9 => absurd rfl h9)
        refine And.intro (fun h9 => absurd h9 hw) (fun _ => ?_)
        exact pub_end hS
  · refine And.intro (fun h9 => absurd rfl h9) (fun _ => ?_)
    refine ⟨_, rfl, ?_⟩
    refine Go_wp 60 rfl ?_
    refine s_isSlot (fun j hj e2 => absurd e2 (e j hj)) (fun _ => ?_)
    refine And.intro (fun h9 => absurd rfl h9) (fun _ => ?_)
    exact pub_end hS
/-- the first place at which a sheet is not the hand of that jug -/
def rsF (C T : Nat → Int32) (n : Nat) : Nat → Nat → Int32
  | 0, _ => -1000000005
  | r + 1, i => if ¬ C i = -1000000005 ∧ ¬ (i < n ∧ T (24 + 5 * i + 3) = C i) then nI i else rsF C T n r (i + 1)
theorem l_creads {nx sl : Nat} {ln : Nat → Nat} {R : Nat → Nat → Option Nat} {I : Nat → Nat → Int32} {Q : Option Value → Hp → Prop} {k : Nat} (hW : SW nx ln R) {s l n m : Nat} {T : Nat → Int32} (hs : s < 4) (l4 : l ≤ 24) (k6 : I (54 + 2 * s) 1 = nI l) (hC : CT I 5 T n m) (hT : T 1 = nI n) (hn : n ≤ 10) : ∀ (r i : Nat) (xi : Int32), xi = nI i → i + r = l → Q (some (.int (rsF (I (55 + 2 * s)) T n r i))) (nx, sl, ln, R, I) → GoF (k + 3) mX7_reads 29 [some (.ref 0), some (.int (nI s)), some (.ref (54 + 2 * s)), some (.int xi)] [] (nx, sl, ln, R, I) Q := by
  have ht := tw5
  intro r
  induction r with
  | zero =>
    intro i xi hxi hir hQ
    subst hxi
    have hid : i = l := by omega
    subst hid
    refine GoF_wp1 40 ?_
    refine And.intro (w_shk hW hs) ?_
    rw [k6]
    exact And.intro (fun _ => hQ) (fun h => absurd (Int32.le_refl _) h)
  | succ r ih =>
    intro i xi hxi hir hQ
    subst hxi
    refine GoF_wp1 40 ?_
    refine And.intro (w_shk hW hs) ?_
    rw [k6]
    refine And.intro (fun h => absurd h (nI_ge (show i < l by omega) (by omega))) (fun _ => ?_)
    refine And.intro (fun h => absurd h (nI_ge (show i < 24 by omega) (by decide))) (fun _ => ?_)
    refine And.intro (w_shk hW hs) ?_
    refine c_isNumber hW (w_shk hW hs) k6 l4 (show i < l by omega) (w_rq hW hs) (w_ceq hW hs (by omega)) ?_
    unfold rsF at hQ
    by_cases hq : I (55 + 2 * s) i = -1000000005
    · rw [if_neg (fun h => h.1 hq)] at hQ
      rw [if_pos hq]
      refine And.intro (fun _ => ?_) (fun h9 => absurd rfl h9)
      exact ih (i + 1) _ (nI_1 i) (by omega) hQ
    · rw [if_neg hq]
      refine And.intro (fun h9 => absurd h9 (by decide)) (fun _ => ?_)
      refine And.intro (sw_k hW (Nat.le_of_ble_eq_true rfl) rfl) ?_
      refine c_isJug hW hC hT hn (fun j hj e => ?_) (fun e => ?_)
      · have hji : i = j := (nI_eq (by omega) (by omega)).mp e
        subst hji
        refine And.intro (fun h9 => absurd h9 (by decide)) (fun _ => ?_)
        refine And.intro (sw_k hW (Nat.le_of_ble_eq_true rfl) rfl) ?_
        refine Exists.intro _ (And.intro (sw_r hW (Nat.le_of_ble_eq_true rfl) rfl rfl) ?_)
        refine And.intro (w_t hW ht) (Exists.intro _ (And.intro (w_r1 hW ht) ?_))
        refine And.intro (w_aj hW ht (by omega)) (Exists.intro _ (And.intro (w_jug hW ht (by omega)) ?_))
        refine And.intro (w_kj hW ht (by omega)) ?_
        refine And.intro (w_shk hW hs) (Exists.intro _ (And.intro (w_rq hW hs) ?_))
        refine And.intro (w_ceq hW hs (show i < 24 by omega)) ?_
        rw [ix (show i < 2147483648 by omega), hC.2.1 i hj 3 (by decide)]
        refine And.intro (fun h => ?_) (fun h => ?_)
        · rw [if_neg (fun q => q.2 ⟨hj, h⟩)] at hQ
          exact ih (i + 1) _ (nI_1 i) (by omega) hQ
        · rw [if_pos ⟨hq, fun q => h q.2⟩] at hQ
          exact hQ
      · refine And.intro (fun _ => ?_) (fun h9 => absurd rfl h9)
        rw [if_pos ⟨hq, fun q => e i q.1 rfl⟩] at hQ
        exact hQ
theorem l_reads {nx sl : Nat} {ln : Nat → Nat} {R : Nat → Nat → Option Nat} {J : Nat → Nat → Int32} {T : Nat → Int32} {Q : Option Value → Hp → Prop} {k : Nat} (hW : SW nx ln R) {s l n : Nat} {C : Nat → Int32} {x3 : Option Value} (hs : s < 4) (l4 : l ≤ 24) (k6 : J 101 s = nI l) (hT : T 1 = nI n) (hn : n ≤ 10) (hC : ∀ i, i < 24 → C i = J 102 (24 * s + i)) : ∀ (r i : Nat) (xi : Int32) (x3 : Option Value), xi = nI i → i + r = l → Q (some (.int (rsF C T n r i))) (nx, sl, ln, R, nw J T) → GoF (k + 2) mX8_reads 24 [some (.ref 85), some (.int (nI s)), some (.int xi), x3] [] (nx, sl, ln, R, nw J T) Q := by
  have n101 : nw J T 101 (nI s).toNatClampNeg = nI l := by rw [ix (by omega), nwo _ _ (by decide)]; exact k6
  intro r
  induction r with
  | zero =>
    intro i xi x3 hxi hir hQ
    subst hxi
    have hid : i = l := by omega
    subst hid
    refine GoF_wp1 40 ?_
    refine And.intro (sw_k hW (Nat.le_of_ble_eq_true rfl) rfl) ?_
    refine Exists.intro _ (And.intro (sw_r hW (Nat.le_of_ble_eq_true rfl) rfl rfl) ?_)
    refine And.intro (sw_n hW (Nat.le_of_ble_eq_true rfl) rfl rfl (hs) (Nat.le_of_ble_eq_true rfl)) ?_
    rw [n101]
    exact And.intro (fun _ => hQ) (fun h => absurd (Int32.le_refl _) h)
  | succ r ih =>
    intro i xi x3 hxi hir hQ
    subst hxi
    refine GoF_wp1 40 ?_
    refine And.intro (sw_k hW (Nat.le_of_ble_eq_true rfl) rfl) ?_
    refine Exists.intro _ (And.intro (sw_r hW (Nat.le_of_ble_eq_true rfl) rfl rfl) ?_)
    refine And.intro (sw_n hW (Nat.le_of_ble_eq_true rfl) rfl rfl (hs) (Nat.le_of_ble_eq_true rfl)) ?_
    rw [n101]
    refine And.intro (fun h => absurd h (nI_ge (show i < l by omega) (by omega))) (fun _ => ?_)
    refine And.intro (sw_k hW (Nat.le_of_ble_eq_true rfl) rfl) ?_
    refine Exists.intro _ (And.intro (sw_r hW (Nat.le_of_ble_eq_true rfl) rfl rfl) ?_)
    refine And.intro (by rw [cx24]; exact sw_n hW (Nat.le_of_ble_eq_true rfl) rfl rfl (show 24 * s + i < 96 by omega) (Nat.le_of_ble_eq_true rfl)) ?_
    rw [show nw J T 102 ((24 : Int32) * nI s + nI i).toNatClampNeg = C i by rw [cx24, ix (by omega), nwo _ _ (by decide)]; exact (hC i (by omega)).symm]
    unfold rsF at hQ
    refine And.intro (fun hq => ?_) (fun hq => ?_)
    · rw [if_neg (fun h => h.1 hq)] at hQ
      exact ih (i + 1) _ _ (nI_1 i) (by omega) hQ
    · refine And.intro (sw_k hW (Nat.le_of_ble_eq_true rfl) rfl) ?_
      refine s_isJug (n := n) hW hT hn (fun j hj e => ?_) (fun e => ?_)
      · have hji : i = j := (nI_eq (by omega) (by omega)).mp e
        subst hji
        refine And.intro (fun h9 => absurd h9 (by decide)) (fun _ => ?_)
        refine And.intro (sw_k hW (Nat.le_of_ble_eq_true rfl) rfl) ?_
        refine s_of (w := 3) hW (show i < 10 by omega) (by decide) ?_
        refine And.intro (fun h => ?_) (fun h => ?_)
        · rw [if_neg (fun q => q.2 ⟨hj, h.symm⟩)] at hQ
          exact ih (i + 1) _ _ (nI_1 i) (by omega) hQ
        · rw [if_pos ⟨hq, fun q => h q.2.symm⟩] at hQ
          exact hQ
      · refine And.intro (fun _ => ?_) (fun h9 => absurd rfl h9)
        rw [if_pos ⟨hq, fun q => e i q.1 rfl⟩] at hQ
        exact hQ
theorem rs_eq {C D T : Nat → Int32} {n l : Nat} (h : ∀ i, i < 24 → C i = D i) : ∀ r i, i + r = l → l ≤ 24 → rsF C T n r i = rsF D T n r i := by
  intro r
  induction r with
  | zero => intro i _ _; rfl
  | succ r ih =>
    intro i h1 h2
    unfold rsF
    rw [h i (by omega), ih (i + 1) (by omega) h2]
theorem pub_reads (v : Int32) : Pub mX7_reads mX8_reads [.int v] := by
  intro k nx sl ln R I hS
  have hW := hS.1
  have ht := tw5
  obtain ⟨n, m, hT, hC, hL, hG, hZ, hZ7, hZ8, -⟩ := id hS.2.1
  have hn := hT.2.1
  refine Go_wp 60 rfl ?_
  refine c_isSheet (fun s hs e => ?_) (fun e => ?_)
  · subst e
    refine And.intro (fun _ => ?_) (fun h9 => absurd (by decide) h9)
    obtain ⟨s0, s1, ⟨l, l4, k6, k7⟩, k8⟩ := hS.2.2.2.1 s hs
    have n100 : I 100 (nI s).toNatClampNeg = I 100 s := by rw [ix (by omega)]
    refine And.intro (sw_k hW (Nat.le_of_ble_eq_true rfl) rfl) ?_
    refine Exists.intro _ (And.intro (sw_r hW (Nat.le_of_ble_eq_true rfl) rfl rfl) ?_)
    refine And.intro (w_ash hW hs) (Exists.intro _ (And.intro (w_rsh hW hs) ?_))
    refine And.intro (w_shk hW hs) ?_
    refine c_isMissing hW (w_shk hW hs) (fun c => ?_) (fun c => ?_)
    · rw [s0] at c
      refine And.intro (fun h9 => absurd h9 (by decide)) (fun _ => ?_)
      refine ⟨_, rfl, ?_⟩
      refine Go_wp 60 rfl ?_
      refine s_isSheet (fun _ _ _ => ?_) (fun e => absurd rfl (e s hs))
      refine And.intro (fun _ => ?_) (fun h9 => absurd (by decide) h9)
      refine And.intro (sw_k hW (Nat.le_of_ble_eq_true rfl) rfl) ?_
      refine Exists.intro _ (And.intro (sw_r hW (Nat.le_of_ble_eq_true rfl) rfl rfl) ?_)
      refine And.intro (sw_n hW (Nat.le_of_ble_eq_true rfl) rfl rfl (hs) (Nat.le_of_ble_eq_true rfl)) ?_
      rw [n100, c]
      refine And.intro (fun h9 => absurd h9 (by decide)) (fun _ => ?_)
      exact pub_end hS
    · rw [s0] at c
      refine And.intro (fun _ => ?_) (fun h9 => absurd rfl h9)
      refine l_creads (T := I 86) hW hs l4 k6 hC hT.1 hn l 0 0 rfl (by omega) ?_
      refine ⟨_, rfl, ?_⟩
      refine Go_wp 60 rfl ?_
      refine s_isSheet (fun _ _ _ => ?_) (fun e => absurd rfl (e s hs))
      refine And.intro (fun _ => ?_) (fun h9 => absurd (by decide) h9)
      refine And.intro (sw_k hW (Nat.le_of_ble_eq_true rfl) rfl) ?_
      refine Exists.intro _ (And.intro (sw_r hW (Nat.le_of_ble_eq_true rfl) rfl rfl) ?_)
      refine And.intro (sw_n hW (Nat.le_of_ble_eq_true rfl) rfl rfl (hs) (Nat.le_of_ble_eq_true rfl)) ?_
      rw [n100]
      have hg2 : (0 : Int32) ≤ I 100 s := by
        rcases s1 with q | q | q
        · exact absurd q c
        · rw [q]; decide
        · rw [q]; decide
      refine And.intro (fun _ => ?_) (fun h9 => absurd hg2 h9)
      rw [← nw_self I]
      refine l_reads (C := I (55 + 2 * s)) (x3 := none) hW hs l4 k7 hT.1 hn k8 l 0 0 _ rfl (by omega) ?_
      rw [nw_self]
      exact pub_end hS
  · refine And.intro (fun h9 => absurd rfl h9) (fun _ => ?_)
    refine ⟨_, rfl, ?_⟩
    refine Go_wp 60 rfl ?_
    refine s_isSheet (fun j hj e2 => absurd e2 (e j hj)) (fun _ => ?_)
    refine And.intro (fun h9 => absurd rfl h9) (fun _ => ?_)
    exact pub_end hS
