/-! The law: its loop, its start. -/
theorem cl_7 : Cond.classLink R_law 7 (RM 7) ∈ gdT := gd_in (List.mem_of_getElem? (i := 72) (by decide +kernel)) (by decide +kernel)
theorem cl_10 : Cond.classLink R_law 10 (RM 8) ∈ gdT := gd_in (List.mem_of_getElem? (i := 878) (by decide +kernel)) (by decide +kernel)
theorem mi_9 : Cond.methodLink R_law 9 (yM mX7_init) ∈ gdT := gd_in (List.mem_of_getElem? (i := 74) (by decide +kernel)) (by decide +kernel)
theorem mi_12 : Cond.methodLink R_law 12 (yM mX8_init) ∈ gdT := gd_in (List.mem_of_getElem? (i := 880) (by decide +kernel)) (by decide +kernel)
theorem lm6 {L i : Nat} (hL : L ≤ 3072) (hi : i ≤ 4000) : nI L - 6 < nI i ↔ L < i + 6 := by
  rw [Int32.lt_iff_toInt_lt, show (6 : Int32) = nI 6 from rfl, pk_sub_toInt (by omega) (by omega), nI_toInt (by omega)]
  omega
theorem d_tsw : decode code 33 = .ok (.tableswitch 1462 0 40 #[179, 232, 265, 298, 331, 374, 407, 440, 473, 496, 519, 542, 565, 588, 631, 664, 697, 740, 783, 826, 859, 872, 895, 938, 961, 974, 1007, 1030, 1073, 1116, 1139, 1162, 1225, 1268, 1301, 1334, 1367, 1390, 1413, 1426, 1439], 179) := by decide +kernel
set_option maxHeartbeats 4000000 in
theorem law_loop {p : Program} {l : Launch} {e : Env} {s : State} {m : MethodId} {below : List Frame} {meth : Method} {c : Code} {dC : Nat → ClassId} {dI : Nat → Nat → Nat} {cy : Nat → ClassId} {ta : Nat} {ad av : Nat → Nat} {b L : Nat} {xs : Nat → Int32} (hL : L ≤ 3072) (C0 : lw_At p s m meth c b L xs) (hC : Cw dC dI cy (OJ s.heap.size ad av ta) p s m #[Value.ref b] c) :
    ∀ (n i nx sl : Nat) (ln : Nat → Nat) (R : Nat → Nat → Option Nat) (I : Nat → Nat → Int32) (H : Heap) (locs : List Loc) (ls : Array Slot), L < i + 6 * n → i ≤ 3078 → Sim nx ln R I → nx % 2 = 1 → 3 * nx ≤ 327 + i → 3 * sl ≤ 120000 + 100 * i → Sj dC dI cy s.heap.size (OJ s.heap.size ad av ta) s (nx, sl, ln, R, I) H locs → lv_has ls 4 [(3, .int (nI i)), (2, .ref (s.heap.size + 85)), (1, .ref (s.heap.size + 0)), (0, .ref b)] → W p l e room_1 s m #[Value.ref b] below meth c H locs nx sl (lw_Z below #[Value.ref b] s) (F0 m 18 ls []) := by
  obtain ⟨hx, hb, hr, hml, hown, htl, hX, hbl, hlocks, hgv⟩ := id C0
  have hbA : ¬ (fun q : Nat => s.heap.size ≤ q) b := Nat.not_le.mpr hbl
  intro n
  induction n with
  | zero =>
    intro i nx sl ln R I H locs ls hn hi hSim hodd b1 b2 hS hl
    refine lv_iload_n hx hb (show decode code 18 = .ok (.iload_n 3, 1) by decide +kernel) rfl (lv_at hl 0 rfl) ?_
    refine lv_aload_n hx hb (show decode code 19 = .ok (.aload_n 0, 1) by decide +kernel) rfl (lv_at hl 3 rfl) ?_
    refine va_slen (A := fun q : Nat => s.heap.size ≤ q) hx hb hX hbl hbA hS.2.2 (show decode code 20 = .ok (.arraylength, 1) by decide +kernel) ?_
    refine lv_bipush (v := 6) hx hb (show decode code 21 = .ok (.bipush 6, 2) by decide +kernel) rfl ?_
    refine lv_isub hx hb (show decode code 23 = .ok (.isub, 1) by decide +kernel) ?_
    refine lv_icmp_gt (tgt := 1501) hx hb (show decode code 24 = .ok (.if_icmp .gt 1477, 3) by decide +kernel) rfl (fun _ => ?_) (fun q => absurd ((lm6 hL (by omega)).mpr (by omega)) q)
    refine lv_iconst (v := 1) hx hb (show decode code 1501 = .ok (.iconst 1, 1) by decide +kernel) rfl ?_
    refine va_forget (fun q hq => hS.2.2.2.2 q hq) ?_
    refine W.widen (k := 600000) (n := 7302250) (by omega) (by omega) ?_
    exact lw_ret hx hb hr hlocks (show decode code 1502 = .ok (.ireturn, 1) by decide +kernel)
  | succ n ih =>
    intro i nx sl ln R I H locs ls hn hi hSim hodd b1 b2 hS hl
    refine lv_iload_n hx hb (show decode code 18 = .ok (.iload_n 3, 1) by decide +kernel) rfl (lv_at hl 0 rfl) ?_
    refine lv_aload_n hx hb (show decode code 19 = .ok (.aload_n 0, 1) by decide +kernel) rfl (lv_at hl 3 rfl) ?_
    refine va_slen (A := fun q : Nat => s.heap.size ≤ q) hx hb hX hbl hbA hS.2.2 (show decode code 20 = .ok (.arraylength, 1) by decide +kernel) ?_
    refine lv_bipush (v := 6) hx hb (show decode code 21 = .ok (.bipush 6, 2) by decide +kernel) rfl ?_
    refine lv_isub hx hb (show decode code 23 = .ok (.isub, 1) by decide +kernel) ?_
    refine lv_icmp_gt (tgt := 1501) hx hb (show decode code 24 = .ok (.if_icmp .gt 1477, 3) by decide +kernel) rfl (fun _ => ?_) (fun q => ?_)
    · refine lv_iconst (v := 1) hx hb (show decode code 1501 = .ok (.iconst 1, 1) by decide +kernel) rfl ?_
      refine va_forget (fun q hq => hS.2.2.2.2 q hq) ?_
      refine W.widen (k := 600000) (n := 7302250) (by omega) (by omega) ?_
      exact lw_ret hx hb hr hlocks (show decode code 1502 = .ok (.ireturn, 1) by decide +kernel)
    · have hi6 : i + 6 ≤ L := by
        rcases Nat.lt_or_ge L (i + 6) with w | w
        · exact absurd ((lm6 hL (by omega)).mpr w) q
        · exact w
      have nxt : ∀ (nx2 sl2 : Nat) (ln2 : Nat → Nat) (R2 : Nat → Nat → Option Nat) (I2 : Nat → Nat → Int32) (H2 : Heap) (locs2 : List Loc), Sim nx2 ln2 R2 I2 → (nx2 = nx ∨ nx2 = nx + 2) → sl2 ≤ sl + 200 → Sj dC dI cy s.heap.size (OJ s.heap.size ad av ta) s (nx2, sl2, ln2, R2, I2) H2 locs2 → W p l e room_1 s m #[Value.ref b] below meth c H2 locs2 nx2 sl2 (lw_Z below #[Value.ref b] s) (F0 m 1495 ls []) := by
        intro nx2 sl2 ln2 R2 I2 H2 locs2 hSim2 c3 c2 hS2
        refine lv_iinc (k := 0) (v := nI (i + 6)) (lv' := [(3, .int (nI (i + 6))), (2, .ref (s.heap.size + 85)), (1, .ref (s.heap.size + 0)), (0, .ref b)]) hx hb (show decode code 1495 = .ok (.iinc 3 6, 3) by decide +kernel) hl rfl (nI_add i 6) (by decide) rfl ?_
        intro ls2 hl2
        refine lv_goto (tgt := 18) hx hb (show decode code 1498 = .ok (.goto (-1480), 3) by decide +kernel) rfl ?_
        exact ih (i + 6) nx2 sl2 ln2 R2 I2 H2 locs2 ls2 (by omega) (by omega) hSim2 (by omega) (by omega) (by omega) hS2 hl2
      refine lv_aload_n hx hb (show decode code 27 = .ok (.aload_n 0, 1) by decide +kernel) rfl (lv_at hl 3 rfl) ?_
      refine lv_iload_n hx hb (show decode code 28 = .ok (.iload_n 3, 1) by decide +kernel) rfl (lv_at hl 0 rfl) ?_
      refine va_sld (A := fun q : Nat => s.heap.size ≤ q) hx hb hX hbl hbA hS.2.2 (vp_in_nI (by omega) (by omega)) (show decode code 29 = .ok (.iaload, 1) by decide +kernel) ?_
      refine lv_bipush (v := 63) hx hb (show decode code 30 = .ok (.bipush 63, 2) by decide +kernel) rfl ?_
      refine lv_iand hx hb (show decode code 32 = .ok (.iand, 1) by decide +kernel) ?_
      obtain ⟨cs, hcs, ecs⟩ := pk_andE (xs (nI i).toNatClampNeg) (m := 63) 6 (by decide)
      rw [ecs]
      by_cases h40 : 40 < cs
      · refine lv_tableOut (tgt := 1495) hx hb d_tsw (Or.inr ?_) rfl ?_
        · rw [nI_toInt (by omega)]
          omega
        · exact nxt nx sl ln R I H locs hSim (Or.inl rfl) (by omega) hS
      · have htin : ∀ (tgt : Nat) (off : Int), (#[179, 232, 265, 298, 331, 374, 407, 440, 473, 496, 519, 542, 565, 588, 631, 664, 697, 740, 783, 826, 859, 872, 895, 938, 961, 974, 1007, 1030, 1073, 1116, 1139, 1162, 1225, 1268, 1301, 1334, 1367, 1390, 1413, 1426, 1439] : Array Int)[cs]? = some off → (33 : Int) + off = (tgt : Int) → W p l e room_1 s m #[Value.ref b] below meth c H locs nx sl (lw_Z below #[Value.ref b] s) (F0 m tgt ls []) → W p l e room_1 s m #[Value.ref b] below meth c H locs nx sl (lw_Z below #[Value.ref b] s) (F0 m (18 + 1 + 1 + 1 + 2 + 1 + 3 + 1 + 1 + 1 + 2 + 1) ls [.int (nI cs)]) := by
          intro tgt off ho ht kk
          refine lv_tableIn (off := off) (tgt := tgt) hx hb d_tsw (by rw [nI_toInt (by omega)]; omega) (by rw [nI_toInt (by omega)]; omega) ?_ ht kk
          rw [nI_toInt (by omega)]
          simpa using ho
        rcases (show cs = 0 ∨ cs = 1 ∨ cs = 2 ∨ cs = 3 ∨ cs = 4 ∨ cs = 5 ∨ cs = 6 ∨ cs = 7 ∨ cs = 8 ∨ cs = 9 ∨ cs = 10 ∨ cs = 11 ∨ cs = 12 ∨ cs = 13 ∨ cs = 14 ∨ cs = 15 ∨ cs = 16 ∨ cs = 17 ∨ cs = 18 ∨ cs = 19 ∨ cs = 20 ∨ cs = 21 ∨ cs = 22 ∨ cs = 23 ∨ cs = 24 ∨ cs = 25 ∨ cs = 26 ∨ cs = 27 ∨ cs = 28 ∨ cs = 29 ∨ cs = 30 ∨ cs = 31 ∨ cs = 32 ∨ cs = 33 ∨ cs = 34 ∨ cs = 35 ∨ cs = 36 ∨ cs = 37 ∨ cs = 38 ∨ cs = 39 ∨ cs = 40 by omega) with rfl | rfl | rfl | rfl | rfl | rfl | rfl | rfl | rfl | rfl | rfl | rfl | rfl | rfl | rfl | rfl | rfl | rfl | rfl | rfl | rfl | rfl | rfl | rfl | rfl | rfl | rfl | rfl | rfl | rfl | rfl | rfl | rfl | rfl | rfl | rfl | rfl | rfl | rfl | rfl | rfl
        · exact htin 212 179 rfl rfl (case_jug hC hX hbl hi6 hL hSim hodd b1 b2 hS hl nxt)
        · exact htin 265 232 rfl rfl (case_told hC hX hbl hi6 hL hSim hodd b1 b2 hS hl nxt)
        · exact htin 298 265 rfl rfl (case_as hC hX hbl hi6 hL hSim hodd b1 b2 hS hl nxt)
        · exact htin 331 298 rfl rfl (case_turns hC hX hbl hi6 hL hSim hodd b1 b2 hS hl nxt)
        · exact htin 364 331 rfl rfl (case_set hC hX hbl hi6 hL hSim hodd b1 b2 hS hl nxt)
        · exact htin 407 374 rfl rfl (case_gives hC hX hbl hi6 hL hSim hodd b1 b2 hS hl nxt)
        · exact htin 440 407 rfl rfl (case_heart hC hX hbl hi6 hL hSim hodd b1 b2 hS hl nxt)
        · exact htin 473 440 rfl rfl (case_hand hC hX hbl hi6 hL hSim hodd b1 b2 hS hl nxt)
        · exact htin 506 473 rfl rfl (case_frost hC hX hbl hi6 hL hSim hodd b1 b2 hS hl nxt)
        · exact htin 529 496 rfl rfl (case_deal hC hX hbl hi6 hL hSim hodd b1 b2 hS hl nxt)
        · exact htin 552 519 rfl rfl (case_seed hC hX hbl hi6 hL hSim hodd b1 b2 hS hl nxt)
        · exact htin 575 542 rfl rfl (case_days hC hX hbl hi6 hL hSim hodd b1 b2 hS hl nxt)
        · exact htin 598 565 rfl rfl (case_town hC hX hbl hi6 hL hSim hodd b1 b2 hS hl nxt)
        · exact htin 621 588 rfl rfl (case_measure hC hX hbl hi6 hL hSim hodd b1 b2 hS hl nxt)
        · exact htin 664 631 rfl rfl (case_behind hC hX hbl hi6 hL hSim hodd b1 b2 hS hl nxt)
        · exact htin 697 664 rfl rfl (case_enough hC hX hbl hi6 hL hSim hodd b1 b2 hS hl nxt)
        · exact htin 730 697 rfl rfl (case_heir hC hX hbl hi6 hL hSim hodd b1 b2 hS hl nxt)
        · exact htin 773 740 rfl rfl (case_hearts hC hX hbl hi6 hL hSim hodd b1 b2 hS hl nxt)
        · exact htin 816 783 rfl rfl (case_becomes hC hX hbl hi6 hL hSim hodd b1 b2 hS hl nxt)
        · exact htin 859 826 rfl rfl (case_like hC hX hbl hi6 hL hSim hodd b1 b2 hS hl nxt)
        · exact htin 892 859 rfl rfl (case_fee hC hX hbl hi6 hL hSim hodd b1 b2 hS hl nxt)
        · exact htin 905 872 rfl rfl (case_fine hC hX hbl hi6 hL hSim hodd b1 b2 hS hl nxt)
        · exact htin 928 895 rfl rfl (case_feed hC hX hbl hi6 hL hSim hodd b1 b2 hS hl nxt)
        · exact htin 971 938 rfl rfl (case_trim hC hX hbl hi6 hL hSim hodd b1 b2 hS hl nxt)
        · exact htin 994 961 rfl rfl (case_text hC hX hbl hi6 hL hSim hodd b1 b2 hS hl nxt)
        · exact htin 1007 974 rfl rfl (case_textTold hC hX hbl hi6 hL hSim hodd b1 b2 hS hl nxt)
        · exact htin 1040 1007 rfl rfl (case_why hC hX hbl hi6 hL hSim hodd b1 b2 hS hl nxt)
        · exact htin 1063 1030 rfl rfl (case_sheet hC hX hbl hi6 hL hSim hodd b1 b2 hS hl nxt)
        · exact htin 1106 1073 rfl rfl (case_mark hC hX hbl hi6 hL hSim hodd b1 b2 hS hl nxt)
        · exact htin 1149 1116 rfl rfl (case_pour hC hX hbl hi6 hL hSim hodd b1 b2 hS hl nxt)
        · exact htin 1172 1139 rfl rfl (case_reads hC hX hbl hi6 hL hSim hodd b1 b2 hS hl nxt)
        · exact htin 1195 1162 rfl rfl (case_copy hC hX hbl hi6 hL hSim hodd b1 b2 hS hl nxt)
        · exact htin 1258 1225 rfl rfl (case_lay hC hX hbl hi6 hL hSim hodd b1 b2 hS hl nxt)
        · exact htin 1301 1268 rfl rfl (case_ask hC hX hbl hi6 hL hSim hodd b1 b2 hS hl nxt)
        · exact htin 1334 1301 rfl rfl (case_item hC hX hbl hi6 hL hSim hodd b1 b2 hS hl nxt)
        · exact htin 1367 1334 rfl rfl (case_rest hC hX hbl hi6 hL hSim hodd b1 b2 hS hl nxt)
        · exact htin 1400 1367 rfl rfl (case_tell hC hX hbl hi6 hL hSim hodd b1 b2 hS hl nxt)
        · exact htin 1423 1390 rfl rfl (case_check hC hX hbl hi6 hL hSim hodd b1 b2 hS hl nxt)
        · exact htin 1446 1413 rfl rfl (case_keep hC hX hbl hi6 hL hSim hodd b1 b2 hS hl nxt)
        · exact htin 1459 1426 rfl rfl (case_back hC hX hbl hi6 hL hSim hodd b1 b2 hS hl nxt)
        · exact htin 1472 1439 rfl rfl (case_count hC hX hbl hi6 hL hSim hodd b1 b2 hS hl nxt)
def hE : Hp := (0, 0, fun _ => 0, fun _ _ => none, fun _ _ => 0)
theorem up1_c {α : Type} (x : α) (k : Nat) : up1 (fun _ => x) k x = fun _ => x := by
  funext j
  unfold up1
  split <;> rfl
set_option maxHeartbeats 4000000 in
theorem whole_start {p : Program} {e : Env} {s : State} {m : MethodId} {below : List Frame} {meth : Method} {c : Code} (l : Launch) (hflags : l.flags = flags0) {b L : Nat} {xs : Nat → Int32} (hL : L ≤ 3072) (C0 : lw_At p s m meth c b L xs) : W p l e room_1 s m #[Value.ref b] below meth c s.heap [] 0 0 (lw_Z below #[Value.ref b] s) (entryFrame m ([Value.ref b] : List Value).toArray 4) := by
  obtain ⟨hx, hb, hr, hml, hown, htl, hX, hbl, hlocks, hgv⟩ := id C0
  obtain ⟨dC, dI, cy, hK⟩ := env_K htl
  obtain ⟨ad, av, ta, hJ⟩ := env_J htl hgv
  have hOd := odOk_J s.heap.size ta ad av
  have hC : Cw dC dI cy (OJ s.heap.size ad av ta) p s m #[Value.ref b] c := ⟨hx, hb, hml, hown, fun w hw => htl w (List.mem_filter.mp hw).1, hK, hOd⟩
  have hl := lv_entry ([.ref b]) (n := 4) (Nat.le_of_ble_eq_true rfl)
  rw [lg_entry_eq]
  generalize (lg_sl ([.ref b]) ++ List.replicate (4 - (lg_sl ([.ref b])).length) Slot.unset).toArray = ls at hl ⊢
  replace hl : lv_has ls 4 [(0, .ref b)] := hl
  have hS : Sj dC dI cy s.heap.size (OJ s.heap.size ad av ta) s (0, 0, fun _ => 0, fun _ _ => none, fun _ _ => 0) s.heap [] := ⟨⟨rfl, fun o ho => absurd ho (Nat.not_lt_zero o)⟩, hJ, va_S.rf⟩
  refine w_new (a := 7) hC hS (by decide) rfl cl_7 (by decide) (by decide) (show decode code 0 = .ok (.new 7, 3) by decide +kernel) ?_
  intro H hS
  rw [up1_c, up1_c] at hS
  replace hS : Sj dC dI cy s.heap.size (OJ s.heap.size ad av ta) s h00 H [] := hS
  refine lv_dup hx hb (show decode code 3 = .ok (.dup, 1) by decide +kernel) rfl ?_
  obtain ⟨r1, h1, hM, ⟨er1, eh1⟩, g1, g2⟩ := ctr_go (l := l) (dC := dC) (dI := dI) (cy := cy) (fun _ _ q => q) hOd (show mX7_init < NM by decide) rfl (goA (fun r h => r = none ∧ h = hA) ⟨rfl, rfl⟩)
  rw [er1, eh1] at hM
  rw [eh1] at g1 g2
  refine w_I (h := h00) (ob := 0) (rest := [.ref (s.heap.size + 0)]) hC hS hM g1 g2 (by decide) (by decide) mi_9 rfl (by decide) (by rw [nxA]; decide) (Nat.le_trans slA (by decide)) hl.1 rfl (Nat.le_of_ble_eq_true rfl) (show decode code 4 = .ok (.invokespecial 9, 3) by decide +kernel) ?_
  intro H locs hS
  refine lv_astore_n (lv' := [(1, .ref (s.heap.size + 0)), (0, .ref b)]) hx hb (show decode code 7 = .ok (.astore_n 1, 1) by decide +kernel) rfl hl (by decide) rfl ?_
  clear hl
  intro ls hl
  have eA : hA = (hA.1, hA.2.1, gL hA, gR hA, gI hA) := by
    generalize hA = z
    rfl
  rw [eA] at hS
  refine w_new (a := 8) hC hS (by decide) (by rw [nxA]; rfl) cl_10 (by rw [nxA]; decide) (Nat.le_trans (Nat.add_le_add_right slA _) (by decide)) (show decode code 8 = .ok (.new 10, 3) by decide +kernel) ?_
  intro H hS
  replace hS : Sj dC dI cy s.heap.size (OJ s.heap.size ad av ta) s hA1 H locs := by
    rw [hA1]
    exact hS
  rw [nxA]
  refine lv_dup hx hb (show decode code 11 = .ok (.dup, 1) by decide +kernel) rfl ?_
  obtain ⟨r2, h2, hM2, ⟨er2, eh2⟩, g3, g4⟩ := ctr_go (l := l) (dC := dC) (dI := dI) (cy := cy) (fun _ _ q => q) hOd (show mX8_init < NM by decide) rfl (goB (fun r h => r = none ∧ h = hB) ⟨rfl, rfl⟩)
  rw [er2, eh2] at hM2
  rw [eh2] at g3 g4
  have e86 : hA1.1 = 85 + 1 := by rw [hA1]; show hA.1 + 1 = 86; rw [nxA]
  have es1 : hA1.2.1 = hA.2.1 + nF 8 := by rw [hA1]
  rw [← e86, ← es1]
  refine w_I (h := hA1) (ob := 85) (rest := [.ref (s.heap.size + 85)]) hC hS hM2 g3 g4 (by decide) (by decide) mi_12 rfl (by decide) (by rw [nxB]; decide) (Nat.le_trans slB (by decide)) hl.1 rfl (Nat.le_of_ble_eq_true rfl) (show decode code 12 = .ok (.invokespecial 12, 3) by decide +kernel) ?_
  intro H locs hS
  refine lv_astore_n (lv' := [(2, .ref (s.heap.size + 85)), (1, .ref (s.heap.size + 0)), (0, .ref b)]) hx hb (show decode code 15 = .ok (.astore_n 2, 1) by decide +kernel) rfl hl (by decide) rfl ?_
  clear hl
  intro ls hl
  refine lv_iconst (v := nI 0) hx hb (show decode code 16 = .ok (.iconst 0, 1) by decide +kernel) rfl ?_
  refine lv_istore_n (lv' := [(3, .int (nI 0)), (2, .ref (s.heap.size + 85)), (1, .ref (s.heap.size + 0)), (0, .ref b)]) hx hb (show decode code 17 = .ok (.istore_n 3, 1) by decide +kernel) rfl hl (by decide) rfl ?_
  clear hl
  intro ls hl
  have eB : hB = (109, hB.2.1, gL hB, gR hB, gI hB) := by
    have q := nxB
    generalize hB = z at q ⊢
    obtain ⟨z1, z2, z3, z4, z5⟩ := z
    cases q
    rfl
  rw [nxB]
  rw [eB] at hS
  exact law_loop hL C0 hC (L + 1) 0 109 hB.2.1 (gL hB) (gR hB) (gI hB) H locs ls (by omega) (by decide) simB rfl (by decide) (Nat.le_trans (Nat.mul_le_mul_left 3 slB) (by decide)) hS hl
