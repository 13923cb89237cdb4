/-! Methods of the program that read constants, walked by hand. -/
theorem okX_byteAt : OkJ yX2_byteAt cX2_byteAt 2 (some .int) 1 := ⟨gd_in (List.mem_of_getElem? (i := 602) (by decide +kernel)) (by decide +kernel), gd_in (List.mem_of_getElem? (i := 60) (by decide +kernel)) (by decide +kernel), ⟨by decide, by decide, by decide +kernel⟩, by decide⟩
theorem iX_byteAt : Cond.instanceMethod yX2_byteAt ∈ gdT := gd_in (List.mem_of_getElem? (i := 601) (by decide +kernel)) (by decide +kernel)
theorem eX_byteAt : Cond.selects RX2 yX2_byteAt yX2_byteAt ∈ gdT := gd_in (List.mem_of_getElem? (i := 9) (by decide +kernel)) (by decide +kernel)
theorem okX_isWord : OkJ yX2_isWord cX2_isWord 3 (some .boolean) 1 := ⟨gd_in (List.mem_of_getElem? (i := 617) (by decide +kernel)) (by decide +kernel), gd_in (List.mem_of_getElem? (i := 60) (by decide +kernel)) (by decide +kernel), ⟨by decide, by decide, by decide +kernel⟩, by decide⟩
theorem iX_isWord : Cond.instanceMethod yX2_isWord ∈ gdT := gd_in (List.mem_of_getElem? (i := 616) (by decide +kernel)) (by decide +kernel)
theorem eX_isWord : Cond.selects RX2 yX2_isWord yX2_isWord ∈ gdT := gd_in (List.mem_of_getElem? (i := 11) (by decide +kernel)) (by decide +kernel)
theorem vp96 {x : Int32} (h1 : ¬ x < 0) (h2 : ¬ 96 ≤ x) : vp_in x 96 := by
  rw [Int32.lt_iff_toInt_lt] at h1
  rw [Int32.le_iff_toInt_le] at h2
  have e0 : (0 : Int32).toInt = 0 := rfl
  have e1 : (96 : Int32).toInt = 96 := rfl
  rw [e0] at h1
  rw [e1] at h2
  exact vp_in_iff.mpr ⟨by omega, by omega⟩
theorem vp6 {x : Int32} (h1 : ¬ x < 0) (h2 : ¬ 6 ≤ x) : vp_in x 6 := by
  rw [Int32.lt_iff_toInt_lt] at h1
  rw [Int32.le_iff_toInt_le] at h2
  have e0 : (0 : Int32).toInt = 0 := rfl
  have e1 : (6 : Int32).toInt = 6 := rfl
  rw [e0] at h1
  rw [e1] at h2
  exact vp_in_iff.mpr ⟨by omega, by omega⟩
theorem bAt_in {I : Nat → Nat → Int32} {tp : Nat} {x : Int32} (h1 : ¬ x < 0) (h2 : ¬ 96 ≤ x) : bAt I tp x = I tp x.toNatClampNeg &&& 255 := if_pos ⟨Int32.not_lt.mp h1, Int32.not_le.mp h2⟩
theorem bAt_lo {I : Nat → Nat → Int32} {tp : Nat} {x : Int32} (h1 : x < 0) : bAt I tp x = 0 := if_neg (fun q => absurd h1 (Int32.not_lt.mpr q.1))
theorem bAt_hi {I : Nat → Nat → Int32} {tp : Nat} {x : Int32} (h1 : 96 ≤ x) : bAt I tp x = 0 := if_neg (fun q => absurd h1 (Int32.not_le.mpr q.2))
theorem bAt_byte (I : Nat → Nat → Int32) (tp : Nat) (x : Int32) : ∃ c : Nat, c < 256 ∧ bAt I tp x = Int32.ofNat c := by
  unfold bAt
  split
  · exact ⟨_, Nat.mod_lt _ (by decide), pk_and _ (m := 255) 8 (by decide)⟩
  · exact ⟨0, by decide, rfl⟩
theorem sr_ll : ∀ i, i < 6 → (srB.getD i []).length = srL.getD i 0 := by decide
theorem isWd_iff {I : Nat → Nat → Int32} {ob tp : Nat} {w : List Int32} : isWdF I ob tp w = true ↔ I ob 5 = -2 ∧ I ob 6 - I ob 7 = Int32.ofNat w.length ∧ ∀ j, j < w.length → bAt I tp (I ob 7 + Int32.ofNat j) = w.getD j 0 := by
  unfold isWdF
  simp only [Bool.and_eq_true, decide_eq_true_eq, List.all_eq_true, List.mem_range, and_assoc]
theorem ifz {b : Bool} (q : (if b = true then (1 : Int32) else 0) = 0) : b = false := by
  cases b
  · rfl
  · exact absurd q (by decide)
theorem ifnz {b : Bool} (q : ¬ (if b = true then (1 : Int32) else 0) = 0) : b = true := by
  cases b
  · exact absurd rfl q
  · rfl
theorem nm3 : ∀ c, c < 256 → (decide (Int32.ofNat c = 109 ∨ Int32.ofNat c = 98 ∨ Int32.ofNat c = 104 ∨ Int32.ofNat c = 110) = true ↔ ¬ ixG 3 (Int32.ofNat c).toInt8.toInt32 (srL.getD 3 0) 0 < 0) := by decide +kernel
theorem nm4 : ∀ c, c < 256 → (decide (Int32.ofNat c = 103 ∨ Int32.ofNat c = 115) = true ↔ ¬ ixG 4 (Int32.ofNat c).toInt8.toInt32 (srL.getD 4 0) 0 < 0) := by decide +kernel
theorem nm5 : ∀ c, c < 256 → (decide (Int32.ofNat c = 109 ∨ Int32.ofNat c = 98) = true ↔ ¬ ixG 5 (Int32.ofNat c).toInt8.toInt32 (srL.getD 5 0) 0 < 0) := by decide +kernel
theorem ch255 : ∀ c, c < 256 → ¬ Int32.ofNat c < 0 ∧ ¬ 255 < Int32.ofNat c := by decide +kernel
section Px
variable {l : Launch} {dC : Nat → ClassId} {dI : Nat → Nat → Nat} {cy : Nat → ClassId} {base ta : Nat} {ad av : Nat → Nat} {Od : State → Heap → Prop} {h : Hp} {n i ob tp : Nat}

theorem j_byteAt (hj : ∀ U H, Od U H → OJ base ad av ta U H) (hOd : OdOk base Od) (hk : KD ob = 2) (ho : ob < h.1) (htp : gR h ob 0 = some tp) (hkt : KD tp = 9) (ht1 : tp < h.1) (hlt : gL h tp = 96) {x : Int32} : CtrJ dC dI cy base Od l n yX2_byteAt cX2_byteAt 2 (some .int) [.ref (base + ob), .int x] (some (.int (bAt (gI h) tp x))) h := by
  refine ctrJ_of rfl hOd (by first | exact Nat.le_refl _ | exact Nat.le_of_ble_eq_true rfl | assumption) ?_
  intro p e R s mid args below meth c ls hC hS hl
  obtain ⟨hx, hb, hr, hml, hown, hts, hlocks, hK, hOd, hod, hfr, hlo⟩ := id hC
  have hJ := hj s s.heap hod
  replace hl : lv_has ls 2 [(0, .ref (base + ob)), (1, .int x)] := hl
  refine lv_iload_n hx hb (show decode cX2_byteAt 0 = .ok (.iload_n 1, 1) by decide +kernel) rfl (lv_at hl 1 rfl) ?_
  refine lv_if_lt (tgt := 23) hx hb (show decode cX2_byteAt 1 = .ok (.ifCond .lt 22, 3) by decide +kernel) rfl (fun q => ?_) (fun q1 => ?_)
  · rw [bAt_lo q]
    refine lv_iconst (v := 0) hx hb (show decode cX2_byteAt 23 = .ok (.iconst (0), 1) by decide +kernel) rfl ?_
    exact j_rz hC hS rfl (show decode cX2_byteAt 24 = .ok (.ireturn, 1) by decide +kernel)
  · refine lv_iload_n hx hb (show decode cX2_byteAt 4 = .ok (.iload_n 1, 1) by decide +kernel) rfl (lv_at hl 1 rfl) ?_
    refine lv_bipush (v := 96) hx hb (show decode cX2_byteAt 5 = .ok (.bipush (96), 2) by decide +kernel) rfl ?_
    refine lv_icmp_ge (tgt := 23) hx hb (show decode cX2_byteAt 7 = .ok (.if_icmp .ge (16), 3) by decide +kernel) rfl (fun q => ?_) (fun q2 => ?_)
    · rw [bAt_hi q]
      refine lv_iconst (v := 0) hx hb (show decode cX2_byteAt 23 = .ok (.iconst (0), 1) by decide +kernel) rfl ?_
      exact j_rz hC hS rfl (show decode cX2_byteAt 24 = .ok (.ireturn, 1) by decide +kernel)
    · rw [bAt_in q1 q2]
      refine lv_aload_n hx hb (show decode cX2_byteAt 10 = .ok (.aload_n 0, 1) by decide +kernel) rfl (lv_at hl 0 rfl) ?_
      refine j_get (o := ob) (ci := 2) (bf := 0) hC hS.1 hk ho (by decide) (by decide) fl_Reader_9 (show decode cX2_byteAt 11 = .ok (.getfield 9, 3) by decide +kernel) ?_
      rw [show fvV base 2 (gR h ob) (gI h ob) 0 = .ref (base + tp) by show va_rf (rA base (gR h ob 0)) = _; rw [htp]; rfl]
      refine lv_iload_n hx hb (show decode cX2_byteAt 14 = .ok (.iload_n 1, 1) by decide +kernel) rfl (lv_at hl 1 rfl) ?_
      have hP := one_P (hS.1.2 tp ht1)
      rw [cel_arr hkt (by decide) (by decide), hlt] at hP
      refine va_bald (D := (dC, dI)) (cl := vwCl) hx hb hK hP 0 0 rfl rfl (vp96 q1 q2) (show decode cX2_byteAt 15 = .ok (.baload, 1) by decide +kernel) ?_
      refine lv_sipush (v := 255) hx hb (show decode cX2_byteAt 16 = .ok (.sipush 255, 3) by decide +kernel) rfl ?_
      refine lv_iand hx hb (show decode cX2_byteAt 19 = .ok (.iand, 1) by decide +kernel) ?_
      refine lv_goto (tgt := 24) hx hb (show decode cX2_byteAt 20 = .ok (.goto (4), 3) by decide +kernel) rfl ?_
      exact j_rz hC hS rfl (show decode cX2_byteAt 24 = .ok (.ireturn, 1) by decide +kernel)
theorem j_isWord (hj : ∀ U H, Od U H → OJ base ad av ta U H) (hOd : OdOk base Od) (hk : KD ob = 2) (ho : ob < h.1) (htp : gR h ob 0 = some tp) (hkt : KD tp = 9) (ht1 : tp < h.1) (hlt : gL h tp = 96) (hi : i < 6) : CtrJ dC dI cy base Od l (n + 4) yX2_isWord cX2_isWord 3 (some .boolean) [.ref (base + ob), .ref (ad i)] (some (.int (if isWdF (gI h) ob tp (srB.getD i []) = true then 1 else 0))) h := by
  have h4 := sr_len i hi
  have hll := sr_ll i hi
  refine ctrJ_of rfl hOd (by first | exact Nat.le_refl _ | exact Nat.le_of_ble_eq_true rfl | assumption) ?_
  intro p e R s mid args below meth c ls hC hS hl
  obtain ⟨hx, hb, hr, hml, hown, hts, hlocks, hK, hOd, hod, hfr, hlo⟩ := id hC
  have hJ := hj s s.heap hod
  replace hl : lv_has ls 3 [(0, .ref (base + ob)), (1, .ref (ad i))] := hl
  refine lv_aload_n hx hb (show decode cX2_isWord 0 = .ok (.aload_n 0, 1) by decide +kernel) rfl (lv_at hl 0 rfl) ?_
  refine j_get (o := ob) (ci := 2) (bf := 5) hC hS.1 hk ho (by decide) (by decide) fl_Reader_35 (show decode cX2_isWord 1 = .ok (.getfield 35, 3) by decide +kernel) ?_
  rw [show fvV base 2 (gR h ob) (gI h ob) 5 = .int (gI h ob 5) from rfl]
  refine lv_bipush (v := -2) hx hb (show decode cX2_isWord 4 = .ok (.bipush (-2), 2) by decide +kernel) rfl ?_
  refine lv_icmp_ne (tgt := 25) hx hb (show decode cX2_isWord 6 = .ok (.if_icmp .ne (19), 3) by decide +kernel) rfl (fun q => ?_) (fun q1 => ?_)
  · rw [if_neg (fun w => q (isWd_iff.mp w).1)]
    refine lv_iconst (v := 0) hx hb (show decode cX2_isWord 25 = .ok (.iconst (0), 1) by decide +kernel) rfl ?_
    exact j_rz hC hS rfl (show decode cX2_isWord 26 = .ok (.ireturn, 1) by decide +kernel)
  · refine lv_aload_n hx hb (show decode cX2_isWord 9 = .ok (.aload_n 0, 1) by decide +kernel) rfl (lv_at hl 0 rfl) ?_
    refine j_get (o := ob) (ci := 2) (bf := 6) hC hS.1 hk ho (by decide) (by decide) fl_Reader_41 (show decode cX2_isWord 10 = .ok (.getfield 41, 3) by decide +kernel) ?_
    rw [show fvV base 2 (gR h ob) (gI h ob) 6 = .int (gI h ob 6) from rfl]
    refine lv_aload_n hx hb (show decode cX2_isWord 13 = .ok (.aload_n 0, 1) by decide +kernel) rfl (lv_at hl 0 rfl) ?_
    refine j_get (o := ob) (ci := 2) (bf := 7) hC hS.1 hk ho (by decide) (by decide) fl_Reader_38 (show decode cX2_isWord 14 = .ok (.getfield 38, 3) by decide +kernel) ?_
    rw [show fvV base 2 (gR h ob) (gI h ob) 7 = .int (gI h ob 7) from rfl]
    refine lv_isub hx hb (show decode cX2_isWord 17 = .ok (.isub, 1) by decide +kernel) ?_
    refine lv_aload_n hx hb (show decode cX2_isWord 18 = .ok (.aload_n 1, 1) by decide +kernel) rfl (lv_at hl 1 rfl) ?_
    refine j_V [] [.int (gI h ob 6 - gI h ob 7)] hC hS (j_length (n := n + 2) hj hOd hi) okS_length ml_Reader_90 iS_length eS_length (vk_recv hJ.2.2.1 hi hS.2.2) (Nat.le_refl _) rfl hl.1 rfl (Nat.le_of_ble_eq_true rfl) (show decode cX2_isWord 19 = .ok (.invokevirtual 90, 3) by decide +kernel) ?_
    intro H locs hS
    refine lv_icmp_eq (tgt := 27) hx hb (show decode cX2_isWord 22 = .ok (.if_icmp .eq (5), 3) by decide +kernel) rfl (fun q2 => ?_) (fun q => ?_)
    · refine lv_iconst (v := 0) hx hb (show decode cX2_isWord 27 = .ok (.iconst (0), 1) by decide +kernel) rfl ?_
      refine lv_istore_n (lv' := [(2, .int (Int32.ofNat 0)), (0, .ref (base + ob)), (1, .ref (ad i))]) hx hb (show decode cX2_isWord 28 = .ok (.istore_n 2, 1) by decide +kernel) rfl hl (by decide) rfl ?_
      clear hl; intro ls hl
      have key : ∀ (k j : Nat) (ls : Array Slot) (H : Heap) (locs : List Loc), j + k = srL.getD i 0 → (∀ a, a < j → bAt (gI h) tp (gI h ob 7 + Int32.ofNat a) = (srB.getD i []).getD a 0) → lv_has ls 3 [(2, .int (Int32.ofNat j)), (0, .ref (base + ob)), (1, .ref (ad i))] → Sj dC dI cy base Od s h H locs → W p l e R s mid args below meth c H locs 0 0 (MQ below (QJ dC dI cy base Od (some (.int (if isWdF (gI h) ob tp (srB.getD i []) = true then 1 else 0))) h) args s 0 0 (fun q => base ≤ q)) (F0 mid 29 ls []) := by
        intro k
        induction k with
        | zero =>
          intro j ls H locs hjk hpre hl hS
          rw [if_pos (isWd_iff.mpr ⟨q1, by rw [hll]; exact q2, fun a ha => hpre a (by omega)⟩)]
          refine lv_iload_n hx hb (show decode cX2_isWord 29 = .ok (.iload_n 2, 1) by decide +kernel) rfl (lv_at hl 0 rfl) ?_
          refine lv_aload_n hx hb (show decode cX2_isWord 30 = .ok (.aload_n 1, 1) by decide +kernel) rfl (lv_at hl 2 rfl) ?_
          refine j_V [] [.int (Int32.ofNat j)] hC hS (j_length (n := n + 2) hj hOd hi) okS_length ml_Reader_90 iS_length eS_length (vk_recv hJ.2.2.1 hi hS.2.2) (Nat.le_refl _) rfl hl.1 rfl (Nat.le_of_ble_eq_true rfl) (show decode cX2_isWord 31 = .ok (.invokevirtual 90, 3) by decide +kernel) ?_
          intro H locs hS
          refine lv_icmp_ge (tgt := 63) hx hb (show decode cX2_isWord 34 = .ok (.if_icmp .ge (29), 3) by decide +kernel) rfl (fun _ => ?_) (fun q => absurd (nI_le (by omega) (by omega)) q)
          refine lv_iconst (v := 1) hx hb (show decode cX2_isWord 63 = .ok (.iconst (1), 1) by decide +kernel) rfl ?_
          exact j_rz hC hS rfl (show decode cX2_isWord 64 = .ok (.ireturn, 1) by decide +kernel)
        | succ k ih =>
          intro j ls H locs hjk hpre hl hS
          refine lv_iload_n hx hb (show decode cX2_isWord 29 = .ok (.iload_n 2, 1) by decide +kernel) rfl (lv_at hl 0 rfl) ?_
          refine lv_aload_n hx hb (show decode cX2_isWord 30 = .ok (.aload_n 1, 1) by decide +kernel) rfl (lv_at hl 2 rfl) ?_
          refine j_V [] [.int (Int32.ofNat j)] hC hS (j_length (n := n + 2) hj hOd hi) okS_length ml_Reader_90 iS_length eS_length (vk_recv hJ.2.2.1 hi hS.2.2) (Nat.le_refl _) rfl hl.1 rfl (Nat.le_of_ble_eq_true rfl) (show decode cX2_isWord 31 = .ok (.invokevirtual 90, 3) by decide +kernel) ?_
          intro H locs hS
          refine lv_icmp_ge (tgt := 63) hx hb (show decode cX2_isWord 34 = .ok (.if_icmp .ge (29), 3) by decide +kernel) rfl (fun q => absurd q (nI_ge (by omega) (by omega))) (fun _ => ?_)
          refine lv_aload_n hx hb (show decode cX2_isWord 37 = .ok (.aload_n 0, 1) by decide +kernel) rfl (lv_at hl 1 rfl) ?_
          refine lv_aload_n hx hb (show decode cX2_isWord 38 = .ok (.aload_n 0, 1) by decide +kernel) rfl (lv_at hl 1 rfl) ?_
          refine j_get (o := ob) (ci := 2) (bf := 7) hC hS.1 hk ho (by decide) (by decide) fl_Reader_38 (show decode cX2_isWord 39 = .ok (.getfield 38, 3) by decide +kernel) ?_
          rw [show fvV base 2 (gR h ob) (gI h ob) 7 = .int (gI h ob 7) from rfl]
          refine lv_iload_n hx hb (show decode cX2_isWord 42 = .ok (.iload_n 2, 1) by decide +kernel) rfl (lv_at hl 0 rfl) ?_
          refine lv_iadd hx hb (show decode cX2_isWord 43 = .ok (.iadd, 1) by decide +kernel) ?_
          refine j_V [.int (gI h ob 7 + Int32.ofNat j)] [] hC hS (j_byteAt (n := n + 3) hj hOd hk ho htp hkt ht1 hlt) okX_byteAt ml_Reader_69 iX_byteAt eX_byteAt (j_rcv (ci := 2) hC hS.1 hk ho (by decide)) (Nat.le_refl _) rfl hl.1 rfl (Nat.le_of_ble_eq_true rfl) (show decode cX2_isWord 44 = .ok (.invokevirtual 69, 3) by decide +kernel) ?_
          intro H locs hS
          refine lv_aload_n hx hb (show decode cX2_isWord 47 = .ok (.aload_n 1, 1) by decide +kernel) rfl (lv_at hl 2 rfl) ?_
          refine lv_iload_n hx hb (show decode cX2_isWord 48 = .ok (.iload_n 2, 1) by decide +kernel) rfl (lv_at hl 0 rfl) ?_
          refine j_V [.int (Int32.ofNat j)] [.int (bAt (gI h) tp (gI h ob 7 + Int32.ofNat j))] hC hS (j_charAt (n := n) hj hOd hi (j := j) (by omega)) okS_charAt ml_Reader_94 iS_charAt eS_charAt (vk_recv hJ.2.2.1 hi hS.2.2) (Nat.le_refl _) rfl hl.1 rfl (Nat.le_of_ble_eq_true rfl) (show decode cX2_isWord 49 = .ok (.invokevirtual 94, 3) by decide +kernel) ?_
          intro H locs hS
          refine lv_icmp_eq (tgt := 57) hx hb (show decode cX2_isWord 52 = .ok (.if_icmp .eq (5), 3) by decide +kernel) rfl (fun q => ?_) (fun q => ?_)
          · refine lv_iinc (k := 0) (v := Int32.ofNat (j + 1)) (lv' := [(2, .int (Int32.ofNat (j + 1))), (0, .ref (base + ob)), (1, .ref (ad i))]) hx hb (show decode cX2_isWord 57 = .ok (.iinc 2 1, 3) by decide +kernel) hl rfl (nI_1 j) (by decide) rfl ?_
            clear hl; intro ls hl
            refine lv_goto (tgt := 29) hx hb (show decode cX2_isWord 60 = .ok (.goto (-31), 3) by decide +kernel) rfl ?_
            exact ih (j + 1) ls H locs (by omega) (lt_s hpre q) hl hS
          · rw [if_neg (fun w => q ((isWd_iff.mp w).2.2 j (by omega)))]
            refine lv_iconst (v := 0) hx hb (show decode cX2_isWord 55 = .ok (.iconst (0), 1) by decide +kernel) rfl ?_
            exact j_rz hC hS rfl (show decode cX2_isWord 56 = .ok (.ireturn, 1) by decide +kernel)
      exact key (srL.getD i 0) 0 ls H locs (Nat.zero_add _) (fun a ha => absurd ha (Nat.not_lt_zero a)) hl hS
    · rw [if_neg (fun w => q (by have e := (isWd_iff.mp w).2.1; rw [hll] at e; exact e))]
      refine lv_iconst (v := 0) hx hb (show decode cX2_isWord 25 = .ok (.iconst (0), 1) by decide +kernel) rfl ?_
      exact j_rz hC hS rfl (show decode cX2_isWord 26 = .ok (.ireturn, 1) by decide +kernel)
theorem j_keyRead (hj : ∀ U H, Od U H → OJ base ad av ta U H) (hOd : OdOk base Od) (hk : KD ob = 2) (ho : ob < h.1) (htp : gR h ob 0 = some tp) (hkt : KD tp = 9) (ht1 : tp < h.1) (hlt : gL h tp = 96) : CtrJ dC dI cy base Od l (n + 5) yX2_keyRead cX2_keyRead 1 (some .int) [.ref (base + ob)] (some (.int (keyF (gI h) ob tp))) h := by
  refine ctrJ_of rfl hOd (by first | exact Nat.le_refl _ | exact Nat.le_of_ble_eq_true rfl | assumption) ?_
  intro p e R s mid args below meth c ls hC hS hl
  obtain ⟨hx, hb, hr, hml, hown, hts, hlocks, hK, hOd, hod, hfr, hlo⟩ := id hC
  have hJ := hj s s.heap hod
  replace hl : lv_has ls 1 [(0, .ref (base + ob))] := hl
  refine lv_aload_n hx hb (show decode cX2_keyRead 0 = .ok (.aload_n 0, 1) by decide +kernel) rfl (lv_at hl 0 rfl) ?_
  refine va_ldcS hx hb hown (hJ.2.2.2.2 0 (by decide)) (show decode cX2_keyRead 1 = .ok (.ldc 80, 2) by decide +kernel) ?_
  refine j_V [.ref (ad 0)] [] hC hS (j_isWord (n := n) (i := 0) hj hOd hk ho htp hkt ht1 hlt (by decide)) okX_isWord ml_Reader_82 iX_isWord eX_isWord (j_rcv (ci := 2) hC hS.1 hk ho (by decide)) (Nat.le_refl _) rfl hl.1 rfl (Nat.le_of_ble_eq_true rfl) (show decode cX2_keyRead 3 = .ok (.invokevirtual 82, 3) by decide +kernel) ?_
  intro H locs hS
  refine lv_if_eq (tgt := 11) hx hb (show decode cX2_keyRead 6 = .ok (.ifCond .eq 5, 3) by decide +kernel) rfl (fun q0 => ?_) (fun q0 => ?_)
  · have e0 : isWdF (gI h) ob tp [119, 97, 110, 116] = false := ifz q0
    refine lv_aload_n hx hb (show decode cX2_keyRead 11 = .ok (.aload_n 0, 1) by decide +kernel) rfl (lv_at hl 0 rfl) ?_
    refine va_ldcS hx hb hown (hJ.2.2.2.2 1 (by decide)) (show decode cX2_keyRead 12 = .ok (.ldc 86, 2) by decide +kernel) ?_
    refine j_V [.ref (ad 1)] [] hC hS (j_isWord (n := n) (i := 1) hj hOd hk ho htp hkt ht1 hlt (by decide)) okX_isWord ml_Reader_82 iX_isWord eX_isWord (j_rcv (ci := 2) hC hS.1 hk ho (by decide)) (Nat.le_refl _) rfl hl.1 rfl (Nat.le_of_ble_eq_true rfl) (show decode cX2_keyRead 14 = .ok (.invokevirtual 82, 3) by decide +kernel) ?_
    intro H locs hS
    refine lv_if_eq (tgt := 22) hx hb (show decode cX2_keyRead 17 = .ok (.ifCond .eq 5, 3) by decide +kernel) rfl (fun q1 => ?_) (fun q1 => ?_)
    · have e1 : isWdF (gI h) ob tp [102, 101, 101] = false := ifz q1
      refine lv_aload_n hx hb (show decode cX2_keyRead 22 = .ok (.aload_n 0, 1) by decide +kernel) rfl (lv_at hl 0 rfl) ?_
      refine va_ldcS hx hb hown (hJ.2.2.2.2 2 (by decide)) (show decode cX2_keyRead 23 = .ok (.ldc 88, 2) by decide +kernel) ?_
      refine j_V [.ref (ad 2)] [] hC hS (j_isWord (n := n) (i := 2) hj hOd hk ho htp hkt ht1 hlt (by decide)) okX_isWord ml_Reader_82 iX_isWord eX_isWord (j_rcv (ci := 2) hC hS.1 hk ho (by decide)) (Nat.le_refl _) rfl hl.1 rfl (Nat.le_of_ble_eq_true rfl) (show decode cX2_keyRead 25 = .ok (.invokevirtual 82, 3) by decide +kernel) ?_
      intro H locs hS
      refine lv_if_eq (tgt := 35) hx hb (show decode cX2_keyRead 28 = .ok (.ifCond .eq 7, 3) by decide +kernel) rfl (fun q2 => ?_) (fun q2 => ?_)
      · have e2 : isWdF (gI h) ob tp [102, 105, 110, 101] = false := ifz q2
        rw [show keyF (gI h) ob tp = -1 by unfold keyF; rw [if_neg (by rw [e0]; decide), if_neg (by rw [e1]; decide), if_neg (by rw [e2]; decide)]]
        refine lv_iconst (v := -1) hx hb (show decode cX2_keyRead 35 = .ok (.iconst (-1), 1) by decide +kernel) rfl ?_
        exact j_rz hC hS rfl (show decode cX2_keyRead 36 = .ok (.ireturn, 1) by decide +kernel)
      · have e2 : isWdF (gI h) ob tp [102, 105, 110, 101] = true := ifnz q2
        rw [show keyF (gI h) ob tp = 2 by unfold keyF; rw [if_neg (by rw [e0]; decide), if_neg (by rw [e1]; decide), if_pos e2]]
        refine lv_iconst (v := 2) hx hb (show decode cX2_keyRead 31 = .ok (.iconst (2), 1) by decide +kernel) rfl ?_
        refine lv_goto (tgt := 36) hx hb (show decode cX2_keyRead 32 = .ok (.goto (4), 3) by decide +kernel) rfl ?_
        exact j_rz hC hS rfl (show decode cX2_keyRead 36 = .ok (.ireturn, 1) by decide +kernel)
    · have e1 : isWdF (gI h) ob tp [102, 101, 101] = true := ifnz q1
      rw [show keyF (gI h) ob tp = 1 by unfold keyF; rw [if_neg (by rw [e0]; decide), if_pos e1]]
      refine lv_iconst (v := 1) hx hb (show decode cX2_keyRead 20 = .ok (.iconst (1), 1) by decide +kernel) rfl ?_
      exact j_rz hC hS rfl (show decode cX2_keyRead 21 = .ok (.ireturn, 1) by decide +kernel)
  · have e0 : isWdF (gI h) ob tp [119, 97, 110, 116] = true := ifnz q0
    rw [show keyF (gI h) ob tp = 0 by unfold keyF; rw [if_pos e0]]
    refine lv_iconst (v := 0) hx hb (show decode cX2_keyRead 9 = .ok (.iconst (0), 1) by decide +kernel) rfl ?_
    exact j_rz hC hS rfl (show decode cX2_keyRead 10 = .ok (.ireturn, 1) by decide +kernel)
theorem j_isName (hj : ∀ U H, Od U H → OJ base ad av ta U H) (hOd : OdOk base Od) (hk : KD ob = 2) (ho : ob < h.1) (htp : gR h ob 0 = some tp) (hkt : KD tp = 9) (ht1 : tp < h.1) (hlt : gL h tp = 96) : CtrJ dC dI cy base Od l (n + 4) yX2_isName cX2_isName 2 (some .boolean) [.ref (base + ob)] (some (.int (isNmF (gI h) ob tp))) h := by
  refine ctrJ_of rfl hOd (by first | exact Nat.le_refl _ | exact Nat.le_of_ble_eq_true rfl | assumption) ?_
  intro p e R s mid args below meth c ls hC hS hl
  obtain ⟨hx, hb, hr, hml, hown, hts, hlocks, hK, hOd, hod, hfr, hlo⟩ := id hC
  have hJ := hj s s.heap hod
  replace hl : lv_has ls 2 [(0, .ref (base + ob))] := hl
  have key : ∀ i, i < 6 → (∀ c, c < 256 → (nmF (gI h ob 8) (Int32.ofNat c) = true ↔ ¬ ixG i (Int32.ofNat c).toInt8.toInt32 (srL.getD i 0) 0 < 0)) → W p l e R s mid args below meth c s.heap [] 0 0 (MQ below (QJ dC dI cy base Od (some (.int (isNmF (gI h) ob tp))) h) args s 0 0 (fun q => base ≤ q)) (F0 mid 27 ls [.ref (ad i)]) := by
    intro i hi hnm
    refine lv_astore_n (lv' := [(1, .ref (ad i)), (0, .ref (base + ob))]) hx hb (show decode cX2_isName 27 = .ok (.astore_n 1, 1) by decide +kernel) rfl hl (by decide) rfl ?_
    clear hl; intro ls hl
    refine lv_aload_n hx hb (show decode cX2_isName 28 = .ok (.aload_n 0, 1) by decide +kernel) rfl (lv_at hl 1 rfl) ?_
    refine j_get (o := ob) (ci := 2) (bf := 5) hC hS.1 hk ho (by decide) (by decide) fl_Reader_35 (show decode cX2_isName 29 = .ok (.getfield 35, 3) by decide +kernel) ?_
    rw [show fvV base 2 (gR h ob) (gI h ob) 5 = .int (gI h ob 5) from rfl]
    refine lv_bipush (v := -2) hx hb (show decode cX2_isName 32 = .ok (.bipush (-2), 2) by decide +kernel) rfl ?_
    refine lv_icmp_ne (tgt := 70) hx hb (show decode cX2_isName 34 = .ok (.if_icmp .ne (36), 3) by decide +kernel) rfl (fun q => ?_) (fun q1 => ?_)
    · rw [show isNmF (gI h) ob tp = 0 from if_neg (fun w => q w.1)]
      refine lv_iconst (v := 0) hx hb (show decode cX2_isName 70 = .ok (.iconst (0), 1) by decide +kernel) rfl ?_
      exact j_rz hC hS rfl (show decode cX2_isName 71 = .ok (.ireturn, 1) by decide +kernel)
    · refine lv_aload_n hx hb (show decode cX2_isName 37 = .ok (.aload_n 0, 1) by decide +kernel) rfl (lv_at hl 1 rfl) ?_
      refine j_get (o := ob) (ci := 2) (bf := 6) hC hS.1 hk ho (by decide) (by decide) fl_Reader_41 (show decode cX2_isName 38 = .ok (.getfield 41, 3) by decide +kernel) ?_
      rw [show fvV base 2 (gR h ob) (gI h ob) 6 = .int (gI h ob 6) from rfl]
      refine lv_aload_n hx hb (show decode cX2_isName 41 = .ok (.aload_n 0, 1) by decide +kernel) rfl (lv_at hl 1 rfl) ?_
      refine j_get (o := ob) (ci := 2) (bf := 7) hC hS.1 hk ho (by decide) (by decide) fl_Reader_38 (show decode cX2_isName 42 = .ok (.getfield 38, 3) by decide +kernel) ?_
      rw [show fvV base 2 (gR h ob) (gI h ob) 7 = .int (gI h ob 7) from rfl]
      refine lv_isub hx hb (show decode cX2_isName 45 = .ok (.isub, 1) by decide +kernel) ?_
      refine lv_iconst (v := 1) hx hb (show decode cX2_isName 46 = .ok (.iconst (1), 1) by decide +kernel) rfl ?_
      refine lv_icmp_ne (tgt := 70) hx hb (show decode cX2_isName 47 = .ok (.if_icmp .ne (23), 3) by decide +kernel) rfl (fun q => ?_) (fun q2 => ?_)
      · rw [show isNmF (gI h) ob tp = 0 from if_neg (fun w => q w.2.1)]
        refine lv_iconst (v := 0) hx hb (show decode cX2_isName 70 = .ok (.iconst (0), 1) by decide +kernel) rfl ?_
        exact j_rz hC hS rfl (show decode cX2_isName 71 = .ok (.ireturn, 1) by decide +kernel)
      · refine lv_aload_n hx hb (show decode cX2_isName 50 = .ok (.aload_n 1, 1) by decide +kernel) rfl (lv_at hl 0 rfl) ?_
        refine lv_aload_n hx hb (show decode cX2_isName 51 = .ok (.aload_n 0, 1) by decide +kernel) rfl (lv_at hl 1 rfl) ?_
        refine lv_aload_n hx hb (show decode cX2_isName 52 = .ok (.aload_n 0, 1) by decide +kernel) rfl (lv_at hl 1 rfl) ?_
        refine j_get (o := ob) (ci := 2) (bf := 7) hC hS.1 hk ho (by decide) (by decide) fl_Reader_38 (show decode cX2_isName 53 = .ok (.getfield 38, 3) by decide +kernel) ?_
        rw [show fvV base 2 (gR h ob) (gI h ob) 7 = .int (gI h ob 7) from rfl]
        refine j_V [.int (gI h ob 7)] [.ref (ad i)] hC hS (j_byteAt (n := n + 3) hj hOd hk ho htp hkt ht1 hlt) okX_byteAt ml_Reader_69 iX_byteAt eX_byteAt (j_rcv (ci := 2) hC hS.1 hk ho (by decide)) (Nat.le_refl _) rfl hl.1 rfl (Nat.le_of_ble_eq_true rfl) (show decode cX2_isName 56 = .ok (.invokevirtual 69, 3) by decide +kernel) ?_
        intro H locs hS
        obtain ⟨cc, hcc, ecc⟩ := bAt_byte (gI h) tp (gI h ob 7)
        rw [ecc]
        refine lv_i2c hx hb (show decode cX2_isName 59 = .ok (.i2c, 1) by decide +kernel) (sb_byte cc hcc).2.1 ?_
        refine j_V [.int (Int32.ofNat cc)] [] hC hS (j_ix1 (n := n) hj hOd hi (ch255 cc hcc).1 (ch255 cc hcc).2) okS_ix1 ml_Reader_122 iS_ix1 eS_ix1 (vk_recv hJ.2.2.1 hi hS.2.2) (Nat.le_refl _) rfl hl.1 rfl (Nat.le_of_ble_eq_true rfl) (show decode cX2_isName 60 = .ok (.invokevirtual 122, 3) by decide +kernel) ?_
        intro H locs hS
        refine lv_if_lt (tgt := 70) hx hb (show decode cX2_isName 63 = .ok (.ifCond .lt 7, 3) by decide +kernel) rfl (fun q => ?_) (fun q => ?_)
        · rw [show isNmF (gI h) ob tp = 0 from if_neg (fun w => (hnm cc hcc).mp (by rw [← ecc]; exact w.2.2) q)]
          refine lv_iconst (v := 0) hx hb (show decode cX2_isName 70 = .ok (.iconst (0), 1) by decide +kernel) rfl ?_
          exact j_rz hC hS rfl (show decode cX2_isName 71 = .ok (.ireturn, 1) by decide +kernel)
        · rw [show isNmF (gI h) ob tp = 1 from if_pos ⟨q1, q2, by rw [ecc]; exact (hnm cc hcc).mpr q⟩]
          refine lv_iconst (v := 1) hx hb (show decode cX2_isName 66 = .ok (.iconst (1), 1) by decide +kernel) rfl ?_
          refine lv_goto (tgt := 71) hx hb (show decode cX2_isName 67 = .ok (.goto (4), 3) by decide +kernel) rfl ?_
          exact j_rz hC hS rfl (show decode cX2_isName 71 = .ok (.ireturn, 1) by decide +kernel)
  refine lv_aload_n hx hb (show decode cX2_isName 0 = .ok (.aload_n 0, 1) by decide +kernel) rfl (lv_at hl 0 rfl) ?_
  refine j_get (o := ob) (ci := 2) (bf := 8) hC hS.1 hk ho (by decide) (by decide) fl_Reader_51 (show decode cX2_isName 1 = .ok (.getfield 51, 3) by decide +kernel) ?_
  rw [show fvV base 2 (gR h ob) (gI h ob) 8 = .int (gI h ob 8) from rfl]
  refine lv_if_ne (tgt := 12) hx hb (show decode cX2_isName 4 = .ok (.ifCond .ne 8, 3) by decide +kernel) rfl (fun q => ?_) (fun q => ?_)
  · refine lv_aload_n hx hb (show decode cX2_isName 12 = .ok (.aload_n 0, 1) by decide +kernel) rfl (lv_at hl 0 rfl) ?_
    refine j_get (o := ob) (ci := 2) (bf := 8) hC hS.1 hk ho (by decide) (by decide) fl_Reader_51 (show decode cX2_isName 13 = .ok (.getfield 51, 3) by decide +kernel) ?_
    rw [show fvV base 2 (gR h ob) (gI h ob) 8 = .int (gI h ob 8) from rfl]
    refine lv_iconst (v := 1) hx hb (show decode cX2_isName 16 = .ok (.iconst (1), 1) by decide +kernel) rfl ?_
    refine lv_icmp_ne (tgt := 25) hx hb (show decode cX2_isName 17 = .ok (.if_icmp .ne (8), 3) by decide +kernel) rfl (fun q2 => ?_) (fun q2 => ?_)
    · refine va_ldcS hx hb hown (hJ.2.2.2.2 5 (by decide)) (show decode cX2_isName 25 = .ok (.ldc 120, 2) by decide +kernel) ?_
      exact key 5 (by decide) (fun c hc => by unfold nmF; rw [if_neg q, if_neg q2]; exact nm5 c hc)
    · refine va_ldcS hx hb hown (hJ.2.2.2.2 4 (by decide)) (show decode cX2_isName 20 = .ok (.ldc 118, 2) by decide +kernel) ?_
      refine lv_goto (tgt := 27) hx hb (show decode cX2_isName 22 = .ok (.goto (5), 3) by decide +kernel) rfl ?_
      exact key 4 (by decide) (fun c hc => by unfold nmF; rw [if_neg q, if_pos q2]; exact nm4 c hc)
  · refine va_ldcS hx hb hown (hJ.2.2.2.2 3 (by decide)) (show decode cX2_isName 7 = .ok (.ldc 116, 2) by decide +kernel) ?_
    refine lv_goto (tgt := 27) hx hb (show decode cX2_isName 9 = .ok (.goto (18), 3) by decide +kernel) rfl ?_
    exact key 3 (by decide) (fun c hc => by unfold nmF; rw [if_pos q]; exact nm3 c hc)
theorem j_isOf (hj : ∀ U H, Od U H → OJ base ad av ta U H) (hOd : OdOk base Od) (hk : KD ob = 0) (ho : ob < h.1) {w : Int32} : CtrJ dC dI cy base Od l n yX0_isOf cX0_isOf 4 (some .boolean) [.ref (base + ob), .int w] (some (.int (isOfF 6 (gI h ob 0) w))) h := by
  refine ctrJ_of rfl hOd (by first | exact Nat.le_refl _ | exact Nat.le_of_ble_eq_true rfl | assumption) ?_
  intro p e R s mid args below meth c ls hC hS hl
  obtain ⟨hx, hb, hr, hml, hown, hts, hlocks, hK, hOd, hod, hfr, hlo⟩ := id hC
  have hJ := hj s s.heap hod
  replace hl : lv_has ls 4 [(0, .ref (base + ob)), (1, .int w)] := hl
  refine lv_aload_n hx hb (show decode cX0_isOf 0 = .ok (.aload_n 0, 1) by decide +kernel) rfl (lv_at hl 0 rfl) ?_
  refine j_get (o := ob) (ci := 0) (bf := 0) hC hS.1 hk ho (by decide) (by decide) fl_Jug_9 (show decode cX0_isOf 1 = .ok (.getfield 9, 3) by decide +kernel) ?_
  rw [show fvV base 0 (gR h ob) (gI h ob) 0 = .int (gI h ob 0) from rfl]
  refine lv_istore_n (lv' := [(2, .int (gI h ob 0)), (0, .ref (base + ob)), (1, .int w)]) hx hb (show decode cX0_isOf 4 = .ok (.istore_n 2, 1) by decide +kernel) rfl hl (by decide) rfl ?_
  clear hl; intro ls hl
  refine lv_iconst (v := 0) hx hb (show decode cX0_isOf 5 = .ok (.iconst (0), 1) by decide +kernel) rfl ?_
  refine lv_istore_n (lv' := [(3, .int (Int32.ofNat 0)), (2, .int (gI h ob 0)), (0, .ref (base + ob)), (1, .int w)]) hx hb (show decode cX0_isOf 6 = .ok (.istore_n 3, 1) by decide +kernel) rfl hl (by decide) rfl ?_
  clear hl; intro ls hl
  have key : ∀ (k j : Nat) (a : Int32) (ls : Array Slot), j + k = 6 → isOfF k a w = isOfF 6 (gI h ob 0) w → lv_has ls 4 [(3, .int (Int32.ofNat j)), (2, .int a), (0, .ref (base + ob)), (1, .int w)] → W p l e R s mid args below meth c s.heap [] 0 0 (MQ below (QJ dC dI cy base Od (some (.int (isOfF 6 (gI h ob 0) w))) h) args s 0 0 (fun q => base ≤ q)) (F0 mid 7 ls []) := by
    intro k
    induction k with
    | zero =>
      intro j a ls hj6 hR hl
      rw [← hR, show isOfF 0 a w = 0 from rfl]
      refine lv_iload_n hx hb (show decode cX0_isOf 7 = .ok (.iload_n 3, 1) by decide +kernel) rfl (lv_at hl 0 rfl) ?_
      refine lv_bipush (v := 6) hx hb (show decode cX0_isOf 8 = .ok (.bipush (6), 2) by decide +kernel) rfl ?_
      refine lv_icmp_ge (tgt := 42) hx hb (show decode cX0_isOf 10 = .ok (.if_icmp .ge (32), 3) by decide +kernel) rfl (fun _ => ?_) (fun q => absurd (nI_le (b := j) (a := 6) (by omega) (by omega)) q)
      refine lv_iconst (v := 0) hx hb (show decode cX0_isOf 42 = .ok (.iconst (0), 1) by decide +kernel) rfl ?_
      exact j_rz hC hS rfl (show decode cX0_isOf 43 = .ok (.ireturn, 1) by decide +kernel)
    | succ k ih =>
      intro j a ls hj6 hR hl
      refine lv_iload_n hx hb (show decode cX0_isOf 7 = .ok (.iload_n 3, 1) by decide +kernel) rfl (lv_at hl 0 rfl) ?_
      refine lv_bipush (v := 6) hx hb (show decode cX0_isOf 8 = .ok (.bipush (6), 2) by decide +kernel) rfl ?_
      refine lv_icmp_ge (tgt := 42) hx hb (show decode cX0_isOf 10 = .ok (.if_icmp .ge (32), 3) by decide +kernel) rfl (fun q => absurd q (nI_ge (a := j) (b := 6) (by omega) (by omega))) (fun _ => ?_)
      refine lv_iload_n hx hb (show decode cX0_isOf 13 = .ok (.iload_n 2, 1) by decide +kernel) rfl (lv_at hl 1 rfl) ?_
      refine lv_if_lt (tgt := 42) hx hb (show decode cX0_isOf 14 = .ok (.ifCond .lt 28, 3) by decide +kernel) rfl (fun q => ?_) (fun q1 => ?_)
      · rw [← hR, show isOfF (k + 1) a w = 0 from if_neg (fun z => absurd q (Int32.not_lt.mpr z.1))]
        refine lv_iconst (v := 0) hx hb (show decode cX0_isOf 42 = .ok (.iconst (0), 1) by decide +kernel) rfl ?_
        exact j_rz hC hS rfl (show decode cX0_isOf 43 = .ok (.ireturn, 1) by decide +kernel)
      · refine lv_iload_n hx hb (show decode cX0_isOf 17 = .ok (.iload_n 2, 1) by decide +kernel) rfl (lv_at hl 1 rfl) ?_
        refine lv_bipush (v := 6) hx hb (show decode cX0_isOf 18 = .ok (.bipush (6), 2) by decide +kernel) rfl ?_
        refine lv_icmp_ge (tgt := 42) hx hb (show decode cX0_isOf 20 = .ok (.if_icmp .ge (22), 3) by decide +kernel) rfl (fun q => ?_) (fun q2 => ?_)
        · rw [← hR, show isOfF (k + 1) a w = 0 from if_neg (fun z => absurd q (Int32.not_le.mpr z.2))]
          refine lv_iconst (v := 0) hx hb (show decode cX0_isOf 42 = .ok (.iconst (0), 1) by decide +kernel) rfl ?_
          exact j_rz hC hS rfl (show decode cX0_isOf 43 = .ok (.ireturn, 1) by decide +kernel)
        · rw [show isOfF (k + 1) a w = if a = w then 1 else isOfF k (kAb a.toNatClampNeg) w from if_pos ⟨Int32.not_lt.mp q1, Int32.not_le.mp q2⟩] at hR
          refine lv_iload_n hx hb (show decode cX0_isOf 23 = .ok (.iload_n 2, 1) by decide +kernel) rfl (lv_at hl 1 rfl) ?_
          refine lv_iload_n hx hb (show decode cX0_isOf 24 = .ok (.iload_n 1, 1) by decide +kernel) rfl (lv_at hl 3 rfl) ?_
          refine lv_icmp_ne (tgt := 30) hx hb (show decode cX0_isOf 25 = .ok (.if_icmp .ne (5), 3) by decide +kernel) rfl (fun q => ?_) (fun q => ?_)
          · rw [if_neg q] at hR
            refine va_gets hx hb hJ.2.2.2.1.1 hS.2.2 hown (hts _ (gd_TBL fl_Jug_27)) (fun _ q => q) (show decode cX0_isOf 30 = .ok (.getstatic 27, 3) by decide +kernel) ?_
            refine lv_iload_n hx hb (show decode cX0_isOf 33 = .ok (.iload_n 2, 1) by decide +kernel) rfl (lv_at hl 1 rfl) ?_
            refine va_ti hx hb hJ.2.2.2.1.2 hS.2.2 (vp6 q1 q2) (v := .int (kAb a.toNatClampNeg)) rfl (show decode cX0_isOf 34 = .ok (.iaload, 1) by decide +kernel) ?_
            refine lv_istore_n (lv' := [(2, .int (kAb a.toNatClampNeg)), (3, .int (Int32.ofNat j)), (0, .ref (base + ob)), (1, .int w)]) hx hb (show decode cX0_isOf 35 = .ok (.istore_n 2, 1) by decide +kernel) rfl hl (by decide) rfl ?_
            clear hl; intro ls hl
            refine lv_iinc (k := 1) (v := Int32.ofNat (j + 1)) (lv' := [(3, .int (Int32.ofNat (j + 1))), (2, .int (kAb a.toNatClampNeg)), (0, .ref (base + ob)), (1, .int w)]) hx hb (show decode cX0_isOf 36 = .ok (.iinc 3 1, 3) by decide +kernel) hl rfl (nI_1 j) (by decide) rfl ?_
            clear hl; intro ls hl
            refine lv_goto (tgt := 7) hx hb (show decode cX0_isOf 39 = .ok (.goto (-32), 3) by decide +kernel) rfl ?_
            exact ih (j + 1) _ ls (by omega) hR hl
          · rw [if_pos q] at hR
            rw [← hR]
            refine lv_iconst (v := 1) hx hb (show decode cX0_isOf 28 = .ok (.iconst (1), 1) by decide +kernel) rfl ?_
            exact j_rz hC hS rfl (show decode cX0_isOf 29 = .ok (.ireturn, 1) by decide +kernel)
  exact key 6 0 (gI h ob 0) ls rfl rfl hl
end Px
