/-! The JDK's methods that the program calls on its string constants. -/
theorem sr_ch : ∀ i, i < 6 → ∀ j, j < 4 → (((srB.getD i []).getD j 0 &&& 255).toUInt32 % 65536).toInt32 = (srB.getD i []).getD j 0 ∧ narrow .char (.int ((srB.getD i []).getD j 0)) = .int ((srB.getD i []).getD j 0) := by decide +kernel
theorem sr_pos : ∀ i, i < 6 → 0 < srL.getD i 0 := by decide
theorem sr_len : ∀ i, i < 6 → srL.getD i 0 ≤ 4 := by decide
section Jd
variable {l : Launch} {dC : Nat → ClassId} {dI : Nat → Nat → Nat} {cy : Nat → ClassId} {base ta : Nat} {ad av : Nat → Nat} {Od : State → Heap → Prop} {h : Hp} {n i : Nat}

theorem j_coder (hj : ∀ U H, Od U H → OJ base ad av ta U H) (hOd : OdOk base Od) (hi : i < 6) : CtrJ dC dI cy base Od l n yS_coder cS_coder 1 (some .byte) [.ref (ad i)] (some (.int 0)) h := by
  refine ctrJ_of rfl hOd (by first | exact Nat.le_refl _ | exact Nat.le_of_ble_eq_true rfl | assumption) ?_
  intro p e R s mid args below meth c ls hC hS hl
  obtain ⟨hx, hb, hr, hml, hown, hts, hlocks, hK, hOd, hod, hfr, hlo⟩ := id hC
  have hJ := hj s s.heap hod
  replace hl : lv_has ls 1 [(0, .ref (ad i))] := hl
  refine va_gets hx hb hJ.1 hS.2.2 hown (hts _ (gd_TBL fl_String_38)) (fun _ q => q) (show decode cS_coder 0 = .ok (.getstatic 38, 3) by decide +kernel) ?_
  refine lv_if_eq (tgt := 13) hx hb (show decode cS_coder 3 = .ok (.ifCond .eq 10, 3) by decide +kernel) rfl (fun q => absurd q (by decide)) (fun _ => ?_)
  refine lv_aload_n hx hb (show decode cS_coder 6 = .ok (.aload_n 0, 1) by decide +kernel) rfl (lv_at hl 0 rfl) ?_
  refine vk_getf hx hb (hJ.2.2.1.1 i hi).2.1 hS.2.2 hown (hts _ (gd_TBL fl_String_15)) (fun _ q => q) (show decode cS_coder 7 = .ok (.getfield 15, 3) by decide +kernel) ?_
  refine lv_goto (tgt := 14) hx hb (show decode cS_coder 10 = .ok (.goto (4), 3) by decide +kernel) rfl ?_
  exact j_rz hC hS rfl (show decode cS_coder 14 = .ok (.ireturn, 1) by decide +kernel)
theorem j_isL (hj : ∀ U H, Od U H → OJ base ad av ta U H) (hOd : OdOk base Od) (hi : i < 6) : CtrJ dC dI cy base Od l n yS_isL cS_isL 1 (some .boolean) [.ref (ad i)] (some (.int 1)) h := by
  refine ctrJ_of rfl hOd (by first | exact Nat.le_refl _ | exact Nat.le_of_ble_eq_true rfl | assumption) ?_
  intro p e R s mid args below meth c ls hC hS hl
  obtain ⟨hx, hb, hr, hml, hown, hts, hlocks, hK, hOd, hod, hfr, hlo⟩ := id hC
  have hJ := hj s s.heap hod
  replace hl : lv_has ls 1 [(0, .ref (ad i))] := hl
  refine va_gets hx hb hJ.1 hS.2.2 hown (hts _ (gd_TBL fl_String_38)) (fun _ q => q) (show decode cS_isL 0 = .ok (.getstatic 38, 3) by decide +kernel) ?_
  refine lv_if_eq (tgt := 17) hx hb (show decode cS_isL 3 = .ok (.ifCond .eq 14, 3) by decide +kernel) rfl (fun q => absurd q (by decide)) (fun _ => ?_)
  refine lv_aload_n hx hb (show decode cS_isL 6 = .ok (.aload_n 0, 1) by decide +kernel) rfl (lv_at hl 0 rfl) ?_
  refine vk_getf hx hb (hJ.2.2.1.1 i hi).2.1 hS.2.2 hown (hts _ (gd_TBL fl_String_15)) (fun _ q => q) (show decode cS_isL 7 = .ok (.getfield 15, 3) by decide +kernel) ?_
  refine lv_if_ne (tgt := 17) hx hb (show decode cS_isL 10 = .ok (.ifCond .ne 7, 3) by decide +kernel) rfl (fun q => absurd rfl q) (fun _ => ?_)
  refine lv_iconst (v := 1) hx hb (show decode cS_isL 13 = .ok (.iconst (1), 1) by decide +kernel) rfl ?_
  refine lv_goto (tgt := 18) hx hb (show decode cS_isL 14 = .ok (.goto (4), 3) by decide +kernel) rfl ?_
  exact j_rz hC hS rfl (show decode cS_isL 18 = .ok (.ireturn, 1) by decide +kernel)
theorem j_length (hj : ∀ U H, Od U H → OJ base ad av ta U H) (hOd : OdOk base Od) (hi : i < 6) : CtrJ dC dI cy base Od l (n + 1) yS_length cS_length 1 (some .int) [.ref (ad i)] (some (.int (Int32.ofNat (srL.getD i 0)))) h := by
  refine ctrJ_of rfl hOd (by first | exact Nat.le_refl _ | exact Nat.le_of_ble_eq_true rfl | assumption) ?_
  intro p e R s mid args below meth c ls hC hS hl
  obtain ⟨hx, hb, hr, hml, hown, hts, hlocks, hK, hOd, hod, hfr, hlo⟩ := id hC
  have hJ := hj s s.heap hod
  replace hl : lv_has ls 1 [(0, .ref (ad i))] := hl
  refine lv_aload_n hx hb (show decode cS_length 0 = .ok (.aload_n 0, 1) by decide +kernel) rfl (lv_at hl 0 rfl) ?_
  refine vk_getf hx hb (hJ.2.2.1.1 i hi).2.2.1 hS.2.2 hown (hts _ (gd_TBL fl_String_9)) (fun _ q => q) (show decode cS_length 1 = .ok (.getfield 9, 3) by decide +kernel) ?_
  refine va_tlen hx hb (hJ.2.2.1.1 i hi).2.2.2 hS.2.2 rfl (show decode cS_length 4 = .ok (.arraylength, 1) by decide +kernel) ?_
  refine lv_aload_n hx hb (show decode cS_length 5 = .ok (.aload_n 0, 1) by decide +kernel) rfl (lv_at hl 0 rfl) ?_
  refine j_V [] [.int (Int32.ofNat (srL.getD i 0))] hC hS (j_coder (n := n) hj hOd hi) okS_coder ml_String_335 iS_coder eS_coder (vk_recv hJ.2.2.1 hi hS.2.2) (Nat.le_refl _) rfl hl.1 rfl (Nat.le_of_ble_eq_true rfl) (show decode cS_length 6 = .ok (.invokevirtual 335, 3) by decide +kernel) ?_
  intro H locs hS
  refine lv_ishr hx hb (show decode cS_length 9 = .ok (.ishr, 1) by decide +kernel) ?_
  rw [sb_shr0]
  exact j_rz hC hS rfl (show decode cS_length 10 = .ok (.ireturn, 1) by decide +kernel)
theorem j_ck3 (hj : ∀ U H, Od U H → OJ base ad av ta U H) (hOd : OdOk base Od) {x z : Int32} {fv : Value} (hfv : fv = .null ∨ ∃ t, fv = .ref t) (h1 : ¬ x < 0) (h2 : x < z) : CtrJ dC dI cy base Od l n yS_ck3 cS_ck3 3 (some .int) [.int x, .int z, fv] (some (.int x)) h := by
  have hsl : (lg_sl [.int x, .int z, fv]).length ≤ 3 := by rcases hfv with rfl | ⟨t, rfl⟩ <;> exact Nat.le_refl _
  refine ctrJ_of rfl hOd (by first | exact Nat.le_refl _ | exact Nat.le_of_ble_eq_true rfl | assumption) ?_
  intro p e R s mid args below meth c ls hC hS hl
  obtain ⟨hx, hb, hr, hml, hown, hts, hlocks, hK, hOd, hod, hfr, hlo⟩ := id hC
  have hJ := hj s s.heap hod
  replace hl : lv_has ls 3 [(0, .int x), (1, .int z)] := by rcases hfv with rfl | ⟨t, rfl⟩ <;> exact lv_sub hl [0, 1] rfl
  refine lv_iload_n hx hb (show decode cS_ck3 0 = .ok (.iload_n 0, 1) by decide +kernel) rfl (lv_at hl 0 rfl) ?_
  refine lv_if_lt (tgt := 9) hx hb (show decode cS_ck3 1 = .ok (.ifCond .lt 8, 3) by decide +kernel) rfl (fun q => absurd q h1) (fun _ => ?_)
  refine lv_iload_n hx hb (show decode cS_ck3 4 = .ok (.iload_n 0, 1) by decide +kernel) rfl (lv_at hl 0 rfl) ?_
  refine lv_iload_n hx hb (show decode cS_ck3 5 = .ok (.iload_n 1, 1) by decide +kernel) rfl (lv_at hl 1 rfl) ?_
  refine lv_icmp_lt (tgt := 16) hx hb (show decode cS_ck3 6 = .ok (.if_icmp .lt (10), 3) by decide +kernel) rfl (fun _ => ?_) (fun q => absurd h2 q)
  refine lv_iload_n hx hb (show decode cS_ck3 16 = .ok (.iload_n 0, 1) by decide +kernel) rfl (lv_at hl 0 rfl) ?_
  exact j_rz hC hS rfl (show decode cS_ck3 17 = .ok (.ireturn, 1) by decide +kernel)
theorem j_ck0 (hj : ∀ U H, Od U H → OJ base ad av ta U H) (hOd : OdOk base Od) {x z : Int32} (h1 : ¬ x < 0) (h2 : x < z) : CtrJ dC dI cy base Od l (n + 1) yS_ck0 cS_ck0 2 none [.int x, .int z] none h := by
  refine ctrJ_of rfl hOd (by first | exact Nat.le_refl _ | exact Nat.le_of_ble_eq_true rfl | assumption) ?_
  intro p e R s mid args below meth c ls hC hS hl
  obtain ⟨hx, hb, hr, hml, hown, hts, hlocks, hK, hOd, hod, hfr, hlo⟩ := id hC
  have hJ := hj s s.heap hod
  replace hl : lv_has ls 2 [(0, .int x), (1, .int z)] := hl
  refine lv_iload_n hx hb (show decode cS_ck0 0 = .ok (.iload_n 0, 1) by decide +kernel) rfl (lv_at hl 0 rfl) ?_
  refine lv_iload_n hx hb (show decode cS_ck0 1 = .ok (.iload_n 1, 1) by decide +kernel) rfl (lv_at hl 1 rfl) ?_
  have hz : ∃ fv, (fv = .null ∨ ∃ t, fv = .ref t) ∧ va_Z "jdk/internal/util/Preconditions" "SIOOBE_FORMATTER" "Ljava/util/function/BiFunction;" fv (fun q => base ≤ q) s s.heap := by
    rcases hJ.2.1 with q | ⟨t, q⟩
    · exact ⟨_, Or.inl rfl, q⟩
    · exact ⟨_, Or.inr ⟨t, rfl⟩, q⟩
  obtain ⟨fv, hfv, hz⟩ := hz
  refine va_gets hx hb hz hS.2.2 hown (hts _ (gd_TBL fl_String_1053)) (fun _ q => q) (show decode cS_ck0 2 = .ok (.getstatic 1053, 3) by decide +kernel) ?_
  refine j_S [.int x, .int z, fv] [] hC hS (j_ck3 (n := n) hj hOd hfv h1 h2) okS_ck3 ml_String_1059 sS_ck3 (Nat.le_refl _) rfl hl.1 rfl (Nat.le_of_ble_eq_true rfl) (show decode cS_ck0 5 = .ok (.invokestatic 1059, 3) by decide +kernel) ?_
  intro H locs hS
  refine lv_pop hx hb (show decode cS_ck0 8 = .ok (.pop, 1) by decide +kernel) rfl ?_
  exact j_rv hC hS (show decode cS_ck0 9 = .ok (.return_, 1) by decide +kernel)
theorem j_chA1 (hj : ∀ U H, Od U H → OJ base ad av ta U H) (hOd : OdOk base Od) (hi : i < 6) {j : Nat} (hj4 : j < srL.getD i 0) : CtrJ dC dI cy base Od l (n + 2) yS_chA1 cS_chA1 2 (some .char) [.ref (av i), .int (Int32.ofNat j)] (some (.int ((srB.getD i []).getD j 0))) h := by
  have h4 := sr_len i hi
  refine ctrJ_of rfl hOd (by first | exact Nat.le_refl _ | exact Nat.le_of_ble_eq_true rfl | assumption) ?_
  intro p e R s mid args below meth c ls hC hS hl
  obtain ⟨hx, hb, hr, hml, hown, hts, hlocks, hK, hOd, hod, hfr, hlo⟩ := id hC
  have hJ := hj s s.heap hod
  replace hl : lv_has ls 2 [(0, .ref (av i)), (1, .int (Int32.ofNat j))] := hl
  refine lv_iload_n hx hb (show decode cS_chA1 0 = .ok (.iload_n 1, 1) by decide +kernel) rfl (lv_at hl 1 rfl) ?_
  refine lv_aload_n hx hb (show decode cS_chA1 1 = .ok (.aload_n 0, 1) by decide +kernel) rfl (lv_at hl 0 rfl) ?_
  refine va_tlen hx hb (hJ.2.2.1.1 i hi).2.2.2 hS.2.2 rfl (show decode cS_chA1 2 = .ok (.arraylength, 1) by decide +kernel) ?_
  refine j_S [.int (Int32.ofNat j), .int (Int32.ofNat (srL.getD i 0))] [] hC hS (j_ck0 (n := n) hj hOd (nI_pos (by omega)) (nI_lt hj4 (by omega))) okS_ck0 ml_StringLatin1_9 sS_ck0 (Nat.le_refl _) rfl hl.1 rfl (Nat.le_of_ble_eq_true rfl) (show decode cS_chA1 3 = .ok (.invokestatic 9, 3) by decide +kernel) ?_
  intro H locs hS
  refine lv_aload_n hx hb (show decode cS_chA1 6 = .ok (.aload_n 0, 1) by decide +kernel) rfl (lv_at hl 0 rfl) ?_
  refine lv_iload_n hx hb (show decode cS_chA1 7 = .ok (.iload_n 1, 1) by decide +kernel) rfl (lv_at hl 1 rfl) ?_
  refine va_tb hx hb (hJ.2.2.1.1 i hi).2.2.2 hS.2.2 (vp_in_nI hj4 (by omega)) (v := .int ((srB.getD i []).getD j 0)) (by show Value.int ((srB.getD i []).getD (Int32.ofNat j).toNatClampNeg 0) = _; rw [show (Int32.ofNat j).toNatClampNeg = j from nI_clamp (by omega)]) (show decode cS_chA1 8 = .ok (.baload, 1) by decide +kernel) ?_
  refine lv_sipush (v := 255) hx hb (show decode cS_chA1 9 = .ok (.sipush 255, 3) by decide +kernel) rfl ?_
  refine lv_iand hx hb (show decode cS_chA1 12 = .ok (.iand, 1) by decide +kernel) ?_
  refine lv_i2c hx hb (show decode cS_chA1 13 = .ok (.i2c, 1) by decide +kernel) (sr_ch i hi j (by omega)).1 ?_
  exact j_rz hC hS (sr_ch i hi j (by omega)).2 (show decode cS_chA1 14 = .ok (.ireturn, 1) by decide +kernel)
theorem j_charAt (hj : ∀ U H, Od U H → OJ base ad av ta U H) (hOd : OdOk base Od) (hi : i < 6) {j : Nat} (hj4 : j < srL.getD i 0) : CtrJ dC dI cy base Od l (n + 3) yS_charAt cS_charAt 2 (some .char) [.ref (ad i), .int (Int32.ofNat j)] (some (.int ((srB.getD i []).getD j 0))) h := by
  have h4 := sr_len i hi
  refine ctrJ_of rfl hOd (by first | exact Nat.le_refl _ | exact Nat.le_of_ble_eq_true rfl | assumption) ?_
  intro p e R s mid args below meth c ls hC hS hl
  obtain ⟨hx, hb, hr, hml, hown, hts, hlocks, hK, hOd, hod, hfr, hlo⟩ := id hC
  have hJ := hj s s.heap hod
  replace hl : lv_has ls 2 [(0, .ref (ad i)), (1, .int (Int32.ofNat j))] := hl
  refine lv_aload_n hx hb (show decode cS_charAt 0 = .ok (.aload_n 0, 1) by decide +kernel) rfl (lv_at hl 0 rfl) ?_
  refine j_V [] [] hC hS (j_isL (n := n + 2) hj hOd hi) okS_isL ml_String_492 iS_isL eS_isL (vk_recv hJ.2.2.1 hi hS.2.2) (Nat.le_refl _) rfl hl.1 rfl (Nat.le_of_ble_eq_true rfl) (show decode cS_charAt 1 = .ok (.invokevirtual 492, 3) by decide +kernel) ?_
  intro H locs hS
  refine lv_if_eq (tgt := 16) hx hb (show decode cS_charAt 4 = .ok (.ifCond .eq 12, 3) by decide +kernel) rfl (fun q => absurd q (by decide)) (fun _ => ?_)
  refine lv_aload_n hx hb (show decode cS_charAt 7 = .ok (.aload_n 0, 1) by decide +kernel) rfl (lv_at hl 0 rfl) ?_
  refine vk_getf hx hb (hJ.2.2.1.1 i hi).2.2.1 hS.2.2 hown (hts _ (gd_TBL fl_String_9)) (fun _ q => q) (show decode cS_charAt 8 = .ok (.getfield 9, 3) by decide +kernel) ?_
  refine lv_iload_n hx hb (show decode cS_charAt 11 = .ok (.iload_n 1, 1) by decide +kernel) rfl (lv_at hl 1 rfl) ?_
  refine j_S [.ref (av i), .int (Int32.ofNat j)] [] hC hS (j_chA1 (n := n) hj hOd hi hj4) okS_chA1 ml_String_495 sS_chA1 (Nat.le_refl _) rfl hl.1 rfl (Nat.le_of_ble_eq_true rfl) (show decode cS_charAt 12 = .ok (.invokestatic 495, 3) by decide +kernel) ?_
  intro H locs hS
  exact j_rz hC hS (sr_ch i hi j (by omega)).2 (show decode cS_charAt 15 = .ok (.ireturn, 1) by decide +kernel)
/-- where a byte stands first, from j on, k places -/
def ixG (i : Nat) (b : Int32) : Nat → Nat → Int32
  | 0, _ => -1
  | k + 1, j => if (srB.getD i []).getD j 0 = b then Int32.ofNat j else ixG i b k (j + 1)
theorem j_ixC (hj : ∀ U H, Od U H → OJ base ad av ta U H) (hOd : OdOk base Od) (hi : i < 6) {ch : Int32} : CtrJ dC dI cy base Od l n yS_ixC cS_ixC 6 (some .int) [.ref (av i), .int ch, .int 0, .int (Int32.ofNat (srL.getD i 0))] (some (.int (ixG i ch.toInt8.toInt32 (srL.getD i 0) 0))) h := by
  have h4 := sr_len i hi
  refine ctrJ_of rfl hOd (by first | exact Nat.le_refl _ | exact Nat.le_of_ble_eq_true rfl | assumption) ?_
  intro p e R s mid args below meth c ls hC hS hl
  obtain ⟨hx, hb, hr, hml, hown, hts, hlocks, hK, hOd, hod, hfr, hlo⟩ := id hC
  have hJ := hj s s.heap hod
  replace hl : lv_has ls 6 [(0, .ref (av i)), (1, .int ch), (2, .int 0), (3, .int (Int32.ofNat (srL.getD i 0)))] := hl
  refine lv_iload_n hx hb (show decode cS_ixC 0 = .ok (.iload_n 1, 1) by decide +kernel) rfl (lv_at hl 1 rfl) ?_
  refine lv_i2b hx hb (show decode cS_ixC 1 = .ok (.i2b, 1) by decide +kernel) rfl ?_
  refine lv_istore (lv' := [(4, .int ch.toInt8.toInt32), (0, .ref (av i)), (1, .int ch), (2, .int 0), (3, .int (Int32.ofNat (srL.getD i 0)))]) hx hb (show decode cS_ixC 2 = .ok (.istore 4, 2) by decide +kernel) hl (by decide) rfl ?_
  clear hl; intro ls hl
  refine lv_iload_n hx hb (show decode cS_ixC 4 = .ok (.iload_n 2, 1) by decide +kernel) rfl (lv_at hl 3 rfl) ?_
  refine lv_istore (lv' := [(5, .int 0), (4, .int ch.toInt8.toInt32), (0, .ref (av i)), (1, .int ch), (2, .int 0), (3, .int (Int32.ofNat (srL.getD i 0)))]) hx hb (show decode cS_ixC 5 = .ok (.istore 5, 2) by decide +kernel) hl (by decide) rfl ?_
  clear hl; intro ls hl
  have key : ∀ (k j : Nat) (ls : Array Slot), j + k = srL.getD i 0 → ixG i ch.toInt8.toInt32 k j = ixG i ch.toInt8.toInt32 (srL.getD i 0) 0 → lv_has ls 6 [(5, .int (Int32.ofNat j)), (4, .int ch.toInt8.toInt32), (0, .ref (av i)), (1, .int ch), (2, .int 0), (3, .int (Int32.ofNat (srL.getD i 0)))] → W p l e R s mid args below meth c s.heap [] 0 0 (MQ below (QJ dC dI cy base Od (some (.int (ixG i ch.toInt8.toInt32 (srL.getD i 0) 0))) h) args s 0 0 (fun q => base ≤ q)) (F0 mid 7 ls []) := by
    intro k
    induction k with
    | zero =>
      intro j ls hj hR hl
      rw [← hR]
      refine lv_iload hx hb (show decode cS_ixC 7 = .ok (.iload 5, 2) by decide +kernel) (lv_at hl 0 rfl) ?_
      refine lv_iload_n hx hb (show decode cS_ixC 9 = .ok (.iload_n 3, 1) by decide +kernel) rfl (lv_at hl 5 rfl) ?_
      refine lv_icmp_ge (tgt := 31) hx hb (show decode cS_ixC 10 = .ok (.if_icmp .ge (21), 3) by decide +kernel) rfl (fun _ => ?_) (fun q => absurd (nI_le (by omega) (by omega)) q)
      refine lv_iconst (v := -1) hx hb (show decode cS_ixC 31 = .ok (.iconst (-1), 1) by decide +kernel) rfl ?_
      exact j_rz hC hS rfl (show decode cS_ixC 32 = .ok (.ireturn, 1) by decide +kernel)
    | succ k ih =>
      intro j ls hj hR hl
      refine lv_iload hx hb (show decode cS_ixC 7 = .ok (.iload 5, 2) by decide +kernel) (lv_at hl 0 rfl) ?_
      refine lv_iload_n hx hb (show decode cS_ixC 9 = .ok (.iload_n 3, 1) by decide +kernel) rfl (lv_at hl 5 rfl) ?_
      refine lv_icmp_ge (tgt := 31) hx hb (show decode cS_ixC 10 = .ok (.if_icmp .ge (21), 3) by decide +kernel) rfl (fun q => absurd q (nI_ge (by omega) (by omega))) (fun _ => ?_)
      refine lv_aload_n hx hb (show decode cS_ixC 13 = .ok (.aload_n 0, 1) by decide +kernel) rfl (lv_at hl 2 rfl) ?_
      refine lv_iload hx hb (show decode cS_ixC 14 = .ok (.iload 5, 2) by decide +kernel) (lv_at hl 0 rfl) ?_
      refine va_tb hx hb (hJ.2.2.1.1 i hi).2.2.2 hS.2.2 (vp_in_nI (by omega) (by omega)) (v := .int ((srB.getD i []).getD j 0)) (by show Value.int ((srB.getD i []).getD (Int32.ofNat j).toNatClampNeg 0) = _; rw [show (Int32.ofNat j).toNatClampNeg = j from nI_clamp (by omega)]) (show decode cS_ixC 16 = .ok (.baload, 1) by decide +kernel) ?_
      refine lv_iload hx hb (show decode cS_ixC 17 = .ok (.iload 4, 2) by decide +kernel) (lv_at hl 1 rfl) ?_
      refine lv_icmp_ne (tgt := 25) hx hb (show decode cS_ixC 19 = .ok (.if_icmp .ne (6), 3) by decide +kernel) rfl (fun q => ?_) (fun q => ?_)
      · rw [show ixG i ch.toInt8.toInt32 (k + 1) j = ixG i ch.toInt8.toInt32 k (j + 1) from if_neg q] at hR
        refine lv_iinc (k := 0) (v := Int32.ofNat (j + 1)) (lv' := [(5, .int (Int32.ofNat (j + 1))), (4, .int ch.toInt8.toInt32), (0, .ref (av i)), (1, .int ch), (2, .int 0), (3, .int (Int32.ofNat (srL.getD i 0)))]) hx hb (show decode cS_ixC 25 = .ok (.iinc 5 1, 3) by decide +kernel) hl rfl (nI_1 j) (by decide) rfl ?_
        clear hl; intro ls hl
        refine lv_goto (tgt := 7) hx hb (show decode cS_ixC 28 = .ok (.goto (-21), 3) by decide +kernel) rfl ?_
        exact ih (j + 1) ls (by omega) hR hl
      · rw [← hR, show ixG i ch.toInt8.toInt32 (k + 1) j = Int32.ofNat j from if_pos q]
        refine lv_iload hx hb (show decode cS_ixC 22 = .ok (.iload 5, 2) by decide +kernel) (lv_at hl 0 rfl) ?_
        exact j_rz hC hS rfl (show decode cS_ixC 24 = .ok (.ireturn, 1) by decide +kernel)
  exact key (srL.getD i 0) 0 ls (by omega) rfl hl
theorem j_canE (hj : ∀ U H, Od U H → OJ base ad av ta U H) (hOd : OdOk base Od) {ch : Int32} (h1 : ¬ ch < 0) (h2 : ¬ 255 < ch) : CtrJ dC dI cy base Od l n yS_canE cS_canE 1 (some .boolean) [.int ch] (some (.int 1)) h := by
  refine ctrJ_of rfl hOd (by first | exact Nat.le_refl _ | exact Nat.le_of_ble_eq_true rfl | assumption) ?_
  intro p e R s mid args below meth c ls hC hS hl
  obtain ⟨hx, hb, hr, hml, hown, hts, hlocks, hK, hOd, hod, hfr, hlo⟩ := id hC
  have hJ := hj s s.heap hod
  replace hl : lv_has ls 1 [(0, .int ch)] := hl
  refine lv_iload_n hx hb (show decode cS_canE 0 = .ok (.iload_n 0, 1) by decide +kernel) rfl (lv_at hl 0 rfl) ?_
  refine lv_if_lt (tgt := 15) hx hb (show decode cS_canE 1 = .ok (.ifCond .lt 14, 3) by decide +kernel) rfl (fun q => absurd q h1) (fun _ => ?_)
  refine lv_iload_n hx hb (show decode cS_canE 4 = .ok (.iload_n 0, 1) by decide +kernel) rfl (lv_at hl 0 rfl) ?_
  refine lv_sipush (v := 255) hx hb (show decode cS_canE 5 = .ok (.sipush 255, 3) by decide +kernel) rfl ?_
  refine lv_icmp_gt (tgt := 15) hx hb (show decode cS_canE 8 = .ok (.if_icmp .gt (7), 3) by decide +kernel) rfl (fun q => absurd q h2) (fun _ => ?_)
  refine lv_iconst (v := 1) hx hb (show decode cS_canE 11 = .ok (.iconst (1), 1) by decide +kernel) rfl ?_
  refine lv_goto (tgt := 16) hx hb (show decode cS_canE 12 = .ok (.goto (4), 3) by decide +kernel) rfl ?_
  exact j_rz hC hS rfl (show decode cS_canE 16 = .ok (.ireturn, 1) by decide +kernel)
theorem j_ixL (hj : ∀ U H, Od U H → OJ base ad av ta U H) (hOd : OdOk base Od) (hi : i < 6) {ch : Int32} (h1 : ¬ ch < 0) (h2 : ¬ 255 < ch) : CtrJ dC dI cy base Od l (n + 1) yS_ixL cS_ixL 4 (some .int) [.ref (av i), .int ch, .int 0, .int (Int32.ofNat (srL.getD i 0))] (some (.int (ixG i ch.toInt8.toInt32 (srL.getD i 0) 0))) h := by
  have h4 := sr_len i hi
  have h0 := sr_pos i hi
  refine ctrJ_of rfl hOd (by first | exact Nat.le_refl _ | exact Nat.le_of_ble_eq_true rfl | assumption) ?_
  intro p e R s mid args below meth c ls hC hS hl
  obtain ⟨hx, hb, hr, hml, hown, hts, hlocks, hK, hOd, hod, hfr, hlo⟩ := id hC
  have hJ := hj s s.heap hod
  replace hl : lv_has ls 4 [(0, .ref (av i)), (1, .int ch), (2, .int 0), (3, .int (Int32.ofNat (srL.getD i 0)))] := hl
  refine lv_iload_n hx hb (show decode cS_ixL 0 = .ok (.iload_n 1, 1) by decide +kernel) rfl (lv_at hl 1 rfl) ?_
  refine j_S [.int ch] [] hC hS (j_canE (n := n) hj hOd h1 h2) okS_canE ml_StringLatin1_88 sS_canE (Nat.le_refl _) rfl hl.1 rfl (Nat.le_of_ble_eq_true rfl) (show decode cS_ixL 1 = .ok (.invokestatic 88, 3) by decide +kernel) ?_
  intro H locs hS
  refine lv_if_ne (tgt := 9) hx hb (show decode cS_ixL 4 = .ok (.ifCond .ne 5, 3) by decide +kernel) rfl (fun _ => ?_) (fun q => absurd q (by decide))
  refine lv_iload_n hx hb (show decode cS_ixL 9 = .ok (.iload_n 2, 1) by decide +kernel) rfl (lv_at hl 2 rfl) ?_
  refine lv_iconst (v := 0) hx hb (show decode cS_ixL 10 = .ok (.iconst (0), 1) by decide +kernel) rfl ?_
  refine va_mmax hx hb (by rw [hml, hl.1]) hown (hts _ (gd_TBL ml_StringLatin1_92)) (hts _ wS_max) (hts _ wI_math) (hts _ wC_max) (by rw [hfr]; omega) (by rw [hlo]; show 0 + 13 ≤ _; omega) (Nat.zero_le _) (Nat.zero_le _) (show decode cS_ixL 11 = .ok (.invokestatic 92, 3) by decide +kernel) ?_
  rw [ite_self]
  refine lv_istore_n (lv' := [(2, .int 0), (0, .ref (av i)), (1, .int ch), (3, .int (Int32.ofNat (srL.getD i 0)))]) hx hb (show decode cS_ixL 14 = .ok (.istore_n 2, 1) by decide +kernel) rfl hl (by decide) rfl ?_
  clear hl; intro ls hl
  refine lv_iload_n hx hb (show decode cS_ixL 15 = .ok (.iload_n 3, 1) by decide +kernel) rfl (lv_at hl 3 rfl) ?_
  refine lv_aload_n hx hb (show decode cS_ixL 16 = .ok (.aload_n 0, 1) by decide +kernel) rfl (lv_at hl 1 rfl) ?_
  refine va_tlen hx hb (hJ.2.2.1.1 i hi).2.2.2 hS.2.2 rfl (show decode cS_ixL 17 = .ok (.arraylength, 1) by decide +kernel) ?_
  refine va_mmin hx hb (by rw [hml, hl.1]) hown (hts _ (gd_TBL ml_StringLatin1_38)) (hts _ wS_min) (hts _ wI_math) (hts _ wC_min) (by rw [hfr]; omega) (by rw [hlo]; show 0 + 13 ≤ _; omega) (Nat.zero_le _) (Nat.zero_le _) (show decode cS_ixL 18 = .ok (.invokestatic 38, 3) by decide +kernel) ?_
  rw [ite_self]
  refine lv_istore_n (lv' := [(3, .int (Int32.ofNat (srL.getD i 0))), (2, .int 0), (0, .ref (av i)), (1, .int ch)]) hx hb (show decode cS_ixL 21 = .ok (.istore_n 3, 1) by decide +kernel) rfl hl (by decide) rfl ?_
  clear hl; intro ls hl
  refine lv_iload_n hx hb (show decode cS_ixL 22 = .ok (.iload_n 2, 1) by decide +kernel) rfl (lv_at hl 1 rfl) ?_
  refine lv_iload_n hx hb (show decode cS_ixL 23 = .ok (.iload_n 3, 1) by decide +kernel) rfl (lv_at hl 0 rfl) ?_
  refine lv_icmp_lt (tgt := 29) hx hb (show decode cS_ixL 24 = .ok (.if_icmp .lt (5), 3) by decide +kernel) rfl (fun _ => ?_) (fun q => absurd (nI_lt (a := 0) h0 (by omega)) q)
  refine lv_aload_n hx hb (show decode cS_ixL 29 = .ok (.aload_n 0, 1) by decide +kernel) rfl (lv_at hl 2 rfl) ?_
  refine lv_iload_n hx hb (show decode cS_ixL 30 = .ok (.iload_n 1, 1) by decide +kernel) rfl (lv_at hl 3 rfl) ?_
  refine lv_iload_n hx hb (show decode cS_ixL 31 = .ok (.iload_n 2, 1) by decide +kernel) rfl (lv_at hl 1 rfl) ?_
  refine lv_iload_n hx hb (show decode cS_ixL 32 = .ok (.iload_n 3, 1) by decide +kernel) rfl (lv_at hl 0 rfl) ?_
  refine j_S [.ref (av i), .int ch, .int 0, .int (Int32.ofNat (srL.getD i 0))] [] hC hS (j_ixC (n := n) hj hOd hi) okS_ixC ml_StringLatin1_95 sS_ixC (Nat.le_refl _) rfl hl.1 rfl (Nat.le_of_ble_eq_true rfl) (show decode cS_ixL 33 = .ok (.invokestatic 95, 3) by decide +kernel) ?_
  intro H locs hS
  exact j_rz hC hS rfl (show decode cS_ixL 36 = .ok (.ireturn, 1) by decide +kernel)
theorem j_ix2 (hj : ∀ U H, Od U H → OJ base ad av ta U H) (hOd : OdOk base Od) (hi : i < 6) {ch : Int32} (h1 : ¬ ch < 0) (h2 : ¬ 255 < ch) : CtrJ dC dI cy base Od l (n + 2) yS_ix2 cS_ix2 3 (some .int) [.ref (ad i), .int ch, .int 0] (some (.int (ixG i ch.toInt8.toInt32 (srL.getD i 0) 0))) h := by
  refine ctrJ_of rfl hOd (by first | exact Nat.le_refl _ | exact Nat.le_of_ble_eq_true rfl | assumption) ?_
  intro p e R s mid args below meth c ls hC hS hl
  obtain ⟨hx, hb, hr, hml, hown, hts, hlocks, hK, hOd, hod, hfr, hlo⟩ := id hC
  have hJ := hj s s.heap hod
  replace hl : lv_has ls 3 [(0, .ref (ad i)), (1, .int ch), (2, .int 0)] := hl
  refine lv_aload_n hx hb (show decode cS_ix2 0 = .ok (.aload_n 0, 1) by decide +kernel) rfl (lv_at hl 0 rfl) ?_
  refine j_V [] [] hC hS (j_isL (n := n + 1) hj hOd hi) okS_isL ml_String_492 iS_isL eS_isL (vk_recv hJ.2.2.1 hi hS.2.2) (Nat.le_refl _) rfl hl.1 rfl (Nat.le_of_ble_eq_true rfl) (show decode cS_ix2 1 = .ok (.invokevirtual 492, 3) by decide +kernel) ?_
  intro H locs hS
  refine lv_if_eq (tgt := 23) hx hb (show decode cS_ix2 4 = .ok (.ifCond .eq 19, 3) by decide +kernel) rfl (fun q => absurd q (by decide)) (fun _ => ?_)
  refine lv_aload_n hx hb (show decode cS_ix2 7 = .ok (.aload_n 0, 1) by decide +kernel) rfl (lv_at hl 0 rfl) ?_
  refine vk_getf hx hb (hJ.2.2.1.1 i hi).2.2.1 hS.2.2 hown (hts _ (gd_TBL fl_String_9)) (fun _ q => q) (show decode cS_ix2 8 = .ok (.getfield 9, 3) by decide +kernel) ?_
  refine lv_iload_n hx hb (show decode cS_ix2 11 = .ok (.iload_n 1, 1) by decide +kernel) rfl (lv_at hl 1 rfl) ?_
  refine lv_iload_n hx hb (show decode cS_ix2 12 = .ok (.iload_n 2, 1) by decide +kernel) rfl (lv_at hl 2 rfl) ?_
  refine lv_aload_n hx hb (show decode cS_ix2 13 = .ok (.aload_n 0, 1) by decide +kernel) rfl (lv_at hl 0 rfl) ?_
  refine j_V [] [.int 0, .int ch, .ref (av i)] hC hS (j_length (n := n) hj hOd hi) okS_length ml_String_505 iS_length eS_length (vk_recv hJ.2.2.1 hi hS.2.2) (Nat.le_refl _) rfl hl.1 rfl (Nat.le_of_ble_eq_true rfl) (show decode cS_ix2 14 = .ok (.invokevirtual 505, 3) by decide +kernel) ?_
  intro H locs hS
  refine j_S [.ref (av i), .int ch, .int 0, .int (Int32.ofNat (srL.getD i 0))] [] hC hS (j_ixL (n := n) hj hOd hi h1 h2) okS_ixL ml_String_637 sS_ixL (Nat.le_refl _) rfl hl.1 rfl (Nat.le_of_ble_eq_true rfl) (show decode cS_ix2 17 = .ok (.invokestatic 637, 3) by decide +kernel) ?_
  intro H locs hS
  refine lv_goto (tgt := 36) hx hb (show decode cS_ix2 20 = .ok (.goto (16), 3) by decide +kernel) rfl ?_
  exact j_rz hC hS rfl (show decode cS_ix2 36 = .ok (.ireturn, 1) by decide +kernel)
theorem j_ix1 (hj : ∀ U H, Od U H → OJ base ad av ta U H) (hOd : OdOk base Od) (hi : i < 6) {ch : Int32} (h1 : ¬ ch < 0) (h2 : ¬ 255 < ch) : CtrJ dC dI cy base Od l (n + 3) yS_ix1 cS_ix1 2 (some .int) [.ref (ad i), .int ch] (some (.int (ixG i ch.toInt8.toInt32 (srL.getD i 0) 0))) h := by
  refine ctrJ_of rfl hOd (by first | exact Nat.le_refl _ | exact Nat.le_of_ble_eq_true rfl | assumption) ?_
  intro p e R s mid args below meth c ls hC hS hl
  obtain ⟨hx, hb, hr, hml, hown, hts, hlocks, hK, hOd, hod, hfr, hlo⟩ := id hC
  have hJ := hj s s.heap hod
  replace hl : lv_has ls 2 [(0, .ref (ad i)), (1, .int ch)] := hl
  refine lv_aload_n hx hb (show decode cS_ix1 0 = .ok (.aload_n 0, 1) by decide +kernel) rfl (lv_at hl 0 rfl) ?_
  refine lv_iload_n hx hb (show decode cS_ix1 1 = .ok (.iload_n 1, 1) by decide +kernel) rfl (lv_at hl 1 rfl) ?_
  refine lv_iconst (v := 0) hx hb (show decode cS_ix1 2 = .ok (.iconst (0), 1) by decide +kernel) rfl ?_
  refine j_V [.int ch, .int 0] [] hC hS (j_ix2 (n := n) hj hOd hi h1 h2) okS_ix2 ml_String_633 iS_ix2 eS_ix2 (vk_recv hJ.2.2.1 hi hS.2.2) (Nat.le_refl _) rfl hl.1 rfl (Nat.le_of_ble_eq_true rfl) (show decode cS_ix1 3 = .ok (.invokevirtual 633, 3) by decide +kernel) ?_
  intro H locs hS
  exact j_rz hC hS rfl (show decode cS_ix1 6 = .ok (.ireturn, 1) by decide +kernel)
end Jd
