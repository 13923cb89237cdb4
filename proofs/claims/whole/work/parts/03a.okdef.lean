def kM (m : Nat) : Nat := cond (Nat.blt m 97) (cond (Nat.blt m 48) (cond (Nat.blt m 24) (cond (Nat.blt m 12) (cond (Nat.blt m 6) (cond (Nat.blt m 3) (cond (Nat.blt m 1) (2) (cond (Nat.blt m 2) (1) (1))) (cond (Nat.blt m 4) (1) (cond (Nat.blt m 5) (1) (1)))) (cond (Nat.blt m 9) (cond (Nat.blt m 7) (2) (cond (Nat.blt m 8) (1) (0))) (cond (Nat.blt m 10) (1) (cond (Nat.blt m 11) (2) (1))))) (cond (Nat.blt m 18) (cond (Nat.blt m 15) (cond (Nat.blt m 13) (0) (cond (Nat.blt m 14) (0) (1))) (cond (Nat.blt m 16) (1) (cond (Nat.blt m 17) (1) (0)))) (cond (Nat.blt m 21) (cond (Nat.blt m 19) (1) (cond (Nat.blt m 20) (1) (1))) (cond (Nat.blt m 22) (1) (cond (Nat.blt m 23) (1) (1)))))) (cond (Nat.blt m 36) (cond (Nat.blt m 30) (cond (Nat.blt m 27) (cond (Nat.blt m 25) (1) (cond (Nat.blt m 26) (2) (1))) (cond (Nat.blt m 28) (1) (cond (Nat.blt m 29) (1) (1)))) (cond (Nat.blt m 33) (cond (Nat.blt m 31) (1) (cond (Nat.blt m 32) (1) (2))) (cond (Nat.blt m 34) (2) (cond (Nat.blt m 35) (2) (1))))) (cond (Nat.blt m 42) (cond (Nat.blt m 39) (cond (Nat.blt m 37) (1) (cond (Nat.blt m 38) (1) (1))) (cond (Nat.blt m 40) (1) (cond (Nat.blt m 41) (1) (1)))) (cond (Nat.blt m 45) (cond (Nat.blt m 43) (1) (cond (Nat.blt m 44) (1) (1))) (cond (Nat.blt m 46) (1) (cond (Nat.blt m 47) (1) (1))))))) (cond (Nat.blt m 72) (cond (Nat.blt m 60) (cond (Nat.blt m 54) (cond (Nat.blt m 51) (cond (Nat.blt m 49) (1) (cond (Nat.blt m 50) (1) (1))) (cond (Nat.blt m 52) (0) (cond (Nat.blt m 53) (0) (2)))) (cond (Nat.blt m 57) (cond (Nat.blt m 55) (0) (cond (Nat.blt m 56) (0) (1))) (cond (Nat.blt m 58) (1) (cond (Nat.blt m 59) (1) (1))))) (cond (Nat.blt m 66) (cond (Nat.blt m 63) (cond (Nat.blt m 61) (1) (cond (Nat.blt m 62) (1) (1))) (cond (Nat.blt m 64) (1) (cond (Nat.blt m 65) (1) (1)))) (cond (Nat.blt m 69) (cond (Nat.blt m 67) (1) (cond (Nat.blt m 68) (1) (1))) (cond (Nat.blt m 70) (1) (cond (Nat.blt m 71) (0) (1)))))) (cond (Nat.blt m 84) (cond (Nat.blt m 78) (cond (Nat.blt m 75) (cond (Nat.blt m 73) (1) (cond (Nat.blt m 74) (1) (1))) (cond (Nat.blt m 76) (1) (cond (Nat.blt m 77) (1) (1)))) (cond (Nat.blt m 81) (cond (Nat.blt m 79) (0) (cond (Nat.blt m 80) (1) (1))) (cond (Nat.blt m 82) (1) (cond (Nat.blt m 83) (1) (1))))) (cond (Nat.blt m 90) (cond (Nat.blt m 87) (cond (Nat.blt m 85) (1) (cond (Nat.blt m 86) (1) (1))) (cond (Nat.blt m 88) (1) (cond (Nat.blt m 89) (1) (1)))) (cond (Nat.blt m 93) (cond (Nat.blt m 91) (1) (cond (Nat.blt m 92) (1) (1))) (cond (Nat.blt m 95) (cond (Nat.blt m 94) (1) (0)) (cond (Nat.blt m 96) (1) (1)))))))) (cond (Nat.blt m 146) (cond (Nat.blt m 121) (cond (Nat.blt m 109) (cond (Nat.blt m 103) (cond (Nat.blt m 100) (cond (Nat.blt m 98) (1) (cond (Nat.blt m 99) (1) (1))) (cond (Nat.blt m 101) (1) (cond (Nat.blt m 102) (1) (1)))) (cond (Nat.blt m 106) (cond (Nat.blt m 104) (1) (cond (Nat.blt m 105) (1) (2))) (cond (Nat.blt m 107) (0) (cond (Nat.blt m 108) (0) (0))))) (cond (Nat.blt m 115) (cond (Nat.blt m 112) (cond (Nat.blt m 110) (1) (cond (Nat.blt m 111) (0) (1))) (cond (Nat.blt m 113) (1) (cond (Nat.blt m 114) (1) (0)))) (cond (Nat.blt m 118) (cond (Nat.blt m 116) (1) (cond (Nat.blt m 117) (0) (1))) (cond (Nat.blt m 119) (1) (cond (Nat.blt m 120) (1) (1)))))) (cond (Nat.blt m 133) (cond (Nat.blt m 127) (cond (Nat.blt m 124) (cond (Nat.blt m 122) (1) (cond (Nat.blt m 123) (1) (1))) (cond (Nat.blt m 125) (0) (cond (Nat.blt m 126) (1) (1)))) (cond (Nat.blt m 130) (cond (Nat.blt m 128) (1) (cond (Nat.blt m 129) (1) (1))) (cond (Nat.blt m 131) (1) (cond (Nat.blt m 132) (1) (1))))) (cond (Nat.blt m 139) (cond (Nat.blt m 136) (cond (Nat.blt m 134) (1) (cond (Nat.blt m 135) (1) (1))) (cond (Nat.blt m 137) (1) (cond (Nat.blt m 138) (1) (1)))) (cond (Nat.blt m 142) (cond (Nat.blt m 140) (1) (cond (Nat.blt m 141) (1) (1))) (cond (Nat.blt m 144) (cond (Nat.blt m 143) (1) (1)) (cond (Nat.blt m 145) (1) (1))))))) (cond (Nat.blt m 170) (cond (Nat.blt m 158) (cond (Nat.blt m 152) (cond (Nat.blt m 149) (cond (Nat.blt m 147) (1) (cond (Nat.blt m 148) (1) (1))) (cond (Nat.blt m 150) (1) (cond (Nat.blt m 151) (1) (1)))) (cond (Nat.blt m 155) (cond (Nat.blt m 153) (1) (cond (Nat.blt m 154) (1) (1))) (cond (Nat.blt m 156) (1) (cond (Nat.blt m 157) (1) (1))))) (cond (Nat.blt m 164) (cond (Nat.blt m 161) (cond (Nat.blt m 159) (0) (cond (Nat.blt m 160) (1) (1))) (cond (Nat.blt m 162) (1) (cond (Nat.blt m 163) (1) (1)))) (cond (Nat.blt m 167) (cond (Nat.blt m 165) (1) (cond (Nat.blt m 166) (1) (1))) (cond (Nat.blt m 168) (1) (cond (Nat.blt m 169) (1) (0)))))) (cond (Nat.blt m 182) (cond (Nat.blt m 176) (cond (Nat.blt m 173) (cond (Nat.blt m 171) (1) (cond (Nat.blt m 172) (1) (1))) (cond (Nat.blt m 174) (1) (cond (Nat.blt m 175) (1) (1)))) (cond (Nat.blt m 179) (cond (Nat.blt m 177) (1) (cond (Nat.blt m 178) (1) (0))) (cond (Nat.blt m 180) (1) (cond (Nat.blt m 181) (1) (1))))) (cond (Nat.blt m 188) (cond (Nat.blt m 185) (cond (Nat.blt m 183) (1) (cond (Nat.blt m 184) (1) (1))) (cond (Nat.blt m 186) (1) (cond (Nat.blt m 187) (1) (1)))) (cond (Nat.blt m 191) (cond (Nat.blt m 189) (1) (cond (Nat.blt m 190) (1) (1))) (cond (Nat.blt m 193) (cond (Nat.blt m 192) (1) (1)) (cond (Nat.blt m 194) (0) (0))))))))
def akT (k : Nat) : FieldType := cond (Nat.beq k 9) .byte (cond (Nat.beq k 10) .char (cond (Nat.beq k 11) .int .boolean))
def akA (k : Nat) : ArrayType := cond (Nat.beq k 9) .byte (cond (Nat.beq k 10) .char (cond (Nat.beq k 11) .int .boolean))
def okC (k : Nat) : String := cond (Nat.beq k 13) RX0 (cond (Nat.beq k 14) RX3 (cond (Nat.beq k 15) RX4 RX5))
def RM (ci : Nat) : String := cond (Nat.beq ci 0) RX0 (cond (Nat.beq ci 1) RX1 (cond (Nat.beq ci 2) RX2 (cond (Nat.beq ci 3) RX3 (cond (Nat.beq ci 4) RX4 (cond (Nat.beq ci 5) RX5 (cond (Nat.beq ci 6) RX6 (cond (Nat.beq ci 7) RX7 RX8)))))))
/-- the instruction that a row of the tables stands for, and its length -/
def rawI (pc : Nat) (ai : AI) : Instr × Nat := match ai with
  | (g, s, np, a, _, c, _, _, x, sw, _) => match g, s with
    | 0, 0 => (.iconst x.toInt, 1)
    | 0, 1 => (.bipush x.toInt, 2)
    | 0, 2 => (.sipush x.toInt, 3)
    | 0, 3 => (.ldc c, 2)
    | 0, 4 => (.ldc_w c, 3)
    | 0, 5 => (.iload_n (Fin.ofNat 4 a), 1)
    | 0, 6 => (.iload a, 2)
    | 0, 7 => (.aload_n (Fin.ofNat 4 a), 1)
    | 0, 8 => (.aload a, 2)
    | 1, 0 => (.istore_n (Fin.ofNat 4 a), 1)
    | 1, 1 => (.istore a, 2)
    | 1, 2 => (.astore_n (Fin.ofNat 4 a), 1)
    | 1, 3 => (.astore a, 2)
    | 1, 4 => (.iinc a x.toInt, 3)
    | 1, 5 => (.dup, 1)
    | 1, 6 => (.dup2, 1)
    | 1, 7 => (.pop, 1)
    | 1, 8 => (.goto ((a : Int) - (pc : Int)), 3)
    | 1, 9 => (.ifnonnull ((a : Int) - (pc : Int)), 3)
    | 2, 0 => (.iadd, 1)
    | 2, 1 => (.isub, 1)
    | 2, 2 => (.imul, 1)
    | 2, 3 => (.iand, 1)
    | 2, 4 => (.ior, 1)
    | 2, 5 => (.idiv, 1)
    | 2, 6 => (.irem, 1)
    | 2, 7 => (.ineg, 1)
    | 2, 8 => (.ishl, 1)
    | 2, 9 => (.ishr, 1)
    | 3, 0 => (.iushr, 1)
    | 3, 1 => (.i2b, 1)
    | 3, 2 => (.i2s, 1)
    | 3, 3 => (.i2c, 1)
    | 3, 4 => (.tableswitch ((a : Int) - (pc : Int)) x.toInt (x.toInt + sw.length - 1) (sw.map (fun q => (q.2 : Int) - (pc : Int))).toArray, np - pc)
    | 3, 5 => (.lookupswitch ((a : Int) - (pc : Int)) (sw.map (fun q => (q.1.toInt, (q.2 : Int) - (pc : Int)))).toArray, np - pc)
    | 3, 6 => (.invokestatic c, 3)
    | 3, 7 => (.invokestatic c, 3)
    | 3, 8 => (.invokestatic c, 3)
    | 4, 0 => (.ifCond .eq ((a : Int) - (pc : Int)), 3)
    | 4, 1 => (.ifCond .ne ((a : Int) - (pc : Int)), 3)
    | 4, 2 => (.ifCond .lt ((a : Int) - (pc : Int)), 3)
    | 4, 3 => (.ifCond .ge ((a : Int) - (pc : Int)), 3)
    | 4, 4 => (.ifCond .gt ((a : Int) - (pc : Int)), 3)
    | 4, 5 => (.ifCond .le ((a : Int) - (pc : Int)), 3)
    | 5, 0 => (.if_icmp .eq ((a : Int) - (pc : Int)), 3)
    | 5, 1 => (.if_icmp .ne ((a : Int) - (pc : Int)), 3)
    | 5, 2 => (.if_icmp .lt ((a : Int) - (pc : Int)), 3)
    | 5, 3 => (.if_icmp .ge ((a : Int) - (pc : Int)), 3)
    | 5, 4 => (.if_icmp .gt ((a : Int) - (pc : Int)), 3)
    | 5, 5 => (.if_icmp .le ((a : Int) - (pc : Int)), 3)
    | 6, 0 => (.getfield c, 3)
    | 6, 1 => (.getfield c, 3)
    | 6, _ => (.putfield c, 3)
    | 7, 0 => (.iaload, 1)
    | 7, 1 => (.baload, 1)
    | 7, 2 => (.baload, 1)
    | 7, 3 => (.caload, 1)
    | 7, 4 => (.aaload, 1)
    | 7, 5 => (.iastore, 1)
    | 7, 6 => (.bastore, 1)
    | 7, 7 => (.bastore, 1)
    | 7, 8 => (.castore, 1)
    | 7, 9 => (.aastore, 1)
    | 8, 0 => (.arraylength, 1)
    | 8, 1 => (.newarray (akA a), 2)
    | 8, 2 => (.anewarray c, 3)
    | 8, 3 => (.new c, 3)
    | 8, 4 => (.invokestatic c, 3)
    | 8, 5 => (.ireturn, 1)
    | 8, 6 => (.ireturn, 1)
    | 8, 7 => (.areturn, 1)
    | 8, 8 => (.return_, 1)
    | 9, 0 => (.invokestatic c, 3)
    | 9, 1 => (.invokestatic c, 3)
    | 9, 2 => (.invokevirtual c, 3)
    | 9, _ => (.invokespecial c, 3)
    | _, _ => (.nop, 1)
def tbB (d : Nat) (w : Cond) : Bool := decide (lw_tbl[d]? = some w)
/-- what else a row rests on: words of the tables, by their places -/
def okA (m : Nat) (ai : AI) : Bool := match ai with
  | (g, s, _, a, b, c, d, e, x, sw, _) => match g, s with
    | 0, 1 => decide ((Int8.ofInt x.toInt).toInt32 = x)
    | 0, 2 => decide ((Int16.ofInt x.toInt).toInt32 = x)
    | 0, 3 => tbB d (.constant (yM m).cls c x)
    | 0, 4 => tbB d (.constant (yM m).cls c x)
    | 0, 5 => Nat.blt a 4
    | 0, 7 => Nat.blt a 4
    | 1, 0 => Nat.blt a 4
    | 1, 2 => Nat.blt a 4
    | 3, 4 => (List.range sw.length).all (fun i => decide ((sw.getD i (0, 0)).1.toInt = x.toInt + (i : Int)))
    | 3, 5 => ((sw.map (fun q => (q.1.toInt, q.2))).zip ((sw.map (fun q => (q.1.toInt, q.2))).drop 1)).all (fun q => decide (q.1.1 < q.2.1))
    | 3, 6 => tbB d (.methodLink (yM m).cls c Lib.Math.min.name)
    | 3, 7 => tbB d (.methodLink (yM m).cls c Lib.Math.max.name)
    | 3, 8 => tbB d (.methodLink (yM m).cls c Lib.Math.abs.name)
    | 6, 0 => tbB d (.fieldLink (yM m).cls c (TM a b).1 (TM a b).2.1 (TM a b).2.2.1) && Nat.blt b (nF a) && !fr a b && Nat.blt a 9
    | 6, 1 => tbB d (.fieldLink (yM m).cls c (TM a b).1 (TM a b).2.1 (TM a b).2.2.1) && Nat.blt b (nF a) && fr a b && Nat.blt a 9
    | 6, 2 => tbB d (.fieldLink (yM m).cls c (TM a b).1 (TM a b).2.1 (TM a b).2.2.1) && Nat.blt b (nF a) && !fr a b && Nat.blt a 9 && decide ((TM a b).2.2.1 = "I") && !(TM a b).2.2.2
    | 6, 3 => tbB d (.fieldLink (yM m).cls c (TM a b).1 (TM a b).2.1 (TM a b).2.2.1) && Nat.blt b (nF a) && !fr a b && Nat.blt a 9 && decide ((TM a b).2.2.1 = "Z") && !(TM a b).2.2.2
    | 6, 4 => tbB d (.fieldLink (yM m).cls c (TM a b).1 (TM a b).2.1 (TM a b).2.2.1) && Nat.blt b (nF a) && !fr a b && Nat.blt a 9 && decide ((TM a b).2.2.1 = "I") && (TM a b).2.2.2 && decide ((TM a b).1 = (yM m).cls) && decide ((yM m).name = "<init>")
    | 6, 5 => tbB d (.fieldLink (yM m).cls c (TM a b).1 (TM a b).2.1 (TM a b).2.2.1) && Nat.blt b (nF a) && fr a b && Nat.blt a 9 && (TM a b).2.2.2 && decide ((TM a b).1 = (yM m).cls) && decide ((yM m).name = "<init>")
    | 6, _ => false
    | 8, 1 => tbB d (.arrayClass (akT a)) && (Nat.blt 8 a && Nat.blt a 13)
    | 8, 2 => tbB d (.classLink (yM m).cls c (okC a)) && tbB e (.arrayOver (.object (okC a))) && (Nat.blt 12 a && Nat.blt a 17)
    | 8, 3 => tbB d (.classLink (yM m).cls c (RM a)) && Nat.blt a 9
    | 8, 4 => tbB d (.methodLink (yM m).cls c arraycopyName)
    | 8, 5 => decide (rtM m = some .int)
    | 8, 6 => decide (rtM m = some .boolean)
    | 8, 7 => match rtM m with
      | some (.object _) => true
      | some (.array _) => true
      | _ => false
    | 8, 8 => decide (rtM m = none)
    | 9, 0 => tbB d (.methodLink (yM m).cls c (yM a)) && Nat.beq (kM a) 0 && Nat.beq b (npM a) && Nat.blt a NM
    | 9, 1 => tbB d (.methodLinkNest (yM m).cls c (yM a) "JugMemory") && Nat.beq (kM a) 0 && Nat.beq b (npM a) && Nat.blt a NM
    | 9, 2 => tbB d (.methodLink (yM m).cls c (yM a)) && Nat.beq (kM a) 1 && Nat.beq b (npM a) && Nat.blt a NM && Nat.blt e 9 && decide (RM e = (yM a).cls)
    | 9, 3 => tbB d (.methodLink (yM m).cls c (yM a)) && Nat.beq (kM a) 2 && Nat.beq b (npM a) && Nat.blt a NM
    | 9, 4 => tbB d (.methodLinkNest (yM m).cls c (yM a) "JugMemory") && Nat.beq (kM a) 2 && Nat.beq b (npM a) && Nat.blt a NM
    | 9, 5 => tbB d (.methodLink (yM m).cls c objectInit)
    | _, _ => true
def okI (m pc : Nat) (ai : AI) : Bool := Nat.beq ai.1 99 || (decide (decode (bM m) pc = .ok (rawI pc ai)) && Nat.beq ai.2.2.1 (pc + (rawI pc ai).2) && okA m ai)
/-- a method's own words, by their places -/
def okMB (m p0 p1 p2 p3 : Nat) : Bool := decide (lw_tbl[p0]? = some (.code (yM m) (bM m) (mlM m) (rtM m))) && tbB p1 (.initialized (yM m).cls) && decide ((yM m).cls ≠ "java/lang/invoke/MethodHandle") && decide ((yM m).cls ≠ "java/lang/invoke/VarHandle") && decide ((parseMethodDescriptor (yM m).desc).map (fun d => d.parameters.length) = some (npM m)) && plainName (yM m).cls && Nat.ble (mlM m) 40 &&
  (match kM m with
    | 0 => tbB p2 (.static (yM m))
    | 1 => tbB p2 (.instanceMethod (yM m)) && tbB p3 (.selects (yM m).cls (yM m) (yM m))
    | _ => tbB p2 (.instanceMethod (yM m)) && decide ((yM m).name = "<init>"))
theorem okR {t : Nat → Option AI} {LEN m : Nat} (hg : ∀ pc ai, t pc = some ai → pc < LEN) (h : (List.range LEN).all (fun pc => match t pc with
    | none => true
    | some ai => okI m pc ai) = true) : ∀ pc ai, t pc = some ai → okI m pc ai = true := by
  intro pc ai ht
  have h1 := List.all_eq_true.mp h pc (List.mem_range.mpr (hg pc ai ht))
  simp only [ht] at h1
  exact h1
theorem condlt {pc L : Nat} {A : Option AI} {ai : AI} (h : cond (Nat.blt pc L) A none = some ai) : pc < L := by
  cases hb : Nat.blt pc L with
  | false => rw [hb] at h; cases h
  | true => exact Nat.le_of_ble_eq_true hb
