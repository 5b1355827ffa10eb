/-! ===== written by a program: the tables hold the bytecode ===== -/
def ilen (i : Instr) : Nat := match i with
  | .newarray _ | .bipush _ | .ldc _ | .iload _ | .aload _ | .dload _ | .istore _ | .astore _ | .dstore _ => 2
  | .sipush _ | .ldc_w _ | .iinc .. | .ifCond .. | .if_icmp .. | .goto _ | .getfield _ | .putfield _ | .getstatic _ | .invokevirtual _ | .invokestatic _ | .invokespecial _ | .new _ => 3
  | _ => 1
def iok (i : Instr) (len : Nat) : Bool := match i with
  | .tableswitch _ lo hi offs => decide (hi = lo + offs.size - 1)
  | .bipush v => Nat.beq len 2 && (decide (-128 ≤ v) && decide (v < 128))
  | .iconst v => Nat.beq len 1 && (decide (-128 ≤ v) && decide (v < 128))
  | .sipush v => Nat.beq len 3 && (decide (-32768 ≤ v) && decide (v < 32768))
  | .iinc _ v => Nat.beq len 3 && (decide (-32768 ≤ v) && decide (v < 32768))
  | i => Nat.beq len (ilen i)
noncomputable def ckD (y pc : Nat) : Bool := match cd y pc with
  | none => true
  | some (i, len) => decide (decode (byt y) pc = .ok (i, len)) && iok i len
def DK (y : Nat) : Prop := ∀ pc i len, cd y pc = some (i, len) → decode (byt y) pc = .ok (i, len) ∧ iok i len = true
theorem DK.of {y : Nat} (n : Nat) (hn : ∀ pc, cd y pc ≠ none → pc < n) (h : (List.range n).all (ckD y) = true) : DK y := by
  intro pc i len hc
  have h1 := List.all_eq_true.mp h pc (List.mem_range.mpr (hn pc (by rw [hc]; exact fun z => by cases z)))
  unfold ckD at h1
  rw [hc] at h1
  simpa only [Bool.and_eq_true, decide_eq_true_eq] using h1
theorem blt_guard {α : Type} {pc n : Nat} {x : Option α} (h : (bif Nat.blt pc n then x else none) ≠ none) : pc < n := by
  cases hb : Nat.blt pc n with
  | false => rw [hb] at h; exact absurd rfl h
  | true => exact Nat.blt_eq.mp hb
set_option maxRecDepth 100000 in
theorem dk_0 : DK 0 := DK.of 41 (fun pc h => blt_guard (n := 41) h) (by decide +kernel)
set_option maxRecDepth 100000 in
theorem dk_1 : DK 1 := DK.of 58 (fun pc h => blt_guard (n := 58) h) (by decide +kernel)
set_option maxRecDepth 100000 in
theorem dk_2 : DK 2 := DK.of 194 (fun pc h => blt_guard (n := 194) h) (by decide +kernel)
set_option maxRecDepth 100000 in
theorem dk_3 : DK 3 := DK.of 74 (fun pc h => blt_guard (n := 74) h) (by decide +kernel)
set_option maxRecDepth 100000 in
theorem dk_4 : DK 4 := DK.of 42 (fun pc h => blt_guard (n := 42) h) (by decide +kernel)
set_option maxRecDepth 100000 in
theorem dk_5 : DK 5 := DK.of 40 (fun pc h => blt_guard (n := 40) h) (by decide +kernel)
set_option maxRecDepth 100000 in
theorem dk_6 : DK 6 := DK.of 6 (fun pc h => blt_guard (n := 6) h) (by decide +kernel)
set_option maxRecDepth 100000 in
theorem dk_7 : DK 7 := DK.of 71 (fun pc h => blt_guard (n := 71) h) (by decide +kernel)
set_option maxRecDepth 100000 in
theorem dk_8 : DK 8 := DK.of 45 (fun pc h => blt_guard (n := 45) h) (by decide +kernel)
set_option maxRecDepth 100000 in
theorem dk_9 : DK 9 := DK.of 173 (fun pc h => blt_guard (n := 173) h) (by decide +kernel)
set_option maxRecDepth 100000 in
theorem dk_10 : DK 10 := DK.of 39 (fun pc h => blt_guard (n := 39) h) (by decide +kernel)
set_option maxRecDepth 100000 in
theorem dk_11 : DK 11 := DK.of 103 (fun pc h => blt_guard (n := 103) h) (by decide +kernel)
set_option maxRecDepth 100000 in
theorem dk_12 : DK 12 := DK.of 101 (fun pc h => blt_guard (n := 101) h) (by decide +kernel)
set_option maxRecDepth 100000 in
theorem dk_13 : DK 13 := DK.of 84 (fun pc h => blt_guard (n := 84) h) (by decide +kernel)
set_option maxRecDepth 100000 in
theorem dk_14 : DK 14 := DK.of 45 (fun pc h => blt_guard (n := 45) h) (by decide +kernel)
set_option maxRecDepth 100000 in
theorem dk_15 : DK 15 := DK.of 36 (fun pc h => blt_guard (n := 36) h) (by decide +kernel)
set_option maxRecDepth 100000 in
theorem dk_16 : DK 16 := DK.of 55 (fun pc h => blt_guard (n := 55) h) (by decide +kernel)
set_option maxRecDepth 100000 in
theorem dk_17 : DK 17 := DK.of 16 (fun pc h => blt_guard (n := 16) h) (by decide +kernel)
set_option maxRecDepth 100000 in
theorem dk_18 : DK 18 := DK.of 100 (fun pc h => blt_guard (n := 100) h) (by decide +kernel)
set_option maxRecDepth 100000 in
theorem dk_19 : DK 19 := DK.of 107 (fun pc h => blt_guard (n := 107) h) (by decide +kernel)
set_option maxRecDepth 100000 in
theorem dk_20 : DK 20 := DK.of 54 (fun pc h => blt_guard (n := 54) h) (by decide +kernel)
set_option maxRecDepth 100000 in
theorem dk_21 : DK 21 := DK.of 45 (fun pc h => blt_guard (n := 45) h) (by decide +kernel)
set_option maxRecDepth 100000 in
theorem dk_22 : DK 22 := DK.of 12 (fun pc h => blt_guard (n := 12) h) (by decide +kernel)
set_option maxRecDepth 100000 in
theorem dk_23 : DK 23 := DK.of 29 (fun pc h => blt_guard (n := 29) h) (by decide +kernel)
set_option maxRecDepth 100000 in
theorem dk_24 : DK 24 := DK.of 38 (fun pc h => blt_guard (n := 38) h) (by decide +kernel)
set_option maxRecDepth 100000 in
theorem dk_25 : DK 25 := DK.of 61 (fun pc h => blt_guard (n := 61) h) (by decide +kernel)
set_option maxRecDepth 100000 in
theorem dk_26 : DK 26 := DK.of 43 (fun pc h => blt_guard (n := 43) h) (by decide +kernel)
set_option maxRecDepth 100000 in
theorem dk_27 : DK 27 := DK.of 42 (fun pc h => blt_guard (n := 42) h) (by decide +kernel)
set_option maxRecDepth 100000 in
theorem dk_28 : DK 28 := DK.of 22 (fun pc h => blt_guard (n := 22) h) (by decide +kernel)
set_option maxRecDepth 100000 in
theorem dk_29 : DK 29 := DK.of 48 (fun pc h => blt_guard (n := 48) h) (by decide +kernel)
set_option maxRecDepth 100000 in
theorem dk_30 : DK 30 := DK.of 91 (fun pc h => blt_guard (n := 91) h) (by decide +kernel)
set_option maxRecDepth 100000 in
theorem dk_31 : DK 31 := DK.of 72 (fun pc h => blt_guard (n := 72) h) (by decide +kernel)
set_option maxRecDepth 100000 in
theorem dk_32 : DK 32 := DK.of 76 (fun pc h => blt_guard (n := 76) h) (by decide +kernel)
set_option maxRecDepth 100000 in
theorem dk_33 : DK 33 := DK.of 99 (fun pc h => blt_guard (n := 99) h) (by decide +kernel)
set_option maxRecDepth 100000 in
theorem dk_34 : DK 34 := DK.of 81 (fun pc h => blt_guard (n := 81) h) (by decide +kernel)
set_option maxRecDepth 100000 in
theorem dk_35 : DK 35 := DK.of 109 (fun pc h => blt_guard (n := 109) h) (by decide +kernel)
set_option maxRecDepth 100000 in
theorem dk_36 : DK 36 := DK.of 215 (fun pc h => blt_guard (n := 215) h) (by decide +kernel)
set_option maxRecDepth 100000 in
theorem dk_37 : DK 37 := DK.of 92 (fun pc h => blt_guard (n := 92) h) (by decide +kernel)
set_option maxRecDepth 100000 in
theorem dk_38 : DK 38 := DK.of 38 (fun pc h => blt_guard (n := 38) h) (by decide +kernel)
set_option maxRecDepth 100000 in
theorem dk_39 : DK 39 := DK.of 19 (fun pc h => blt_guard (n := 19) h) (by decide +kernel)
set_option maxRecDepth 100000 in
theorem dk_40 : DK 40 := DK.of 13 (fun pc h => blt_guard (n := 13) h) (by decide +kernel)
set_option maxRecDepth 100000 in
theorem dk_41 : DK 41 := DK.of 31 (fun pc h => blt_guard (n := 31) h) (by decide +kernel)
set_option maxRecDepth 100000 in
theorem dk_42 : DK 42 := DK.of 28 (fun pc h => blt_guard (n := 28) h) (by decide +kernel)
set_option maxRecDepth 100000 in
theorem dk_43 : DK 43 := DK.of 46 (fun pc h => blt_guard (n := 46) h) (by decide +kernel)
set_option maxRecDepth 100000 in
theorem dk_44 : DK 44 := DK.of 44 (fun pc h => blt_guard (n := 44) h) (by decide +kernel)
set_option maxRecDepth 100000 in
theorem dk_45 : DK 45 := DK.of 48 (fun pc h => blt_guard (n := 48) h) (by decide +kernel)
set_option maxRecDepth 100000 in
theorem dk_46 : DK 46 := DK.of 80 (fun pc h => blt_guard (n := 80) h) (by decide +kernel)
set_option maxRecDepth 100000 in
theorem dk_47 : DK 47 := DK.of 50 (fun pc h => blt_guard (n := 50) h) (by decide +kernel)
set_option maxRecDepth 100000 in
theorem dk_48 : DK 48 := DK.of 87 (fun pc h => blt_guard (n := 87) h) (by decide +kernel)
set_option maxRecDepth 100000 in
theorem dk_49 : DK 49 := DK.of 28 (fun pc h => blt_guard (n := 28) h) (by decide +kernel)
set_option maxRecDepth 100000 in
theorem dk_50 : DK 50 := DK.of 88 (fun pc h => blt_guard (n := 88) h) (by decide +kernel)
set_option maxRecDepth 100000 in
theorem dk_51 : DK 51 := DK.of 93 (fun pc h => blt_guard (n := 93) h) (by decide +kernel)
set_option maxRecDepth 100000 in
theorem dk_52 : DK 52 := DK.of 131 (fun pc h => blt_guard (n := 131) h) (by decide +kernel)
set_option maxRecDepth 100000 in
theorem dk_53 : DK 53 := DK.of 27 (fun pc h => blt_guard (n := 27) h) (by decide +kernel)
set_option maxRecDepth 100000 in
theorem dk_54 : DK 54 := DK.of 12 (fun pc h => blt_guard (n := 12) h) (by decide +kernel)
set_option maxRecDepth 100000 in
theorem dk_55 : DK 55 := DK.of 26 (fun pc h => blt_guard (n := 26) h) (by decide +kernel)
set_option maxRecDepth 100000 in
theorem dk_56 : DK 56 := DK.of 13 (fun pc h => blt_guard (n := 13) h) (by decide +kernel)
set_option maxRecDepth 100000 in
theorem dk_57 : DK 57 := DK.of 89 (fun pc h => blt_guard (n := 89) h) (by decide +kernel)
set_option maxRecDepth 100000 in
theorem dk_58 : DK 58 := DK.of 45 (fun pc h => blt_guard (n := 45) h) (by decide +kernel)
set_option maxRecDepth 100000 in
theorem dk_59 : DK 59 := DK.of 29 (fun pc h => blt_guard (n := 29) h) (by decide +kernel)
set_option maxRecDepth 100000 in
theorem dk_60 : DK 60 := DK.of 33 (fun pc h => blt_guard (n := 33) h) (by decide +kernel)
set_option maxRecDepth 100000 in
theorem dk_61 : DK 61 := DK.of 153 (fun pc h => blt_guard (n := 153) h) (by decide +kernel)
set_option maxRecDepth 100000 in
theorem dk_62 : DK 62 := DK.of 45 (fun pc h => blt_guard (n := 45) h) (by decide +kernel)
set_option maxRecDepth 100000 in
theorem dk_63 : DK 63 := DK.of 45 (fun pc h => blt_guard (n := 45) h) (by decide +kernel)
set_option maxRecDepth 100000 in
theorem dk_64 : DK 64 := DK.of 25 (fun pc h => blt_guard (n := 25) h) (by decide +kernel)
set_option maxRecDepth 100000 in
theorem dk_65 : DK 65 := DK.of 49 (fun pc h => blt_guard (n := 49) h) (by decide +kernel)
set_option maxRecDepth 100000 in
theorem dk_66 : DK 66 := DK.of 244 (fun pc h => blt_guard (n := 244) h) (by decide +kernel)
set_option maxRecDepth 100000 in
theorem dk_67 : DK 67 := DK.of 54 (fun pc h => blt_guard (n := 54) h) (by decide +kernel)
set_option maxRecDepth 100000 in
theorem dk_68 : DK 68 := DK.of 32 (fun pc h => blt_guard (n := 32) h) (by decide +kernel)
set_option maxRecDepth 100000 in
theorem dk_69 : DK 69 := DK.of 35 (fun pc h => blt_guard (n := 35) h) (by decide +kernel)
set_option maxRecDepth 100000 in
theorem dk_70 : DK 70 := DK.of 38 (fun pc h => blt_guard (n := 38) h) (by decide +kernel)
set_option maxRecDepth 100000 in
theorem dk_71 : DK 71 := DK.of 179 (fun pc h => blt_guard (n := 179) h) (by decide +kernel)
set_option maxRecDepth 100000 in
theorem dk_72 : DK 72 := DK.of 42 (fun pc h => blt_guard (n := 42) h) (by decide +kernel)
set_option maxRecDepth 100000 in
theorem dk_73 : DK 73 := DK.of 84 (fun pc h => blt_guard (n := 84) h) (by decide +kernel)
set_option maxRecDepth 100000 in
theorem dk_74 : DK 74 := DK.of 78 (fun pc h => blt_guard (n := 78) h) (by decide +kernel)
set_option maxRecDepth 100000 in
theorem dk_75 : DK 75 := DK.of 11 (fun pc h => blt_guard (n := 11) h) (by decide +kernel)
set_option maxRecDepth 100000 in
theorem dk_76 : DK 76 := DK.of 29 (fun pc h => blt_guard (n := 29) h) (by decide +kernel)
set_option maxRecDepth 100000 in
theorem dk_77 : DK 77 := DK.of 104 (fun pc h => blt_guard (n := 104) h) (by decide +kernel)
set_option maxRecDepth 100000 in
theorem dk_78 : DK 78 := DK.of 92 (fun pc h => blt_guard (n := 92) h) (by decide +kernel)
set_option maxRecDepth 100000 in
theorem dk_79 : DK 79 := DK.of 59 (fun pc h => blt_guard (n := 59) h) (by decide +kernel)
set_option maxRecDepth 100000 in
theorem dk_80 : DK 80 := DK.of 34 (fun pc h => blt_guard (n := 34) h) (by decide +kernel)
set_option maxRecDepth 100000 in
theorem dk_81 : DK 81 := DK.of 134 (fun pc h => blt_guard (n := 134) h) (by decide +kernel)
set_option maxRecDepth 100000 in
theorem dk_82 : DK 82 := DK.of 31 (fun pc h => blt_guard (n := 31) h) (by decide +kernel)
set_option maxRecDepth 100000 in
theorem dk_83 : DK 83 := DK.of 31 (fun pc h => blt_guard (n := 31) h) (by decide +kernel)
set_option maxRecDepth 100000 in
theorem dk_84 : DK 84 := DK.of 55 (fun pc h => blt_guard (n := 55) h) (by decide +kernel)
set_option maxRecDepth 100000 in
theorem dk_85 : DK 85 := DK.of 122 (fun pc h => blt_guard (n := 122) h) (by decide +kernel)
set_option maxRecDepth 100000 in
theorem dk_86 : DK 86 := DK.of 49 (fun pc h => blt_guard (n := 49) h) (by decide +kernel)
set_option maxRecDepth 100000 in
theorem dk_87 : DK 87 := DK.of 22 (fun pc h => blt_guard (n := 22) h) (by decide +kernel)
set_option maxRecDepth 100000 in
theorem dk_88 : DK 88 := DK.of 130 (fun pc h => blt_guard (n := 130) h) (by decide +kernel)
set_option maxRecDepth 100000 in
theorem dk_89 : DK 89 := DK.of 33 (fun pc h => blt_guard (n := 33) h) (by decide +kernel)
set_option maxRecDepth 100000 in
theorem dk_90 : DK 90 := DK.of 110 (fun pc h => blt_guard (n := 110) h) (by decide +kernel)
set_option maxRecDepth 100000 in
theorem dk_91 : DK 91 := DK.of 37 (fun pc h => blt_guard (n := 37) h) (by decide +kernel)
set_option maxRecDepth 100000 in
theorem dk_92 : DK 92 := DK.of 23 (fun pc h => blt_guard (n := 23) h) (by decide +kernel)
set_option maxRecDepth 100000 in
theorem dk_93 : DK 93 := DK.of 37 (fun pc h => blt_guard (n := 37) h) (by decide +kernel)
set_option maxRecDepth 100000 in
theorem dk_94 : DK 94 := DK.of 67 (fun pc h => blt_guard (n := 67) h) (by decide +kernel)
set_option maxRecDepth 100000 in
theorem dk_95 : DK 95 := DK.of 33 (fun pc h => blt_guard (n := 33) h) (by decide +kernel)
set_option maxRecDepth 100000 in
theorem dk_96 : DK 96 := DK.of 31 (fun pc h => blt_guard (n := 31) h) (by decide +kernel)
set_option maxRecDepth 100000 in
theorem dk_97 : DK 97 := DK.of 43 (fun pc h => blt_guard (n := 43) h) (by decide +kernel)
set_option maxRecDepth 100000 in
theorem dk_98 : DK 98 := DK.of 22 (fun pc h => blt_guard (n := 22) h) (by decide +kernel)
set_option maxRecDepth 100000 in
theorem dk_99 : DK 99 := DK.of 90 (fun pc h => blt_guard (n := 90) h) (by decide +kernel)
set_option maxRecDepth 100000 in
theorem dk_100 : DK 100 := DK.of 27 (fun pc h => blt_guard (n := 27) h) (by decide +kernel)
set_option maxRecDepth 100000 in
theorem dk_101 : DK 101 := DK.of 41 (fun pc h => blt_guard (n := 41) h) (by decide +kernel)
set_option maxRecDepth 100000 in
theorem dk_102 : DK 102 := DK.of 21 (fun pc h => blt_guard (n := 21) h) (by decide +kernel)
set_option maxRecDepth 100000 in
theorem dk_103 : DK 103 := DK.of 36 (fun pc h => blt_guard (n := 36) h) (by decide +kernel)
set_option maxRecDepth 100000 in
theorem dk_104 : DK 104 := DK.of 63 (fun pc h => blt_guard (n := 63) h) (by decide +kernel)
set_option maxRecDepth 100000 in
theorem dk_105 : DK 105 := DK.of 50 (fun pc h => blt_guard (n := 50) h) (by decide +kernel)
set_option maxRecDepth 100000 in
theorem dk_106 : DK 106 := DK.of 43 (fun pc h => blt_guard (n := 43) h) (by decide +kernel)
set_option maxRecDepth 100000 in
theorem dk_107 : DK 107 := DK.of 25 (fun pc h => blt_guard (n := 25) h) (by decide +kernel)
set_option maxRecDepth 100000 in
theorem dk_108 : DK 108 := DK.of 43 (fun pc h => blt_guard (n := 43) h) (by decide +kernel)
set_option maxRecDepth 100000 in
theorem dk_109 : DK 109 := DK.of 45 (fun pc h => blt_guard (n := 45) h) (by decide +kernel)
set_option maxRecDepth 100000 in
theorem dk_110 : DK 110 := DK.of 23 (fun pc h => blt_guard (n := 23) h) (by decide +kernel)
set_option maxRecDepth 100000 in
theorem dk_111 : DK 111 := DK.of 63 (fun pc h => blt_guard (n := 63) h) (by decide +kernel)
set_option maxRecDepth 100000 in
theorem dk_112 : DK 112 := DK.of 16 (fun pc h => blt_guard (n := 16) h) (by decide +kernel)
set_option maxRecDepth 100000 in
theorem dk_113 : DK 113 := DK.of 23 (fun pc h => blt_guard (n := 23) h) (by decide +kernel)
set_option maxRecDepth 100000 in
theorem dk_114 : DK 114 := DK.of 16 (fun pc h => blt_guard (n := 16) h) (by decide +kernel)
set_option maxRecDepth 100000 in
theorem dk_115 : DK 115 := DK.of 44 (fun pc h => blt_guard (n := 44) h) (by decide +kernel)
set_option maxRecDepth 100000 in
theorem dk_116 : DK 116 := DK.of 45 (fun pc h => blt_guard (n := 45) h) (by decide +kernel)
set_option maxRecDepth 100000 in
theorem dk_117 : DK 117 := DK.of 55 (fun pc h => blt_guard (n := 55) h) (by decide +kernel)
set_option maxRecDepth 100000 in
theorem dk_118 : DK 118 := DK.of 124 (fun pc h => blt_guard (n := 124) h) (by decide +kernel)
set_option maxRecDepth 100000 in
theorem dk_119 : DK 119 := DK.of 24 (fun pc h => blt_guard (n := 24) h) (by decide +kernel)
set_option maxRecDepth 100000 in
theorem dk_120 : DK 120 := DK.of 63 (fun pc h => blt_guard (n := 63) h) (by decide +kernel)
set_option maxRecDepth 100000 in
theorem dk_121 : DK 121 := DK.of 47 (fun pc h => blt_guard (n := 47) h) (by decide +kernel)
set_option maxRecDepth 100000 in
theorem dk_122 : DK 122 := DK.of 27 (fun pc h => blt_guard (n := 27) h) (by decide +kernel)
set_option maxRecDepth 100000 in
theorem dk_123 : DK 123 := DK.of 54 (fun pc h => blt_guard (n := 54) h) (by decide +kernel)
set_option maxRecDepth 100000 in
theorem dk_124 : DK 124 := DK.of 16 (fun pc h => blt_guard (n := 16) h) (by decide +kernel)
set_option maxRecDepth 100000 in
theorem dk_125 : DK 125 := DK.of 26 (fun pc h => blt_guard (n := 26) h) (by decide +kernel)
set_option maxRecDepth 100000 in
theorem dk_126 : DK 126 := DK.of 26 (fun pc h => blt_guard (n := 26) h) (by decide +kernel)
set_option maxRecDepth 100000 in
theorem dk_127 : DK 127 := DK.of 21 (fun pc h => blt_guard (n := 21) h) (by decide +kernel)
set_option maxRecDepth 100000 in
theorem dk_128 : DK 128 := DK.of 20 (fun pc h => blt_guard (n := 20) h) (by decide +kernel)
set_option maxRecDepth 100000 in
theorem dk_129 : DK 129 := DK.of 22 (fun pc h => blt_guard (n := 22) h) (by decide +kernel)
set_option maxRecDepth 100000 in
theorem dk_130 : DK 130 := DK.of 26 (fun pc h => blt_guard (n := 26) h) (by decide +kernel)
set_option maxRecDepth 100000 in
theorem dk_131 : DK 131 := DK.of 30 (fun pc h => blt_guard (n := 30) h) (by decide +kernel)
set_option maxRecDepth 100000 in
theorem dk_132 : DK 132 := DK.of 30 (fun pc h => blt_guard (n := 30) h) (by decide +kernel)
set_option maxRecDepth 100000 in
theorem dk_133 : DK 133 := DK.of 29 (fun pc h => blt_guard (n := 29) h) (by decide +kernel)
set_option maxRecDepth 100000 in
theorem dk_134 : DK 134 := DK.of 30 (fun pc h => blt_guard (n := 30) h) (by decide +kernel)
set_option maxRecDepth 100000 in
theorem dk_135 : DK 135 := DK.of 19 (fun pc h => blt_guard (n := 19) h) (by decide +kernel)
set_option maxRecDepth 100000 in
theorem dk_136 : DK 136 := DK.of 5 (fun pc h => blt_guard (n := 5) h) (by decide +kernel)
set_option maxRecDepth 100000 in
theorem dk_137 : DK 137 := DK.of 117 (fun pc h => blt_guard (n := 117) h) (by decide +kernel)
set_option maxRecDepth 100000 in
theorem dk_138 : DK 138 := DK.of 16 (fun pc h => blt_guard (n := 16) h) (by decide +kernel)
set_option maxRecDepth 100000 in
theorem dk_139 : DK 139 := DK.of 7 (fun pc h => blt_guard (n := 7) h) (by decide +kernel)
set_option maxRecDepth 100000 in
theorem dk_140 : DK 140 := DK.of 14 (fun pc h => blt_guard (n := 14) h) (by decide +kernel)
set_option maxRecDepth 100000 in
theorem dk_141 : DK 141 := DK.of 15 (fun pc h => blt_guard (n := 15) h) (by decide +kernel)
set_option maxRecDepth 100000 in
theorem dk_142 : DK 142 := DK.of 8 (fun pc h => blt_guard (n := 8) h) (by decide +kernel)
set_option maxRecDepth 100000 in
theorem dk_143 : DK 143 := DK.of 16 (fun pc h => blt_guard (n := 16) h) (by decide +kernel)
set_option maxRecDepth 100000 in
theorem dk_144 : DK 144 := DK.of 22 (fun pc h => blt_guard (n := 22) h) (by decide +kernel)
set_option maxRecDepth 100000 in
theorem dk_145 : DK 145 := DK.of 104 (fun pc h => blt_guard (n := 104) h) (by decide +kernel)
set_option maxRecDepth 100000 in
theorem dk_146 : DK 146 := DK.of 39 (fun pc h => blt_guard (n := 39) h) (by decide +kernel)
set_option maxRecDepth 100000 in
theorem dk_147 : DK 147 := DK.of 58 (fun pc h => blt_guard (n := 58) h) (by decide +kernel)
set_option maxRecDepth 100000 in
theorem dk_148 : DK 148 := DK.of 32 (fun pc h => blt_guard (n := 32) h) (by decide +kernel)
set_option maxRecDepth 100000 in
theorem dk_149 : DK 149 := DK.of 296 (fun pc h => blt_guard (n := 296) h) (by decide +kernel)
set_option maxRecDepth 100000 in
theorem dk_150 : DK 150 := DK.of 106 (fun pc h => blt_guard (n := 106) h) (by decide +kernel)
set_option maxRecDepth 100000 in
theorem dk_151 : DK 151 := DK.of 112 (fun pc h => blt_guard (n := 112) h) (by decide +kernel)
set_option maxRecDepth 100000 in
theorem dk_152 : DK 152 := DK.of 105 (fun pc h => blt_guard (n := 105) h) (by decide +kernel)
set_option maxRecDepth 100000 in
theorem dk_153 : DK 153 := DK.of 23 (fun pc h => blt_guard (n := 23) h) (by decide +kernel)
set_option maxRecDepth 100000 in
theorem dk_154 : DK 154 := DK.of 16 (fun pc h => blt_guard (n := 16) h) (by decide +kernel)
set_option maxRecDepth 100000 in
theorem dk_155 : DK 155 := DK.of 137 (fun pc h => blt_guard (n := 137) h) (by decide +kernel)
set_option maxRecDepth 100000 in
theorem dk_156 : DK 156 := DK.of 81 (fun pc h => blt_guard (n := 81) h) (by decide +kernel)
set_option maxRecDepth 100000 in
theorem dk_157 : DK 157 := DK.of 100 (fun pc h => blt_guard (n := 100) h) (by decide +kernel)
set_option maxRecDepth 100000 in
theorem dk_158 : DK 158 := DK.of 288 (fun pc h => blt_guard (n := 288) h) (by decide +kernel)
set_option maxRecDepth 100000 in
theorem dk_159 : DK 159 := DK.of 176 (fun pc h => blt_guard (n := 176) h) (by decide +kernel)
set_option maxRecDepth 100000 in
theorem dk_160 : DK 160 := DK.of 59 (fun pc h => blt_guard (n := 59) h) (by decide +kernel)
set_option maxRecDepth 100000 in
theorem dk_161 : DK 161 := DK.of 81 (fun pc h => blt_guard (n := 81) h) (by decide +kernel)
set_option maxRecDepth 100000 in
theorem dk_162 : DK 162 := DK.of 116 (fun pc h => blt_guard (n := 116) h) (by decide +kernel)
set_option maxRecDepth 100000 in
theorem dk_163 : DK 163 := DK.of 44 (fun pc h => blt_guard (n := 44) h) (by decide +kernel)
set_option maxRecDepth 100000 in
theorem dk_164 : DK 164 := DK.of 164 (fun pc h => blt_guard (n := 164) h) (by decide +kernel)
set_option maxRecDepth 100000 in
theorem dk_165 : DK 165 := DK.of 17 (fun pc h => blt_guard (n := 17) h) (by decide +kernel)
set_option maxRecDepth 100000 in
theorem dk_166 : DK 166 := DK.of 164 (fun pc h => blt_guard (n := 164) h) (by decide +kernel)
set_option maxRecDepth 100000 in
theorem dk_167 : DK 167 := DK.of 19 (fun pc h => blt_guard (n := 19) h) (by decide +kernel)
set_option maxRecDepth 100000 in
theorem dk_168 : DK 168 := DK.of 194 (fun pc h => blt_guard (n := 194) h) (by decide +kernel)
set_option maxRecDepth 100000 in
theorem dk_169 : DK 169 := DK.of 25 (fun pc h => blt_guard (n := 25) h) (by decide +kernel)
set_option maxRecDepth 100000 in
theorem dk_170 : DK 170 := DK.of 31 (fun pc h => blt_guard (n := 31) h) (by decide +kernel)
set_option maxRecDepth 100000 in
theorem dk_171 : DK 171 := DK.of 27 (fun pc h => blt_guard (n := 27) h) (by decide +kernel)
set_option maxRecDepth 100000 in
theorem dk_172 : DK 172 := DK.of 61 (fun pc h => blt_guard (n := 61) h) (by decide +kernel)
set_option maxRecDepth 100000 in
theorem dk_173 : DK 173 := DK.of 46 (fun pc h => blt_guard (n := 46) h) (by decide +kernel)
set_option maxRecDepth 100000 in
theorem dk_174 : DK 174 := DK.of 122 (fun pc h => blt_guard (n := 122) h) (by decide +kernel)
set_option maxRecDepth 100000 in
theorem dk_175 : DK 175 := DK.of 271 (fun pc h => blt_guard (n := 271) h) (by decide +kernel)
set_option maxRecDepth 100000 in
theorem dk_176 : DK 176 := DK.of 77 (fun pc h => blt_guard (n := 77) h) (by decide +kernel)
set_option maxRecDepth 100000 in
theorem dk_177 : DK 177 := DK.of 124 (fun pc h => blt_guard (n := 124) h) (by decide +kernel)
set_option maxRecDepth 100000 in
theorem dk_178 : DK 178 := DK.of 271 (fun pc h => blt_guard (n := 271) h) (by decide +kernel)
set_option maxRecDepth 100000 in
theorem dk_179 : DK 179 := DK.of 10 (fun pc h => blt_guard (n := 10) h) (by decide +kernel)
set_option maxRecDepth 100000 in
theorem dk_180 : DK 180 := DK.of 18 (fun pc h => blt_guard (n := 18) h) (by decide +kernel)
set_option maxRecDepth 100000 in
theorem dk_181 : DK 181 := DK.of 26 (fun pc h => blt_guard (n := 26) h) (by decide +kernel)
set_option maxRecDepth 100000 in
theorem dk_182 : DK 182 := DK.of 43 (fun pc h => blt_guard (n := 43) h) (by decide +kernel)
set_option maxRecDepth 100000 in
theorem dk_183 : DK 183 := DK.of 97 (fun pc h => blt_guard (n := 97) h) (by decide +kernel)
set_option maxRecDepth 100000 in
theorem dk_184 : DK 184 := DK.of 69 (fun pc h => blt_guard (n := 69) h) (by decide +kernel)
set_option maxRecDepth 100000 in
theorem dk_185 : DK 185 := DK.of 19 (fun pc h => blt_guard (n := 19) h) (by decide +kernel)
set_option maxRecDepth 100000 in
theorem dk_186 : DK 186 := DK.of 40 (fun pc h => blt_guard (n := 40) h) (by decide +kernel)
set_option maxRecDepth 100000 in
theorem dk_187 : DK 187 := DK.of 89 (fun pc h => blt_guard (n := 89) h) (by decide +kernel)
set_option maxRecDepth 100000 in
theorem dk_188 : DK 188 := DK.of 111 (fun pc h => blt_guard (n := 111) h) (by decide +kernel)
set_option maxRecDepth 100000 in
theorem dk_189 : DK 189 := DK.of 147 (fun pc h => blt_guard (n := 147) h) (by decide +kernel)
set_option maxRecDepth 100000 in
theorem dk_190 : DK 190 := DK.of 97 (fun pc h => blt_guard (n := 97) h) (by decide +kernel)
set_option maxRecDepth 100000 in
theorem dk_191 : DK 191 := DK.of 68 (fun pc h => blt_guard (n := 68) h) (by decide +kernel)
set_option maxRecDepth 100000 in
theorem dk_192 : DK 192 := DK.of 40 (fun pc h => blt_guard (n := 40) h) (by decide +kernel)
set_option maxRecDepth 100000 in
theorem dk_193 : DK 193 := DK.of 151 (fun pc h => blt_guard (n := 151) h) (by decide +kernel)
set_option maxRecDepth 100000 in
theorem dk_194 : DK 194 := DK.of 66 (fun pc h => blt_guard (n := 66) h) (by decide +kernel)
set_option maxRecDepth 100000 in
theorem dk_195 : DK 195 := DK.of 46 (fun pc h => blt_guard (n := 46) h) (by decide +kernel)
set_option maxRecDepth 100000 in
theorem dk_196 : DK 196 := DK.of 169 (fun pc h => blt_guard (n := 169) h) (by decide +kernel)
set_option maxRecDepth 100000 in
theorem dk_197 : DK 197 := DK.of 43 (fun pc h => blt_guard (n := 43) h) (by decide +kernel)
set_option maxRecDepth 100000 in
theorem dk_198 : DK 198 := DK.of 36 (fun pc h => blt_guard (n := 36) h) (by decide +kernel)
set_option maxRecDepth 100000 in
theorem dk_199 : DK 199 := DK.of 57 (fun pc h => blt_guard (n := 57) h) (by decide +kernel)
set_option maxRecDepth 100000 in
theorem dk_200 : DK 200 := DK.of 92 (fun pc h => blt_guard (n := 92) h) (by decide +kernel)
set_option maxRecDepth 100000 in
theorem dk_201 : DK 201 := DK.of 48 (fun pc h => blt_guard (n := 48) h) (by decide +kernel)
set_option maxRecDepth 100000 in
theorem dk_202 : DK 202 := DK.of 53 (fun pc h => blt_guard (n := 53) h) (by decide +kernel)
set_option maxRecDepth 100000 in
theorem dk_203 : DK 203 := DK.of 46 (fun pc h => blt_guard (n := 46) h) (by decide +kernel)
set_option maxRecDepth 100000 in
theorem dk_204 : DK 204 := DK.of 53 (fun pc h => blt_guard (n := 53) h) (by decide +kernel)
set_option maxRecDepth 100000 in
theorem dk_205 : DK 205 := DK.of 50 (fun pc h => blt_guard (n := 50) h) (by decide +kernel)
set_option maxRecDepth 100000 in
theorem dk_206 : DK 206 := DK.of 73 (fun pc h => blt_guard (n := 73) h) (by decide +kernel)
set_option maxRecDepth 100000 in
theorem dk_207 : DK 207 := DK.of 35 (fun pc h => blt_guard (n := 35) h) (by decide +kernel)
set_option maxRecDepth 100000 in
theorem dk_208 : DK 208 := DK.of 29 (fun pc h => blt_guard (n := 29) h) (by decide +kernel)
set_option maxRecDepth 100000 in
theorem dk_209 : DK 209 := DK.of 56 (fun pc h => blt_guard (n := 56) h) (by decide +kernel)
set_option maxRecDepth 100000 in
theorem dk_210 : DK 210 := DK.of 120 (fun pc h => blt_guard (n := 120) h) (by decide +kernel)
set_option maxRecDepth 100000 in
theorem dk_211 : DK 211 := DK.of 114 (fun pc h => blt_guard (n := 114) h) (by decide +kernel)
set_option maxRecDepth 100000 in
theorem dk_212 : DK 212 := DK.of 45 (fun pc h => blt_guard (n := 45) h) (by decide +kernel)
set_option maxRecDepth 100000 in
theorem dk_213 : DK 213 := DK.of 66 (fun pc h => blt_guard (n := 66) h) (by decide +kernel)
set_option maxRecDepth 100000 in
theorem dk_214 : DK 214 := DK.of 47 (fun pc h => blt_guard (n := 47) h) (by decide +kernel)
set_option maxRecDepth 100000 in
theorem dk_215 : DK 215 := DK.of 55 (fun pc h => blt_guard (n := 55) h) (by decide +kernel)
set_option maxRecDepth 100000 in
theorem dk_216 : DK 216 := DK.of 82 (fun pc h => blt_guard (n := 82) h) (by decide +kernel)
set_option maxRecDepth 100000 in
theorem dk_217 : DK 217 := DK.of 64 (fun pc h => blt_guard (n := 64) h) (by decide +kernel)
set_option maxRecDepth 100000 in
theorem dk_218 : DK 218 := DK.of 45 (fun pc h => blt_guard (n := 45) h) (by decide +kernel)
set_option maxRecDepth 100000 in
theorem dk_219 : DK 219 := DK.of 64 (fun pc h => blt_guard (n := 64) h) (by decide +kernel)
set_option maxRecDepth 100000 in
theorem dk_220 : DK 220 := DK.of 39 (fun pc h => blt_guard (n := 39) h) (by decide +kernel)
set_option maxRecDepth 100000 in
theorem dk_221 : DK 221 := DK.of 132 (fun pc h => blt_guard (n := 132) h) (by decide +kernel)
set_option maxRecDepth 100000 in
theorem dk_222 : DK 222 := DK.of 42 (fun pc h => blt_guard (n := 42) h) (by decide +kernel)
set_option maxRecDepth 100000 in
theorem dk_223 : DK 223 := DK.of 22 (fun pc h => blt_guard (n := 22) h) (by decide +kernel)
set_option maxRecDepth 100000 in
theorem dk_224 : DK 224 := DK.of 33 (fun pc h => blt_guard (n := 33) h) (by decide +kernel)
set_option maxRecDepth 100000 in
theorem dk_225 : DK 225 := DK.of 16 (fun pc h => blt_guard (n := 16) h) (by decide +kernel)
set_option maxRecDepth 100000 in
theorem dk_226 : DK 226 := DK.of 46 (fun pc h => blt_guard (n := 46) h) (by decide +kernel)
set_option maxRecDepth 100000 in
theorem dk_227 : DK 227 := DK.of 72 (fun pc h => blt_guard (n := 72) h) (by decide +kernel)
set_option maxRecDepth 100000 in
theorem dk_228 : DK 228 := DK.of 40 (fun pc h => blt_guard (n := 40) h) (by decide +kernel)
set_option maxRecDepth 100000 in
theorem dk_229 : DK 229 := DK.of 33 (fun pc h => blt_guard (n := 33) h) (by decide +kernel)
set_option maxRecDepth 100000 in
theorem dk_230 : DK 230 := DK.of 106 (fun pc h => blt_guard (n := 106) h) (by decide +kernel)
set_option maxRecDepth 100000 in
theorem dk_231 : DK 231 := DK.of 75 (fun pc h => blt_guard (n := 75) h) (by decide +kernel)
set_option maxRecDepth 100000 in
theorem dk_232 : DK 232 := DK.of 56 (fun pc h => blt_guard (n := 56) h) (by decide +kernel)
set_option maxRecDepth 100000 in
theorem dk_233 : DK 233 := DK.of 60 (fun pc h => blt_guard (n := 60) h) (by decide +kernel)
set_option maxRecDepth 100000 in
theorem dk_234 : DK 234 := DK.of 67 (fun pc h => blt_guard (n := 67) h) (by decide +kernel)
set_option maxRecDepth 100000 in
theorem dk_235 : DK 235 := DK.of 25 (fun pc h => blt_guard (n := 25) h) (by decide +kernel)
set_option maxRecDepth 100000 in
theorem dk_236 : DK 236 := DK.of 22 (fun pc h => blt_guard (n := 22) h) (by decide +kernel)
set_option maxRecDepth 100000 in
theorem dk_237 : DK 237 := DK.of 21 (fun pc h => blt_guard (n := 21) h) (by decide +kernel)
set_option maxRecDepth 100000 in
theorem dk_238 : DK 238 := DK.of 43 (fun pc h => blt_guard (n := 43) h) (by decide +kernel)
set_option maxRecDepth 100000 in
theorem dk_239 : DK 239 := DK.of 123 (fun pc h => blt_guard (n := 123) h) (by decide +kernel)
set_option maxRecDepth 100000 in
theorem dk_240 : DK 240 := DK.of 35 (fun pc h => blt_guard (n := 35) h) (by decide +kernel)
set_option maxRecDepth 100000 in
theorem dk_241 : DK 241 := DK.of 77 (fun pc h => blt_guard (n := 77) h) (by decide +kernel)
set_option maxRecDepth 100000 in
theorem dk_242 : DK 242 := DK.of 198 (fun pc h => blt_guard (n := 198) h) (by decide +kernel)
set_option maxRecDepth 100000 in
theorem dk_243 : DK 243 := DK.of 47 (fun pc h => blt_guard (n := 47) h) (by decide +kernel)
set_option maxRecDepth 100000 in
theorem dk_244 : DK 244 := DK.of 60 (fun pc h => blt_guard (n := 60) h) (by decide +kernel)
set_option maxRecDepth 100000 in
theorem dk_245 : DK 245 := DK.of 197 (fun pc h => blt_guard (n := 197) h) (by decide +kernel)
set_option maxRecDepth 100000 in
theorem dk_246 : DK 246 := DK.of 66 (fun pc h => blt_guard (n := 66) h) (by decide +kernel)
set_option maxRecDepth 100000 in
theorem dk_247 : DK 247 := DK.of 74 (fun pc h => blt_guard (n := 74) h) (by decide +kernel)
set_option maxRecDepth 100000 in
theorem dk_248 : DK 248 := DK.of 149 (fun pc h => blt_guard (n := 149) h) (by decide +kernel)
set_option maxRecDepth 100000 in
theorem dk_249 : DK 249 := DK.of 170 (fun pc h => blt_guard (n := 170) h) (by decide +kernel)
set_option maxRecDepth 100000 in
theorem dk_250 : DK 250 := DK.of 124 (fun pc h => blt_guard (n := 124) h) (by decide +kernel)
set_option maxRecDepth 100000 in
theorem dk_251 : DK 251 := DK.of 42 (fun pc h => blt_guard (n := 42) h) (by decide +kernel)
set_option maxRecDepth 100000 in
theorem dk_252 : DK 252 := DK.of 25 (fun pc h => blt_guard (n := 25) h) (by decide +kernel)
set_option maxRecDepth 100000 in
theorem dk_253 : DK 253 := DK.of 21 (fun pc h => blt_guard (n := 21) h) (by decide +kernel)
set_option maxRecDepth 100000 in
theorem dk_254 : DK 254 := DK.of 29 (fun pc h => blt_guard (n := 29) h) (by decide +kernel)
set_option maxRecDepth 100000 in
theorem dk_255 : DK 255 := DK.of 182 (fun pc h => blt_guard (n := 182) h) (by decide +kernel)
set_option maxRecDepth 100000 in
theorem dk_256 : DK 256 := DK.of 81 (fun pc h => blt_guard (n := 81) h) (by decide +kernel)
set_option maxRecDepth 100000 in
theorem dk_257 : DK 257 := DK.of 28 (fun pc h => blt_guard (n := 28) h) (by decide +kernel)
set_option maxRecDepth 100000 in
theorem dk_258 : DK 258 := DK.of 53 (fun pc h => blt_guard (n := 53) h) (by decide +kernel)
set_option maxRecDepth 100000 in
theorem dk_259 : DK 259 := DK.of 53 (fun pc h => blt_guard (n := 53) h) (by decide +kernel)
set_option maxRecDepth 100000 in
theorem dk_260 : DK 260 := DK.of 21 (fun pc h => blt_guard (n := 21) h) (by decide +kernel)
set_option maxRecDepth 100000 in
theorem dk_261 : DK 261 := DK.of 35 (fun pc h => blt_guard (n := 35) h) (by decide +kernel)
set_option maxRecDepth 100000 in
theorem dk_262 : DK 262 := DK.of 17 (fun pc h => blt_guard (n := 17) h) (by decide +kernel)
set_option maxRecDepth 100000 in
theorem dk_263 : DK 263 := DK.of 17 (fun pc h => blt_guard (n := 17) h) (by decide +kernel)
set_option maxRecDepth 100000 in
theorem dk_264 : DK 264 := DK.of 23 (fun pc h => blt_guard (n := 23) h) (by decide +kernel)
set_option maxRecDepth 100000 in
theorem dk_265 : DK 265 := DK.of 25 (fun pc h => blt_guard (n := 25) h) (by decide +kernel)
set_option maxRecDepth 100000 in
theorem dk_266 : DK 266 := DK.of 23 (fun pc h => blt_guard (n := 23) h) (by decide +kernel)
set_option maxRecDepth 100000 in
theorem dk_267 : DK 267 := DK.of 25 (fun pc h => blt_guard (n := 25) h) (by decide +kernel)
set_option maxRecDepth 100000 in
theorem dk_268 : DK 268 := DK.of 19 (fun pc h => blt_guard (n := 19) h) (by decide +kernel)
set_option maxRecDepth 100000 in
theorem dk_269 : DK 269 := DK.of 17 (fun pc h => blt_guard (n := 17) h) (by decide +kernel)
set_option maxRecDepth 100000 in
theorem dk_270 : DK 270 := DK.of 23 (fun pc h => blt_guard (n := 23) h) (by decide +kernel)
set_option maxRecDepth 100000 in
theorem dk_271 : DK 271 := DK.of 23 (fun pc h => blt_guard (n := 23) h) (by decide +kernel)
set_option maxRecDepth 100000 in
theorem dk_272 : DK 272 := DK.of 27 (fun pc h => blt_guard (n := 27) h) (by decide +kernel)
set_option maxRecDepth 100000 in
theorem dk_273 : DK 273 := DK.of 19 (fun pc h => blt_guard (n := 19) h) (by decide +kernel)
set_option maxRecDepth 100000 in
theorem dk_274 : DK 274 := DK.of 25 (fun pc h => blt_guard (n := 25) h) (by decide +kernel)
set_option maxRecDepth 100000 in
theorem dk_275 : DK 275 := DK.of 25 (fun pc h => blt_guard (n := 25) h) (by decide +kernel)
set_option maxRecDepth 100000 in
theorem dk_276 : DK 276 := DK.of 19 (fun pc h => blt_guard (n := 19) h) (by decide +kernel)
set_option maxRecDepth 100000 in
theorem dk_277 : DK 277 := DK.of 23 (fun pc h => blt_guard (n := 23) h) (by decide +kernel)
set_option maxRecDepth 100000 in
theorem dk_278 : DK 278 := DK.of 20 (fun pc h => blt_guard (n := 20) h) (by decide +kernel)
set_option maxRecDepth 100000 in
theorem dk_279 : DK 279 := DK.of 21 (fun pc h => blt_guard (n := 21) h) (by decide +kernel)
set_option maxRecDepth 100000 in
theorem dk_280 : DK 280 := DK.of 21 (fun pc h => blt_guard (n := 21) h) (by decide +kernel)
set_option maxRecDepth 100000 in
theorem dk_281 : DK 281 := DK.of 23 (fun pc h => blt_guard (n := 23) h) (by decide +kernel)
set_option maxRecDepth 100000 in
theorem dk_282 : DK 282 := DK.of 25 (fun pc h => blt_guard (n := 25) h) (by decide +kernel)
set_option maxRecDepth 100000 in
theorem dk_283 : DK 283 := DK.of 23 (fun pc h => blt_guard (n := 23) h) (by decide +kernel)
set_option maxRecDepth 100000 in
theorem dk_284 : DK 284 := DK.of 27 (fun pc h => blt_guard (n := 27) h) (by decide +kernel)
set_option maxRecDepth 100000 in
theorem dk_285 : DK 285 := DK.of 19 (fun pc h => blt_guard (n := 19) h) (by decide +kernel)
set_option maxRecDepth 100000 in
theorem dk_286 : DK 286 := DK.of 17 (fun pc h => blt_guard (n := 17) h) (by decide +kernel)
set_option maxRecDepth 100000 in
theorem dk_287 : DK 287 := DK.of 19 (fun pc h => blt_guard (n := 19) h) (by decide +kernel)
set_option maxRecDepth 100000 in
theorem dk_288 : DK 288 := DK.of 17 (fun pc h => blt_guard (n := 17) h) (by decide +kernel)
set_option maxRecDepth 100000 in
theorem dk_289 : DK 289 := DK.of 23 (fun pc h => blt_guard (n := 23) h) (by decide +kernel)
set_option maxRecDepth 100000 in
theorem dk_290 : DK 290 := DK.of 29 (fun pc h => blt_guard (n := 29) h) (by decide +kernel)
set_option maxRecDepth 100000 in
theorem dk_291 : DK 291 := DK.of 17 (fun pc h => blt_guard (n := 17) h) (by decide +kernel)
set_option maxRecDepth 100000 in
theorem dk_292 : DK 292 := DK.of 21 (fun pc h => blt_guard (n := 21) h) (by decide +kernel)
set_option maxRecDepth 100000 in
theorem dk_293 : DK 293 := DK.of 17 (fun pc h => blt_guard (n := 17) h) (by decide +kernel)
set_option maxRecDepth 100000 in
theorem dk_294 : DK 294 := DK.of 19 (fun pc h => blt_guard (n := 19) h) (by decide +kernel)
set_option maxRecDepth 100000 in
theorem dk_295 : DK 295 := DK.of 17 (fun pc h => blt_guard (n := 17) h) (by decide +kernel)
set_option maxRecDepth 100000 in
theorem dk_296 : DK 296 := DK.of 20 (fun pc h => blt_guard (n := 20) h) (by decide +kernel)
set_option maxRecDepth 100000 in
theorem dk_297 : DK 297 := DK.of 22 (fun pc h => blt_guard (n := 22) h) (by decide +kernel)
set_option maxRecDepth 100000 in
theorem dk_298 : DK 298 := DK.of 16 (fun pc h => blt_guard (n := 16) h) (by decide +kernel)
set_option maxRecDepth 100000 in
theorem dk_299 : DK 299 := DK.of 29 (fun pc h => blt_guard (n := 29) h) (by decide +kernel)
set_option maxRecDepth 100000 in
theorem dk_300 : DK 300 := DK.of 16 (fun pc h => blt_guard (n := 16) h) (by decide +kernel)
set_option maxRecDepth 100000 in
theorem dk_301 : DK 301 := DK.of 16 (fun pc h => blt_guard (n := 16) h) (by decide +kernel)
