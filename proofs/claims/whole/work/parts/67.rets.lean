/-! ===== written by a program: the returns of each method are of its kind ===== -/
def rck (t : Option FieldType) (z : Bool) (i : Instr) : Bool := match i with
  | .ireturn => decide (t = some .int) || (decide (t = some .boolean) && z)
  | .areturn => match t with
    | some (.object _) => true
    | _ => false
  | .dreturn => decide (t = some .double)
  | .return_ => decide (t = none)
  | _ => true
noncomputable def ckR (y pc : Nat) : Bool := match cd y pc with
  | none => true
  | some (i, _) => rck (rty y) (zrt y) i
def RK (y : Nat) : Prop := ∀ pc i len, cd y pc = some (i, len) → rck (rty y) (zrt y) i = true
theorem RK.of {y : Nat} (n : Nat) (hn : ∀ pc, cd y pc ≠ none → pc < n) (h : (List.range n).all (ckR y) = true) : RK y := by
  intro pc i len hc
  have h1 := List.all_eq_true.mp h pc (List.mem_range.mpr (hn pc (by rw [hc]; exact fun z => by cases z)))
  unfold ckR at h1
  rw [hc] at h1
  exact h1
set_option maxRecDepth 100000 in
theorem rk_0 : RK 0 := RK.of 41 (fun pc h => blt_guard (n := 41) h) (by decide +kernel)
set_option maxRecDepth 100000 in
theorem rk_1 : RK 1 := RK.of 58 (fun pc h => blt_guard (n := 58) h) (by decide +kernel)
set_option maxRecDepth 100000 in
theorem rk_2 : RK 2 := RK.of 194 (fun pc h => blt_guard (n := 194) h) (by decide +kernel)
set_option maxRecDepth 100000 in
theorem rk_3 : RK 3 := RK.of 74 (fun pc h => blt_guard (n := 74) h) (by decide +kernel)
set_option maxRecDepth 100000 in
theorem rk_4 : RK 4 := RK.of 42 (fun pc h => blt_guard (n := 42) h) (by decide +kernel)
set_option maxRecDepth 100000 in
theorem rk_5 : RK 5 := RK.of 40 (fun pc h => blt_guard (n := 40) h) (by decide +kernel)
set_option maxRecDepth 100000 in
theorem rk_6 : RK 6 := RK.of 6 (fun pc h => blt_guard (n := 6) h) (by decide +kernel)
set_option maxRecDepth 100000 in
theorem rk_7 : RK 7 := RK.of 71 (fun pc h => blt_guard (n := 71) h) (by decide +kernel)
set_option maxRecDepth 100000 in
theorem rk_8 : RK 8 := RK.of 45 (fun pc h => blt_guard (n := 45) h) (by decide +kernel)
set_option maxRecDepth 100000 in
theorem rk_9 : RK 9 := RK.of 173 (fun pc h => blt_guard (n := 173) h) (by decide +kernel)
set_option maxRecDepth 100000 in
theorem rk_10 : RK 10 := RK.of 39 (fun pc h => blt_guard (n := 39) h) (by decide +kernel)
set_option maxRecDepth 100000 in
theorem rk_11 : RK 11 := RK.of 103 (fun pc h => blt_guard (n := 103) h) (by decide +kernel)
set_option maxRecDepth 100000 in
theorem rk_12 : RK 12 := RK.of 101 (fun pc h => blt_guard (n := 101) h) (by decide +kernel)
set_option maxRecDepth 100000 in
theorem rk_13 : RK 13 := RK.of 84 (fun pc h => blt_guard (n := 84) h) (by decide +kernel)
set_option maxRecDepth 100000 in
theorem rk_14 : RK 14 := RK.of 45 (fun pc h => blt_guard (n := 45) h) (by decide +kernel)
set_option maxRecDepth 100000 in
theorem rk_15 : RK 15 := RK.of 36 (fun pc h => blt_guard (n := 36) h) (by decide +kernel)
set_option maxRecDepth 100000 in
theorem rk_16 : RK 16 := RK.of 55 (fun pc h => blt_guard (n := 55) h) (by decide +kernel)
set_option maxRecDepth 100000 in
theorem rk_17 : RK 17 := RK.of 16 (fun pc h => blt_guard (n := 16) h) (by decide +kernel)
set_option maxRecDepth 100000 in
theorem rk_18 : RK 18 := RK.of 100 (fun pc h => blt_guard (n := 100) h) (by decide +kernel)
set_option maxRecDepth 100000 in
theorem rk_19 : RK 19 := RK.of 107 (fun pc h => blt_guard (n := 107) h) (by decide +kernel)
set_option maxRecDepth 100000 in
theorem rk_20 : RK 20 := RK.of 54 (fun pc h => blt_guard (n := 54) h) (by decide +kernel)
set_option maxRecDepth 100000 in
theorem rk_21 : RK 21 := RK.of 45 (fun pc h => blt_guard (n := 45) h) (by decide +kernel)
set_option maxRecDepth 100000 in
theorem rk_22 : RK 22 := RK.of 12 (fun pc h => blt_guard (n := 12) h) (by decide +kernel)
set_option maxRecDepth 100000 in
theorem rk_23 : RK 23 := RK.of 29 (fun pc h => blt_guard (n := 29) h) (by decide +kernel)
set_option maxRecDepth 100000 in
theorem rk_24 : RK 24 := RK.of 38 (fun pc h => blt_guard (n := 38) h) (by decide +kernel)
set_option maxRecDepth 100000 in
theorem rk_25 : RK 25 := RK.of 61 (fun pc h => blt_guard (n := 61) h) (by decide +kernel)
set_option maxRecDepth 100000 in
theorem rk_26 : RK 26 := RK.of 43 (fun pc h => blt_guard (n := 43) h) (by decide +kernel)
set_option maxRecDepth 100000 in
theorem rk_27 : RK 27 := RK.of 42 (fun pc h => blt_guard (n := 42) h) (by decide +kernel)
set_option maxRecDepth 100000 in
theorem rk_28 : RK 28 := RK.of 22 (fun pc h => blt_guard (n := 22) h) (by decide +kernel)
set_option maxRecDepth 100000 in
theorem rk_29 : RK 29 := RK.of 48 (fun pc h => blt_guard (n := 48) h) (by decide +kernel)
set_option maxRecDepth 100000 in
theorem rk_30 : RK 30 := RK.of 91 (fun pc h => blt_guard (n := 91) h) (by decide +kernel)
set_option maxRecDepth 100000 in
theorem rk_31 : RK 31 := RK.of 72 (fun pc h => blt_guard (n := 72) h) (by decide +kernel)
set_option maxRecDepth 100000 in
theorem rk_32 : RK 32 := RK.of 76 (fun pc h => blt_guard (n := 76) h) (by decide +kernel)
set_option maxRecDepth 100000 in
theorem rk_33 : RK 33 := RK.of 99 (fun pc h => blt_guard (n := 99) h) (by decide +kernel)
set_option maxRecDepth 100000 in
theorem rk_34 : RK 34 := RK.of 81 (fun pc h => blt_guard (n := 81) h) (by decide +kernel)
set_option maxRecDepth 100000 in
theorem rk_35 : RK 35 := RK.of 109 (fun pc h => blt_guard (n := 109) h) (by decide +kernel)
set_option maxRecDepth 100000 in
theorem rk_36 : RK 36 := RK.of 215 (fun pc h => blt_guard (n := 215) h) (by decide +kernel)
set_option maxRecDepth 100000 in
theorem rk_37 : RK 37 := RK.of 92 (fun pc h => blt_guard (n := 92) h) (by decide +kernel)
set_option maxRecDepth 100000 in
theorem rk_38 : RK 38 := RK.of 38 (fun pc h => blt_guard (n := 38) h) (by decide +kernel)
set_option maxRecDepth 100000 in
theorem rk_39 : RK 39 := RK.of 19 (fun pc h => blt_guard (n := 19) h) (by decide +kernel)
set_option maxRecDepth 100000 in
theorem rk_40 : RK 40 := RK.of 13 (fun pc h => blt_guard (n := 13) h) (by decide +kernel)
set_option maxRecDepth 100000 in
theorem rk_41 : RK 41 := RK.of 31 (fun pc h => blt_guard (n := 31) h) (by decide +kernel)
set_option maxRecDepth 100000 in
theorem rk_42 : RK 42 := RK.of 28 (fun pc h => blt_guard (n := 28) h) (by decide +kernel)
set_option maxRecDepth 100000 in
theorem rk_43 : RK 43 := RK.of 46 (fun pc h => blt_guard (n := 46) h) (by decide +kernel)
set_option maxRecDepth 100000 in
theorem rk_44 : RK 44 := RK.of 44 (fun pc h => blt_guard (n := 44) h) (by decide +kernel)
set_option maxRecDepth 100000 in
theorem rk_45 : RK 45 := RK.of 48 (fun pc h => blt_guard (n := 48) h) (by decide +kernel)
set_option maxRecDepth 100000 in
theorem rk_46 : RK 46 := RK.of 80 (fun pc h => blt_guard (n := 80) h) (by decide +kernel)
set_option maxRecDepth 100000 in
theorem rk_47 : RK 47 := RK.of 50 (fun pc h => blt_guard (n := 50) h) (by decide +kernel)
set_option maxRecDepth 100000 in
theorem rk_48 : RK 48 := RK.of 87 (fun pc h => blt_guard (n := 87) h) (by decide +kernel)
set_option maxRecDepth 100000 in
theorem rk_49 : RK 49 := RK.of 28 (fun pc h => blt_guard (n := 28) h) (by decide +kernel)
set_option maxRecDepth 100000 in
theorem rk_50 : RK 50 := RK.of 88 (fun pc h => blt_guard (n := 88) h) (by decide +kernel)
set_option maxRecDepth 100000 in
theorem rk_51 : RK 51 := RK.of 93 (fun pc h => blt_guard (n := 93) h) (by decide +kernel)
set_option maxRecDepth 100000 in
theorem rk_52 : RK 52 := RK.of 131 (fun pc h => blt_guard (n := 131) h) (by decide +kernel)
set_option maxRecDepth 100000 in
theorem rk_53 : RK 53 := RK.of 27 (fun pc h => blt_guard (n := 27) h) (by decide +kernel)
set_option maxRecDepth 100000 in
theorem rk_54 : RK 54 := RK.of 12 (fun pc h => blt_guard (n := 12) h) (by decide +kernel)
set_option maxRecDepth 100000 in
theorem rk_55 : RK 55 := RK.of 26 (fun pc h => blt_guard (n := 26) h) (by decide +kernel)
set_option maxRecDepth 100000 in
theorem rk_56 : RK 56 := RK.of 13 (fun pc h => blt_guard (n := 13) h) (by decide +kernel)
set_option maxRecDepth 100000 in
theorem rk_57 : RK 57 := RK.of 89 (fun pc h => blt_guard (n := 89) h) (by decide +kernel)
set_option maxRecDepth 100000 in
theorem rk_58 : RK 58 := RK.of 45 (fun pc h => blt_guard (n := 45) h) (by decide +kernel)
set_option maxRecDepth 100000 in
theorem rk_59 : RK 59 := RK.of 29 (fun pc h => blt_guard (n := 29) h) (by decide +kernel)
set_option maxRecDepth 100000 in
theorem rk_60 : RK 60 := RK.of 33 (fun pc h => blt_guard (n := 33) h) (by decide +kernel)
set_option maxRecDepth 100000 in
theorem rk_61 : RK 61 := RK.of 153 (fun pc h => blt_guard (n := 153) h) (by decide +kernel)
set_option maxRecDepth 100000 in
theorem rk_62 : RK 62 := RK.of 45 (fun pc h => blt_guard (n := 45) h) (by decide +kernel)
set_option maxRecDepth 100000 in
theorem rk_63 : RK 63 := RK.of 45 (fun pc h => blt_guard (n := 45) h) (by decide +kernel)
set_option maxRecDepth 100000 in
theorem rk_64 : RK 64 := RK.of 25 (fun pc h => blt_guard (n := 25) h) (by decide +kernel)
set_option maxRecDepth 100000 in
theorem rk_65 : RK 65 := RK.of 49 (fun pc h => blt_guard (n := 49) h) (by decide +kernel)
set_option maxRecDepth 100000 in
theorem rk_66 : RK 66 := RK.of 244 (fun pc h => blt_guard (n := 244) h) (by decide +kernel)
set_option maxRecDepth 100000 in
theorem rk_67 : RK 67 := RK.of 54 (fun pc h => blt_guard (n := 54) h) (by decide +kernel)
set_option maxRecDepth 100000 in
theorem rk_68 : RK 68 := RK.of 32 (fun pc h => blt_guard (n := 32) h) (by decide +kernel)
set_option maxRecDepth 100000 in
theorem rk_69 : RK 69 := RK.of 35 (fun pc h => blt_guard (n := 35) h) (by decide +kernel)
set_option maxRecDepth 100000 in
theorem rk_70 : RK 70 := RK.of 38 (fun pc h => blt_guard (n := 38) h) (by decide +kernel)
set_option maxRecDepth 100000 in
theorem rk_71 : RK 71 := RK.of 179 (fun pc h => blt_guard (n := 179) h) (by decide +kernel)
set_option maxRecDepth 100000 in
theorem rk_72 : RK 72 := RK.of 42 (fun pc h => blt_guard (n := 42) h) (by decide +kernel)
set_option maxRecDepth 100000 in
theorem rk_73 : RK 73 := RK.of 84 (fun pc h => blt_guard (n := 84) h) (by decide +kernel)
set_option maxRecDepth 100000 in
theorem rk_74 : RK 74 := RK.of 78 (fun pc h => blt_guard (n := 78) h) (by decide +kernel)
set_option maxRecDepth 100000 in
theorem rk_75 : RK 75 := RK.of 11 (fun pc h => blt_guard (n := 11) h) (by decide +kernel)
set_option maxRecDepth 100000 in
theorem rk_76 : RK 76 := RK.of 29 (fun pc h => blt_guard (n := 29) h) (by decide +kernel)
set_option maxRecDepth 100000 in
theorem rk_77 : RK 77 := RK.of 104 (fun pc h => blt_guard (n := 104) h) (by decide +kernel)
set_option maxRecDepth 100000 in
theorem rk_78 : RK 78 := RK.of 92 (fun pc h => blt_guard (n := 92) h) (by decide +kernel)
set_option maxRecDepth 100000 in
theorem rk_79 : RK 79 := RK.of 59 (fun pc h => blt_guard (n := 59) h) (by decide +kernel)
set_option maxRecDepth 100000 in
theorem rk_80 : RK 80 := RK.of 34 (fun pc h => blt_guard (n := 34) h) (by decide +kernel)
set_option maxRecDepth 100000 in
theorem rk_81 : RK 81 := RK.of 134 (fun pc h => blt_guard (n := 134) h) (by decide +kernel)
set_option maxRecDepth 100000 in
theorem rk_82 : RK 82 := RK.of 31 (fun pc h => blt_guard (n := 31) h) (by decide +kernel)
set_option maxRecDepth 100000 in
theorem rk_83 : RK 83 := RK.of 31 (fun pc h => blt_guard (n := 31) h) (by decide +kernel)
set_option maxRecDepth 100000 in
theorem rk_84 : RK 84 := RK.of 55 (fun pc h => blt_guard (n := 55) h) (by decide +kernel)
set_option maxRecDepth 100000 in
theorem rk_85 : RK 85 := RK.of 122 (fun pc h => blt_guard (n := 122) h) (by decide +kernel)
set_option maxRecDepth 100000 in
theorem rk_86 : RK 86 := RK.of 49 (fun pc h => blt_guard (n := 49) h) (by decide +kernel)
set_option maxRecDepth 100000 in
theorem rk_87 : RK 87 := RK.of 22 (fun pc h => blt_guard (n := 22) h) (by decide +kernel)
set_option maxRecDepth 100000 in
theorem rk_88 : RK 88 := RK.of 130 (fun pc h => blt_guard (n := 130) h) (by decide +kernel)
set_option maxRecDepth 100000 in
theorem rk_89 : RK 89 := RK.of 33 (fun pc h => blt_guard (n := 33) h) (by decide +kernel)
set_option maxRecDepth 100000 in
theorem rk_90 : RK 90 := RK.of 110 (fun pc h => blt_guard (n := 110) h) (by decide +kernel)
set_option maxRecDepth 100000 in
theorem rk_91 : RK 91 := RK.of 37 (fun pc h => blt_guard (n := 37) h) (by decide +kernel)
set_option maxRecDepth 100000 in
theorem rk_92 : RK 92 := RK.of 23 (fun pc h => blt_guard (n := 23) h) (by decide +kernel)
set_option maxRecDepth 100000 in
theorem rk_93 : RK 93 := RK.of 37 (fun pc h => blt_guard (n := 37) h) (by decide +kernel)
set_option maxRecDepth 100000 in
theorem rk_94 : RK 94 := RK.of 67 (fun pc h => blt_guard (n := 67) h) (by decide +kernel)
set_option maxRecDepth 100000 in
theorem rk_95 : RK 95 := RK.of 33 (fun pc h => blt_guard (n := 33) h) (by decide +kernel)
set_option maxRecDepth 100000 in
theorem rk_96 : RK 96 := RK.of 31 (fun pc h => blt_guard (n := 31) h) (by decide +kernel)
set_option maxRecDepth 100000 in
theorem rk_97 : RK 97 := RK.of 43 (fun pc h => blt_guard (n := 43) h) (by decide +kernel)
set_option maxRecDepth 100000 in
theorem rk_98 : RK 98 := RK.of 22 (fun pc h => blt_guard (n := 22) h) (by decide +kernel)
set_option maxRecDepth 100000 in
theorem rk_99 : RK 99 := RK.of 90 (fun pc h => blt_guard (n := 90) h) (by decide +kernel)
set_option maxRecDepth 100000 in
theorem rk_100 : RK 100 := RK.of 27 (fun pc h => blt_guard (n := 27) h) (by decide +kernel)
set_option maxRecDepth 100000 in
theorem rk_101 : RK 101 := RK.of 41 (fun pc h => blt_guard (n := 41) h) (by decide +kernel)
set_option maxRecDepth 100000 in
theorem rk_102 : RK 102 := RK.of 21 (fun pc h => blt_guard (n := 21) h) (by decide +kernel)
set_option maxRecDepth 100000 in
theorem rk_103 : RK 103 := RK.of 36 (fun pc h => blt_guard (n := 36) h) (by decide +kernel)
set_option maxRecDepth 100000 in
theorem rk_104 : RK 104 := RK.of 63 (fun pc h => blt_guard (n := 63) h) (by decide +kernel)
set_option maxRecDepth 100000 in
theorem rk_105 : RK 105 := RK.of 50 (fun pc h => blt_guard (n := 50) h) (by decide +kernel)
set_option maxRecDepth 100000 in
theorem rk_106 : RK 106 := RK.of 43 (fun pc h => blt_guard (n := 43) h) (by decide +kernel)
set_option maxRecDepth 100000 in
theorem rk_107 : RK 107 := RK.of 25 (fun pc h => blt_guard (n := 25) h) (by decide +kernel)
set_option maxRecDepth 100000 in
theorem rk_108 : RK 108 := RK.of 43 (fun pc h => blt_guard (n := 43) h) (by decide +kernel)
set_option maxRecDepth 100000 in
theorem rk_109 : RK 109 := RK.of 45 (fun pc h => blt_guard (n := 45) h) (by decide +kernel)
set_option maxRecDepth 100000 in
theorem rk_110 : RK 110 := RK.of 23 (fun pc h => blt_guard (n := 23) h) (by decide +kernel)
set_option maxRecDepth 100000 in
theorem rk_111 : RK 111 := RK.of 63 (fun pc h => blt_guard (n := 63) h) (by decide +kernel)
set_option maxRecDepth 100000 in
theorem rk_112 : RK 112 := RK.of 16 (fun pc h => blt_guard (n := 16) h) (by decide +kernel)
set_option maxRecDepth 100000 in
theorem rk_113 : RK 113 := RK.of 23 (fun pc h => blt_guard (n := 23) h) (by decide +kernel)
set_option maxRecDepth 100000 in
theorem rk_114 : RK 114 := RK.of 16 (fun pc h => blt_guard (n := 16) h) (by decide +kernel)
set_option maxRecDepth 100000 in
theorem rk_115 : RK 115 := RK.of 44 (fun pc h => blt_guard (n := 44) h) (by decide +kernel)
set_option maxRecDepth 100000 in
theorem rk_116 : RK 116 := RK.of 45 (fun pc h => blt_guard (n := 45) h) (by decide +kernel)
set_option maxRecDepth 100000 in
theorem rk_117 : RK 117 := RK.of 55 (fun pc h => blt_guard (n := 55) h) (by decide +kernel)
set_option maxRecDepth 100000 in
theorem rk_118 : RK 118 := RK.of 124 (fun pc h => blt_guard (n := 124) h) (by decide +kernel)
set_option maxRecDepth 100000 in
theorem rk_119 : RK 119 := RK.of 24 (fun pc h => blt_guard (n := 24) h) (by decide +kernel)
set_option maxRecDepth 100000 in
theorem rk_120 : RK 120 := RK.of 63 (fun pc h => blt_guard (n := 63) h) (by decide +kernel)
set_option maxRecDepth 100000 in
theorem rk_121 : RK 121 := RK.of 47 (fun pc h => blt_guard (n := 47) h) (by decide +kernel)
set_option maxRecDepth 100000 in
theorem rk_122 : RK 122 := RK.of 27 (fun pc h => blt_guard (n := 27) h) (by decide +kernel)
set_option maxRecDepth 100000 in
theorem rk_123 : RK 123 := RK.of 54 (fun pc h => blt_guard (n := 54) h) (by decide +kernel)
set_option maxRecDepth 100000 in
theorem rk_124 : RK 124 := RK.of 16 (fun pc h => blt_guard (n := 16) h) (by decide +kernel)
set_option maxRecDepth 100000 in
theorem rk_125 : RK 125 := RK.of 26 (fun pc h => blt_guard (n := 26) h) (by decide +kernel)
set_option maxRecDepth 100000 in
theorem rk_126 : RK 126 := RK.of 26 (fun pc h => blt_guard (n := 26) h) (by decide +kernel)
set_option maxRecDepth 100000 in
theorem rk_127 : RK 127 := RK.of 21 (fun pc h => blt_guard (n := 21) h) (by decide +kernel)
set_option maxRecDepth 100000 in
theorem rk_128 : RK 128 := RK.of 20 (fun pc h => blt_guard (n := 20) h) (by decide +kernel)
set_option maxRecDepth 100000 in
theorem rk_129 : RK 129 := RK.of 22 (fun pc h => blt_guard (n := 22) h) (by decide +kernel)
set_option maxRecDepth 100000 in
theorem rk_130 : RK 130 := RK.of 26 (fun pc h => blt_guard (n := 26) h) (by decide +kernel)
set_option maxRecDepth 100000 in
theorem rk_131 : RK 131 := RK.of 30 (fun pc h => blt_guard (n := 30) h) (by decide +kernel)
set_option maxRecDepth 100000 in
theorem rk_132 : RK 132 := RK.of 30 (fun pc h => blt_guard (n := 30) h) (by decide +kernel)
set_option maxRecDepth 100000 in
theorem rk_133 : RK 133 := RK.of 29 (fun pc h => blt_guard (n := 29) h) (by decide +kernel)
set_option maxRecDepth 100000 in
theorem rk_134 : RK 134 := RK.of 30 (fun pc h => blt_guard (n := 30) h) (by decide +kernel)
set_option maxRecDepth 100000 in
theorem rk_135 : RK 135 := RK.of 19 (fun pc h => blt_guard (n := 19) h) (by decide +kernel)
set_option maxRecDepth 100000 in
theorem rk_136 : RK 136 := RK.of 5 (fun pc h => blt_guard (n := 5) h) (by decide +kernel)
set_option maxRecDepth 100000 in
theorem rk_137 : RK 137 := RK.of 117 (fun pc h => blt_guard (n := 117) h) (by decide +kernel)
set_option maxRecDepth 100000 in
theorem rk_138 : RK 138 := RK.of 16 (fun pc h => blt_guard (n := 16) h) (by decide +kernel)
set_option maxRecDepth 100000 in
theorem rk_139 : RK 139 := RK.of 7 (fun pc h => blt_guard (n := 7) h) (by decide +kernel)
set_option maxRecDepth 100000 in
theorem rk_140 : RK 140 := RK.of 14 (fun pc h => blt_guard (n := 14) h) (by decide +kernel)
set_option maxRecDepth 100000 in
theorem rk_141 : RK 141 := RK.of 15 (fun pc h => blt_guard (n := 15) h) (by decide +kernel)
set_option maxRecDepth 100000 in
theorem rk_142 : RK 142 := RK.of 8 (fun pc h => blt_guard (n := 8) h) (by decide +kernel)
set_option maxRecDepth 100000 in
theorem rk_143 : RK 143 := RK.of 16 (fun pc h => blt_guard (n := 16) h) (by decide +kernel)
set_option maxRecDepth 100000 in
theorem rk_144 : RK 144 := RK.of 22 (fun pc h => blt_guard (n := 22) h) (by decide +kernel)
set_option maxRecDepth 100000 in
theorem rk_145 : RK 145 := RK.of 104 (fun pc h => blt_guard (n := 104) h) (by decide +kernel)
set_option maxRecDepth 100000 in
theorem rk_146 : RK 146 := RK.of 39 (fun pc h => blt_guard (n := 39) h) (by decide +kernel)
set_option maxRecDepth 100000 in
theorem rk_147 : RK 147 := RK.of 58 (fun pc h => blt_guard (n := 58) h) (by decide +kernel)
set_option maxRecDepth 100000 in
theorem rk_148 : RK 148 := RK.of 32 (fun pc h => blt_guard (n := 32) h) (by decide +kernel)
set_option maxRecDepth 100000 in
theorem rk_149 : RK 149 := RK.of 296 (fun pc h => blt_guard (n := 296) h) (by decide +kernel)
set_option maxRecDepth 100000 in
theorem rk_150 : RK 150 := RK.of 106 (fun pc h => blt_guard (n := 106) h) (by decide +kernel)
set_option maxRecDepth 100000 in
theorem rk_151 : RK 151 := RK.of 112 (fun pc h => blt_guard (n := 112) h) (by decide +kernel)
set_option maxRecDepth 100000 in
theorem rk_152 : RK 152 := RK.of 105 (fun pc h => blt_guard (n := 105) h) (by decide +kernel)
set_option maxRecDepth 100000 in
theorem rk_153 : RK 153 := RK.of 23 (fun pc h => blt_guard (n := 23) h) (by decide +kernel)
set_option maxRecDepth 100000 in
theorem rk_154 : RK 154 := RK.of 16 (fun pc h => blt_guard (n := 16) h) (by decide +kernel)
set_option maxRecDepth 100000 in
theorem rk_155 : RK 155 := RK.of 137 (fun pc h => blt_guard (n := 137) h) (by decide +kernel)
set_option maxRecDepth 100000 in
theorem rk_156 : RK 156 := RK.of 81 (fun pc h => blt_guard (n := 81) h) (by decide +kernel)
set_option maxRecDepth 100000 in
theorem rk_157 : RK 157 := RK.of 100 (fun pc h => blt_guard (n := 100) h) (by decide +kernel)
set_option maxRecDepth 100000 in
theorem rk_158 : RK 158 := RK.of 288 (fun pc h => blt_guard (n := 288) h) (by decide +kernel)
set_option maxRecDepth 100000 in
theorem rk_159 : RK 159 := RK.of 176 (fun pc h => blt_guard (n := 176) h) (by decide +kernel)
set_option maxRecDepth 100000 in
theorem rk_160 : RK 160 := RK.of 59 (fun pc h => blt_guard (n := 59) h) (by decide +kernel)
set_option maxRecDepth 100000 in
theorem rk_161 : RK 161 := RK.of 81 (fun pc h => blt_guard (n := 81) h) (by decide +kernel)
set_option maxRecDepth 100000 in
theorem rk_162 : RK 162 := RK.of 116 (fun pc h => blt_guard (n := 116) h) (by decide +kernel)
set_option maxRecDepth 100000 in
theorem rk_163 : RK 163 := RK.of 44 (fun pc h => blt_guard (n := 44) h) (by decide +kernel)
set_option maxRecDepth 100000 in
theorem rk_164 : RK 164 := RK.of 164 (fun pc h => blt_guard (n := 164) h) (by decide +kernel)
set_option maxRecDepth 100000 in
theorem rk_165 : RK 165 := RK.of 17 (fun pc h => blt_guard (n := 17) h) (by decide +kernel)
set_option maxRecDepth 100000 in
theorem rk_166 : RK 166 := RK.of 164 (fun pc h => blt_guard (n := 164) h) (by decide +kernel)
set_option maxRecDepth 100000 in
theorem rk_167 : RK 167 := RK.of 19 (fun pc h => blt_guard (n := 19) h) (by decide +kernel)
set_option maxRecDepth 100000 in
theorem rk_168 : RK 168 := RK.of 194 (fun pc h => blt_guard (n := 194) h) (by decide +kernel)
set_option maxRecDepth 100000 in
theorem rk_169 : RK 169 := RK.of 25 (fun pc h => blt_guard (n := 25) h) (by decide +kernel)
set_option maxRecDepth 100000 in
theorem rk_170 : RK 170 := RK.of 31 (fun pc h => blt_guard (n := 31) h) (by decide +kernel)
set_option maxRecDepth 100000 in
theorem rk_171 : RK 171 := RK.of 27 (fun pc h => blt_guard (n := 27) h) (by decide +kernel)
set_option maxRecDepth 100000 in
theorem rk_172 : RK 172 := RK.of 61 (fun pc h => blt_guard (n := 61) h) (by decide +kernel)
set_option maxRecDepth 100000 in
theorem rk_173 : RK 173 := RK.of 46 (fun pc h => blt_guard (n := 46) h) (by decide +kernel)
set_option maxRecDepth 100000 in
theorem rk_174 : RK 174 := RK.of 122 (fun pc h => blt_guard (n := 122) h) (by decide +kernel)
set_option maxRecDepth 100000 in
theorem rk_175 : RK 175 := RK.of 271 (fun pc h => blt_guard (n := 271) h) (by decide +kernel)
set_option maxRecDepth 100000 in
theorem rk_176 : RK 176 := RK.of 77 (fun pc h => blt_guard (n := 77) h) (by decide +kernel)
set_option maxRecDepth 100000 in
theorem rk_177 : RK 177 := RK.of 124 (fun pc h => blt_guard (n := 124) h) (by decide +kernel)
set_option maxRecDepth 100000 in
theorem rk_178 : RK 178 := RK.of 271 (fun pc h => blt_guard (n := 271) h) (by decide +kernel)
set_option maxRecDepth 100000 in
theorem rk_179 : RK 179 := RK.of 10 (fun pc h => blt_guard (n := 10) h) (by decide +kernel)
set_option maxRecDepth 100000 in
theorem rk_180 : RK 180 := RK.of 18 (fun pc h => blt_guard (n := 18) h) (by decide +kernel)
set_option maxRecDepth 100000 in
theorem rk_181 : RK 181 := RK.of 26 (fun pc h => blt_guard (n := 26) h) (by decide +kernel)
set_option maxRecDepth 100000 in
theorem rk_182 : RK 182 := RK.of 43 (fun pc h => blt_guard (n := 43) h) (by decide +kernel)
set_option maxRecDepth 100000 in
theorem rk_183 : RK 183 := RK.of 97 (fun pc h => blt_guard (n := 97) h) (by decide +kernel)
set_option maxRecDepth 100000 in
theorem rk_184 : RK 184 := RK.of 69 (fun pc h => blt_guard (n := 69) h) (by decide +kernel)
set_option maxRecDepth 100000 in
theorem rk_185 : RK 185 := RK.of 19 (fun pc h => blt_guard (n := 19) h) (by decide +kernel)
set_option maxRecDepth 100000 in
theorem rk_186 : RK 186 := RK.of 40 (fun pc h => blt_guard (n := 40) h) (by decide +kernel)
set_option maxRecDepth 100000 in
theorem rk_187 : RK 187 := RK.of 89 (fun pc h => blt_guard (n := 89) h) (by decide +kernel)
set_option maxRecDepth 100000 in
theorem rk_188 : RK 188 := RK.of 111 (fun pc h => blt_guard (n := 111) h) (by decide +kernel)
set_option maxRecDepth 100000 in
theorem rk_189 : RK 189 := RK.of 147 (fun pc h => blt_guard (n := 147) h) (by decide +kernel)
set_option maxRecDepth 100000 in
theorem rk_190 : RK 190 := RK.of 97 (fun pc h => blt_guard (n := 97) h) (by decide +kernel)
set_option maxRecDepth 100000 in
theorem rk_191 : RK 191 := RK.of 68 (fun pc h => blt_guard (n := 68) h) (by decide +kernel)
set_option maxRecDepth 100000 in
theorem rk_192 : RK 192 := RK.of 40 (fun pc h => blt_guard (n := 40) h) (by decide +kernel)
set_option maxRecDepth 100000 in
theorem rk_193 : RK 193 := RK.of 151 (fun pc h => blt_guard (n := 151) h) (by decide +kernel)
set_option maxRecDepth 100000 in
theorem rk_194 : RK 194 := RK.of 66 (fun pc h => blt_guard (n := 66) h) (by decide +kernel)
set_option maxRecDepth 100000 in
theorem rk_195 : RK 195 := RK.of 46 (fun pc h => blt_guard (n := 46) h) (by decide +kernel)
set_option maxRecDepth 100000 in
theorem rk_196 : RK 196 := RK.of 169 (fun pc h => blt_guard (n := 169) h) (by decide +kernel)
set_option maxRecDepth 100000 in
theorem rk_197 : RK 197 := RK.of 43 (fun pc h => blt_guard (n := 43) h) (by decide +kernel)
set_option maxRecDepth 100000 in
theorem rk_198 : RK 198 := RK.of 36 (fun pc h => blt_guard (n := 36) h) (by decide +kernel)
set_option maxRecDepth 100000 in
theorem rk_199 : RK 199 := RK.of 57 (fun pc h => blt_guard (n := 57) h) (by decide +kernel)
set_option maxRecDepth 100000 in
theorem rk_200 : RK 200 := RK.of 92 (fun pc h => blt_guard (n := 92) h) (by decide +kernel)
set_option maxRecDepth 100000 in
theorem rk_201 : RK 201 := RK.of 48 (fun pc h => blt_guard (n := 48) h) (by decide +kernel)
set_option maxRecDepth 100000 in
theorem rk_202 : RK 202 := RK.of 53 (fun pc h => blt_guard (n := 53) h) (by decide +kernel)
set_option maxRecDepth 100000 in
theorem rk_203 : RK 203 := RK.of 46 (fun pc h => blt_guard (n := 46) h) (by decide +kernel)
set_option maxRecDepth 100000 in
theorem rk_204 : RK 204 := RK.of 53 (fun pc h => blt_guard (n := 53) h) (by decide +kernel)
set_option maxRecDepth 100000 in
theorem rk_205 : RK 205 := RK.of 50 (fun pc h => blt_guard (n := 50) h) (by decide +kernel)
set_option maxRecDepth 100000 in
theorem rk_206 : RK 206 := RK.of 73 (fun pc h => blt_guard (n := 73) h) (by decide +kernel)
set_option maxRecDepth 100000 in
theorem rk_207 : RK 207 := RK.of 35 (fun pc h => blt_guard (n := 35) h) (by decide +kernel)
set_option maxRecDepth 100000 in
theorem rk_208 : RK 208 := RK.of 29 (fun pc h => blt_guard (n := 29) h) (by decide +kernel)
set_option maxRecDepth 100000 in
theorem rk_209 : RK 209 := RK.of 56 (fun pc h => blt_guard (n := 56) h) (by decide +kernel)
set_option maxRecDepth 100000 in
theorem rk_210 : RK 210 := RK.of 120 (fun pc h => blt_guard (n := 120) h) (by decide +kernel)
set_option maxRecDepth 100000 in
theorem rk_211 : RK 211 := RK.of 114 (fun pc h => blt_guard (n := 114) h) (by decide +kernel)
set_option maxRecDepth 100000 in
theorem rk_212 : RK 212 := RK.of 45 (fun pc h => blt_guard (n := 45) h) (by decide +kernel)
set_option maxRecDepth 100000 in
theorem rk_213 : RK 213 := RK.of 66 (fun pc h => blt_guard (n := 66) h) (by decide +kernel)
set_option maxRecDepth 100000 in
theorem rk_214 : RK 214 := RK.of 47 (fun pc h => blt_guard (n := 47) h) (by decide +kernel)
set_option maxRecDepth 100000 in
theorem rk_215 : RK 215 := RK.of 55 (fun pc h => blt_guard (n := 55) h) (by decide +kernel)
set_option maxRecDepth 100000 in
theorem rk_216 : RK 216 := RK.of 82 (fun pc h => blt_guard (n := 82) h) (by decide +kernel)
set_option maxRecDepth 100000 in
theorem rk_217 : RK 217 := RK.of 64 (fun pc h => blt_guard (n := 64) h) (by decide +kernel)
set_option maxRecDepth 100000 in
theorem rk_218 : RK 218 := RK.of 45 (fun pc h => blt_guard (n := 45) h) (by decide +kernel)
set_option maxRecDepth 100000 in
theorem rk_219 : RK 219 := RK.of 64 (fun pc h => blt_guard (n := 64) h) (by decide +kernel)
set_option maxRecDepth 100000 in
theorem rk_220 : RK 220 := RK.of 39 (fun pc h => blt_guard (n := 39) h) (by decide +kernel)
set_option maxRecDepth 100000 in
theorem rk_221 : RK 221 := RK.of 132 (fun pc h => blt_guard (n := 132) h) (by decide +kernel)
set_option maxRecDepth 100000 in
theorem rk_222 : RK 222 := RK.of 42 (fun pc h => blt_guard (n := 42) h) (by decide +kernel)
set_option maxRecDepth 100000 in
theorem rk_223 : RK 223 := RK.of 22 (fun pc h => blt_guard (n := 22) h) (by decide +kernel)
set_option maxRecDepth 100000 in
theorem rk_224 : RK 224 := RK.of 33 (fun pc h => blt_guard (n := 33) h) (by decide +kernel)
set_option maxRecDepth 100000 in
theorem rk_225 : RK 225 := RK.of 16 (fun pc h => blt_guard (n := 16) h) (by decide +kernel)
set_option maxRecDepth 100000 in
theorem rk_226 : RK 226 := RK.of 46 (fun pc h => blt_guard (n := 46) h) (by decide +kernel)
set_option maxRecDepth 100000 in
theorem rk_227 : RK 227 := RK.of 72 (fun pc h => blt_guard (n := 72) h) (by decide +kernel)
set_option maxRecDepth 100000 in
theorem rk_228 : RK 228 := RK.of 40 (fun pc h => blt_guard (n := 40) h) (by decide +kernel)
set_option maxRecDepth 100000 in
theorem rk_229 : RK 229 := RK.of 33 (fun pc h => blt_guard (n := 33) h) (by decide +kernel)
set_option maxRecDepth 100000 in
theorem rk_230 : RK 230 := RK.of 106 (fun pc h => blt_guard (n := 106) h) (by decide +kernel)
set_option maxRecDepth 100000 in
theorem rk_231 : RK 231 := RK.of 75 (fun pc h => blt_guard (n := 75) h) (by decide +kernel)
set_option maxRecDepth 100000 in
theorem rk_232 : RK 232 := RK.of 56 (fun pc h => blt_guard (n := 56) h) (by decide +kernel)
set_option maxRecDepth 100000 in
theorem rk_233 : RK 233 := RK.of 60 (fun pc h => blt_guard (n := 60) h) (by decide +kernel)
set_option maxRecDepth 100000 in
theorem rk_234 : RK 234 := RK.of 67 (fun pc h => blt_guard (n := 67) h) (by decide +kernel)
set_option maxRecDepth 100000 in
theorem rk_235 : RK 235 := RK.of 25 (fun pc h => blt_guard (n := 25) h) (by decide +kernel)
set_option maxRecDepth 100000 in
theorem rk_236 : RK 236 := RK.of 22 (fun pc h => blt_guard (n := 22) h) (by decide +kernel)
set_option maxRecDepth 100000 in
theorem rk_237 : RK 237 := RK.of 21 (fun pc h => blt_guard (n := 21) h) (by decide +kernel)
set_option maxRecDepth 100000 in
theorem rk_238 : RK 238 := RK.of 43 (fun pc h => blt_guard (n := 43) h) (by decide +kernel)
set_option maxRecDepth 100000 in
theorem rk_239 : RK 239 := RK.of 123 (fun pc h => blt_guard (n := 123) h) (by decide +kernel)
set_option maxRecDepth 100000 in
theorem rk_240 : RK 240 := RK.of 35 (fun pc h => blt_guard (n := 35) h) (by decide +kernel)
set_option maxRecDepth 100000 in
theorem rk_241 : RK 241 := RK.of 77 (fun pc h => blt_guard (n := 77) h) (by decide +kernel)
set_option maxRecDepth 100000 in
theorem rk_242 : RK 242 := RK.of 198 (fun pc h => blt_guard (n := 198) h) (by decide +kernel)
set_option maxRecDepth 100000 in
theorem rk_243 : RK 243 := RK.of 47 (fun pc h => blt_guard (n := 47) h) (by decide +kernel)
set_option maxRecDepth 100000 in
theorem rk_244 : RK 244 := RK.of 60 (fun pc h => blt_guard (n := 60) h) (by decide +kernel)
set_option maxRecDepth 100000 in
theorem rk_245 : RK 245 := RK.of 197 (fun pc h => blt_guard (n := 197) h) (by decide +kernel)
set_option maxRecDepth 100000 in
theorem rk_246 : RK 246 := RK.of 66 (fun pc h => blt_guard (n := 66) h) (by decide +kernel)
set_option maxRecDepth 100000 in
theorem rk_247 : RK 247 := RK.of 74 (fun pc h => blt_guard (n := 74) h) (by decide +kernel)
set_option maxRecDepth 100000 in
theorem rk_248 : RK 248 := RK.of 149 (fun pc h => blt_guard (n := 149) h) (by decide +kernel)
set_option maxRecDepth 100000 in
theorem rk_249 : RK 249 := RK.of 170 (fun pc h => blt_guard (n := 170) h) (by decide +kernel)
set_option maxRecDepth 100000 in
theorem rk_250 : RK 250 := RK.of 124 (fun pc h => blt_guard (n := 124) h) (by decide +kernel)
set_option maxRecDepth 100000 in
theorem rk_251 : RK 251 := RK.of 42 (fun pc h => blt_guard (n := 42) h) (by decide +kernel)
set_option maxRecDepth 100000 in
theorem rk_252 : RK 252 := RK.of 25 (fun pc h => blt_guard (n := 25) h) (by decide +kernel)
set_option maxRecDepth 100000 in
theorem rk_253 : RK 253 := RK.of 21 (fun pc h => blt_guard (n := 21) h) (by decide +kernel)
set_option maxRecDepth 100000 in
theorem rk_254 : RK 254 := RK.of 29 (fun pc h => blt_guard (n := 29) h) (by decide +kernel)
set_option maxRecDepth 100000 in
theorem rk_255 : RK 255 := RK.of 182 (fun pc h => blt_guard (n := 182) h) (by decide +kernel)
set_option maxRecDepth 100000 in
theorem rk_256 : RK 256 := RK.of 81 (fun pc h => blt_guard (n := 81) h) (by decide +kernel)
set_option maxRecDepth 100000 in
theorem rk_257 : RK 257 := RK.of 28 (fun pc h => blt_guard (n := 28) h) (by decide +kernel)
set_option maxRecDepth 100000 in
theorem rk_258 : RK 258 := RK.of 53 (fun pc h => blt_guard (n := 53) h) (by decide +kernel)
set_option maxRecDepth 100000 in
theorem rk_259 : RK 259 := RK.of 53 (fun pc h => blt_guard (n := 53) h) (by decide +kernel)
set_option maxRecDepth 100000 in
theorem rk_260 : RK 260 := RK.of 21 (fun pc h => blt_guard (n := 21) h) (by decide +kernel)
set_option maxRecDepth 100000 in
theorem rk_261 : RK 261 := RK.of 35 (fun pc h => blt_guard (n := 35) h) (by decide +kernel)
set_option maxRecDepth 100000 in
theorem rk_262 : RK 262 := RK.of 17 (fun pc h => blt_guard (n := 17) h) (by decide +kernel)
set_option maxRecDepth 100000 in
theorem rk_263 : RK 263 := RK.of 17 (fun pc h => blt_guard (n := 17) h) (by decide +kernel)
set_option maxRecDepth 100000 in
theorem rk_264 : RK 264 := RK.of 23 (fun pc h => blt_guard (n := 23) h) (by decide +kernel)
set_option maxRecDepth 100000 in
theorem rk_265 : RK 265 := RK.of 25 (fun pc h => blt_guard (n := 25) h) (by decide +kernel)
set_option maxRecDepth 100000 in
theorem rk_266 : RK 266 := RK.of 23 (fun pc h => blt_guard (n := 23) h) (by decide +kernel)
set_option maxRecDepth 100000 in
theorem rk_267 : RK 267 := RK.of 25 (fun pc h => blt_guard (n := 25) h) (by decide +kernel)
set_option maxRecDepth 100000 in
theorem rk_268 : RK 268 := RK.of 19 (fun pc h => blt_guard (n := 19) h) (by decide +kernel)
set_option maxRecDepth 100000 in
theorem rk_269 : RK 269 := RK.of 17 (fun pc h => blt_guard (n := 17) h) (by decide +kernel)
set_option maxRecDepth 100000 in
theorem rk_270 : RK 270 := RK.of 23 (fun pc h => blt_guard (n := 23) h) (by decide +kernel)
set_option maxRecDepth 100000 in
theorem rk_271 : RK 271 := RK.of 23 (fun pc h => blt_guard (n := 23) h) (by decide +kernel)
set_option maxRecDepth 100000 in
theorem rk_272 : RK 272 := RK.of 27 (fun pc h => blt_guard (n := 27) h) (by decide +kernel)
set_option maxRecDepth 100000 in
theorem rk_273 : RK 273 := RK.of 19 (fun pc h => blt_guard (n := 19) h) (by decide +kernel)
set_option maxRecDepth 100000 in
theorem rk_274 : RK 274 := RK.of 25 (fun pc h => blt_guard (n := 25) h) (by decide +kernel)
set_option maxRecDepth 100000 in
theorem rk_275 : RK 275 := RK.of 25 (fun pc h => blt_guard (n := 25) h) (by decide +kernel)
set_option maxRecDepth 100000 in
theorem rk_276 : RK 276 := RK.of 19 (fun pc h => blt_guard (n := 19) h) (by decide +kernel)
set_option maxRecDepth 100000 in
theorem rk_277 : RK 277 := RK.of 23 (fun pc h => blt_guard (n := 23) h) (by decide +kernel)
set_option maxRecDepth 100000 in
theorem rk_278 : RK 278 := RK.of 20 (fun pc h => blt_guard (n := 20) h) (by decide +kernel)
set_option maxRecDepth 100000 in
theorem rk_279 : RK 279 := RK.of 21 (fun pc h => blt_guard (n := 21) h) (by decide +kernel)
set_option maxRecDepth 100000 in
theorem rk_280 : RK 280 := RK.of 21 (fun pc h => blt_guard (n := 21) h) (by decide +kernel)
set_option maxRecDepth 100000 in
theorem rk_281 : RK 281 := RK.of 23 (fun pc h => blt_guard (n := 23) h) (by decide +kernel)
set_option maxRecDepth 100000 in
theorem rk_282 : RK 282 := RK.of 25 (fun pc h => blt_guard (n := 25) h) (by decide +kernel)
set_option maxRecDepth 100000 in
theorem rk_283 : RK 283 := RK.of 23 (fun pc h => blt_guard (n := 23) h) (by decide +kernel)
set_option maxRecDepth 100000 in
theorem rk_284 : RK 284 := RK.of 27 (fun pc h => blt_guard (n := 27) h) (by decide +kernel)
set_option maxRecDepth 100000 in
theorem rk_285 : RK 285 := RK.of 19 (fun pc h => blt_guard (n := 19) h) (by decide +kernel)
set_option maxRecDepth 100000 in
theorem rk_286 : RK 286 := RK.of 17 (fun pc h => blt_guard (n := 17) h) (by decide +kernel)
set_option maxRecDepth 100000 in
theorem rk_287 : RK 287 := RK.of 19 (fun pc h => blt_guard (n := 19) h) (by decide +kernel)
set_option maxRecDepth 100000 in
theorem rk_288 : RK 288 := RK.of 17 (fun pc h => blt_guard (n := 17) h) (by decide +kernel)
set_option maxRecDepth 100000 in
theorem rk_289 : RK 289 := RK.of 23 (fun pc h => blt_guard (n := 23) h) (by decide +kernel)
set_option maxRecDepth 100000 in
theorem rk_290 : RK 290 := RK.of 29 (fun pc h => blt_guard (n := 29) h) (by decide +kernel)
set_option maxRecDepth 100000 in
theorem rk_291 : RK 291 := RK.of 17 (fun pc h => blt_guard (n := 17) h) (by decide +kernel)
set_option maxRecDepth 100000 in
theorem rk_292 : RK 292 := RK.of 21 (fun pc h => blt_guard (n := 21) h) (by decide +kernel)
set_option maxRecDepth 100000 in
theorem rk_293 : RK 293 := RK.of 17 (fun pc h => blt_guard (n := 17) h) (by decide +kernel)
set_option maxRecDepth 100000 in
theorem rk_294 : RK 294 := RK.of 19 (fun pc h => blt_guard (n := 19) h) (by decide +kernel)
set_option maxRecDepth 100000 in
theorem rk_295 : RK 295 := RK.of 17 (fun pc h => blt_guard (n := 17) h) (by decide +kernel)
set_option maxRecDepth 100000 in
theorem rk_296 : RK 296 := RK.of 20 (fun pc h => blt_guard (n := 20) h) (by decide +kernel)
set_option maxRecDepth 100000 in
theorem rk_297 : RK 297 := RK.of 22 (fun pc h => blt_guard (n := 22) h) (by decide +kernel)
set_option maxRecDepth 100000 in
theorem rk_298 : RK 298 := RK.of 16 (fun pc h => blt_guard (n := 16) h) (by decide +kernel)
set_option maxRecDepth 100000 in
theorem rk_299 : RK 299 := RK.of 29 (fun pc h => blt_guard (n := 29) h) (by decide +kernel)
set_option maxRecDepth 100000 in
theorem rk_300 : RK 300 := RK.of 16 (fun pc h => blt_guard (n := 16) h) (by decide +kernel)
set_option maxRecDepth 100000 in
theorem rk_301 : RK 301 := RK.of 16 (fun pc h => blt_guard (n := 16) h) (by decide +kernel)
def rkL_0 : List Nat := [0, 1, 2, 3, 4, 5, 6, 7, 8, 9, 10, 11, 12, 13, 14, 15]
theorem rkA_0 : ∀ q ∈ rkL_0, RK q := List.forall_mem_cons.mpr ⟨rk_0, List.forall_mem_cons.mpr ⟨rk_1, List.forall_mem_cons.mpr ⟨rk_2, List.forall_mem_cons.mpr ⟨rk_3, List.forall_mem_cons.mpr ⟨rk_4, List.forall_mem_cons.mpr ⟨rk_5, List.forall_mem_cons.mpr ⟨rk_6, List.forall_mem_cons.mpr ⟨rk_7, List.forall_mem_cons.mpr ⟨rk_8, List.forall_mem_cons.mpr ⟨rk_9, List.forall_mem_cons.mpr ⟨rk_10, List.forall_mem_cons.mpr ⟨rk_11, List.forall_mem_cons.mpr ⟨rk_12, List.forall_mem_cons.mpr ⟨rk_13, List.forall_mem_cons.mpr ⟨rk_14, List.forall_mem_cons.mpr ⟨rk_15, fun _ h => absurd h List.not_mem_nil⟩⟩⟩⟩⟩⟩⟩⟩⟩⟩⟩⟩⟩⟩⟩⟩
def rkL_16 : List Nat := [16, 17, 18, 19, 20, 21, 22, 23, 24, 25, 26, 27, 28, 29, 30, 31]
theorem rkA_16 : ∀ q ∈ rkL_16, RK q := List.forall_mem_cons.mpr ⟨rk_16, List.forall_mem_cons.mpr ⟨rk_17, List.forall_mem_cons.mpr ⟨rk_18, List.forall_mem_cons.mpr ⟨rk_19, List.forall_mem_cons.mpr ⟨rk_20, List.forall_mem_cons.mpr ⟨rk_21, List.forall_mem_cons.mpr ⟨rk_22, List.forall_mem_cons.mpr ⟨rk_23, List.forall_mem_cons.mpr ⟨rk_24, List.forall_mem_cons.mpr ⟨rk_25, List.forall_mem_cons.mpr ⟨rk_26, List.forall_mem_cons.mpr ⟨rk_27, List.forall_mem_cons.mpr ⟨rk_28, List.forall_mem_cons.mpr ⟨rk_29, List.forall_mem_cons.mpr ⟨rk_30, List.forall_mem_cons.mpr ⟨rk_31, fun _ h => absurd h List.not_mem_nil⟩⟩⟩⟩⟩⟩⟩⟩⟩⟩⟩⟩⟩⟩⟩⟩
def rkL_32 : List Nat := [32, 33, 34, 35, 36, 37, 38, 39, 40, 41, 42, 43, 44, 45, 46, 47]
theorem rkA_32 : ∀ q ∈ rkL_32, RK q := List.forall_mem_cons.mpr ⟨rk_32, List.forall_mem_cons.mpr ⟨rk_33, List.forall_mem_cons.mpr ⟨rk_34, List.forall_mem_cons.mpr ⟨rk_35, List.forall_mem_cons.mpr ⟨rk_36, List.forall_mem_cons.mpr ⟨rk_37, List.forall_mem_cons.mpr ⟨rk_38, List.forall_mem_cons.mpr ⟨rk_39, List.forall_mem_cons.mpr ⟨rk_40, List.forall_mem_cons.mpr ⟨rk_41, List.forall_mem_cons.mpr ⟨rk_42, List.forall_mem_cons.mpr ⟨rk_43, List.forall_mem_cons.mpr ⟨rk_44, List.forall_mem_cons.mpr ⟨rk_45, List.forall_mem_cons.mpr ⟨rk_46, List.forall_mem_cons.mpr ⟨rk_47, fun _ h => absurd h List.not_mem_nil⟩⟩⟩⟩⟩⟩⟩⟩⟩⟩⟩⟩⟩⟩⟩⟩
def rkL_48 : List Nat := [48, 49, 50, 51, 52, 53, 54, 55, 56, 57, 58, 59, 60, 61, 62, 63]
theorem rkA_48 : ∀ q ∈ rkL_48, RK q := List.forall_mem_cons.mpr ⟨rk_48, List.forall_mem_cons.mpr ⟨rk_49, List.forall_mem_cons.mpr ⟨rk_50, List.forall_mem_cons.mpr ⟨rk_51, List.forall_mem_cons.mpr ⟨rk_52, List.forall_mem_cons.mpr ⟨rk_53, List.forall_mem_cons.mpr ⟨rk_54, List.forall_mem_cons.mpr ⟨rk_55, List.forall_mem_cons.mpr ⟨rk_56, List.forall_mem_cons.mpr ⟨rk_57, List.forall_mem_cons.mpr ⟨rk_58, List.forall_mem_cons.mpr ⟨rk_59, List.forall_mem_cons.mpr ⟨rk_60, List.forall_mem_cons.mpr ⟨rk_61, List.forall_mem_cons.mpr ⟨rk_62, List.forall_mem_cons.mpr ⟨rk_63, fun _ h => absurd h List.not_mem_nil⟩⟩⟩⟩⟩⟩⟩⟩⟩⟩⟩⟩⟩⟩⟩⟩
def rkL_64 : List Nat := [64, 65, 66, 67, 68, 69, 70, 71, 72, 73, 74, 75, 76, 77, 78, 79]
theorem rkA_64 : ∀ q ∈ rkL_64, RK q := List.forall_mem_cons.mpr ⟨rk_64, List.forall_mem_cons.mpr ⟨rk_65, List.forall_mem_cons.mpr ⟨rk_66, List.forall_mem_cons.mpr ⟨rk_67, List.forall_mem_cons.mpr ⟨rk_68, List.forall_mem_cons.mpr ⟨rk_69, List.forall_mem_cons.mpr ⟨rk_70, List.forall_mem_cons.mpr ⟨rk_71, List.forall_mem_cons.mpr ⟨rk_72, List.forall_mem_cons.mpr ⟨rk_73, List.forall_mem_cons.mpr ⟨rk_74, List.forall_mem_cons.mpr ⟨rk_75, List.forall_mem_cons.mpr ⟨rk_76, List.forall_mem_cons.mpr ⟨rk_77, List.forall_mem_cons.mpr ⟨rk_78, List.forall_mem_cons.mpr ⟨rk_79, fun _ h => absurd h List.not_mem_nil⟩⟩⟩⟩⟩⟩⟩⟩⟩⟩⟩⟩⟩⟩⟩⟩
def rkL_80 : List Nat := [80, 81, 82, 83, 84, 85, 86, 87, 88, 89, 90, 91, 92, 93, 94, 95]
theorem rkA_80 : ∀ q ∈ rkL_80, RK q := List.forall_mem_cons.mpr ⟨rk_80, List.forall_mem_cons.mpr ⟨rk_81, List.forall_mem_cons.mpr ⟨rk_82, List.forall_mem_cons.mpr ⟨rk_83, List.forall_mem_cons.mpr ⟨rk_84, List.forall_mem_cons.mpr ⟨rk_85, List.forall_mem_cons.mpr ⟨rk_86, List.forall_mem_cons.mpr ⟨rk_87, List.forall_mem_cons.mpr ⟨rk_88, List.forall_mem_cons.mpr ⟨rk_89, List.forall_mem_cons.mpr ⟨rk_90, List.forall_mem_cons.mpr ⟨rk_91, List.forall_mem_cons.mpr ⟨rk_92, List.forall_mem_cons.mpr ⟨rk_93, List.forall_mem_cons.mpr ⟨rk_94, List.forall_mem_cons.mpr ⟨rk_95, fun _ h => absurd h List.not_mem_nil⟩⟩⟩⟩⟩⟩⟩⟩⟩⟩⟩⟩⟩⟩⟩⟩
def rkL_96 : List Nat := [96, 97, 98, 99, 100, 101, 102, 103, 104, 105, 106, 107, 108, 109, 110, 111]
theorem rkA_96 : ∀ q ∈ rkL_96, RK q := List.forall_mem_cons.mpr ⟨rk_96, List.forall_mem_cons.mpr ⟨rk_97, List.forall_mem_cons.mpr ⟨rk_98, List.forall_mem_cons.mpr ⟨rk_99, List.forall_mem_cons.mpr ⟨rk_100, List.forall_mem_cons.mpr ⟨rk_101, List.forall_mem_cons.mpr ⟨rk_102, List.forall_mem_cons.mpr ⟨rk_103, List.forall_mem_cons.mpr ⟨rk_104, List.forall_mem_cons.mpr ⟨rk_105, List.forall_mem_cons.mpr ⟨rk_106, List.forall_mem_cons.mpr ⟨rk_107, List.forall_mem_cons.mpr ⟨rk_108, List.forall_mem_cons.mpr ⟨rk_109, List.forall_mem_cons.mpr ⟨rk_110, List.forall_mem_cons.mpr ⟨rk_111, fun _ h => absurd h List.not_mem_nil⟩⟩⟩⟩⟩⟩⟩⟩⟩⟩⟩⟩⟩⟩⟩⟩
def rkL_112 : List Nat := [112, 113, 114, 115, 116, 117, 118, 119, 120, 121, 122, 123, 124, 125, 126, 127]
theorem rkA_112 : ∀ q ∈ rkL_112, RK q := List.forall_mem_cons.mpr ⟨rk_112, List.forall_mem_cons.mpr ⟨rk_113, List.forall_mem_cons.mpr ⟨rk_114, List.forall_mem_cons.mpr ⟨rk_115, List.forall_mem_cons.mpr ⟨rk_116, List.forall_mem_cons.mpr ⟨rk_117, List.forall_mem_cons.mpr ⟨rk_118, List.forall_mem_cons.mpr ⟨rk_119, List.forall_mem_cons.mpr ⟨rk_120, List.forall_mem_cons.mpr ⟨rk_121, List.forall_mem_cons.mpr ⟨rk_122, List.forall_mem_cons.mpr ⟨rk_123, List.forall_mem_cons.mpr ⟨rk_124, List.forall_mem_cons.mpr ⟨rk_125, List.forall_mem_cons.mpr ⟨rk_126, List.forall_mem_cons.mpr ⟨rk_127, fun _ h => absurd h List.not_mem_nil⟩⟩⟩⟩⟩⟩⟩⟩⟩⟩⟩⟩⟩⟩⟩⟩
def rkL_128 : List Nat := [128, 129, 130, 131, 132, 133, 134, 135, 136, 137, 138, 139, 140, 141, 142, 143]
theorem rkA_128 : ∀ q ∈ rkL_128, RK q := List.forall_mem_cons.mpr ⟨rk_128, List.forall_mem_cons.mpr ⟨rk_129, List.forall_mem_cons.mpr ⟨rk_130, List.forall_mem_cons.mpr ⟨rk_131, List.forall_mem_cons.mpr ⟨rk_132, List.forall_mem_cons.mpr ⟨rk_133, List.forall_mem_cons.mpr ⟨rk_134, List.forall_mem_cons.mpr ⟨rk_135, List.forall_mem_cons.mpr ⟨rk_136, List.forall_mem_cons.mpr ⟨rk_137, List.forall_mem_cons.mpr ⟨rk_138, List.forall_mem_cons.mpr ⟨rk_139, List.forall_mem_cons.mpr ⟨rk_140, List.forall_mem_cons.mpr ⟨rk_141, List.forall_mem_cons.mpr ⟨rk_142, List.forall_mem_cons.mpr ⟨rk_143, fun _ h => absurd h List.not_mem_nil⟩⟩⟩⟩⟩⟩⟩⟩⟩⟩⟩⟩⟩⟩⟩⟩
def rkL_144 : List Nat := [144, 145, 146, 147, 148, 149, 150, 151, 152, 153, 154, 155, 156, 157, 158, 159]
theorem rkA_144 : ∀ q ∈ rkL_144, RK q := List.forall_mem_cons.mpr ⟨rk_144, List.forall_mem_cons.mpr ⟨rk_145, List.forall_mem_cons.mpr ⟨rk_146, List.forall_mem_cons.mpr ⟨rk_147, List.forall_mem_cons.mpr ⟨rk_148, List.forall_mem_cons.mpr ⟨rk_149, List.forall_mem_cons.mpr ⟨rk_150, List.forall_mem_cons.mpr ⟨rk_151, List.forall_mem_cons.mpr ⟨rk_152, List.forall_mem_cons.mpr ⟨rk_153, List.forall_mem_cons.mpr ⟨rk_154, List.forall_mem_cons.mpr ⟨rk_155, List.forall_mem_cons.mpr ⟨rk_156, List.forall_mem_cons.mpr ⟨rk_157, List.forall_mem_cons.mpr ⟨rk_158, List.forall_mem_cons.mpr ⟨rk_159, fun _ h => absurd h List.not_mem_nil⟩⟩⟩⟩⟩⟩⟩⟩⟩⟩⟩⟩⟩⟩⟩⟩
def rkL_160 : List Nat := [160, 161, 162, 163, 164, 165, 166, 167, 168, 169, 170, 171, 172, 173, 174, 175]
theorem rkA_160 : ∀ q ∈ rkL_160, RK q := List.forall_mem_cons.mpr ⟨rk_160, List.forall_mem_cons.mpr ⟨rk_161, List.forall_mem_cons.mpr ⟨rk_162, List.forall_mem_cons.mpr ⟨rk_163, List.forall_mem_cons.mpr ⟨rk_164, List.forall_mem_cons.mpr ⟨rk_165, List.forall_mem_cons.mpr ⟨rk_166, List.forall_mem_cons.mpr ⟨rk_167, List.forall_mem_cons.mpr ⟨rk_168, List.forall_mem_cons.mpr ⟨rk_169, List.forall_mem_cons.mpr ⟨rk_170, List.forall_mem_cons.mpr ⟨rk_171, List.forall_mem_cons.mpr ⟨rk_172, List.forall_mem_cons.mpr ⟨rk_173, List.forall_mem_cons.mpr ⟨rk_174, List.forall_mem_cons.mpr ⟨rk_175, fun _ h => absurd h List.not_mem_nil⟩⟩⟩⟩⟩⟩⟩⟩⟩⟩⟩⟩⟩⟩⟩⟩
def rkL_176 : List Nat := [176, 177, 178, 179, 180, 181, 182, 183, 184, 185, 186, 187, 188, 189, 190, 191]
theorem rkA_176 : ∀ q ∈ rkL_176, RK q := List.forall_mem_cons.mpr ⟨rk_176, List.forall_mem_cons.mpr ⟨rk_177, List.forall_mem_cons.mpr ⟨rk_178, List.forall_mem_cons.mpr ⟨rk_179, List.forall_mem_cons.mpr ⟨rk_180, List.forall_mem_cons.mpr ⟨rk_181, List.forall_mem_cons.mpr ⟨rk_182, List.forall_mem_cons.mpr ⟨rk_183, List.forall_mem_cons.mpr ⟨rk_184, List.forall_mem_cons.mpr ⟨rk_185, List.forall_mem_cons.mpr ⟨rk_186, List.forall_mem_cons.mpr ⟨rk_187, List.forall_mem_cons.mpr ⟨rk_188, List.forall_mem_cons.mpr ⟨rk_189, List.forall_mem_cons.mpr ⟨rk_190, List.forall_mem_cons.mpr ⟨rk_191, fun _ h => absurd h List.not_mem_nil⟩⟩⟩⟩⟩⟩⟩⟩⟩⟩⟩⟩⟩⟩⟩⟩
def rkL_192 : List Nat := [192, 193, 194, 195, 196, 197, 198, 199, 200, 201, 202, 203, 204, 205, 206, 207]
theorem rkA_192 : ∀ q ∈ rkL_192, RK q := List.forall_mem_cons.mpr ⟨rk_192, List.forall_mem_cons.mpr ⟨rk_193, List.forall_mem_cons.mpr ⟨rk_194, List.forall_mem_cons.mpr ⟨rk_195, List.forall_mem_cons.mpr ⟨rk_196, List.forall_mem_cons.mpr ⟨rk_197, List.forall_mem_cons.mpr ⟨rk_198, List.forall_mem_cons.mpr ⟨rk_199, List.forall_mem_cons.mpr ⟨rk_200, List.forall_mem_cons.mpr ⟨rk_201, List.forall_mem_cons.mpr ⟨rk_202, List.forall_mem_cons.mpr ⟨rk_203, List.forall_mem_cons.mpr ⟨rk_204, List.forall_mem_cons.mpr ⟨rk_205, List.forall_mem_cons.mpr ⟨rk_206, List.forall_mem_cons.mpr ⟨rk_207, fun _ h => absurd h List.not_mem_nil⟩⟩⟩⟩⟩⟩⟩⟩⟩⟩⟩⟩⟩⟩⟩⟩
def rkL_208 : List Nat := [208, 209, 210, 211, 212, 213, 214, 215, 216, 217, 218, 219, 220, 221, 222, 223]
theorem rkA_208 : ∀ q ∈ rkL_208, RK q := List.forall_mem_cons.mpr ⟨rk_208, List.forall_mem_cons.mpr ⟨rk_209, List.forall_mem_cons.mpr ⟨rk_210, List.forall_mem_cons.mpr ⟨rk_211, List.forall_mem_cons.mpr ⟨rk_212, List.forall_mem_cons.mpr ⟨rk_213, List.forall_mem_cons.mpr ⟨rk_214, List.forall_mem_cons.mpr ⟨rk_215, List.forall_mem_cons.mpr ⟨rk_216, List.forall_mem_cons.mpr ⟨rk_217, List.forall_mem_cons.mpr ⟨rk_218, List.forall_mem_cons.mpr ⟨rk_219, List.forall_mem_cons.mpr ⟨rk_220, List.forall_mem_cons.mpr ⟨rk_221, List.forall_mem_cons.mpr ⟨rk_222, List.forall_mem_cons.mpr ⟨rk_223, fun _ h => absurd h List.not_mem_nil⟩⟩⟩⟩⟩⟩⟩⟩⟩⟩⟩⟩⟩⟩⟩⟩
def rkL_224 : List Nat := [224, 225, 226, 227, 228, 229, 230, 231, 232, 233, 234, 235, 236, 237, 238, 239]
theorem rkA_224 : ∀ q ∈ rkL_224, RK q := List.forall_mem_cons.mpr ⟨rk_224, List.forall_mem_cons.mpr ⟨rk_225, List.forall_mem_cons.mpr ⟨rk_226, List.forall_mem_cons.mpr ⟨rk_227, List.forall_mem_cons.mpr ⟨rk_228, List.forall_mem_cons.mpr ⟨rk_229, List.forall_mem_cons.mpr ⟨rk_230, List.forall_mem_cons.mpr ⟨rk_231, List.forall_mem_cons.mpr ⟨rk_232, List.forall_mem_cons.mpr ⟨rk_233, List.forall_mem_cons.mpr ⟨rk_234, List.forall_mem_cons.mpr ⟨rk_235, List.forall_mem_cons.mpr ⟨rk_236, List.forall_mem_cons.mpr ⟨rk_237, List.forall_mem_cons.mpr ⟨rk_238, List.forall_mem_cons.mpr ⟨rk_239, fun _ h => absurd h List.not_mem_nil⟩⟩⟩⟩⟩⟩⟩⟩⟩⟩⟩⟩⟩⟩⟩⟩
def rkL_240 : List Nat := [240, 241, 242, 243, 244, 245, 246, 247, 248, 249, 250, 251, 252, 253, 254, 255]
theorem rkA_240 : ∀ q ∈ rkL_240, RK q := List.forall_mem_cons.mpr ⟨rk_240, List.forall_mem_cons.mpr ⟨rk_241, List.forall_mem_cons.mpr ⟨rk_242, List.forall_mem_cons.mpr ⟨rk_243, List.forall_mem_cons.mpr ⟨rk_244, List.forall_mem_cons.mpr ⟨rk_245, List.forall_mem_cons.mpr ⟨rk_246, List.forall_mem_cons.mpr ⟨rk_247, List.forall_mem_cons.mpr ⟨rk_248, List.forall_mem_cons.mpr ⟨rk_249, List.forall_mem_cons.mpr ⟨rk_250, List.forall_mem_cons.mpr ⟨rk_251, List.forall_mem_cons.mpr ⟨rk_252, List.forall_mem_cons.mpr ⟨rk_253, List.forall_mem_cons.mpr ⟨rk_254, List.forall_mem_cons.mpr ⟨rk_255, fun _ h => absurd h List.not_mem_nil⟩⟩⟩⟩⟩⟩⟩⟩⟩⟩⟩⟩⟩⟩⟩⟩
def rkL_256 : List Nat := [256, 257, 258, 259, 260, 261, 262, 263, 264, 265, 266, 267, 268, 269, 270, 271]
theorem rkA_256 : ∀ q ∈ rkL_256, RK q := List.forall_mem_cons.mpr ⟨rk_256, List.forall_mem_cons.mpr ⟨rk_257, List.forall_mem_cons.mpr ⟨rk_258, List.forall_mem_cons.mpr ⟨rk_259, List.forall_mem_cons.mpr ⟨rk_260, List.forall_mem_cons.mpr ⟨rk_261, List.forall_mem_cons.mpr ⟨rk_262, List.forall_mem_cons.mpr ⟨rk_263, List.forall_mem_cons.mpr ⟨rk_264, List.forall_mem_cons.mpr ⟨rk_265, List.forall_mem_cons.mpr ⟨rk_266, List.forall_mem_cons.mpr ⟨rk_267, List.forall_mem_cons.mpr ⟨rk_268, List.forall_mem_cons.mpr ⟨rk_269, List.forall_mem_cons.mpr ⟨rk_270, List.forall_mem_cons.mpr ⟨rk_271, fun _ h => absurd h List.not_mem_nil⟩⟩⟩⟩⟩⟩⟩⟩⟩⟩⟩⟩⟩⟩⟩⟩
def rkL_272 : List Nat := [272, 273, 274, 275, 276, 277, 278, 279, 280, 281, 282, 283, 284, 285, 286, 287]
theorem rkA_272 : ∀ q ∈ rkL_272, RK q := List.forall_mem_cons.mpr ⟨rk_272, List.forall_mem_cons.mpr ⟨rk_273, List.forall_mem_cons.mpr ⟨rk_274, List.forall_mem_cons.mpr ⟨rk_275, List.forall_mem_cons.mpr ⟨rk_276, List.forall_mem_cons.mpr ⟨rk_277, List.forall_mem_cons.mpr ⟨rk_278, List.forall_mem_cons.mpr ⟨rk_279, List.forall_mem_cons.mpr ⟨rk_280, List.forall_mem_cons.mpr ⟨rk_281, List.forall_mem_cons.mpr ⟨rk_282, List.forall_mem_cons.mpr ⟨rk_283, List.forall_mem_cons.mpr ⟨rk_284, List.forall_mem_cons.mpr ⟨rk_285, List.forall_mem_cons.mpr ⟨rk_286, List.forall_mem_cons.mpr ⟨rk_287, fun _ h => absurd h List.not_mem_nil⟩⟩⟩⟩⟩⟩⟩⟩⟩⟩⟩⟩⟩⟩⟩⟩
def rkL_288 : List Nat := [288, 289, 290, 291, 292, 293, 294, 295, 296, 297, 298, 299, 300, 301]
theorem rkA_288 : ∀ q ∈ rkL_288, RK q := List.forall_mem_cons.mpr ⟨rk_288, List.forall_mem_cons.mpr ⟨rk_289, List.forall_mem_cons.mpr ⟨rk_290, List.forall_mem_cons.mpr ⟨rk_291, List.forall_mem_cons.mpr ⟨rk_292, List.forall_mem_cons.mpr ⟨rk_293, List.forall_mem_cons.mpr ⟨rk_294, List.forall_mem_cons.mpr ⟨rk_295, List.forall_mem_cons.mpr ⟨rk_296, List.forall_mem_cons.mpr ⟨rk_297, List.forall_mem_cons.mpr ⟨rk_298, List.forall_mem_cons.mpr ⟨rk_299, List.forall_mem_cons.mpr ⟨rk_300, List.forall_mem_cons.mpr ⟨rk_301, fun _ h => absurd h List.not_mem_nil⟩⟩⟩⟩⟩⟩⟩⟩⟩⟩⟩⟩⟩⟩
def rkL : List Nat := rkL_0 ++ (rkL_16 ++ (rkL_32 ++ (rkL_48 ++ (rkL_64 ++ (rkL_80 ++ (rkL_96 ++ (rkL_112 ++ (rkL_128 ++ (rkL_144 ++ (rkL_160 ++ (rkL_176 ++ (rkL_192 ++ (rkL_208 ++ (rkL_224 ++ (rkL_240 ++ (rkL_256 ++ (rkL_272 ++ (rkL_288))))))))))))))))))
theorem rk_all : ∀ q ∈ rkL, RK q := List.forall_mem_append.mpr ⟨rkA_0, List.forall_mem_append.mpr ⟨rkA_16, List.forall_mem_append.mpr ⟨rkA_32, List.forall_mem_append.mpr ⟨rkA_48, List.forall_mem_append.mpr ⟨rkA_64, List.forall_mem_append.mpr ⟨rkA_80, List.forall_mem_append.mpr ⟨rkA_96, List.forall_mem_append.mpr ⟨rkA_112, List.forall_mem_append.mpr ⟨rkA_128, List.forall_mem_append.mpr ⟨rkA_144, List.forall_mem_append.mpr ⟨rkA_160, List.forall_mem_append.mpr ⟨rkA_176, List.forall_mem_append.mpr ⟨rkA_192, List.forall_mem_append.mpr ⟨rkA_208, List.forall_mem_append.mpr ⟨rkA_224, List.forall_mem_append.mpr ⟨rkA_240, List.forall_mem_append.mpr ⟨rkA_256, List.forall_mem_append.mpr ⟨rkA_272, rkA_288⟩⟩⟩⟩⟩⟩⟩⟩⟩⟩⟩⟩⟩⟩⟩⟩⟩⟩
theorem rkL_e : rkL = List.range 302 := by decide +kernel
theorem rk_ok {y : Nat} (h : y < 302) : RK y := rk_all y (by rw [rkL_e]; exact List.mem_range.mpr h)
theorem ac_chk : ((List.range 302).all fun y => Nat.ble (mt y).1 (mlc y)) = true := by decide +kernel
theorem ac_le {y : Nat} (h : y < 302) : (mt y).1 ≤ mlc y := Nat.ble_eq.mp (List.all_eq_true.mp ac_chk y (List.mem_range.mpr h))
