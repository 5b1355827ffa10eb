/-! ===== written by a program: throws and handlers ===== -/
def thN : List String := ["java/lang/RuntimeException", "java/lang/Exception"]
theorem thN_fit : ∀ n ∈ thN, Bundle.fit n = true := by decide +kernel
noncomputable def icE (e : Nat) : Nat := match e with
  | 0 => 87
  | 1 => 110
  | 2 => 368
  | 3 => 311
  | 4 => 98
  | 5 => 238
  | _ => 0
noncomputable def ikE (e : Nat) : Nat := match e with
  | 0 => 83
  | 1 => 106
  | 2 => 364
  | 3 => 307
  | 4 => 94
  | 5 => 234
  | _ => 0
/-- the words of a throw; the constructor of 5 links its super elsewhere -/
noncomputable def thL (e ic : Nat) : List Jvm.Cond := match e with
  | 5 => ns_at "MapGeneralizer" ic (exN 5) "java/lang/RuntimeException" ["java/lang/Exception"]
  | e => vx_atS "MapGeneralizer" ic (exN e) thN
def THW (e : Nat) : Prop := Bundle.fit (exN e) = true ∧ Jvm.Cond.classLink "MapGeneralizer" (ikE e) (exN e) ∈ gw ∧ Jvm.Cond.initialized (exN e) ∈ gw ∧ ∀ w ∈ thL e (icE e), w ∈ gw ∨ w ∈ nws
theorem thw_all {e ic : Nat} {ps : List Nat} (h : ((thL e ic).all fun w => decide (w ∈ nws) || ps.any fun p => wat p w) = true) : ∀ w ∈ thL e ic, w ∈ gw ∨ w ∈ nws := by
  intro w hw
  have h1 := List.all_eq_true.mp h w hw
  rw [Bool.or_eq_true] at h1
  rcases h1 with h1 | h1
  · exact Or.inr (of_decide_eq_true h1)
  · obtain ⟨p, -, h2⟩ := List.any_eq_true.mp h1
    exact Or.inl (gw_wat h2)
set_option maxRecDepth 100000 in
theorem thw_0 : THW 0 := ⟨by decide +kernel, gw_at (k := 2) (i := 104) rfl rfl, gw_at (k := 1) (i := 15) rfl rfl, thw_all (ic := 87) (ps := [1012, 1013, 1014, 1015, 1033, 1034, 2091, 2104, 2105, 2106, 2107, 2108, 2109, 2110, 2111, 2112, 2113, 2114, 2115, 2116, 2117, 2118, 2119, 2120, 2121, 2122, 2123, 2124, 2125, 2126, 2127, 2128, 2129, 2130, 2131, 2132, 2133, 2134, 2135, 2136, 2138, 2143, 2144, 2145, 2146, 2147, 2148, 2150, 2151, 2152, 2153, 2154, 2155, 2156, 2157, 2158, 2159, 2160, 2161, 2163, 2164, 2165, 2166, 2167, 2168, 2169, 2170, 2171, 2172, 2173, 2174, 3005, 3006, 3007, 3008, 3009, 3010, 3015, 8071, 8083, 8090, 1]) (by decide +kernel)⟩
set_option maxRecDepth 100000 in
theorem thw_1 : THW 1 := ⟨by decide +kernel, gw_at (k := 2) (i := 214) rfl rfl, gw_at (k := 1) (i := 18) rfl rfl, thw_all (ic := 110) (ps := [1012, 1013, 1014, 1018, 1033, 1034, 2093, 2107, 2108, 2109, 2110, 2111, 2112, 2116, 2118, 2120, 2122, 2124, 2125, 2126, 2127, 2128, 2129, 2130, 2131, 2132, 2133, 2134, 2135, 2136, 2138, 2139, 2143, 2144, 2145, 2146, 2147, 2148, 2154, 2155, 2156, 2157, 2158, 2159, 2160, 2161, 2163, 2164, 2165, 2166, 2167, 2168, 2169, 2170, 2172, 2173, 2214, 2215, 2216, 2217, 2218, 2219, 2220, 2221, 2222, 2224, 2225, 2226, 2227, 2228, 2229, 3005, 3006, 3007, 3008, 3009, 3010, 3015, 8071, 8085, 8090, 1]) (by decide +kernel)⟩
set_option maxRecDepth 100000 in
theorem thw_2 : THW 2 := ⟨by decide +kernel, gw_at (k := 3) (i := 29) rfl rfl, gw_at (k := 1) (i := 21) rfl rfl, thw_all (ic := 368) (ps := [1012, 1013, 1014, 1021, 1033, 1034, 2107, 2108, 2109, 2110, 2111, 2112, 2116, 2118, 2120, 2122, 2124, 2125, 2126, 2127, 2128, 2129, 2130, 2131, 2132, 2133, 2134, 2135, 2136, 2138, 2140, 2143, 2144, 2145, 2146, 2147, 2148, 2154, 2155, 2156, 2157, 2158, 2159, 2160, 2161, 2163, 2164, 2165, 2166, 2167, 2168, 2169, 2170, 2172, 2173, 2237, 3001, 3002, 3003, 3004, 3005, 3006, 3007, 3008, 3009, 3010, 3011, 3013, 3014, 3015, 3029, 3030, 3031, 3032, 3033, 3034, 3035, 3036, 3037, 3039, 3040, 3041, 8071, 8072, 8087, 8090, 1]) (by decide +kernel)⟩
set_option maxRecDepth 100000 in
theorem thw_3 : THW 3 := ⟨by decide +kernel, gw_at (k := 5) (i := 72) rfl rfl, gw_at (k := 1) (i := 25) rfl rfl, thw_all (ic := 311) (ps := [1012, 1013, 1014, 1025, 1033, 1034, 2107, 2108, 2109, 2110, 2111, 2112, 2116, 2118, 2120, 2122, 2124, 2125, 2126, 2127, 2128, 2129, 2130, 2131, 2132, 2133, 2134, 2135, 2136, 2137, 2138, 2143, 2144, 2145, 2146, 2147, 2148, 2154, 2155, 2156, 2157, 2158, 2159, 2160, 2161, 2163, 2164, 2165, 2166, 2167, 2168, 2169, 2170, 2172, 2173, 3005, 3006, 3007, 3008, 3009, 3010, 3015, 5047, 5048, 5049, 5050, 5051, 5052, 5053, 5054, 5055, 5056, 5057, 5058, 5059, 5060, 5072, 5074, 8071, 8089, 8090, 1]) (by decide +kernel)⟩
set_option maxRecDepth 100000 in
theorem thw_4 : THW 4 := ⟨by decide +kernel, gw_at (k := 2) (i := 198) rfl rfl, gw_at (k := 1) (i := 17) rfl rfl, thw_all (ic := 98) (ps := [1012, 1013, 1014, 1017, 1033, 1034, 2092, 2107, 2108, 2109, 2110, 2111, 2112, 2116, 2118, 2120, 2122, 2124, 2125, 2126, 2127, 2128, 2129, 2130, 2131, 2132, 2133, 2134, 2135, 2136, 2138, 2141, 2143, 2144, 2145, 2146, 2147, 2148, 2154, 2155, 2156, 2157, 2158, 2159, 2160, 2161, 2163, 2164, 2165, 2166, 2167, 2168, 2169, 2170, 2172, 2173, 2198, 2199, 2200, 2201, 2202, 2203, 2204, 2205, 2206, 2208, 2209, 2210, 2211, 2212, 2213, 3005, 3006, 3007, 3008, 3009, 3010, 3015, 8071, 8084, 8090, 1]) (by decide +kernel)⟩
set_option maxRecDepth 100000 in
theorem thw_5 : THW 5 := ⟨by decide +kernel, gw_at (k := 4) (i := 49) rfl rfl, gw_at (k := 1) (i := 24) rfl rfl, thw_all (ic := 238) (ps := [1012, 1013, 1014, 1024, 1033, 1034, 2107, 2108, 2109, 2110, 2111, 2112, 2116, 2118, 2120, 2122, 2124, 2125, 2126, 2127, 2128, 2129, 2130, 2131, 2132, 2133, 2134, 2135, 2136, 2138, 2142, 2143, 2144, 2145, 2146, 2147, 2148, 2154, 2155, 2156, 2157, 2158, 2159, 2160, 2161, 2163, 2164, 2165, 2166, 2167, 2168, 2169, 2170, 2172, 2173, 3005, 3006, 3007, 3008, 3009, 3010, 3015, 4044, 4049, 4050, 4051, 4052, 4053, 4054, 4055, 4056, 4057, 4059, 4060, 4061, 4062, 4063, 4064, 8071, 8088, 8090, 1]) (by decide +kernel)⟩
theorem thw_ok {e : Nat} (h : e < 6) : THW e := match e, h with
  | 0, _ => thw_0
  | 1, _ => thw_1
  | 2, _ => thw_2
  | 3, _ => thw_3
  | 4, _ => thw_4
  | 5, _ => thw_5
  | n + 6, h => absurd h (by omega)
/-- what stands at a throw -/
def TH (q : Nat × Nat × Nat) : Prop := own q.1 = 9 ∧ hhs q.1 = [] ∧ decode (byt q.1) q.2.1 = .ok (.new (ikE q.2.2), 3) ∧ decode (byt q.1) (q.2.1 + 3) = .ok (.dup, 1) ∧ ∃ (is : Nat) (tx : String), ("MapGeneralizer", is, tx) ∈ strs ∧
  ((decode (byt q.1) (q.2.1 + 4) = .ok (.ldc is, 2) ∧ decode (byt q.1) (q.2.1 + 6) = .ok (.invokespecial (icE q.2.2), 3) ∧ decode (byt q.1) (q.2.1 + 9) = .ok (.athrow, 1)) ∨
   (decode (byt q.1) (q.2.1 + 4) = .ok (.ldc_w is, 3) ∧ decode (byt q.1) (q.2.1 + 7) = .ok (.invokespecial (icE q.2.2), 3) ∧ decode (byt q.1) (q.2.1 + 10) = .ok (.athrow, 1)))
theorem th_81_49 : TH (81, 49, 0) := ⟨by decide +kernel, by decide +kernel, by decide +kernel, by decide +kernel, 85, "a number of the point is out of range", by decide +kernel, .inl ⟨by decide +kernel, by decide +kernel, by decide +kernel⟩⟩
theorem th_81_75 : TH (81, 75, 4) := ⟨by decide +kernel, by decide +kernel, by decide +kernel, by decide +kernel, 96, "a point or a line is there", by decide +kernel, .inl ⟨by decide +kernel, by decide +kernel, by decide +kernel⟩⟩
theorem th_81_100 : TH (81, 100, 1) := ⟨by decide +kernel, by decide +kernel, by decide +kernel, by decide +kernel, 108, "there are 12 points", by decide +kernel, .inl ⟨by decide +kernel, by decide +kernel, by decide +kernel⟩⟩
theorem th_84_14 : TH (84, 14, 0) := ⟨by decide +kernel, by decide +kernel, by decide +kernel, by decide +kernel, 129, "the corner is out of range", by decide +kernel, .inl ⟨by decide +kernel, by decide +kernel, by decide +kernel⟩⟩
theorem th_85_44 : TH (85, 44, 0) := ⟨by decide +kernel, by decide +kernel, by decide +kernel, by decide +kernel, 142, "the rectangle or the parcel is out of range", by decide +kernel, .inl ⟨by decide +kernel, by decide +kernel, by decide +kernel⟩⟩
theorem th_86_13 : TH (86, 13, 0) := ⟨by decide +kernel, by decide +kernel, by decide +kernel, by decide +kernel, 161, "the class is out of range", by decide +kernel, .inl ⟨by decide +kernel, by decide +kernel, by decide +kernel⟩⟩
theorem th_88_31 : TH (88, 31, 0) := ⟨by decide +kernel, by decide +kernel, by decide +kernel, by decide +kernel, 173, "the level, the setting or its value is out of range", by decide +kernel, .inl ⟨by decide +kernel, by decide +kernel, by decide +kernel⟩⟩
theorem th_88_88 : TH (88, 88, 1) := ⟨by decide +kernel, by decide +kernel, by decide +kernel, by decide +kernel, 178, "the value does not fit between the levels beside", by decide +kernel, .inl ⟨by decide +kernel, by decide +kernel, by decide +kernel⟩⟩
theorem th_89_13 : TH (89, 13, 0) := ⟨by decide +kernel, by decide +kernel, by decide +kernel, by decide +kernel, 186, "the setting is out of range", by decide +kernel, .inl ⟨by decide +kernel, by decide +kernel, by decide +kernel⟩⟩
theorem th_90_100 : TH (90, 100, 0) := ⟨by decide +kernel, by decide +kernel, by decide +kernel, by decide +kernel, 196, "there is no such count", by decide +kernel, .inl ⟨by decide +kernel, by decide +kernel, by decide +kernel⟩⟩
theorem th_91_14 : TH (91, 14, 0) := ⟨by decide +kernel, by decide +kernel, by decide +kernel, by decide +kernel, 198, "a point has no such number", by decide +kernel, .inl ⟨by decide +kernel, by decide +kernel, by decide +kernel⟩⟩
theorem th_99_78 : TH (99, 78, 5) := ⟨by decide +kernel, by decide +kernel, by decide +kernel, by decide +kernel, 236, "no line loses a vertex", by decide +kernel, .inl ⟨by decide +kernel, by decide +kernel, by decide +kernel⟩⟩
theorem th_101_12 : TH (101, 12, 0) := ⟨by decide +kernel, by decide +kernel, by decide +kernel, by decide +kernel, 245, "the column or the row is out of range", by decide +kernel, .inl ⟨by decide +kernel, by decide +kernel, by decide +kernel⟩⟩
theorem th_105_25 : TH (105, 25, 5) := ⟨by decide +kernel, by decide +kernel, by decide +kernel, by decide +kernel, 263, "the parcel has no field on level 0", by decide +kernel, .inr ⟨by decide +kernel, by decide +kernel, by decide +kernel⟩⟩
theorem th_106_13 : TH (106, 13, 0) := ⟨by decide +kernel, by decide +kernel, by decide +kernel, by decide +kernel, 161, "the class is out of range", by decide +kernel, .inl ⟨by decide +kernel, by decide +kernel, by decide +kernel⟩⟩
theorem th_108_13 : TH (108, 13, 0) := ⟨by decide +kernel, by decide +kernel, by decide +kernel, by decide +kernel, 161, "the class is out of range", by decide +kernel, .inl ⟨by decide +kernel, by decide +kernel, by decide +kernel⟩⟩
theorem th_111_13 : TH (111, 13, 0) := ⟨by decide +kernel, by decide +kernel, by decide +kernel, by decide +kernel, 283, "the position is out of range", by decide +kernel, .inr ⟨by decide +kernel, by decide +kernel, by decide +kernel⟩⟩
theorem th_111_38 : TH (111, 38, 1) := ⟨by decide +kernel, by decide +kernel, by decide +kernel, by decide +kernel, 285, "the point is not shown", by decide +kernel, .inr ⟨by decide +kernel, by decide +kernel, by decide +kernel⟩⟩
theorem th_115_17 : TH (115, 17, 3) := ⟨by decide +kernel, by decide +kernel, by decide +kernel, by decide +kernel, 309, "no point is shown", by decide +kernel, .inr ⟨by decide +kernel, by decide +kernel, by decide +kernel⟩⟩
theorem th_117_12 : TH (117, 12, 0) := ⟨by decide +kernel, by decide +kernel, by decide +kernel, by decide +kernel, 312, "the character code is out of range", by decide +kernel, .inr ⟨by decide +kernel, by decide +kernel, by decide +kernel⟩⟩
theorem th_117_35 : TH (117, 35, 1) := ⟨by decide +kernel, by decide +kernel, by decide +kernel, by decide +kernel, 317, "the input has 60 characters", by decide +kernel, .inr ⟨by decide +kernel, by decide +kernel, by decide +kernel⟩⟩
theorem th_118_32 : TH (118, 32, 0) := ⟨by decide +kernel, by decide +kernel, by decide +kernel, by decide +kernel, 329, "the input is not a text", by decide +kernel, .inr ⟨by decide +kernel, by decide +kernel, by decide +kernel⟩⟩
theorem th_118_80 : TH (118, 80, 4) := ⟨by decide +kernel, by decide +kernel, by decide +kernel, by decide +kernel, 338, "a line cannot be added", by decide +kernel, .inr ⟨by decide +kernel, by decide +kernel, by decide +kernel⟩⟩
theorem th_118_96 : TH (118, 96, 1) := ⟨by decide +kernel, by decide +kernel, by decide +kernel, by decide +kernel, 340, "there is no room for a line, or a point cannot be added", by decide +kernel, .inr ⟨by decide +kernel, by decide +kernel, by decide +kernel⟩⟩
theorem th_119_8 : TH (119, 8, 5) := ⟨by decide +kernel, by decide +kernel, by decide +kernel, by decide +kernel, 342, "no error position was kept", by decide +kernel, .inr ⟨by decide +kernel, by decide +kernel, by decide +kernel⟩⟩
theorem th_120_45 : TH (120, 45, 5) := ⟨by decide +kernel, by decide +kernel, by decide +kernel, by decide +kernel, 348, "there is no such character", by decide +kernel, .inr ⟨by decide +kernel, by decide +kernel, by decide +kernel⟩⟩
theorem th_121_10 : TH (121, 10, 5) := ⟨by decide +kernel, by decide +kernel, by decide +kernel, by decide +kernel, 353, "no change is remembered", by decide +kernel, .inr ⟨by decide +kernel, by decide +kernel, by decide +kernel⟩⟩
theorem th_123_7 : TH (123, 7, 1) := ⟨by decide +kernel, by decide +kernel, by decide +kernel, by decide +kernel, 358, "nothing was saved", by decide +kernel, .inr ⟨by decide +kernel, by decide +kernel, by decide +kernel⟩⟩
theorem th_127_9 : TH (127, 9, 0) := ⟨by decide +kernel, by decide +kernel, by decide +kernel, by decide +kernel, 360, "the level is out of range", by decide +kernel, .inr ⟨by decide +kernel, by decide +kernel, by decide +kernel⟩⟩
theorem th_128_8 : TH (128, 8, 0) := ⟨by decide +kernel, by decide +kernel, by decide +kernel, by decide +kernel, 362, "a coordinate is out of range", by decide +kernel, .inr ⟨by decide +kernel, by decide +kernel, by decide +kernel⟩⟩
theorem th_129_10 : TH (129, 10, 2) := ⟨by decide +kernel, by decide +kernel, by decide +kernel, by decide +kernel, 366, "there is no such parcel", by decide +kernel, .inr ⟨by decide +kernel, by decide +kernel, by decide +kernel⟩⟩
theorem th_130_14 : TH (130, 14, 2) := ⟨by decide +kernel, by decide +kernel, by decide +kernel, by decide +kernel, 369, "there is no such vertex", by decide +kernel, .inr ⟨by decide +kernel, by decide +kernel, by decide +kernel⟩⟩
theorem th_131_18 : TH (131, 18, 2) := ⟨by decide +kernel, by decide +kernel, by decide +kernel, by decide +kernel, 371, "there is no such line", by decide +kernel, .inr ⟨by decide +kernel, by decide +kernel, by decide +kernel⟩⟩
theorem th_132_18 : TH (132, 18, 2) := ⟨by decide +kernel, by decide +kernel, by decide +kernel, by decide +kernel, 373, "there is no such point", by decide +kernel, .inr ⟨by decide +kernel, by decide +kernel, by decide +kernel⟩⟩
theorem th_all : ∀ q ∈ thrL, TH q := List.forall_mem_cons.mpr ⟨th_81_49, List.forall_mem_cons.mpr ⟨th_81_75, List.forall_mem_cons.mpr ⟨th_81_100, List.forall_mem_cons.mpr ⟨th_84_14, List.forall_mem_cons.mpr ⟨th_85_44, List.forall_mem_cons.mpr ⟨th_86_13, List.forall_mem_cons.mpr ⟨th_88_31, List.forall_mem_cons.mpr ⟨th_88_88, List.forall_mem_cons.mpr ⟨th_89_13, List.forall_mem_cons.mpr ⟨th_90_100, List.forall_mem_cons.mpr ⟨th_91_14, List.forall_mem_cons.mpr ⟨th_99_78, List.forall_mem_cons.mpr ⟨th_101_12, List.forall_mem_cons.mpr ⟨th_105_25, List.forall_mem_cons.mpr ⟨th_106_13, List.forall_mem_cons.mpr ⟨th_108_13, List.forall_mem_cons.mpr ⟨th_111_13, List.forall_mem_cons.mpr ⟨th_111_38, List.forall_mem_cons.mpr ⟨th_115_17, List.forall_mem_cons.mpr ⟨th_117_12, List.forall_mem_cons.mpr ⟨th_117_35, List.forall_mem_cons.mpr ⟨th_118_32, List.forall_mem_cons.mpr ⟨th_118_80, List.forall_mem_cons.mpr ⟨th_118_96, List.forall_mem_cons.mpr ⟨th_119_8, List.forall_mem_cons.mpr ⟨th_120_45, List.forall_mem_cons.mpr ⟨th_121_10, List.forall_mem_cons.mpr ⟨th_123_7, List.forall_mem_cons.mpr ⟨th_127_9, List.forall_mem_cons.mpr ⟨th_128_8, List.forall_mem_cons.mpr ⟨th_129_10, List.forall_mem_cons.mpr ⟨th_130_14, List.forall_mem_cons.mpr ⟨th_131_18, List.forall_mem_cons.mpr ⟨th_132_18, fun _ h => absurd h List.not_mem_nil⟩⟩⟩⟩⟩⟩⟩⟩⟩⟩⟩⟩⟩⟩⟩⟩⟩⟩⟩⟩⟩⟩⟩⟩⟩⟩⟩⟩⟩⟩⟩⟩⟩⟩
/-! handlers: from, to, place, index of the class, exception -/
noncomputable def hl5 (y : Nat) : List (Nat × Nat × Nat × Nat × Nat) := match y with
  | 261 => [(0, 18, 21, 13, 0), (0, 18, 25, 15, 4), (0, 18, 29, 17, 1)]
  | 262 => [(0, 9, 12, 23, 2)]
  | 263 => [(0, 9, 12, 23, 2)]
  | 264 => [(0, 10, 13, 23, 2), (0, 10, 17, 13, 0)]
  | 265 => [(0, 16, 19, 13, 0)]
  | 266 => [(0, 10, 13, 23, 2), (0, 10, 17, 13, 0)]
  | 267 => [(0, 12, 15, 13, 0), (0, 12, 19, 17, 1)]
  | 268 => [(0, 10, 13, 13, 0)]
  | 269 => [(0, 9, 12, 13, 0)]
  | 270 => [(0, 10, 13, 23, 2), (0, 10, 17, 13, 0)]
  | 271 => [(0, 10, 13, 13, 0), (0, 10, 17, 23, 2)]
  | 272 => [(0, 14, 17, 13, 0), (0, 14, 21, 23, 2)]
  | 273 => [(0, 10, 13, 23, 2)]
  | 274 => [(0, 12, 15, 13, 0), (0, 12, 19, 23, 2)]
  | 275 => [(0, 12, 15, 13, 0), (0, 12, 19, 23, 2)]
  | 276 => [(0, 10, 13, 13, 0)]
  | 277 => [(0, 10, 13, 13, 0), (0, 10, 17, 23, 2)]
  | 278 => [(0, 9, 12, 13, 0), (0, 9, 15, 77, 5)]
  | 279 => [(0, 12, 15, 13, 0)]
  | 280 => [(0, 12, 15, 13, 0)]
  | 281 => [(0, 10, 13, 13, 0), (0, 10, 17, 23, 2)]
  | 282 => [(0, 12, 15, 13, 0), (0, 12, 19, 23, 2)]
  | 283 => [(0, 10, 13, 13, 0), (0, 10, 17, 23, 2)]
  | 284 => [(0, 10, 13, 13, 0), (0, 10, 17, 23, 2), (0, 10, 21, 77, 5)]
  | 285 => [(0, 10, 13, 13, 0)]
  | 286 => [(0, 9, 12, 13, 0)]
  | 287 => [(0, 10, 13, 13, 0)]
  | 288 => [(0, 9, 12, 13, 0)]
  | 289 => [(0, 10, 13, 13, 0), (0, 10, 17, 23, 2)]
  | 290 => [(0, 12, 15, 13, 0), (0, 12, 19, 23, 2), (0, 12, 23, 17, 1)]
  | 291 => [(0, 9, 12, 13, 0)]
  | 292 => [(0, 12, 15, 13, 0)]
  | 293 => [(0, 9, 12, 13, 0)]
  | 294 => [(0, 8, 11, 13, 0), (0, 8, 14, 128, 3)]
  | 295 => [(0, 9, 12, 23, 2)]
  | 296 => [(0, 9, 12, 13, 0), (0, 9, 15, 17, 1)]
  | 297 => [(0, 8, 11, 13, 0), (0, 8, 14, 15, 4), (0, 8, 17, 17, 1)]
  | 298 => [(0, 8, 11, 77, 5)]
  | 299 => [(0, 12, 15, 13, 0), (0, 12, 19, 23, 2), (0, 12, 23, 77, 5)]
  | 300 => [(0, 8, 11, 77, 5)]
  | 301 => [(0, 8, 11, 17, 1)]
  | _ => []
def hcL : List (Nat × Nat) := [(13, 0), (15, 4), (17, 1), (23, 2), (77, 5), (128, 3)]
def HC (q : Nat × Nat) : Prop := q.1 ≠ 0 ∧ q.2 < 6 ∧ Jvm.Cond.classLink "MapGeneralizerLaw" q.1 (exN q.2) ∈ gw
theorem hc_13 : HC (13, 0) := ⟨by decide, by decide, gw_at (k := 2) (i := 91) rfl rfl⟩
theorem hc_15 : HC (15, 4) := ⟨by decide, by decide, gw_at (k := 2) (i := 92) rfl rfl⟩
theorem hc_17 : HC (17, 1) := ⟨by decide, by decide, gw_at (k := 2) (i := 93) rfl rfl⟩
theorem hc_23 : HC (23, 2) := ⟨by decide, by decide, gw_at (k := 2) (i := 237) rfl rfl⟩
theorem hc_77 : HC (77, 5) := ⟨by decide, by decide, gw_at (k := 4) (i := 44) rfl rfl⟩
theorem hc_128 : HC (128, 3) := ⟨by decide, by decide, gw_at (k := 5) (i := 47) rfl rfl⟩
theorem hc_all : ∀ q ∈ hcL, HC q := List.forall_mem_cons.mpr ⟨hc_13, List.forall_mem_cons.mpr ⟨hc_15, List.forall_mem_cons.mpr ⟨hc_17, List.forall_mem_cons.mpr ⟨hc_23, List.forall_mem_cons.mpr ⟨hc_77, List.forall_mem_cons.mpr ⟨hc_128, fun _ h => absurd h List.not_mem_nil⟩⟩⟩⟩⟩⟩
theorem hl5_chk : ((List.range 303).all fun y => decide (hhs y = (hl5 y).map fun q => (q.1, q.2.1, q.2.2.1, q.2.2.2.1)) && decide (hnd y = (hl5 y).map fun q => (q.1, q.2.1, q.2.2.1, q.2.2.2.2)) && (hl5 y).all (fun q => decide (own y = 11) && decide ((q.2.2.2.1, q.2.2.2.2) ∈ hcL)) && (isW y || decide (hl5 y = []))) = true := by decide +kernel
theorem hl5_ok {y : Nat} (h : y < 303) : hhs y = (hl5 y).map (fun q => (q.1, q.2.1, q.2.2.1, q.2.2.2.1)) ∧ hnd y = (hl5 y).map (fun q => (q.1, q.2.1, q.2.2.1, q.2.2.2.2)) ∧ (∀ q ∈ hl5 y, own y = 11 ∧ HC (q.2.2.2.1, q.2.2.2.2)) ∧ (isW y = false → hl5 y = []) := by
  have h1 := List.all_eq_true.mp hl5_chk y (List.mem_range.mpr h)
  simp only [Bool.and_eq_true, decide_eq_true_eq, Bool.or_eq_true, List.all_eq_true] at h1
  exact ⟨h1.1.1.1, h1.1.1.2, fun q hq => ⟨(h1.1.2 q hq).1, hc_all _ (h1.1.2 q hq).2⟩, fun hw => h1.2.elim (fun z => absurd (hw.symm.trans z) (by decide)) id⟩
theorem mlc_chk : ((List.range 303).all fun y => Nat.ble (mlc y) 60) = true := by decide +kernel
theorem mlc_le {y : Nat} (h : y < 303) : mlc y ≤ 60 := Nat.ble_eq.mp (List.all_eq_true.mp mlc_chk y (List.mem_range.mpr h))
