/-! ===== written by a program: fields and links ===== -/
/-- a cell of the world -/
def Cell_ (t : Nat) (i : Int) : Prop := t < 44 ∧ 0 ≤ i ∧ i < cnt t
theorem lix_in {i : Int} (h0 : 0 ≤ i) (h1 : i < 5) : 0 ≤ lix i ∧ lix i < 15 := by unfold lix; split <;> omega
/-- where a reference field leads -/
def TG (q : Nat × Nat) : Prop := ∀ i : Int, 0 ≤ i → i < cnt q.1 → Cell_ (tgt q.1 (q.2 : Int) i).1 (tgt q.1 (q.2 : Int) i).2
theorem tg_0_0 : TG (0, 0) := fun i h0 h1 => (show Cell_ 1 0 from ⟨by decide, by decide, by decide +kernel⟩)
theorem tg_0_1 : TG (0, 1) := fun i h0 h1 => (show Cell_ 1 1 from ⟨by decide, by decide, by decide +kernel⟩)
theorem tg_0_2 : TG (0, 2) := fun i h0 h1 => (show Cell_ 1 2 from ⟨by decide, by decide, by decide +kernel⟩)
theorem tg_0_3 : TG (0, 3) := fun i h0 h1 => (show Cell_ 13 0 from ⟨by decide, by decide, by decide +kernel⟩)
theorem tg_0_4 : TG (0, 4) := fun i h0 h1 => (show Cell_ 15 0 from ⟨by decide, by decide, by decide +kernel⟩)
theorem tg_0_5 : TG (0, 5) := fun i h0 h1 => (show Cell_ 21 0 from ⟨by decide, by decide, by decide +kernel⟩)
theorem tg_0_6 : TG (0, 6) := fun i h0 h1 => (show Cell_ 24 0 from ⟨by decide, by decide, by decide +kernel⟩)
theorem tg_1_0 : TG (1, 0) := fun i h0 h1 => (show Cell_ 2 i from ⟨by decide, h0, Int.lt_of_lt_of_le h1 (by decide +kernel)⟩)
theorem tg_1_1 : TG (1, 1) := fun i h0 h1 => (show Cell_ 5 i from ⟨by decide, h0, Int.lt_of_lt_of_le h1 (by decide +kernel)⟩)
theorem tg_1_2 : TG (1, 2) := fun i h0 h1 => (show Cell_ 7 i from ⟨by decide, h0, Int.lt_of_lt_of_le h1 (by decide +kernel)⟩)
theorem tg_1_3 : TG (1, 3) := fun i h0 h1 => (show Cell_ 11 i from ⟨by decide, h0, Int.lt_of_lt_of_le h1 (by decide +kernel)⟩)
theorem tg_1_4 : TG (1, 4) := fun i h0 h1 => (show Cell_ 12 i from ⟨by decide, h0, Int.lt_of_lt_of_le h1 (by decide +kernel)⟩)
theorem tg_2_0 : TG (2, 0) := fun i h0 h1 => (show Cell_ 3 i from ⟨by decide, h0, Int.lt_of_lt_of_le h1 (by decide +kernel)⟩)
theorem tg_2_1 : TG (2, 1) := fun i h0 h1 => (show Cell_ 4 i from ⟨by decide, h0, Int.lt_of_lt_of_le h1 (by decide +kernel)⟩)
theorem tg_5_0 : TG (5, 0) := fun i h0 h1 => (show Cell_ 6 i from ⟨by decide, h0, Int.lt_of_lt_of_le h1 (by decide +kernel)⟩)
theorem tg_7_0 : TG (7, 0) := fun i h0 h1 => (show Cell_ 8 i from ⟨by decide, h0, Int.lt_of_lt_of_le h1 (by decide +kernel)⟩)
theorem tg_7_1 : TG (7, 1) := fun i h0 h1 => (show Cell_ 9 i from ⟨by decide, h0, Int.lt_of_lt_of_le h1 (by decide +kernel)⟩)
theorem tg_7_2 : TG (7, 2) := fun i h0 h1 => (show Cell_ 10 i from ⟨by decide, h0, Int.lt_of_lt_of_le h1 (by decide +kernel)⟩)
theorem tg_13_0 : TG (13, 0) := fun i h0 h1 => (show Cell_ 14 0 from ⟨by decide, by decide, by decide +kernel⟩)
theorem tg_15_0 : TG (15, 0) := fun i h0 h1 => (show Cell_ 1 0 from ⟨by decide, by decide, by decide +kernel⟩)
theorem tg_15_1 : TG (15, 1) := fun i h0 h1 => (show Cell_ 16 0 from ⟨by decide, by decide, by decide +kernel⟩)
theorem tg_15_2 : TG (15, 2) := fun i h0 h1 => (show Cell_ 17 0 from ⟨by decide, by decide, by decide +kernel⟩)
theorem tg_15_3 : TG (15, 3) := fun i h0 h1 => (show Cell_ 18 0 from ⟨by decide, by decide, by decide +kernel⟩)
theorem tg_19_0 : TG (19, 0) := fun i h0 h1 => (show Cell_ 20 i from ⟨by decide, h0, Int.lt_of_lt_of_le h1 (by decide +kernel)⟩)
theorem tg_19_1 : TG (19, 1) := fun i h0 h1 => (show Cell_ 5 0 from ⟨by decide, by decide, by decide +kernel⟩)
theorem tg_19_2 : TG (19, 2) := fun i h0 h1 => (show Cell_ 2 (lix i) from ⟨by decide, lix_in h0 h1⟩)
theorem tg_21_0 : TG (21, 0) := fun i h0 h1 => (show Cell_ 22 0 from ⟨by decide, by decide, by decide +kernel⟩)
theorem tg_21_4 : TG (21, 4) := fun i h0 h1 => (show Cell_ 23 0 from ⟨by decide, by decide, by decide +kernel⟩)
theorem tg_25_0 : TG (25, 0) := fun i h0 h1 => (show Cell_ 26 0 from ⟨by decide, by decide, by decide +kernel⟩)
theorem tg_25_1 : TG (25, 1) := fun i h0 h1 => (show Cell_ 27 0 from ⟨by decide, by decide, by decide +kernel⟩)
theorem tg_25_2 : TG (25, 2) := fun i h0 h1 => (show Cell_ 28 0 from ⟨by decide, by decide, by decide +kernel⟩)
theorem tg_25_3 : TG (25, 3) := fun i h0 h1 => (show Cell_ 29 0 from ⟨by decide, by decide, by decide +kernel⟩)
theorem tg_25_7 : TG (25, 7) := fun i h0 h1 => (show Cell_ 30 0 from ⟨by decide, by decide, by decide +kernel⟩)
theorem tg_25_8 : TG (25, 8) := fun i h0 h1 => (show Cell_ 31 0 from ⟨by decide, by decide, by decide +kernel⟩)
theorem tg_25_9 : TG (25, 9) := fun i h0 h1 => (show Cell_ 32 0 from ⟨by decide, by decide, by decide +kernel⟩)
theorem tg_25_10 : TG (25, 10) := fun i h0 h1 => (show Cell_ 33 0 from ⟨by decide, by decide, by decide +kernel⟩)
theorem tg_25_12 : TG (25, 12) := fun i h0 h1 => (show Cell_ 34 0 from ⟨by decide, by decide, by decide +kernel⟩)
theorem tg_25_13 : TG (25, 13) := fun i h0 h1 => (show Cell_ 35 0 from ⟨by decide, by decide, by decide +kernel⟩)
theorem tg_25_14 : TG (25, 14) := fun i h0 h1 => (show Cell_ 36 0 from ⟨by decide, by decide, by decide +kernel⟩)
theorem tg_25_15 : TG (25, 15) := fun i h0 h1 => (show Cell_ 37 0 from ⟨by decide, by decide, by decide +kernel⟩)
theorem tg_25_16 : TG (25, 16) := fun i h0 h1 => (show Cell_ 38 0 from ⟨by decide, by decide, by decide +kernel⟩)
theorem tg_25_17 : TG (25, 17) := fun i h0 h1 => (show Cell_ 39 0 from ⟨by decide, by decide, by decide +kernel⟩)
theorem tg_25_18 : TG (25, 18) := fun i h0 h1 => (show Cell_ 40 0 from ⟨by decide, by decide, by decide +kernel⟩)
theorem tg_25_24 : TG (25, 24) := fun i h0 h1 => (show Cell_ 41 0 from ⟨by decide, by decide, by decide +kernel⟩)
def tgL_0 : List (Nat × Nat) := [(0, 0), (0, 1), (0, 2), (0, 3), (0, 4), (0, 5), (0, 6), (1, 0), (1, 1), (1, 2), (1, 3), (1, 4), (2, 0), (2, 1), (5, 0), (7, 0)]
theorem tgA_0 : ∀ q ∈ tgL_0, TG q := List.forall_mem_cons.mpr ⟨tg_0_0, List.forall_mem_cons.mpr ⟨tg_0_1, List.forall_mem_cons.mpr ⟨tg_0_2, List.forall_mem_cons.mpr ⟨tg_0_3, List.forall_mem_cons.mpr ⟨tg_0_4, List.forall_mem_cons.mpr ⟨tg_0_5, List.forall_mem_cons.mpr ⟨tg_0_6, List.forall_mem_cons.mpr ⟨tg_1_0, List.forall_mem_cons.mpr ⟨tg_1_1, List.forall_mem_cons.mpr ⟨tg_1_2, List.forall_mem_cons.mpr ⟨tg_1_3, List.forall_mem_cons.mpr ⟨tg_1_4, List.forall_mem_cons.mpr ⟨tg_2_0, List.forall_mem_cons.mpr ⟨tg_2_1, List.forall_mem_cons.mpr ⟨tg_5_0, List.forall_mem_cons.mpr ⟨tg_7_0, fun _ h => absurd h List.not_mem_nil⟩⟩⟩⟩⟩⟩⟩⟩⟩⟩⟩⟩⟩⟩⟩⟩
def tgL_16 : List (Nat × Nat) := [(7, 1), (7, 2), (13, 0), (15, 0), (15, 1), (15, 2), (15, 3), (19, 0), (19, 1), (19, 2), (21, 0), (21, 4), (25, 0), (25, 1), (25, 2), (25, 3)]
theorem tgA_16 : ∀ q ∈ tgL_16, TG q := List.forall_mem_cons.mpr ⟨tg_7_1, List.forall_mem_cons.mpr ⟨tg_7_2, List.forall_mem_cons.mpr ⟨tg_13_0, List.forall_mem_cons.mpr ⟨tg_15_0, List.forall_mem_cons.mpr ⟨tg_15_1, List.forall_mem_cons.mpr ⟨tg_15_2, List.forall_mem_cons.mpr ⟨tg_15_3, List.forall_mem_cons.mpr ⟨tg_19_0, List.forall_mem_cons.mpr ⟨tg_19_1, List.forall_mem_cons.mpr ⟨tg_19_2, List.forall_mem_cons.mpr ⟨tg_21_0, List.forall_mem_cons.mpr ⟨tg_21_4, List.forall_mem_cons.mpr ⟨tg_25_0, List.forall_mem_cons.mpr ⟨tg_25_1, List.forall_mem_cons.mpr ⟨tg_25_2, List.forall_mem_cons.mpr ⟨tg_25_3, fun _ h => absurd h List.not_mem_nil⟩⟩⟩⟩⟩⟩⟩⟩⟩⟩⟩⟩⟩⟩⟩⟩
def tgL_32 : List (Nat × Nat) := [(25, 7), (25, 8), (25, 9), (25, 10), (25, 12), (25, 13), (25, 14), (25, 15), (25, 16), (25, 17), (25, 18), (25, 24)]
theorem tgA_32 : ∀ q ∈ tgL_32, TG q := List.forall_mem_cons.mpr ⟨tg_25_7, List.forall_mem_cons.mpr ⟨tg_25_8, List.forall_mem_cons.mpr ⟨tg_25_9, List.forall_mem_cons.mpr ⟨tg_25_10, List.forall_mem_cons.mpr ⟨tg_25_12, List.forall_mem_cons.mpr ⟨tg_25_13, List.forall_mem_cons.mpr ⟨tg_25_14, List.forall_mem_cons.mpr ⟨tg_25_15, List.forall_mem_cons.mpr ⟨tg_25_16, List.forall_mem_cons.mpr ⟨tg_25_17, List.forall_mem_cons.mpr ⟨tg_25_18, List.forall_mem_cons.mpr ⟨tg_25_24, fun _ h => absurd h List.not_mem_nil⟩⟩⟩⟩⟩⟩⟩⟩⟩⟩⟩⟩
def tgL : List (Nat × Nat) := tgL_0 ++ (tgL_16 ++ (tgL_32))
theorem tg_all : ∀ q ∈ tgL, TG q := List.forall_mem_append.mpr ⟨tgA_0, List.forall_mem_append.mpr ⟨tgA_16, tgA_32⟩⟩
/-- what is known of a field link: class, entry, tag, slot, kind -/
def FF (q : Nat × Nat × Nat × Nat × Nat) : Prop := q.2.2.1 ∈ objs ∧ q.2.2.2.1 < Nf q.2.2.1 ∧ q.2.2.2.2 = ftk q.2.2.1 q.2.2.2.1 ∧ Jvm.Cond.fieldLink (ownN q.1) q.2.1 (Rt q.2.2.1) (Tt q.2.2.1 q.2.2.2.1).2.1 (Tt q.2.2.1 q.2.2.2.1).2.2.1 ∈ gw
noncomputable def fkOK (q : Nat × Nat) : Bool := match ftk q.1 q.2 with
  | 0 => decide (tyt q.1 q.2 = .int) && !(Tt q.1 q.2).2.2.2
  | 1 => decide (tyt q.1 q.2 = .boolean) && !(Tt q.1 q.2).2.2.2
  | 2 => decide (tyt q.1 q.2 = .char) && !(Tt q.1 q.2).2.2.2
  | 3 => decide (q ∈ tgL)
  | _ => false
theorem fk_all : ∀ t ∈ objs, ∀ k, k < Nf t → fkOK (t, k) = true := by decide +kernel
theorem ff_1_11 : FF (1, 11, 13, 0, 3) := ⟨by decide, by decide +kernel, rfl, gw_at (k := 1) (i := 146) rfl rfl⟩
theorem ff_1_18 : FF (1, 18, 13, 1, 0) := ⟨by decide, by decide +kernel, rfl, gw_at (k := 1) (i := 147) rfl rfl⟩
theorem ff_1_26 : FF (1, 26, 13, 2, 0) := ⟨by decide, by decide +kernel, rfl, gw_at (k := 1) (i := 148) rfl rfl⟩
theorem ff_2_9 : FF (2, 9, 19, 0, 3) := ⟨by decide, by decide +kernel, rfl, gw_at (k := 1) (i := 176) rfl rfl⟩
theorem ff_2_15 : FF (2, 15, 19, 1, 3) := ⟨by decide, by decide +kernel, rfl, gw_at (k := 1) (i := 178) rfl rfl⟩
theorem ff_2_19 : FF (2, 19, 19, 2, 3) := ⟨by decide, by decide +kernel, rfl, gw_at (k := 1) (i := 179) rfl rfl⟩
theorem ff_2_23 : FF (2, 23, 19, 3, 0) := ⟨by decide, by decide +kernel, rfl, gw_at (k := 1) (i := 180) rfl rfl⟩
theorem ff_2_33 : FF (2, 33, 5, 1, 0) := ⟨by decide, by decide +kernel, rfl, gw_at (k := 1) (i := 72) rfl rfl⟩
theorem ff_2_70 : FF (2, 70, 2, 2, 0) := ⟨by decide, by decide +kernel, rfl, gw_at (k := 1) (i := 54) rfl rfl⟩
theorem ff_2_73 : FF (2, 73, 2, 1, 3) := ⟨by decide, by decide +kernel, rfl, gw_at (k := 1) (i := 49) rfl rfl⟩
theorem ff_3_11 : FF (3, 11, 15, 1, 3) := ⟨by decide, by decide +kernel, rfl, gw_at (k := 1) (i := 195) rfl rfl⟩
theorem ff_3_19 : FF (3, 19, 15, 2, 3) := ⟨by decide, by decide +kernel, rfl, gw_at (k := 1) (i := 196) rfl rfl⟩
theorem ff_3_25 : FF (3, 25, 15, 3, 3) := ⟨by decide, by decide +kernel, rfl, gw_at (k := 1) (i := 197) rfl rfl⟩
theorem ff_3_29 : FF (3, 29, 15, 0, 3) := ⟨by decide, by decide +kernel, rfl, gw_at (k := 1) (i := 194) rfl rfl⟩
theorem ff_3_33 : FF (3, 33, 1, 0, 3) := ⟨by decide, by decide +kernel, rfl, gw_at (k := 1) (i := 108) rfl rfl⟩
theorem ff_3_39 : FF (3, 39, 1, 2, 3) := ⟨by decide, by decide +kernel, rfl, gw_at (k := 1) (i := 114) rfl rfl⟩
theorem ff_3_43 : FF (3, 43, 1, 1, 3) := ⟨by decide, by decide +kernel, rfl, gw_at (k := 1) (i := 111) rfl rfl⟩
theorem ff_3_53 : FF (3, 53, 15, 4, 0) := ⟨by decide, by decide +kernel, rfl, gw_at (k := 1) (i := 198) rfl rfl⟩
theorem ff_3_57 : FF (3, 57, 15, 5, 0) := ⟨by decide, by decide +kernel, rfl, gw_at (k := 1) (i := 199) rfl rfl⟩
theorem ff_3_60 : FF (3, 60, 15, 6, 0) := ⟨by decide, by decide +kernel, rfl, gw_at (k := 1) (i := 200) rfl rfl⟩
theorem ff_3_78 : FF (3, 78, 1, 3, 3) := ⟨by decide, by decide +kernel, rfl, gw_at (k := 1) (i := 117) rfl rfl⟩
theorem ff_3_82 : FF (3, 82, 1, 5, 1) := ⟨by decide, by decide +kernel, rfl, gw_at (k := 1) (i := 122) rfl rfl⟩
theorem ff_4_9 : FF (4, 9, 2, 0, 3) := ⟨by decide, by decide +kernel, rfl, gw_at (k := 1) (i := 47) rfl rfl⟩
theorem ff_4_15 : FF (4, 15, 2, 1, 3) := ⟨by decide, by decide +kernel, rfl, gw_at (k := 1) (i := 48) rfl rfl⟩
theorem ff_4_24 : FF (4, 24, 2, 2, 0) := ⟨by decide, by decide +kernel, rfl, gw_at (k := 1) (i := 53) rfl rfl⟩
theorem ff_5_9 : FF (5, 9, 7, 0, 3) := ⟨by decide, by decide +kernel, rfl, gw_at (k := 1) (i := 85) rfl rfl⟩
theorem ff_5_15 : FF (5, 15, 7, 1, 3) := ⟨by decide, by decide +kernel, rfl, gw_at (k := 1) (i := 88) rfl rfl⟩
theorem ff_5_18 : FF (5, 18, 7, 2, 3) := ⟨by decide, by decide +kernel, rfl, gw_at (k := 1) (i := 90) rfl rfl⟩
theorem ff_6_9 : FF (6, 9, 5, 0, 3) := ⟨by decide, by decide +kernel, rfl, gw_at (k := 1) (i := 69) rfl rfl⟩
theorem ff_6_21 : FF (6, 21, 5, 1, 0) := ⟨by decide, by decide +kernel, rfl, gw_at (k := 1) (i := 71) rfl rfl⟩
theorem ff_7_9 : FF (7, 9, 21, 0, 3) := ⟨by decide, by decide +kernel, rfl, gw_at (k := 1) (i := 222) rfl rfl⟩
theorem ff_7_15 : FF (7, 15, 21, 4, 3) := ⟨by decide, by decide +kernel, rfl, gw_at (k := 1) (i := 230) rfl rfl⟩
theorem ff_7_19 : FF (7, 19, 21, 1, 0) := ⟨by decide, by decide +kernel, rfl, gw_at (k := 1) (i := 223) rfl rfl⟩
theorem ff_7_23 : FF (7, 23, 21, 2, 0) := ⟨by decide, by decide +kernel, rfl, gw_at (k := 1) (i := 225) rfl rfl⟩
theorem ff_7_30 : FF (7, 30, 21, 5, 0) := ⟨by decide, by decide +kernel, rfl, gw_at (k := 1) (i := 232) rfl rfl⟩
theorem ff_7_33 : FF (7, 33, 21, 3, 2) := ⟨by decide, by decide +kernel, rfl, gw_at (k := 1) (i := 228) rfl rfl⟩
theorem ff_8_12 : FF (8, 12, 1, 0, 3) := ⟨by decide, by decide +kernel, rfl, gw_at (k := 1) (i := 107) rfl rfl⟩
theorem ff_8_21 : FF (8, 21, 1, 1, 3) := ⟨by decide, by decide +kernel, rfl, gw_at (k := 1) (i := 110) rfl rfl⟩
theorem ff_8_28 : FF (8, 28, 1, 2, 3) := ⟨by decide, by decide +kernel, rfl, gw_at (k := 1) (i := 113) rfl rfl⟩
theorem ff_8_32 : FF (8, 32, 1, 3, 3) := ⟨by decide, by decide +kernel, rfl, gw_at (k := 1) (i := 116) rfl rfl⟩
theorem ff_8_36 : FF (8, 36, 1, 4, 3) := ⟨by decide, by decide +kernel, rfl, gw_at (k := 1) (i := 119) rfl rfl⟩
theorem ff_8_42 : FF (8, 42, 2, 2, 0) := ⟨by decide, by decide +kernel, rfl, gw_at (k := 1) (i := 51) rfl rfl⟩
theorem ff_8_46 : FF (8, 46, 5, 1, 0) := ⟨by decide, by decide +kernel, rfl, gw_at (k := 1) (i := 70) rfl rfl⟩
theorem ff_8_47 : FF (8, 47, 7, 0, 3) := ⟨by decide, by decide +kernel, rfl, gw_at (k := 1) (i := 86) rfl rfl⟩
theorem ff_8_59 : FF (8, 59, 1, 5, 1) := ⟨by decide, by decide +kernel, rfl, gw_at (k := 1) (i := 121) rfl rfl⟩
theorem ff_8_87 : FF (8, 87, 21, 2, 0) := ⟨by decide, by decide +kernel, rfl, gw_at (k := 1) (i := 226) rfl rfl⟩
theorem ff_8_96 : FF (8, 96, 21, 3, 2) := ⟨by decide, by decide +kernel, rfl, gw_at (k := 1) (i := 229) rfl rfl⟩
theorem ff_8_100 : FF (8, 100, 21, 4, 3) := ⟨by decide, by decide +kernel, rfl, gw_at (k := 1) (i := 231) rfl rfl⟩
theorem ff_8_103 : FF (8, 103, 21, 5, 0) := ⟨by decide, by decide +kernel, rfl, gw_at (k := 1) (i := 233) rfl rfl⟩
theorem ff_9_10 : FF (9, 10, 0, 0, 3) := ⟨by decide, by decide +kernel, rfl, gw_at (k := 2) (i := 8) rfl rfl⟩
theorem ff_9_16 : FF (9, 16, 0, 1, 3) := ⟨by decide, by decide +kernel, rfl, gw_at (k := 2) (i := 9) rfl rfl⟩
theorem ff_9_19 : FF (9, 19, 0, 2, 3) := ⟨by decide, by decide +kernel, rfl, gw_at (k := 2) (i := 10) rfl rfl⟩
theorem ff_9_25 : FF (9, 25, 0, 3, 3) := ⟨by decide, by decide +kernel, rfl, gw_at (k := 2) (i := 11) rfl rfl⟩
theorem ff_9_34 : FF (9, 34, 0, 4, 3) := ⟨by decide, by decide +kernel, rfl, gw_at (k := 2) (i := 12) rfl rfl⟩
theorem ff_9_41 : FF (9, 41, 0, 5, 3) := ⟨by decide, by decide +kernel, rfl, gw_at (k := 2) (i := 13) rfl rfl⟩
theorem ff_9_45 : FF (9, 45, 0, 6, 3) := ⟨by decide, by decide +kernel, rfl, gw_at (k := 2) (i := 14) rfl rfl⟩
theorem ff_9_49 : FF (9, 49, 0, 7, 1) := ⟨by decide, by decide +kernel, rfl, gw_at (k := 2) (i := 15) rfl rfl⟩
theorem ff_9_53 : FF (9, 53, 0, 8, 0) := ⟨by decide, by decide +kernel, rfl, gw_at (k := 2) (i := 16) rfl rfl⟩
theorem ff_9_57 : FF (9, 57, 1, 0, 3) := ⟨by decide, by decide +kernel, rfl, gw_at (k := 1) (i := 109) rfl rfl⟩
theorem ff_9_61 : FF (9, 61, 2, 2, 0) := ⟨by decide, by decide +kernel, rfl, gw_at (k := 1) (i := 52) rfl rfl⟩
theorem ff_9_99 : FF (9, 99, 1, 1, 3) := ⟨by decide, by decide +kernel, rfl, gw_at (k := 1) (i := 112) rfl rfl⟩
theorem ff_9_103 : FF (9, 103, 5, 1, 0) := ⟨by decide, by decide +kernel, rfl, gw_at (k := 1) (i := 73) rfl rfl⟩
theorem ff_9_144 : FF (9, 144, 1, 2, 3) := ⟨by decide, by decide +kernel, rfl, gw_at (k := 1) (i := 115) rfl rfl⟩
theorem ff_9_163 : FF (9, 163, 1, 3, 3) := ⟨by decide, by decide +kernel, rfl, gw_at (k := 1) (i := 118) rfl rfl⟩
theorem ff_9_167 : FF (9, 167, 1, 5, 1) := ⟨by decide, by decide +kernel, rfl, gw_at (k := 1) (i := 123) rfl rfl⟩
theorem ff_9_180 : FF (9, 180, 1, 4, 3) := ⟨by decide, by decide +kernel, rfl, gw_at (k := 1) (i := 120) rfl rfl⟩
theorem ff_9_204 : FF (9, 204, 2, 1, 3) := ⟨by decide, by decide +kernel, rfl, gw_at (k := 1) (i := 50) rfl rfl⟩
theorem ff_9_251 : FF (9, 251, 7, 0, 3) := ⟨by decide, by decide +kernel, rfl, gw_at (k := 1) (i := 87) rfl rfl⟩
theorem ff_9_257 : FF (9, 257, 7, 1, 3) := ⟨by decide, by decide +kernel, rfl, gw_at (k := 1) (i := 89) rfl rfl⟩
theorem ff_9_278 : FF (9, 278, 19, 0, 3) := ⟨by decide, by decide +kernel, rfl, gw_at (k := 1) (i := 177) rfl rfl⟩
theorem ff_9_314 : FF (9, 314, 21, 1, 0) := ⟨by decide, by decide +kernel, rfl, gw_at (k := 1) (i := 224) rfl rfl⟩
theorem ff_9_326 : FF (9, 326, 21, 2, 0) := ⟨by decide, by decide +kernel, rfl, gw_at (k := 1) (i := 227) rfl rfl⟩
theorem ff_9_350 : FF (9, 350, 13, 2, 0) := ⟨by decide, by decide +kernel, rfl, gw_at (k := 1) (i := 149) rfl rfl⟩
theorem ff_10_9 : FF (10, 9, 25, 0, 3) := ⟨by decide, by decide +kernel, rfl, gw_at (k := 5) (i := 224) rfl rfl⟩
theorem ff_10_13 : FF (10, 13, 25, 1, 3) := ⟨by decide, by decide +kernel, rfl, gw_at (k := 5) (i := 225) rfl rfl⟩
theorem ff_10_16 : FF (10, 16, 25, 2, 3) := ⟨by decide, by decide +kernel, rfl, gw_at (k := 5) (i := 226) rfl rfl⟩
theorem ff_10_19 : FF (10, 19, 25, 3, 3) := ⟨by decide, by decide +kernel, rfl, gw_at (k := 5) (i := 227) rfl rfl⟩
theorem ff_10_22 : FF (10, 22, 25, 7, 3) := ⟨by decide, by decide +kernel, rfl, gw_at (k := 5) (i := 231) rfl rfl⟩
theorem ff_10_25 : FF (10, 25, 25, 8, 3) := ⟨by decide, by decide +kernel, rfl, gw_at (k := 5) (i := 232) rfl rfl⟩
theorem ff_10_28 : FF (10, 28, 25, 9, 3) := ⟨by decide, by decide +kernel, rfl, gw_at (k := 5) (i := 233) rfl rfl⟩
theorem ff_10_31 : FF (10, 31, 25, 10, 3) := ⟨by decide, by decide +kernel, rfl, gw_at (k := 5) (i := 234) rfl rfl⟩
theorem ff_10_34 : FF (10, 34, 25, 12, 3) := ⟨by decide, by decide +kernel, rfl, gw_at (k := 5) (i := 236) rfl rfl⟩
theorem ff_10_37 : FF (10, 37, 25, 13, 3) := ⟨by decide, by decide +kernel, rfl, gw_at (k := 5) (i := 237) rfl rfl⟩
theorem ff_10_40 : FF (10, 40, 25, 14, 3) := ⟨by decide, by decide +kernel, rfl, gw_at (k := 5) (i := 238) rfl rfl⟩
theorem ff_10_43 : FF (10, 43, 25, 15, 3) := ⟨by decide, by decide +kernel, rfl, gw_at (k := 5) (i := 239) rfl rfl⟩
theorem ff_10_46 : FF (10, 46, 25, 16, 3) := ⟨by decide, by decide +kernel, rfl, gw_at (k := 6) (i := 0) rfl rfl⟩
theorem ff_10_49 : FF (10, 49, 25, 17, 3) := ⟨by decide, by decide +kernel, rfl, gw_at (k := 6) (i := 1) rfl rfl⟩
theorem ff_10_52 : FF (10, 52, 25, 18, 3) := ⟨by decide, by decide +kernel, rfl, gw_at (k := 6) (i := 2) rfl rfl⟩
theorem ff_10_55 : FF (10, 55, 25, 23, 0) := ⟨by decide, by decide +kernel, rfl, gw_at (k := 6) (i := 7) rfl rfl⟩
theorem ff_10_59 : FF (10, 59, 25, 24, 3) := ⟨by decide, by decide +kernel, rfl, gw_at (k := 6) (i := 8) rfl rfl⟩
theorem ff_10_65 : FF (10, 65, 25, 6, 0) := ⟨by decide, by decide +kernel, rfl, gw_at (k := 5) (i := 230) rfl rfl⟩
theorem ff_10_68 : FF (10, 68, 25, 5, 0) := ⟨by decide, by decide +kernel, rfl, gw_at (k := 5) (i := 229) rfl rfl⟩
theorem ff_10_71 : FF (10, 71, 25, 11, 1) := ⟨by decide, by decide +kernel, rfl, gw_at (k := 5) (i := 235) rfl rfl⟩
theorem ff_10_268 : FF (10, 268, 25, 19, 0) := ⟨by decide, by decide +kernel, rfl, gw_at (k := 6) (i := 3) rfl rfl⟩
theorem ff_10_271 : FF (10, 271, 25, 20, 0) := ⟨by decide, by decide +kernel, rfl, gw_at (k := 6) (i := 4) rfl rfl⟩
theorem ff_10_278 : FF (10, 278, 25, 21, 0) := ⟨by decide, by decide +kernel, rfl, gw_at (k := 6) (i := 5) rfl rfl⟩
theorem ff_10_300 : FF (10, 300, 25, 22, 0) := ⟨by decide, by decide +kernel, rfl, gw_at (k := 6) (i := 6) rfl rfl⟩
theorem ff_10_340 : FF (10, 340, 25, 25, 0) := ⟨by decide, by decide +kernel, rfl, gw_at (k := 6) (i := 9) rfl rfl⟩
theorem ff_10_349 : FF (10, 349, 25, 4, 1) := ⟨by decide, by decide +kernel, rfl, gw_at (k := 5) (i := 228) rfl rfl⟩
def ffL_0 : List (Nat × Nat × Nat × Nat × Nat) := [(1, 11, 13, 0, 3), (1, 18, 13, 1, 0), (1, 26, 13, 2, 0), (2, 9, 19, 0, 3), (2, 15, 19, 1, 3), (2, 19, 19, 2, 3), (2, 23, 19, 3, 0), (2, 33, 5, 1, 0), (2, 70, 2, 2, 0), (2, 73, 2, 1, 3), (3, 11, 15, 1, 3), (3, 19, 15, 2, 3), (3, 25, 15, 3, 3), (3, 29, 15, 0, 3), (3, 33, 1, 0, 3), (3, 39, 1, 2, 3)]
theorem ffA_0 : ∀ q ∈ ffL_0, FF q := List.forall_mem_cons.mpr ⟨ff_1_11, List.forall_mem_cons.mpr ⟨ff_1_18, List.forall_mem_cons.mpr ⟨ff_1_26, List.forall_mem_cons.mpr ⟨ff_2_9, List.forall_mem_cons.mpr ⟨ff_2_15, List.forall_mem_cons.mpr ⟨ff_2_19, List.forall_mem_cons.mpr ⟨ff_2_23, List.forall_mem_cons.mpr ⟨ff_2_33, List.forall_mem_cons.mpr ⟨ff_2_70, List.forall_mem_cons.mpr ⟨ff_2_73, List.forall_mem_cons.mpr ⟨ff_3_11, List.forall_mem_cons.mpr ⟨ff_3_19, List.forall_mem_cons.mpr ⟨ff_3_25, List.forall_mem_cons.mpr ⟨ff_3_29, List.forall_mem_cons.mpr ⟨ff_3_33, List.forall_mem_cons.mpr ⟨ff_3_39, fun _ h => absurd h List.not_mem_nil⟩⟩⟩⟩⟩⟩⟩⟩⟩⟩⟩⟩⟩⟩⟩⟩
def ffL_16 : List (Nat × Nat × Nat × Nat × Nat) := [(3, 43, 1, 1, 3), (3, 53, 15, 4, 0), (3, 57, 15, 5, 0), (3, 60, 15, 6, 0), (3, 78, 1, 3, 3), (3, 82, 1, 5, 1), (4, 9, 2, 0, 3), (4, 15, 2, 1, 3), (4, 24, 2, 2, 0), (5, 9, 7, 0, 3), (5, 15, 7, 1, 3), (5, 18, 7, 2, 3), (6, 9, 5, 0, 3), (6, 21, 5, 1, 0), (7, 9, 21, 0, 3), (7, 15, 21, 4, 3)]
theorem ffA_16 : ∀ q ∈ ffL_16, FF q := List.forall_mem_cons.mpr ⟨ff_3_43, List.forall_mem_cons.mpr ⟨ff_3_53, List.forall_mem_cons.mpr ⟨ff_3_57, List.forall_mem_cons.mpr ⟨ff_3_60, List.forall_mem_cons.mpr ⟨ff_3_78, List.forall_mem_cons.mpr ⟨ff_3_82, List.forall_mem_cons.mpr ⟨ff_4_9, List.forall_mem_cons.mpr ⟨ff_4_15, List.forall_mem_cons.mpr ⟨ff_4_24, List.forall_mem_cons.mpr ⟨ff_5_9, List.forall_mem_cons.mpr ⟨ff_5_15, List.forall_mem_cons.mpr ⟨ff_5_18, List.forall_mem_cons.mpr ⟨ff_6_9, List.forall_mem_cons.mpr ⟨ff_6_21, List.forall_mem_cons.mpr ⟨ff_7_9, List.forall_mem_cons.mpr ⟨ff_7_15, fun _ h => absurd h List.not_mem_nil⟩⟩⟩⟩⟩⟩⟩⟩⟩⟩⟩⟩⟩⟩⟩⟩
def ffL_32 : List (Nat × Nat × Nat × Nat × Nat) := [(7, 19, 21, 1, 0), (7, 23, 21, 2, 0), (7, 30, 21, 5, 0), (7, 33, 21, 3, 2), (8, 12, 1, 0, 3), (8, 21, 1, 1, 3), (8, 28, 1, 2, 3), (8, 32, 1, 3, 3), (8, 36, 1, 4, 3), (8, 42, 2, 2, 0), (8, 46, 5, 1, 0), (8, 47, 7, 0, 3), (8, 59, 1, 5, 1), (8, 87, 21, 2, 0), (8, 96, 21, 3, 2), (8, 100, 21, 4, 3)]
theorem ffA_32 : ∀ q ∈ ffL_32, FF q := List.forall_mem_cons.mpr ⟨ff_7_19, List.forall_mem_cons.mpr ⟨ff_7_23, List.forall_mem_cons.mpr ⟨ff_7_30, List.forall_mem_cons.mpr ⟨ff_7_33, List.forall_mem_cons.mpr ⟨ff_8_12, List.forall_mem_cons.mpr ⟨ff_8_21, List.forall_mem_cons.mpr ⟨ff_8_28, List.forall_mem_cons.mpr ⟨ff_8_32, List.forall_mem_cons.mpr ⟨ff_8_36, List.forall_mem_cons.mpr ⟨ff_8_42, List.forall_mem_cons.mpr ⟨ff_8_46, List.forall_mem_cons.mpr ⟨ff_8_47, List.forall_mem_cons.mpr ⟨ff_8_59, List.forall_mem_cons.mpr ⟨ff_8_87, List.forall_mem_cons.mpr ⟨ff_8_96, List.forall_mem_cons.mpr ⟨ff_8_100, fun _ h => absurd h List.not_mem_nil⟩⟩⟩⟩⟩⟩⟩⟩⟩⟩⟩⟩⟩⟩⟩⟩
def ffL_48 : List (Nat × Nat × Nat × Nat × Nat) := [(8, 103, 21, 5, 0), (9, 10, 0, 0, 3), (9, 16, 0, 1, 3), (9, 19, 0, 2, 3), (9, 25, 0, 3, 3), (9, 34, 0, 4, 3), (9, 41, 0, 5, 3), (9, 45, 0, 6, 3), (9, 49, 0, 7, 1), (9, 53, 0, 8, 0), (9, 57, 1, 0, 3), (9, 61, 2, 2, 0), (9, 99, 1, 1, 3), (9, 103, 5, 1, 0), (9, 144, 1, 2, 3), (9, 163, 1, 3, 3)]
theorem ffA_48 : ∀ q ∈ ffL_48, FF q := List.forall_mem_cons.mpr ⟨ff_8_103, List.forall_mem_cons.mpr ⟨ff_9_10, List.forall_mem_cons.mpr ⟨ff_9_16, List.forall_mem_cons.mpr ⟨ff_9_19, List.forall_mem_cons.mpr ⟨ff_9_25, List.forall_mem_cons.mpr ⟨ff_9_34, List.forall_mem_cons.mpr ⟨ff_9_41, List.forall_mem_cons.mpr ⟨ff_9_45, List.forall_mem_cons.mpr ⟨ff_9_49, List.forall_mem_cons.mpr ⟨ff_9_53, List.forall_mem_cons.mpr ⟨ff_9_57, List.forall_mem_cons.mpr ⟨ff_9_61, List.forall_mem_cons.mpr ⟨ff_9_99, List.forall_mem_cons.mpr ⟨ff_9_103, List.forall_mem_cons.mpr ⟨ff_9_144, List.forall_mem_cons.mpr ⟨ff_9_163, fun _ h => absurd h List.not_mem_nil⟩⟩⟩⟩⟩⟩⟩⟩⟩⟩⟩⟩⟩⟩⟩⟩
def ffL_64 : List (Nat × Nat × Nat × Nat × Nat) := [(9, 167, 1, 5, 1), (9, 180, 1, 4, 3), (9, 204, 2, 1, 3), (9, 251, 7, 0, 3), (9, 257, 7, 1, 3), (9, 278, 19, 0, 3), (9, 314, 21, 1, 0), (9, 326, 21, 2, 0), (9, 350, 13, 2, 0), (10, 9, 25, 0, 3), (10, 13, 25, 1, 3), (10, 16, 25, 2, 3), (10, 19, 25, 3, 3), (10, 22, 25, 7, 3), (10, 25, 25, 8, 3), (10, 28, 25, 9, 3)]
theorem ffA_64 : ∀ q ∈ ffL_64, FF q := List.forall_mem_cons.mpr ⟨ff_9_167, List.forall_mem_cons.mpr ⟨ff_9_180, List.forall_mem_cons.mpr ⟨ff_9_204, List.forall_mem_cons.mpr ⟨ff_9_251, List.forall_mem_cons.mpr ⟨ff_9_257, List.forall_mem_cons.mpr ⟨ff_9_278, List.forall_mem_cons.mpr ⟨ff_9_314, List.forall_mem_cons.mpr ⟨ff_9_326, List.forall_mem_cons.mpr ⟨ff_9_350, List.forall_mem_cons.mpr ⟨ff_10_9, List.forall_mem_cons.mpr ⟨ff_10_13, List.forall_mem_cons.mpr ⟨ff_10_16, List.forall_mem_cons.mpr ⟨ff_10_19, List.forall_mem_cons.mpr ⟨ff_10_22, List.forall_mem_cons.mpr ⟨ff_10_25, List.forall_mem_cons.mpr ⟨ff_10_28, fun _ h => absurd h List.not_mem_nil⟩⟩⟩⟩⟩⟩⟩⟩⟩⟩⟩⟩⟩⟩⟩⟩
def ffL_80 : List (Nat × Nat × Nat × Nat × Nat) := [(10, 31, 25, 10, 3), (10, 34, 25, 12, 3), (10, 37, 25, 13, 3), (10, 40, 25, 14, 3), (10, 43, 25, 15, 3), (10, 46, 25, 16, 3), (10, 49, 25, 17, 3), (10, 52, 25, 18, 3), (10, 55, 25, 23, 0), (10, 59, 25, 24, 3), (10, 65, 25, 6, 0), (10, 68, 25, 5, 0), (10, 71, 25, 11, 1), (10, 268, 25, 19, 0), (10, 271, 25, 20, 0), (10, 278, 25, 21, 0)]
theorem ffA_80 : ∀ q ∈ ffL_80, FF q := List.forall_mem_cons.mpr ⟨ff_10_31, List.forall_mem_cons.mpr ⟨ff_10_34, List.forall_mem_cons.mpr ⟨ff_10_37, List.forall_mem_cons.mpr ⟨ff_10_40, List.forall_mem_cons.mpr ⟨ff_10_43, List.forall_mem_cons.mpr ⟨ff_10_46, List.forall_mem_cons.mpr ⟨ff_10_49, List.forall_mem_cons.mpr ⟨ff_10_52, List.forall_mem_cons.mpr ⟨ff_10_55, List.forall_mem_cons.mpr ⟨ff_10_59, List.forall_mem_cons.mpr ⟨ff_10_65, List.forall_mem_cons.mpr ⟨ff_10_68, List.forall_mem_cons.mpr ⟨ff_10_71, List.forall_mem_cons.mpr ⟨ff_10_268, List.forall_mem_cons.mpr ⟨ff_10_271, List.forall_mem_cons.mpr ⟨ff_10_278, fun _ h => absurd h List.not_mem_nil⟩⟩⟩⟩⟩⟩⟩⟩⟩⟩⟩⟩⟩⟩⟩⟩
def ffL_96 : List (Nat × Nat × Nat × Nat × Nat) := [(10, 300, 25, 22, 0), (10, 340, 25, 25, 0), (10, 349, 25, 4, 1)]
theorem ffA_96 : ∀ q ∈ ffL_96, FF q := List.forall_mem_cons.mpr ⟨ff_10_300, List.forall_mem_cons.mpr ⟨ff_10_340, List.forall_mem_cons.mpr ⟨ff_10_349, fun _ h => absurd h List.not_mem_nil⟩⟩⟩
def ffL : List (Nat × Nat × Nat × Nat × Nat) := ffL_0 ++ (ffL_16 ++ (ffL_32 ++ (ffL_48 ++ (ffL_64 ++ (ffL_80 ++ (ffL_96))))))
theorem ff_all : ∀ q ∈ ffL, FF q := List.forall_mem_append.mpr ⟨ffA_0, List.forall_mem_append.mpr ⟨ffA_16, List.forall_mem_append.mpr ⟨ffA_32, List.forall_mem_append.mpr ⟨ffA_48, List.forall_mem_append.mpr ⟨ffA_64, List.forall_mem_append.mpr ⟨ffA_80, ffA_96⟩⟩⟩⟩⟩⟩
theorem fld_chk : ((List.range 16).all fun c => (List.range 512).all fun k => match fld c k with
    | none => true
    | some (t, .ofNat sl, f) => decide ((c, k, t, sl, f) ∈ ffL)
    | some (_, .negSucc _, _) => false) = true := by decide +kernel
theorem fld_ok {c k t f : Nat} {sl : Int} (h : fld c k = some (t, sl, f)) : ∃ sn : Nat, sl = (sn : Int) ∧ FF (c, k, t, sn, f) := by
  have hb : Nat.blt c 16 = true ∧ Nat.blt k 512 = true := by
    unfold fld at h
    cases h1 : Nat.blt c 16 <;> cases h2 : Nat.blt k 512 <;> rw [h1, h2] at h <;> first | (cases h; done) | exact ⟨rfl, rfl⟩
  have hc : c < 16 := Nat.blt_eq.mp hb.1
  have hk : k < 512 := Nat.blt_eq.mp hb.2
  have h1 := List.all_eq_true.mp (List.all_eq_true.mp fld_chk c (List.mem_range.mpr hc)) k (List.mem_range.mpr hk)
  rw [h] at h1
  cases sl with
  | ofNat sn => exact ⟨sn, rfl, ff_all _ (of_decide_eq_true h1)⟩
  | negSucc n => cases h1
/-- what is known of a method link: class, entry, method, kind -/
def MM (q : Nat × Nat × Nat × Nat) : Prop := match q.2.2.2 with
  | 0 => q.2.2.1 < 302 ∧ isV q.2.2.1 = false ∧ (isN q.1 q.2.1 = false → Jvm.Cond.methodLink (ownN q.1) q.2.1 (yn q.2.2.1) ∈ gw) ∧ (isN q.1 q.2.1 = true → isW q.2.2.1 = false ∧ ownN q.1 = "MapGeneralizer$Script" ∧ q.2.1 = 59 ∧ yn q.2.2.1 = ⟨"MapGeneralizer", "isWithin", "(III)Z"⟩)
  | 1 => q.2.2.1 < 302 ∧ isV q.2.2.1 = true ∧ isW q.2.2.1 = false ∧ Jvm.Cond.methodLink (ownN q.1) q.2.1 (yn q.2.2.1) ∈ gw
  | 2 => Jvm.Cond.methodLink (ownN q.1) q.2.1 arraycopyName ∈ gw
  | 3 => Jvm.Cond.methodLink (ownN q.1) q.2.1 Lib.Math.min.name ∈ gw
  | 4 => Jvm.Cond.methodLink (ownN q.1) q.2.1 Lib.Math.max.name ∈ gw
  | 5 => Jvm.Cond.methodLink (ownN q.1) q.2.1 Lib.Math.abs.name ∈ gw
  | _ => False
theorem mm_0_9 : MM (0, 9, 0, 0) := ⟨by decide, rfl, fun _ => gw_at (k := 2) (i := 195) rfl rfl, fun h => by cases h⟩
theorem mm_1_22 : MM (1, 22, 74, 1) := ⟨by decide, rfl, rfl, gw_at (k := 2) (i := 58) rfl rfl⟩
theorem mm_1_29 : MM (1, 29, 0, 3) := gw_at (k := 2) (i := 80) rfl rfl
theorem mm_2_27 : MM (2, 27, 260, 0) := ⟨by decide, rfl, fun _ => gw_at (k := 4) (i := 206) rfl rfl, fun h => by cases h⟩
theorem mm_2_38 : MM (2, 38, 54, 1) := ⟨by decide, rfl, rfl, gw_at (k := 4) (i := 207) rfl rfl⟩
theorem mm_2_42 : MM (2, 42, 8, 1) := ⟨by decide, rfl, rfl, gw_at (k := 4) (i := 208) rfl rfl⟩
theorem mm_2_46 : MM (2, 46, 9, 1) := ⟨by decide, rfl, rfl, gw_at (k := 4) (i := 212) rfl rfl⟩
theorem mm_2_49 : MM (2, 49, 62, 1) := ⟨by decide, rfl, rfl, gw_at (k := 4) (i := 216) rfl rfl⟩
theorem mm_2_52 : MM (2, 52, 63, 1) := ⟨by decide, rfl, rfl, gw_at (k := 4) (i := 220) rfl rfl⟩
theorem mm_2_55 : MM (2, 55, 11, 1) := ⟨by decide, rfl, rfl, gw_at (k := 4) (i := 224) rfl rfl⟩
theorem mm_2_59 : MM (2, 59, 10, 1) := ⟨by decide, rfl, rfl, gw_at (k := 4) (i := 228) rfl rfl⟩
theorem mm_2_63 : MM (2, 63, 13, 1) := ⟨by decide, rfl, rfl, gw_at (k := 4) (i := 232) rfl rfl⟩
theorem mm_2_67 : MM (2, 67, 12, 1) := ⟨by decide, rfl, rfl, gw_at (k := 4) (i := 236) rfl rfl⟩
theorem mm_2_76 : MM (2, 76, 22, 1) := ⟨by decide, rfl, rfl, gw_at (k := 5) (i := 0) rfl rfl⟩
theorem mm_3_63 : MM (3, 63, 21, 1) := ⟨by decide, rfl, rfl, gw_at (k := 3) (i := 175) rfl rfl⟩
theorem mm_3_67 : MM (3, 67, 75, 1) := ⟨by decide, rfl, rfl, gw_at (k := 3) (i := 176) rfl rfl⟩
theorem mm_3_71 : MM (3, 71, 35, 1) := ⟨by decide, rfl, rfl, gw_at (k := 3) (i := 177) rfl rfl⟩
theorem mm_3_75 : MM (3, 75, 39, 1) := ⟨by decide, rfl, rfl, gw_at (k := 4) (i := 89) rfl rfl⟩
theorem mm_3_86 : MM (3, 86, 52, 1) := ⟨by decide, rfl, rfl, gw_at (k := 4) (i := 90) rfl rfl⟩
theorem mm_3_90 : MM (3, 90, 18, 1) := ⟨by decide, rfl, rfl, gw_at (k := 4) (i := 201) rfl rfl⟩
theorem mm_3_94 : MM (3, 94, 7, 1) := ⟨by decide, rfl, rfl, gw_at (k := 4) (i := 202) rfl rfl⟩
theorem mm_4_18 : MM (4, 18, 0, 2) := gw_at (k := 2) (i := 66) rfl rfl
theorem mm_4_28 : MM (4, 28, 0, 0) := ⟨by decide, rfl, fun _ => gw_at (k := 3) (i := 185) rfl rfl, fun h => by cases h⟩
theorem mm_4_34 : MM (4, 34, 0, 5) := gw_at (k := 4) (i := 38) rfl rfl
theorem mm_4_40 : MM (4, 40, 1, 0) := ⟨by decide, rfl, fun _ => gw_at (k := 2) (i := 192) rfl rfl, fun h => by cases h⟩
theorem mm_4_44 : MM (4, 44, 2, 0) := ⟨by decide, rfl, fun _ => gw_at (k := 3) (i := 203) rfl rfl, fun h => by cases h⟩
theorem mm_4_48 : MM (4, 48, 3, 0) := ⟨by decide, rfl, fun _ => gw_at (k := 3) (i := 206) rfl rfl, fun h => by cases h⟩
theorem mm_4_51 : MM (4, 51, 28, 1) := ⟨by decide, rfl, rfl, gw_at (k := 3) (i := 190) rfl rfl⟩
theorem mm_4_55 : MM (4, 55, 29, 1) := ⟨by decide, rfl, rfl, gw_at (k := 3) (i := 181) rfl rfl⟩
theorem mm_4_59 : MM (4, 59, 61, 1) := ⟨by decide, rfl, rfl, gw_at (k := 3) (i := 194) rfl rfl⟩
theorem mm_4_64 : MM (4, 64, 36, 1) := ⟨by decide, rfl, rfl, gw_at (k := 3) (i := 199) rfl rfl⟩
theorem mm_4_67 : MM (4, 67, 34, 1) := ⟨by decide, rfl, rfl, gw_at (k := 3) (i := 186) rfl rfl⟩
theorem mm_4_71 : MM (4, 71, 26, 1) := ⟨by decide, rfl, rfl, gw_at (k := 3) (i := 209) rfl rfl⟩
theorem mm_4_75 : MM (4, 75, 22, 1) := ⟨by decide, rfl, rfl, gw_at (k := 5) (i := 189) rfl rfl⟩
theorem mm_4_78 : MM (4, 78, 38, 0) := ⟨by decide, rfl, fun _ => gw_at (k := 5) (i := 190) rfl rfl, fun h => by cases h⟩
theorem mm_5_21 : MM (5, 21, 0, 2) := gw_at (k := 2) (i := 78) rfl rfl
theorem mm_5_27 : MM (5, 27, 42, 1) := ⟨by decide, rfl, rfl, gw_at (k := 3) (i := 147) rfl rfl⟩
theorem mm_5_31 : MM (5, 31, 45, 1) := ⟨by decide, rfl, rfl, gw_at (k := 4) (i := 94) rfl rfl⟩
theorem mm_5_34 : MM (5, 34, 260, 0) := ⟨by decide, rfl, fun _ => gw_at (k := 4) (i := 98) rfl rfl, fun h => by cases h⟩
theorem mm_5_40 : MM (5, 40, 47, 1) := ⟨by decide, rfl, rfl, gw_at (k := 4) (i := 107) rfl rfl⟩
theorem mm_5_44 : MM (5, 44, 49, 1) := ⟨by decide, rfl, rfl, gw_at (k := 4) (i := 175) rfl rfl⟩
theorem mm_5_48 : MM (5, 48, 46, 1) := ⟨by decide, rfl, rfl, gw_at (k := 4) (i := 103) rfl rfl⟩
theorem mm_5_52 : MM (5, 52, 51, 1) := ⟨by decide, rfl, rfl, gw_at (k := 4) (i := 111) rfl rfl⟩
theorem mm_5_56 : MM (5, 56, 50, 1) := ⟨by decide, rfl, rfl, gw_at (k := 4) (i := 99) rfl rfl⟩
theorem mm_6_15 : MM (6, 15, 0, 2) := gw_at (k := 2) (i := 73) rfl rfl
theorem mm_6_25 : MM (6, 25, 55, 1) := ⟨by decide, rfl, rfl, gw_at (k := 2) (i := 184) rfl rfl⟩
theorem mm_6_29 : MM (6, 29, 1, 0) := ⟨by decide, rfl, fun _ => gw_at (k := 5) (i := 156) rfl rfl, fun h => by cases h⟩
theorem mm_6_35 : MM (6, 35, 0, 0) := ⟨by decide, rfl, fun _ => gw_at (k := 3) (i := 198) rfl rfl, fun h => by cases h⟩
theorem mm_7_26 : MM (7, 26, 66, 1) := ⟨by decide, rfl, rfl, gw_at (k := 5) (i := 106) rfl rfl⟩
theorem mm_7_37 : MM (7, 37, 67, 1) := ⟨by decide, rfl, rfl, gw_at (k := 5) (i := 110) rfl rfl⟩
theorem mm_7_40 : MM (7, 40, 70, 1) := ⟨by decide, rfl, rfl, gw_at (k := 5) (i := 114) rfl rfl⟩
theorem mm_7_44 : MM (7, 44, 69, 1) := ⟨by decide, rfl, rfl, gw_at (k := 5) (i := 118) rfl rfl⟩
theorem mm_7_47 : MM (7, 47, 71, 1) := ⟨by decide, rfl, rfl, gw_at (k := 5) (i := 122) rfl rfl⟩
theorem mm_7_51 : MM (7, 51, 68, 1) := ⟨by decide, rfl, rfl, gw_at (k := 5) (i := 131) rfl rfl⟩
theorem mm_7_55 : MM (7, 55, 72, 1) := ⟨by decide, rfl, rfl, gw_at (k := 5) (i := 126) rfl rfl⟩
theorem mm_7_59 : MM (7, 59, 124, 0) := ⟨by decide, rfl, (fun h => by cases h), fun _ => ⟨rfl, rfl, rfl, rfl⟩⟩
theorem mm_8_50 : MM (8, 50, 260, 0) := ⟨by decide, rfl, fun _ => gw_at (k := 1) (i := 102) rfl rfl, fun h => by cases h⟩
theorem mm_8_63 : MM (8, 63, 21, 1) := ⟨by decide, rfl, rfl, gw_at (k := 2) (i := 62) rfl rfl⟩
theorem mm_8_67 : MM (8, 67, 53, 1) := ⟨by decide, rfl, rfl, gw_at (k := 2) (i := 69) rfl rfl⟩
theorem mm_8_70 : MM (8, 70, 39, 1) := ⟨by decide, rfl, rfl, gw_at (k := 2) (i := 74) rfl rfl⟩
theorem mm_8_73 : MM (8, 73, 0, 2) := gw_at (k := 2) (i := 79) rfl rfl
theorem mm_8_79 : MM (8, 79, 59, 1) := ⟨by decide, rfl, rfl, gw_at (k := 2) (i := 180) rfl rfl⟩
theorem mm_8_83 : MM (8, 83, 31, 1) := ⟨by decide, rfl, rfl, gw_at (k := 2) (i := 188) rfl rfl⟩
theorem mm_8_92 : MM (8, 92, 66, 1) := ⟨by decide, rfl, rfl, gw_at (k := 5) (i := 140) rfl rfl⟩
theorem mm_8_106 : MM (8, 106, 78, 1) := ⟨by decide, rfl, rfl, gw_at (k := 5) (i := 141) rfl rfl⟩
theorem mm_8_110 : MM (8, 110, 79, 1) := ⟨by decide, rfl, rfl, gw_at (k := 5) (i := 161) rfl rfl⟩
theorem mm_8_114 : MM (8, 114, 40, 1) := ⟨by decide, rfl, rfl, gw_at (k := 5) (i := 167) rfl rfl⟩
theorem mm_8_118 : MM (8, 118, 33, 0) := ⟨by decide, rfl, fun _ => gw_at (k := 5) (i := 145) rfl rfl, fun h => by cases h⟩
theorem mm_8_122 : MM (8, 122, 32, 1) := ⟨by decide, rfl, rfl, gw_at (k := 5) (i := 148) rfl rfl⟩
theorem mm_8_126 : MM (8, 126, 60, 1) := ⟨by decide, rfl, rfl, gw_at (k := 5) (i := 152) rfl rfl⟩
theorem mm_8_129 : MM (8, 129, 24, 1) := ⟨by decide, rfl, rfl, gw_at (k := 5) (i := 157) rfl rfl⟩
theorem mm_8_132 : MM (8, 132, 76, 1) := ⟨by decide, rfl, rfl, gw_at (k := 5) (i := 165) rfl rfl⟩
theorem mm_8_135 : MM (8, 135, 57, 1) := ⟨by decide, rfl, rfl, gw_at (k := 5) (i := 166) rfl rfl⟩
theorem mm_9_66 : MM (9, 66, 73, 1) := ⟨by decide, rfl, rfl, gw_at (k := 2) (i := 40) rfl rfl⟩
theorem mm_9_69 : MM (9, 69, 6, 1) := ⟨by decide, rfl, rfl, gw_at (k := 2) (i := 41) rfl rfl⟩
theorem mm_9_72 : MM (9, 72, 17, 1) := ⟨by decide, rfl, rfl, gw_at (k := 2) (i := 45) rfl rfl⟩
theorem mm_9_75 : MM (9, 75, 125, 0) := ⟨by decide, rfl, fun _ => gw_at (k := 2) (i := 98) rfl rfl, fun h => by cases h⟩
theorem mm_9_79 : MM (9, 79, 124, 0) := ⟨by decide, rfl, fun _ => gw_at (k := 2) (i := 101) rfl rfl, fun h => by cases h⟩
theorem mm_9_90 : MM (9, 90, 76, 1) := ⟨by decide, rfl, rfl, gw_at (k := 2) (i := 176) rfl rfl⟩
theorem mm_9_111 : MM (9, 111, 135, 1) := ⟨by decide, rfl, rfl, gw_at (k := 2) (i := 50) rfl rfl⟩
theorem mm_9_114 : MM (9, 114, 57, 1) := ⟨by decide, rfl, rfl, gw_at (k := 2) (i := 230) rfl rfl⟩
theorem mm_9_118 : MM (9, 118, 131, 1) := ⟨by decide, rfl, rfl, gw_at (k := 3) (i := 25) rfl rfl⟩
theorem mm_9_122 : MM (9, 122, 25, 1) := ⟨by decide, rfl, rfl, gw_at (k := 3) (i := 42) rfl rfl⟩
theorem mm_9_125 : MM (9, 125, 132, 1) := ⟨by decide, rfl, rfl, gw_at (k := 3) (i := 53) rfl rfl⟩
theorem mm_9_128 : MM (9, 128, 58, 1) := ⟨by decide, rfl, rfl, gw_at (k := 3) (i := 58) rfl rfl⟩
theorem mm_9_131 : MM (9, 131, 54, 1) := ⟨by decide, rfl, rfl, gw_at (k := 3) (i := 70) rfl rfl⟩
theorem mm_9_135 : MM (9, 135, 56, 1) := ⟨by decide, rfl, rfl, gw_at (k := 3) (i := 74) rfl rfl⟩
theorem mm_9_139 : MM (9, 139, 126, 0) := ⟨by decide, rfl, fun _ => gw_at (k := 3) (i := 85) rfl rfl, fun h => by cases h⟩
theorem mm_9_148 : MM (9, 148, 40, 1) := ⟨by decide, rfl, rfl, gw_at (k := 3) (i := 89) rfl rfl⟩
theorem mm_9_154 : MM (9, 154, 41, 1) := ⟨by decide, rfl, rfl, gw_at (k := 3) (i := 93) rfl rfl⟩
theorem mm_9_158 : MM (9, 158, 129, 0) := ⟨by decide, rfl, fun _ => gw_at (k := 3) (i := 104) rfl rfl, fun h => by cases h⟩
theorem mm_9_175 : MM (9, 175, 75, 1) := ⟨by decide, rfl, rfl, gw_at (k := 3) (i := 119) rfl rfl⟩
theorem mm_9_183 : MM (9, 183, 127, 0) := ⟨by decide, rfl, fun _ => gw_at (k := 3) (i := 131) rfl rfl, fun h => by cases h⟩
theorem mm_9_188 : MM (9, 188, 43, 1) := ⟨by decide, rfl, rfl, gw_at (k := 3) (i := 143) rfl rfl⟩
theorem mm_9_192 : MM (9, 192, 23, 1) := ⟨by decide, rfl, rfl, gw_at (k := 3) (i := 151) rfl rfl⟩
theorem mm_9_200 : MM (9, 200, 18, 1) := ⟨by decide, rfl, rfl, gw_at (k := 3) (i := 171) rfl rfl⟩
theorem mm_9_207 : MM (9, 207, 133, 1) := ⟨by decide, rfl, rfl, gw_at (k := 3) (i := 220) rfl rfl⟩
theorem mm_9_211 : MM (9, 211, 22, 1) := ⟨by decide, rfl, rfl, gw_at (k := 3) (i := 228) rfl rfl⟩
theorem mm_9_214 : MM (9, 214, 130, 0) := ⟨by decide, rfl, fun _ => gw_at (k := 3) (i := 224) rfl rfl, fun h => by cases h⟩
theorem mm_9_218 : MM (9, 218, 27, 1) := ⟨by decide, rfl, rfl, gw_at (k := 3) (i := 239) rfl rfl⟩
theorem mm_9_221 : MM (9, 221, 34, 1) := ⟨by decide, rfl, rfl, gw_at (k := 4) (i := 10) rfl rfl⟩
theorem mm_9_225 : MM (9, 225, 28, 1) := ⟨by decide, rfl, rfl, gw_at (k := 4) (i := 18) rfl rfl⟩
theorem mm_9_228 : MM (9, 228, 29, 1) := ⟨by decide, rfl, rfl, gw_at (k := 4) (i := 19) rfl rfl⟩
theorem mm_9_231 : MM (9, 231, 30, 1) := ⟨by decide, rfl, rfl, gw_at (k := 4) (i := 34) rfl rfl⟩
theorem mm_9_239 : MM (9, 239, 128, 0) := ⟨by decide, rfl, fun _ => gw_at (k := 4) (i := 72) rfl rfl, fun h => by cases h⟩
theorem mm_9_242 : MM (9, 242, 31, 1) := ⟨by decide, rfl, rfl, gw_at (k := 4) (i := 76) rfl rfl⟩
theorem mm_9_247 : MM (9, 247, 19, 1) := ⟨by decide, rfl, rfl, gw_at (k := 4) (i := 85) rfl rfl⟩
theorem mm_9_254 : MM (9, 254, 46, 1) := ⟨by decide, rfl, rfl, gw_at (k := 4) (i := 129) rfl rfl⟩
theorem mm_9_260 : MM (9, 260, 42, 1) := ⟨by decide, rfl, rfl, gw_at (k := 4) (i := 144) rfl rfl⟩
theorem mm_9_265 : MM (9, 265, 44, 1) := ⟨by decide, rfl, rfl, gw_at (k := 4) (i := 160) rfl rfl⟩
theorem mm_9_268 : MM (9, 268, 48, 1) := ⟨by decide, rfl, rfl, gw_at (k := 4) (i := 171) rfl rfl⟩
theorem mm_9_271 : MM (9, 271, 134, 1) := ⟨by decide, rfl, rfl, gw_at (k := 4) (i := 186) rfl rfl⟩
theorem mm_9_274 : MM (9, 274, 20, 1) := ⟨by decide, rfl, rfl, gw_at (k := 4) (i := 197) rfl rfl⟩
theorem mm_9_287 : MM (9, 287, 9, 1) := ⟨by decide, rfl, rfl, gw_at (k := 5) (i := 10) rfl rfl⟩
theorem mm_9_290 : MM (9, 290, 15, 1) := ⟨by decide, rfl, rfl, gw_at (k := 5) (i := 18) rfl rfl⟩
theorem mm_9_293 : MM (9, 293, 14, 1) := ⟨by decide, rfl, rfl, gw_at (k := 5) (i := 29) rfl rfl⟩
theorem mm_9_296 : MM (9, 296, 16, 1) := ⟨by decide, rfl, rfl, gw_at (k := 5) (i := 40) rfl rfl⟩
theorem mm_9_299 : MM (9, 299, 109, 1) := ⟨by decide, rfl, rfl, gw_at (k := 5) (i := 65) rfl rfl⟩
theorem mm_9_302 : MM (9, 302, 259, 0) := ⟨by decide, rfl, fun _ => gw_at (k := 5) (i := 66) rfl rfl, fun h => by cases h⟩
theorem mm_9_319 : MM (9, 319, 64, 1) := ⟨by decide, rfl, rfl, gw_at (k := 5) (i := 91) rfl rfl⟩
theorem mm_9_323 : MM (9, 323, 65, 1) := ⟨by decide, rfl, rfl, gw_at (k := 5) (i := 102) rfl rfl⟩
theorem mm_9_331 : MM (9, 331, 74, 1) := ⟨by decide, rfl, rfl, gw_at (k := 2) (i := 87) rfl rfl⟩
theorem mm_9_334 : MM (9, 334, 77, 1) := ⟨by decide, rfl, rfl, gw_at (k := 5) (i := 136) rfl rfl⟩
theorem mm_9_344 : MM (9, 344, 37, 1) := ⟨by decide, rfl, rfl, gw_at (k := 5) (i := 185) rfl rfl⟩
theorem mm_9_355 : MM (9, 355, 5, 1) := ⟨by decide, rfl, rfl, gw_at (k := 5) (i := 202) rfl rfl⟩
theorem mm_9_375 : MM (9, 375, 4, 1) := ⟨by decide, rfl, rfl, gw_at (k := 2) (i := 54) rfl rfl⟩
theorem mm_10_62 : MM (10, 62, 137, 1) := ⟨by decide, rfl, rfl, gw_at (k := 5) (i := 220) rfl rfl⟩
theorem mm_10_75 : MM (10, 75, 138, 0) := ⟨by decide, rfl, fun _ => gw_at (k := 6) (i := 78) rfl rfl, fun h => by cases h⟩
theorem mm_10_79 : MM (10, 79, 146, 0) := ⟨by decide, rfl, fun _ => gw_at (k := 6) (i := 112) rfl rfl, fun h => by cases h⟩
theorem mm_10_83 : MM (10, 83, 0, 3) := gw_at (k := 6) (i := 115) rfl rfl
theorem mm_10_89 : MM (10, 89, 0, 4) := gw_at (k := 6) (i := 116) rfl rfl
theorem mm_10_92 : MM (10, 92, 147, 0) := ⟨by decide, rfl, fun _ => gw_at (k := 6) (i := 109) rfl rfl, fun h => by cases h⟩
theorem mm_10_96 : MM (10, 96, 148, 1) := ⟨by decide, rfl, rfl, gw_at (k := 6) (i := 105) rfl rfl⟩
theorem mm_10_100 : MM (10, 100, 150, 1) := ⟨by decide, rfl, rfl, gw_at (k := 7) (i := 15) rfl rfl⟩
theorem mm_10_103 : MM (10, 103, 149, 1) := ⟨by decide, rfl, rfl, gw_at (k := 7) (i := 19) rfl rfl⟩
theorem mm_10_106 : MM (10, 106, 153, 1) := ⟨by decide, rfl, rfl, gw_at (k := 6) (i := 174) rfl rfl⟩
theorem mm_10_110 : MM (10, 110, 0, 5) := gw_at (k := 7) (i := 2) rfl rfl
theorem mm_10_114 : MM (10, 114, 143, 1) := ⟨by decide, rfl, rfl, gw_at (k := 6) (i := 89) rfl rfl⟩
theorem mm_10_117 : MM (10, 117, 157, 1) := ⟨by decide, rfl, rfl, gw_at (k := 6) (i := 238) rfl rfl⟩
theorem mm_10_120 : MM (10, 120, 158, 1) := ⟨by decide, rfl, rfl, gw_at (k := 7) (i := 7) rfl rfl⟩
theorem mm_10_124 : MM (10, 124, 159, 1) := ⟨by decide, rfl, rfl, gw_at (k := 7) (i := 11) rfl rfl⟩
theorem mm_10_129 : MM (10, 129, 160, 1) := ⟨by decide, rfl, rfl, gw_at (k := 7) (i := 3) rfl rfl⟩
theorem mm_10_133 : MM (10, 133, 161, 1) := ⟨by decide, rfl, rfl, gw_at (k := 7) (i := 23) rfl rfl⟩
theorem mm_10_137 : MM (10, 137, 164, 1) := ⟨by decide, rfl, rfl, gw_at (k := 7) (i := 51) rfl rfl⟩
theorem mm_10_140 : MM (10, 140, 165, 1) := ⟨by decide, rfl, rfl, gw_at (k := 7) (i := 47) rfl rfl⟩
theorem mm_10_143 : MM (10, 143, 163, 1) := ⟨by decide, rfl, rfl, gw_at (k := 7) (i := 39) rfl rfl⟩
theorem mm_10_146 : MM (10, 146, 154, 1) := ⟨by decide, rfl, rfl, gw_at (k := 6) (i := 170) rfl rfl⟩
theorem mm_10_149 : MM (10, 149, 167, 1) := ⟨by decide, rfl, rfl, gw_at (k := 7) (i := 35) rfl rfl⟩
theorem mm_10_152 : MM (10, 152, 166, 1) := ⟨by decide, rfl, rfl, gw_at (k := 7) (i := 43) rfl rfl⟩
theorem mm_10_155 : MM (10, 155, 170, 1) := ⟨by decide, rfl, rfl, gw_at (k := 6) (i := 217) rfl rfl⟩
theorem mm_10_158 : MM (10, 158, 171, 1) := ⟨by decide, rfl, rfl, gw_at (k := 6) (i := 221) rfl rfl⟩
theorem mm_10_161 : MM (10, 161, 169, 1) := ⟨by decide, rfl, rfl, gw_at (k := 6) (i := 205) rfl rfl⟩
theorem mm_10_164 : MM (10, 164, 172, 1) := ⟨by decide, rfl, rfl, gw_at (k := 6) (i := 225) rfl rfl⟩
theorem mm_10_167 : MM (10, 167, 173, 1) := ⟨by decide, rfl, rfl, gw_at (k := 6) (i := 209) rfl rfl⟩
theorem mm_10_170 : MM (10, 170, 174, 1) := ⟨by decide, rfl, rfl, gw_at (k := 6) (i := 229) rfl rfl⟩
theorem mm_10_173 : MM (10, 173, 176, 1) := ⟨by decide, rfl, rfl, gw_at (k := 6) (i := 201) rfl rfl⟩
theorem mm_10_176 : MM (10, 176, 175, 1) := ⟨by decide, rfl, rfl, gw_at (k := 6) (i := 213) rfl rfl⟩
theorem mm_10_179 : MM (10, 179, 155, 1) := ⟨by decide, rfl, rfl, gw_at (k := 6) (i := 193) rfl rfl⟩
theorem mm_10_183 : MM (10, 183, 177, 1) := ⟨by decide, rfl, rfl, gw_at (k := 6) (i := 197) rfl rfl⟩
theorem mm_10_186 : MM (10, 186, 162, 1) := ⟨by decide, rfl, rfl, gw_at (k := 6) (i := 233) rfl rfl⟩
theorem mm_10_189 : MM (10, 189, 156, 1) := ⟨by decide, rfl, rfl, gw_at (k := 7) (i := 27) rfl rfl⟩
theorem mm_10_192 : MM (10, 192, 168, 1) := ⟨by decide, rfl, rfl, gw_at (k := 7) (i := 31) rfl rfl⟩
theorem mm_10_195 : MM (10, 195, 178, 1) := ⟨by decide, rfl, rfl, gw_at (k := 6) (i := 189) rfl rfl⟩
theorem mm_10_198 : MM (10, 198, 183, 1) := ⟨by decide, rfl, rfl, gw_at (k := 6) (i := 97) rfl rfl⟩
theorem mm_10_201 : MM (10, 201, 184, 1) := ⟨by decide, rfl, rfl, gw_at (k := 6) (i := 101) rfl rfl⟩
theorem mm_10_204 : MM (10, 204, 182, 1) := ⟨by decide, rfl, rfl, gw_at (k := 6) (i := 85) rfl rfl⟩
theorem mm_10_207 : MM (10, 207, 185, 1) := ⟨by decide, rfl, rfl, gw_at (k := 6) (i := 93) rfl rfl⟩
theorem mm_10_210 : MM (10, 210, 181, 0) := ⟨by decide, rfl, fun _ => gw_at (k := 6) (i := 75) rfl rfl, fun h => by cases h⟩
theorem mm_10_213 : MM (10, 213, 186, 1) := ⟨by decide, rfl, rfl, gw_at (k := 6) (i := 81) rfl rfl⟩
theorem mm_10_216 : MM (10, 216, 145, 1) := ⟨by decide, rfl, rfl, gw_at (k := 6) (i := 119) rfl rfl⟩
theorem mm_10_219 : MM (10, 219, 187, 1) := ⟨by decide, rfl, rfl, gw_at (k := 6) (i := 123) rfl rfl⟩
theorem mm_10_223 : MM (10, 223, 140, 1) := ⟨by decide, rfl, rfl, gw_at (k := 6) (i := 131) rfl rfl⟩
theorem mm_10_226 : MM (10, 226, 141, 1) := ⟨by decide, rfl, rfl, gw_at (k := 6) (i := 139) rfl rfl⟩
theorem mm_10_229 : MM (10, 229, 192, 1) := ⟨by decide, rfl, rfl, gw_at (k := 6) (i := 151) rfl rfl⟩
theorem mm_10_232 : MM (10, 232, 142, 0) := ⟨by decide, rfl, fun _ => gw_at (k := 6) (i := 159) rfl rfl, fun h => by cases h⟩
theorem mm_10_235 : MM (10, 235, 139, 0) := ⟨by decide, rfl, fun _ => gw_at (k := 6) (i := 182) rfl rfl, fun h => by cases h⟩
theorem mm_10_238 : MM (10, 238, 199, 1) := ⟨by decide, rfl, rfl, gw_at (k := 7) (i := 55) rfl rfl⟩
theorem mm_10_241 : MM (10, 241, 198, 1) := ⟨by decide, rfl, rfl, gw_at (k := 7) (i := 59) rfl rfl⟩
theorem mm_10_244 : MM (10, 244, 179, 1) := ⟨by decide, rfl, rfl, gw_at (k := 7) (i := 79) rfl rfl⟩
theorem mm_10_247 : MM (10, 247, 203, 1) := ⟨by decide, rfl, rfl, gw_at (k := 7) (i := 75) rfl rfl⟩
theorem mm_10_250 : MM (10, 250, 205, 1) := ⟨by decide, rfl, rfl, gw_at (k := 7) (i := 87) rfl rfl⟩
theorem mm_10_253 : MM (10, 253, 220, 1) := ⟨by decide, rfl, rfl, gw_at (k := 7) (i := 147) rfl rfl⟩
theorem mm_10_256 : MM (10, 256, 222, 1) := ⟨by decide, rfl, rfl, gw_at (k := 7) (i := 155) rfl rfl⟩
theorem mm_10_259 : MM (10, 259, 225, 1) := ⟨by decide, rfl, rfl, gw_at (k := 7) (i := 163) rfl rfl⟩
theorem mm_10_262 : MM (10, 262, 228, 1) := ⟨by decide, rfl, rfl, gw_at (k := 7) (i := 175) rfl rfl⟩
theorem mm_10_265 : MM (10, 265, 223, 0) := ⟨by decide, rfl, fun _ => gw_at (k := 7) (i := 191) rfl rfl, fun h => by cases h⟩
theorem mm_10_274 : MM (10, 274, 235, 1) := ⟨by decide, rfl, rfl, gw_at (k := 7) (i := 214) rfl rfl⟩
theorem mm_10_281 : MM (10, 281, 237, 1) := ⟨by decide, rfl, rfl, gw_at (k := 7) (i := 218) rfl rfl⟩
theorem mm_10_284 : MM (10, 284, 239, 1) := ⟨by decide, rfl, rfl, gw_at (k := 7) (i := 230) rfl rfl⟩
theorem mm_10_287 : MM (10, 287, 236, 1) := ⟨by decide, rfl, rfl, gw_at (k := 7) (i := 234) rfl rfl⟩
theorem mm_10_290 : MM (10, 290, 240, 1) := ⟨by decide, rfl, rfl, gw_at (k := 7) (i := 226) rfl rfl⟩
theorem mm_10_294 : MM (10, 294, 241, 1) := ⟨by decide, rfl, rfl, gw_at (k := 7) (i := 222) rfl rfl⟩
theorem mm_10_297 : MM (10, 297, 238, 1) := ⟨by decide, rfl, rfl, gw_at (k := 7) (i := 238) rfl rfl⟩
theorem mm_10_303 : MM (10, 303, 242, 1) := ⟨by decide, rfl, rfl, gw_at (k := 7) (i := 210) rfl rfl⟩
theorem mm_10_306 : MM (10, 306, 248, 1) := ⟨by decide, rfl, rfl, gw_at (k := 8) (i := 13) rfl rfl⟩
theorem mm_10_309 : MM (10, 309, 245, 1) := ⟨by decide, rfl, rfl, gw_at (k := 8) (i := 33) rfl rfl⟩
theorem mm_10_312 : MM (10, 312, 246, 1) := ⟨by decide, rfl, rfl, gw_at (k := 8) (i := 17) rfl rfl⟩
theorem mm_10_315 : MM (10, 315, 151, 1) := ⟨by decide, rfl, rfl, gw_at (k := 8) (i := 21) rfl rfl⟩
theorem mm_10_318 : MM (10, 318, 152, 1) := ⟨by decide, rfl, rfl, gw_at (k := 8) (i := 25) rfl rfl⟩
theorem mm_10_321 : MM (10, 321, 247, 1) := ⟨by decide, rfl, rfl, gw_at (k := 8) (i := 29) rfl rfl⟩
theorem mm_10_324 : MM (10, 324, 244, 1) := ⟨by decide, rfl, rfl, gw_at (k := 8) (i := 9) rfl rfl⟩
theorem mm_10_327 : MM (10, 327, 243, 1) := ⟨by decide, rfl, rfl, gw_at (k := 7) (i := 206) rfl rfl⟩
theorem mm_10_330 : MM (10, 330, 144, 0) := ⟨by decide, rfl, fun _ => gw_at (k := 8) (i := 2) rfl rfl, fun h => by cases h⟩
theorem mm_10_334 : MM (10, 334, 249, 1) := ⟨by decide, rfl, rfl, gw_at (k := 8) (i := 5) rfl rfl⟩
theorem mm_10_337 : MM (10, 337, 251, 1) := ⟨by decide, rfl, rfl, gw_at (k := 8) (i := 37) rfl rfl⟩
theorem mm_10_343 : MM (10, 343, 253, 1) := ⟨by decide, rfl, rfl, gw_at (k := 8) (i := 49) rfl rfl⟩
theorem mm_10_346 : MM (10, 346, 254, 1) := ⟨by decide, rfl, rfl, gw_at (k := 8) (i := 53) rfl rfl⟩
theorem mm_11_7 : MM (11, 7, 81, 1) := ⟨by decide, rfl, rfl, gw_at (k := 2) (i := 94) rfl rfl⟩
theorem mm_11_19 : MM (11, 19, 82, 1) := ⟨by decide, rfl, rfl, gw_at (k := 3) (i := 21) rfl rfl⟩
theorem mm_11_25 : MM (11, 25, 83, 1) := ⟨by decide, rfl, rfl, gw_at (k := 3) (i := 49) rfl rfl⟩
theorem mm_11_28 : MM (11, 28, 84, 1) := ⟨by decide, rfl, rfl, gw_at (k := 3) (i := 65) rfl rfl⟩
theorem mm_11_32 : MM (11, 32, 85, 1) := ⟨by decide, rfl, rfl, gw_at (k := 3) (i := 81) rfl rfl⟩
theorem mm_11_36 : MM (11, 36, 86, 1) := ⟨by decide, rfl, rfl, gw_at (k := 3) (i := 100) rfl rfl⟩
theorem mm_11_39 : MM (11, 39, 88, 1) := ⟨by decide, rfl, rfl, gw_at (k := 3) (i := 112) rfl rfl⟩
theorem mm_11_43 : MM (11, 43, 89, 1) := ⟨by decide, rfl, rfl, gw_at (k := 3) (i := 127) rfl rfl⟩
theorem mm_11_46 : MM (11, 46, 90, 1) := ⟨by decide, rfl, rfl, gw_at (k := 3) (i := 139) rfl rfl⟩
theorem mm_11_49 : MM (11, 49, 91, 1) := ⟨by decide, rfl, rfl, gw_at (k := 3) (i := 159) rfl rfl⟩
theorem mm_11_52 : MM (11, 52, 92, 1) := ⟨by decide, rfl, rfl, gw_at (k := 3) (i := 167) rfl rfl⟩
theorem mm_11_55 : MM (11, 55, 93, 1) := ⟨by decide, rfl, rfl, gw_at (k := 3) (i := 216) rfl rfl⟩
theorem mm_11_59 : MM (11, 59, 94, 1) := ⟨by decide, rfl, rfl, gw_at (k := 3) (i := 235) rfl rfl⟩
theorem mm_11_62 : MM (11, 62, 95, 1) := ⟨by decide, rfl, rfl, gw_at (k := 4) (i := 6) rfl rfl⟩
theorem mm_11_65 : MM (11, 65, 96, 1) := ⟨by decide, rfl, rfl, gw_at (k := 4) (i := 14) rfl rfl⟩
theorem mm_11_68 : MM (11, 68, 97, 1) := ⟨by decide, rfl, rfl, gw_at (k := 4) (i := 23) rfl rfl⟩
theorem mm_11_71 : MM (11, 71, 98, 1) := ⟨by decide, rfl, rfl, gw_at (k := 4) (i := 30) rfl rfl⟩
theorem mm_11_74 : MM (11, 74, 99, 1) := ⟨by decide, rfl, rfl, gw_at (k := 4) (i := 45) rfl rfl⟩
theorem mm_11_79 : MM (11, 79, 100, 1) := ⟨by decide, rfl, rfl, gw_at (k := 4) (i := 68) rfl rfl⟩
theorem mm_11_82 : MM (11, 82, 101, 1) := ⟨by decide, rfl, rfl, gw_at (k := 4) (i := 80) rfl rfl⟩
theorem mm_11_85 : MM (11, 85, 102, 1) := ⟨by decide, rfl, rfl, gw_at (k := 4) (i := 118) rfl rfl⟩
theorem mm_11_88 : MM (11, 88, 103, 1) := ⟨by decide, rfl, rfl, gw_at (k := 4) (i := 125) rfl rfl⟩
theorem mm_11_91 : MM (11, 91, 104, 1) := ⟨by decide, rfl, rfl, gw_at (k := 4) (i := 133) rfl rfl⟩
theorem mm_11_94 : MM (11, 94, 105, 1) := ⟨by decide, rfl, rfl, gw_at (k := 4) (i := 140) rfl rfl⟩
theorem mm_11_97 : MM (11, 97, 106, 1) := ⟨by decide, rfl, rfl, gw_at (k := 4) (i := 149) rfl rfl⟩
theorem mm_11_100 : MM (11, 100, 107, 1) := ⟨by decide, rfl, rfl, gw_at (k := 4) (i := 156) rfl rfl⟩
theorem mm_11_103 : MM (11, 103, 108, 1) := ⟨by decide, rfl, rfl, gw_at (k := 4) (i := 167) rfl rfl⟩
theorem mm_11_106 : MM (11, 106, 109, 1) := ⟨by decide, rfl, rfl, gw_at (k := 4) (i := 182) rfl rfl⟩
theorem mm_11_109 : MM (11, 109, 110, 1) := ⟨by decide, rfl, rfl, gw_at (k := 4) (i := 193) rfl rfl⟩
theorem mm_11_112 : MM (11, 112, 111, 1) := ⟨by decide, rfl, rfl, gw_at (k := 5) (i := 4) rfl rfl⟩
theorem mm_11_115 : MM (11, 115, 112, 1) := ⟨by decide, rfl, rfl, gw_at (k := 5) (i := 14) rfl rfl⟩
theorem mm_11_118 : MM (11, 118, 113, 1) := ⟨by decide, rfl, rfl, gw_at (k := 5) (i := 25) rfl rfl⟩
theorem mm_11_121 : MM (11, 121, 114, 1) := ⟨by decide, rfl, rfl, gw_at (k := 5) (i := 36) rfl rfl⟩
theorem mm_11_124 : MM (11, 124, 115, 1) := ⟨by decide, rfl, rfl, gw_at (k := 5) (i := 61) rfl rfl⟩
theorem mm_11_130 : MM (11, 130, 116, 1) := ⟨by decide, rfl, rfl, gw_at (k := 5) (i := 78) rfl rfl⟩
theorem mm_11_133 : MM (11, 133, 117, 1) := ⟨by decide, rfl, rfl, gw_at (k := 5) (i := 85) rfl rfl⟩
theorem mm_11_137 : MM (11, 137, 118, 1) := ⟨by decide, rfl, rfl, gw_at (k := 5) (i := 98) rfl rfl⟩
theorem mm_11_141 : MM (11, 141, 119, 1) := ⟨by decide, rfl, rfl, gw_at (k := 5) (i := 173) rfl rfl⟩
theorem mm_11_144 : MM (11, 144, 120, 1) := ⟨by decide, rfl, rfl, gw_at (k := 5) (i := 181) rfl rfl⟩
theorem mm_11_147 : MM (11, 147, 121, 1) := ⟨by decide, rfl, rfl, gw_at (k := 5) (i := 197) rfl rfl⟩
theorem mm_11_150 : MM (11, 150, 123, 1) := ⟨by decide, rfl, rfl, gw_at (k := 5) (i := 209) rfl rfl⟩
theorem mm_11_157 : MM (11, 157, 80, 1) := ⟨by decide, rfl, rfl, gw_at (k := 2) (i := 36) rfl rfl⟩
theorem mm_11_160 : MM (11, 160, 180, 1) := ⟨by decide, rfl, rfl, gw_at (k := 6) (i := 67) rfl rfl⟩
theorem mm_11_161 : MM (11, 161, 261, 0) := ⟨by decide, rfl, fun _ => gw_at (k := 2) (i := 88) rfl rfl, fun h => by cases h⟩
theorem mm_11_166 : MM (11, 166, 188, 1) := ⟨by decide, rfl, rfl, gw_at (k := 6) (i := 71) rfl rfl⟩
theorem mm_11_167 : MM (11, 167, 136, 1) := ⟨by decide, rfl, rfl, gw_at (k := 6) (i := 63) rfl rfl⟩
theorem mm_11_170 : MM (11, 170, 262, 0) := ⟨by decide, rfl, fun _ => gw_at (k := 2) (i := 234) rfl rfl, fun h => by cases h⟩
theorem mm_11_173 : MM (11, 173, 189, 1) := ⟨by decide, rfl, rfl, gw_at (k := 6) (i := 127) rfl rfl⟩
theorem mm_11_174 : MM (11, 174, 263, 0) := ⟨by decide, rfl, fun _ => gw_at (k := 3) (i := 46) rfl rfl, fun h => by cases h⟩
theorem mm_11_176 : MM (11, 176, 190, 1) := ⟨by decide, rfl, rfl, gw_at (k := 6) (i := 135) rfl rfl⟩
theorem mm_11_177 : MM (11, 177, 264, 0) := ⟨by decide, rfl, fun _ => gw_at (k := 3) (i := 62) rfl rfl, fun h => by cases h⟩
theorem mm_11_180 : MM (11, 180, 191, 1) := ⟨by decide, rfl, rfl, gw_at (k := 6) (i := 143) rfl rfl⟩
theorem mm_11_181 : MM (11, 181, 265, 0) := ⟨by decide, rfl, fun _ => gw_at (k := 3) (i := 78) rfl rfl, fun h => by cases h⟩
theorem mm_11_184 : MM (11, 184, 193, 1) := ⟨by decide, rfl, rfl, gw_at (k := 6) (i := 147) rfl rfl⟩
theorem mm_11_185 : MM (11, 185, 266, 0) := ⟨by decide, rfl, fun _ => gw_at (k := 3) (i := 97) rfl rfl, fun h => by cases h⟩
theorem mm_11_187 : MM (11, 187, 194, 1) := ⟨by decide, rfl, rfl, gw_at (k := 6) (i := 155) rfl rfl⟩
theorem mm_11_188 : MM (11, 188, 87, 1) := ⟨by decide, rfl, rfl, gw_at (k := 2) (i := 46) rfl rfl⟩
theorem mm_11_192 : MM (11, 192, 195, 1) := ⟨by decide, rfl, rfl, gw_at (k := 6) (i := 162) rfl rfl⟩
theorem mm_11_193 : MM (11, 193, 267, 0) := ⟨by decide, rfl, fun _ => gw_at (k := 3) (i := 109) rfl rfl, fun h => by cases h⟩
theorem mm_11_196 : MM (11, 196, 196, 1) := ⟨by decide, rfl, rfl, gw_at (k := 6) (i := 166) rfl rfl⟩
theorem mm_11_197 : MM (11, 197, 268, 0) := ⟨by decide, rfl, fun _ => gw_at (k := 3) (i := 124) rfl rfl, fun h => by cases h⟩
theorem mm_11_199 : MM (11, 199, 197, 1) := ⟨by decide, rfl, rfl, gw_at (k := 6) (i := 178) rfl rfl⟩
theorem mm_11_200 : MM (11, 200, 269, 0) := ⟨by decide, rfl, fun _ => gw_at (k := 3) (i := 136) rfl rfl, fun h => by cases h⟩
theorem mm_11_202 : MM (11, 202, 200, 1) := ⟨by decide, rfl, rfl, gw_at (k := 6) (i := 185) rfl rfl⟩
theorem mm_11_203 : MM (11, 203, 270, 0) := ⟨by decide, rfl, fun _ => gw_at (k := 3) (i := 156) rfl rfl, fun h => by cases h⟩
theorem mm_11_205 : MM (11, 205, 201, 1) := ⟨by decide, rfl, rfl, gw_at (k := 7) (i := 63) rfl rfl⟩
theorem mm_11_206 : MM (11, 206, 271, 0) := ⟨by decide, rfl, fun _ => gw_at (k := 3) (i := 164) rfl rfl, fun h => by cases h⟩
theorem mm_11_208 : MM (11, 208, 202, 1) := ⟨by decide, rfl, rfl, gw_at (k := 7) (i := 67) rfl rfl⟩
theorem mm_11_209 : MM (11, 209, 272, 0) := ⟨by decide, rfl, fun _ => gw_at (k := 3) (i := 213) rfl rfl, fun h => by cases h⟩
theorem mm_11_212 : MM (11, 212, 204, 1) := ⟨by decide, rfl, rfl, gw_at (k := 7) (i := 71) rfl rfl⟩
theorem mm_11_213 : MM (11, 213, 273, 0) := ⟨by decide, rfl, fun _ => gw_at (k := 3) (i := 232) rfl rfl, fun h => by cases h⟩
theorem mm_11_215 : MM (11, 215, 206, 1) := ⟨by decide, rfl, rfl, gw_at (k := 7) (i := 83) rfl rfl⟩
theorem mm_11_216 : MM (11, 216, 274, 0) := ⟨by decide, rfl, fun _ => gw_at (k := 4) (i := 3) rfl rfl, fun h => by cases h⟩
theorem mm_11_218 : MM (11, 218, 207, 1) := ⟨by decide, rfl, rfl, gw_at (k := 7) (i := 91) rfl rfl⟩
theorem mm_11_219 : MM (11, 219, 275, 0) := ⟨by decide, rfl, fun _ => gw_at (k := 4) (i := 11) rfl rfl, fun h => by cases h⟩
theorem mm_11_221 : MM (11, 221, 208, 1) := ⟨by decide, rfl, rfl, gw_at (k := 7) (i := 95) rfl rfl⟩
theorem mm_11_222 : MM (11, 222, 276, 0) := ⟨by decide, rfl, fun _ => gw_at (k := 4) (i := 20) rfl rfl, fun h => by cases h⟩
theorem mm_11_224 : MM (11, 224, 209, 1) := ⟨by decide, rfl, rfl, gw_at (k := 7) (i := 99) rfl rfl⟩
theorem mm_11_225 : MM (11, 225, 277, 0) := ⟨by decide, rfl, fun _ => gw_at (k := 4) (i := 27) rfl rfl, fun h => by cases h⟩
theorem mm_11_227 : MM (11, 227, 210, 1) := ⟨by decide, rfl, rfl, gw_at (k := 7) (i := 103) rfl rfl⟩
theorem mm_11_228 : MM (11, 228, 278, 0) := ⟨by decide, rfl, fun _ => gw_at (k := 4) (i := 41) rfl rfl, fun h => by cases h⟩
theorem mm_11_230 : MM (11, 230, 211, 1) := ⟨by decide, rfl, rfl, gw_at (k := 7) (i := 107) rfl rfl⟩
theorem mm_11_231 : MM (11, 231, 279, 0) := ⟨by decide, rfl, fun _ => gw_at (k := 4) (i := 65) rfl rfl, fun h => by cases h⟩
theorem mm_11_233 : MM (11, 233, 212, 1) := ⟨by decide, rfl, rfl, gw_at (k := 7) (i := 111) rfl rfl⟩
theorem mm_11_234 : MM (11, 234, 280, 0) := ⟨by decide, rfl, fun _ => gw_at (k := 4) (i := 77) rfl rfl, fun h => by cases h⟩
theorem mm_11_236 : MM (11, 236, 213, 1) := ⟨by decide, rfl, rfl, gw_at (k := 7) (i := 115) rfl rfl⟩
theorem mm_11_237 : MM (11, 237, 281, 0) := ⟨by decide, rfl, fun _ => gw_at (k := 4) (i := 115) rfl rfl, fun h => by cases h⟩
theorem mm_11_239 : MM (11, 239, 214, 1) := ⟨by decide, rfl, rfl, gw_at (k := 7) (i := 119) rfl rfl⟩
theorem mm_11_240 : MM (11, 240, 282, 0) := ⟨by decide, rfl, fun _ => gw_at (k := 4) (i := 122) rfl rfl, fun h => by cases h⟩
theorem mm_11_242 : MM (11, 242, 215, 1) := ⟨by decide, rfl, rfl, gw_at (k := 7) (i := 123) rfl rfl⟩
theorem mm_11_243 : MM (11, 243, 283, 0) := ⟨by decide, rfl, fun _ => gw_at (k := 4) (i := 130) rfl rfl, fun h => by cases h⟩
theorem mm_11_245 : MM (11, 245, 216, 1) := ⟨by decide, rfl, rfl, gw_at (k := 7) (i := 127) rfl rfl⟩
theorem mm_11_246 : MM (11, 246, 284, 0) := ⟨by decide, rfl, fun _ => gw_at (k := 4) (i := 137) rfl rfl, fun h => by cases h⟩
theorem mm_11_248 : MM (11, 248, 217, 1) := ⟨by decide, rfl, rfl, gw_at (k := 7) (i := 131) rfl rfl⟩
theorem mm_11_249 : MM (11, 249, 285, 0) := ⟨by decide, rfl, fun _ => gw_at (k := 4) (i := 146) rfl rfl, fun h => by cases h⟩
theorem mm_11_251 : MM (11, 251, 218, 1) := ⟨by decide, rfl, rfl, gw_at (k := 7) (i := 135) rfl rfl⟩
theorem mm_11_252 : MM (11, 252, 286, 0) := ⟨by decide, rfl, fun _ => gw_at (k := 4) (i := 153) rfl rfl, fun h => by cases h⟩
theorem mm_11_254 : MM (11, 254, 219, 1) := ⟨by decide, rfl, rfl, gw_at (k := 7) (i := 139) rfl rfl⟩
theorem mm_11_255 : MM (11, 255, 287, 0) := ⟨by decide, rfl, fun _ => gw_at (k := 4) (i := 164) rfl rfl, fun h => by cases h⟩
theorem mm_11_257 : MM (11, 257, 221, 1) := ⟨by decide, rfl, rfl, gw_at (k := 7) (i := 143) rfl rfl⟩
theorem mm_11_258 : MM (11, 258, 288, 0) := ⟨by decide, rfl, fun _ => gw_at (k := 4) (i := 179) rfl rfl, fun h => by cases h⟩
theorem mm_11_260 : MM (11, 260, 224, 1) := ⟨by decide, rfl, rfl, gw_at (k := 7) (i := 151) rfl rfl⟩
theorem mm_11_261 : MM (11, 261, 289, 0) := ⟨by decide, rfl, fun _ => gw_at (k := 4) (i := 190) rfl rfl, fun h => by cases h⟩
theorem mm_11_263 : MM (11, 263, 226, 1) := ⟨by decide, rfl, rfl, gw_at (k := 7) (i := 159) rfl rfl⟩
theorem mm_11_264 : MM (11, 264, 290, 0) := ⟨by decide, rfl, fun _ => gw_at (k := 5) (i := 1) rfl rfl, fun h => by cases h⟩
theorem mm_11_266 : MM (11, 266, 227, 1) := ⟨by decide, rfl, rfl, gw_at (k := 7) (i := 167) rfl rfl⟩
theorem mm_11_267 : MM (11, 267, 291, 0) := ⟨by decide, rfl, fun _ => gw_at (k := 5) (i := 11) rfl rfl, fun h => by cases h⟩
theorem mm_11_269 : MM (11, 269, 229, 1) := ⟨by decide, rfl, rfl, gw_at (k := 7) (i := 171) rfl rfl⟩
theorem mm_11_270 : MM (11, 270, 292, 0) := ⟨by decide, rfl, fun _ => gw_at (k := 5) (i := 22) rfl rfl, fun h => by cases h⟩
theorem mm_11_272 : MM (11, 272, 230, 1) := ⟨by decide, rfl, rfl, gw_at (k := 7) (i := 179) rfl rfl⟩
theorem mm_11_273 : MM (11, 273, 293, 0) := ⟨by decide, rfl, fun _ => gw_at (k := 5) (i := 33) rfl rfl, fun h => by cases h⟩
theorem mm_11_275 : MM (11, 275, 231, 1) := ⟨by decide, rfl, rfl, gw_at (k := 7) (i := 183) rfl rfl⟩
theorem mm_11_276 : MM (11, 276, 294, 0) := ⟨by decide, rfl, fun _ => gw_at (k := 5) (i := 44) rfl rfl, fun h => by cases h⟩
theorem mm_11_279 : MM (11, 279, 232, 1) := ⟨by decide, rfl, rfl, gw_at (k := 7) (i := 187) rfl rfl⟩
theorem mm_11_280 : MM (11, 280, 295, 0) := ⟨by decide, rfl, fun _ => gw_at (k := 5) (i := 75) rfl rfl, fun h => by cases h⟩
theorem mm_11_282 : MM (11, 282, 233, 1) := ⟨by decide, rfl, rfl, gw_at (k := 7) (i := 194) rfl rfl⟩
theorem mm_11_283 : MM (11, 283, 296, 0) := ⟨by decide, rfl, fun _ => gw_at (k := 5) (i := 82) rfl rfl, fun h => by cases h⟩
theorem mm_11_286 : MM (11, 286, 234, 1) := ⟨by decide, rfl, rfl, gw_at (k := 7) (i := 198) rfl rfl⟩
theorem mm_11_287 : MM (11, 287, 297, 0) := ⟨by decide, rfl, fun _ => gw_at (k := 5) (i := 95) rfl rfl, fun h => by cases h⟩
theorem mm_11_290 : MM (11, 290, 250, 1) := ⟨by decide, rfl, rfl, gw_at (k := 7) (i := 202) rfl rfl⟩
theorem mm_11_291 : MM (11, 291, 298, 0) := ⟨by decide, rfl, fun _ => gw_at (k := 5) (i := 170) rfl rfl, fun h => by cases h⟩
theorem mm_11_293 : MM (11, 293, 252, 1) := ⟨by decide, rfl, rfl, gw_at (k := 8) (i := 41) rfl rfl⟩
theorem mm_11_294 : MM (11, 294, 299, 0) := ⟨by decide, rfl, fun _ => gw_at (k := 5) (i := 178) rfl rfl, fun h => by cases h⟩
theorem mm_11_296 : MM (11, 296, 255, 1) := ⟨by decide, rfl, rfl, gw_at (k := 8) (i := 45) rfl rfl⟩
theorem mm_11_297 : MM (11, 297, 300, 0) := ⟨by decide, rfl, fun _ => gw_at (k := 5) (i := 194) rfl rfl, fun h => by cases h⟩
theorem mm_11_299 : MM (11, 299, 256, 1) := ⟨by decide, rfl, rfl, gw_at (k := 8) (i := 57) rfl rfl⟩
theorem mm_11_300 : MM (11, 300, 122, 1) := ⟨by decide, rfl, rfl, gw_at (k := 2) (i := 83) rfl rfl⟩
theorem mm_11_303 : MM (11, 303, 257, 1) := ⟨by decide, rfl, rfl, gw_at (k := 8) (i := 61) rfl rfl⟩
theorem mm_11_304 : MM (11, 304, 301, 0) := ⟨by decide, rfl, fun _ => gw_at (k := 5) (i := 206) rfl rfl, fun h => by cases h⟩
theorem mm_11_306 : MM (11, 306, 258, 1) := ⟨by decide, rfl, rfl, gw_at (k := 8) (i := 65) rfl rfl⟩
def mmL_0 : List (Nat × Nat × Nat × Nat) := [(0, 9, 0, 0), (1, 22, 74, 1), (1, 29, 0, 3), (2, 27, 260, 0), (2, 38, 54, 1), (2, 42, 8, 1), (2, 46, 9, 1), (2, 49, 62, 1), (2, 52, 63, 1), (2, 55, 11, 1), (2, 59, 10, 1), (2, 63, 13, 1), (2, 67, 12, 1), (2, 76, 22, 1), (3, 63, 21, 1), (3, 67, 75, 1)]
theorem mmA_0 : ∀ q ∈ mmL_0, MM q := List.forall_mem_cons.mpr ⟨mm_0_9, List.forall_mem_cons.mpr ⟨mm_1_22, List.forall_mem_cons.mpr ⟨mm_1_29, List.forall_mem_cons.mpr ⟨mm_2_27, List.forall_mem_cons.mpr ⟨mm_2_38, List.forall_mem_cons.mpr ⟨mm_2_42, List.forall_mem_cons.mpr ⟨mm_2_46, List.forall_mem_cons.mpr ⟨mm_2_49, List.forall_mem_cons.mpr ⟨mm_2_52, List.forall_mem_cons.mpr ⟨mm_2_55, List.forall_mem_cons.mpr ⟨mm_2_59, List.forall_mem_cons.mpr ⟨mm_2_63, List.forall_mem_cons.mpr ⟨mm_2_67, List.forall_mem_cons.mpr ⟨mm_2_76, List.forall_mem_cons.mpr ⟨mm_3_63, List.forall_mem_cons.mpr ⟨mm_3_67, fun _ h => absurd h List.not_mem_nil⟩⟩⟩⟩⟩⟩⟩⟩⟩⟩⟩⟩⟩⟩⟩⟩
def mmL_16 : List (Nat × Nat × Nat × Nat) := [(3, 71, 35, 1), (3, 75, 39, 1), (3, 86, 52, 1), (3, 90, 18, 1), (3, 94, 7, 1), (4, 18, 0, 2), (4, 28, 0, 0), (4, 34, 0, 5), (4, 40, 1, 0), (4, 44, 2, 0), (4, 48, 3, 0), (4, 51, 28, 1), (4, 55, 29, 1), (4, 59, 61, 1), (4, 64, 36, 1), (4, 67, 34, 1)]
theorem mmA_16 : ∀ q ∈ mmL_16, MM q := List.forall_mem_cons.mpr ⟨mm_3_71, List.forall_mem_cons.mpr ⟨mm_3_75, List.forall_mem_cons.mpr ⟨mm_3_86, List.forall_mem_cons.mpr ⟨mm_3_90, List.forall_mem_cons.mpr ⟨mm_3_94, List.forall_mem_cons.mpr ⟨mm_4_18, List.forall_mem_cons.mpr ⟨mm_4_28, List.forall_mem_cons.mpr ⟨mm_4_34, List.forall_mem_cons.mpr ⟨mm_4_40, List.forall_mem_cons.mpr ⟨mm_4_44, List.forall_mem_cons.mpr ⟨mm_4_48, List.forall_mem_cons.mpr ⟨mm_4_51, List.forall_mem_cons.mpr ⟨mm_4_55, List.forall_mem_cons.mpr ⟨mm_4_59, List.forall_mem_cons.mpr ⟨mm_4_64, List.forall_mem_cons.mpr ⟨mm_4_67, fun _ h => absurd h List.not_mem_nil⟩⟩⟩⟩⟩⟩⟩⟩⟩⟩⟩⟩⟩⟩⟩⟩
def mmL_32 : List (Nat × Nat × Nat × Nat) := [(4, 71, 26, 1), (4, 75, 22, 1), (4, 78, 38, 0), (5, 21, 0, 2), (5, 27, 42, 1), (5, 31, 45, 1), (5, 34, 260, 0), (5, 40, 47, 1), (5, 44, 49, 1), (5, 48, 46, 1), (5, 52, 51, 1), (5, 56, 50, 1), (6, 15, 0, 2), (6, 25, 55, 1), (6, 29, 1, 0), (6, 35, 0, 0)]
theorem mmA_32 : ∀ q ∈ mmL_32, MM q := List.forall_mem_cons.mpr ⟨mm_4_71, List.forall_mem_cons.mpr ⟨mm_4_75, List.forall_mem_cons.mpr ⟨mm_4_78, List.forall_mem_cons.mpr ⟨mm_5_21, List.forall_mem_cons.mpr ⟨mm_5_27, List.forall_mem_cons.mpr ⟨mm_5_31, List.forall_mem_cons.mpr ⟨mm_5_34, List.forall_mem_cons.mpr ⟨mm_5_40, List.forall_mem_cons.mpr ⟨mm_5_44, List.forall_mem_cons.mpr ⟨mm_5_48, List.forall_mem_cons.mpr ⟨mm_5_52, List.forall_mem_cons.mpr ⟨mm_5_56, List.forall_mem_cons.mpr ⟨mm_6_15, List.forall_mem_cons.mpr ⟨mm_6_25, List.forall_mem_cons.mpr ⟨mm_6_29, List.forall_mem_cons.mpr ⟨mm_6_35, fun _ h => absurd h List.not_mem_nil⟩⟩⟩⟩⟩⟩⟩⟩⟩⟩⟩⟩⟩⟩⟩⟩
def mmL_48 : List (Nat × Nat × Nat × Nat) := [(7, 26, 66, 1), (7, 37, 67, 1), (7, 40, 70, 1), (7, 44, 69, 1), (7, 47, 71, 1), (7, 51, 68, 1), (7, 55, 72, 1), (7, 59, 124, 0), (8, 50, 260, 0), (8, 63, 21, 1), (8, 67, 53, 1), (8, 70, 39, 1), (8, 73, 0, 2), (8, 79, 59, 1), (8, 83, 31, 1), (8, 92, 66, 1)]
theorem mmA_48 : ∀ q ∈ mmL_48, MM q := List.forall_mem_cons.mpr ⟨mm_7_26, List.forall_mem_cons.mpr ⟨mm_7_37, List.forall_mem_cons.mpr ⟨mm_7_40, List.forall_mem_cons.mpr ⟨mm_7_44, List.forall_mem_cons.mpr ⟨mm_7_47, List.forall_mem_cons.mpr ⟨mm_7_51, List.forall_mem_cons.mpr ⟨mm_7_55, List.forall_mem_cons.mpr ⟨mm_7_59, List.forall_mem_cons.mpr ⟨mm_8_50, List.forall_mem_cons.mpr ⟨mm_8_63, List.forall_mem_cons.mpr ⟨mm_8_67, List.forall_mem_cons.mpr ⟨mm_8_70, List.forall_mem_cons.mpr ⟨mm_8_73, List.forall_mem_cons.mpr ⟨mm_8_79, List.forall_mem_cons.mpr ⟨mm_8_83, List.forall_mem_cons.mpr ⟨mm_8_92, fun _ h => absurd h List.not_mem_nil⟩⟩⟩⟩⟩⟩⟩⟩⟩⟩⟩⟩⟩⟩⟩⟩
def mmL_64 : List (Nat × Nat × Nat × Nat) := [(8, 106, 78, 1), (8, 110, 79, 1), (8, 114, 40, 1), (8, 118, 33, 0), (8, 122, 32, 1), (8, 126, 60, 1), (8, 129, 24, 1), (8, 132, 76, 1), (8, 135, 57, 1), (9, 66, 73, 1), (9, 69, 6, 1), (9, 72, 17, 1), (9, 75, 125, 0), (9, 79, 124, 0), (9, 90, 76, 1), (9, 111, 135, 1)]
theorem mmA_64 : ∀ q ∈ mmL_64, MM q := List.forall_mem_cons.mpr ⟨mm_8_106, List.forall_mem_cons.mpr ⟨mm_8_110, List.forall_mem_cons.mpr ⟨mm_8_114, List.forall_mem_cons.mpr ⟨mm_8_118, List.forall_mem_cons.mpr ⟨mm_8_122, List.forall_mem_cons.mpr ⟨mm_8_126, List.forall_mem_cons.mpr ⟨mm_8_129, List.forall_mem_cons.mpr ⟨mm_8_132, List.forall_mem_cons.mpr ⟨mm_8_135, List.forall_mem_cons.mpr ⟨mm_9_66, List.forall_mem_cons.mpr ⟨mm_9_69, List.forall_mem_cons.mpr ⟨mm_9_72, List.forall_mem_cons.mpr ⟨mm_9_75, List.forall_mem_cons.mpr ⟨mm_9_79, List.forall_mem_cons.mpr ⟨mm_9_90, List.forall_mem_cons.mpr ⟨mm_9_111, fun _ h => absurd h List.not_mem_nil⟩⟩⟩⟩⟩⟩⟩⟩⟩⟩⟩⟩⟩⟩⟩⟩
def mmL_80 : List (Nat × Nat × Nat × Nat) := [(9, 114, 57, 1), (9, 118, 131, 1), (9, 122, 25, 1), (9, 125, 132, 1), (9, 128, 58, 1), (9, 131, 54, 1), (9, 135, 56, 1), (9, 139, 126, 0), (9, 148, 40, 1), (9, 154, 41, 1), (9, 158, 129, 0), (9, 175, 75, 1), (9, 183, 127, 0), (9, 188, 43, 1), (9, 192, 23, 1), (9, 200, 18, 1)]
theorem mmA_80 : ∀ q ∈ mmL_80, MM q := List.forall_mem_cons.mpr ⟨mm_9_114, List.forall_mem_cons.mpr ⟨mm_9_118, List.forall_mem_cons.mpr ⟨mm_9_122, List.forall_mem_cons.mpr ⟨mm_9_125, List.forall_mem_cons.mpr ⟨mm_9_128, List.forall_mem_cons.mpr ⟨mm_9_131, List.forall_mem_cons.mpr ⟨mm_9_135, List.forall_mem_cons.mpr ⟨mm_9_139, List.forall_mem_cons.mpr ⟨mm_9_148, List.forall_mem_cons.mpr ⟨mm_9_154, List.forall_mem_cons.mpr ⟨mm_9_158, List.forall_mem_cons.mpr ⟨mm_9_175, List.forall_mem_cons.mpr ⟨mm_9_183, List.forall_mem_cons.mpr ⟨mm_9_188, List.forall_mem_cons.mpr ⟨mm_9_192, List.forall_mem_cons.mpr ⟨mm_9_200, fun _ h => absurd h List.not_mem_nil⟩⟩⟩⟩⟩⟩⟩⟩⟩⟩⟩⟩⟩⟩⟩⟩
def mmL_96 : List (Nat × Nat × Nat × Nat) := [(9, 207, 133, 1), (9, 211, 22, 1), (9, 214, 130, 0), (9, 218, 27, 1), (9, 221, 34, 1), (9, 225, 28, 1), (9, 228, 29, 1), (9, 231, 30, 1), (9, 239, 128, 0), (9, 242, 31, 1), (9, 247, 19, 1), (9, 254, 46, 1), (9, 260, 42, 1), (9, 265, 44, 1), (9, 268, 48, 1), (9, 271, 134, 1)]
theorem mmA_96 : ∀ q ∈ mmL_96, MM q := List.forall_mem_cons.mpr ⟨mm_9_207, List.forall_mem_cons.mpr ⟨mm_9_211, List.forall_mem_cons.mpr ⟨mm_9_214, List.forall_mem_cons.mpr ⟨mm_9_218, List.forall_mem_cons.mpr ⟨mm_9_221, List.forall_mem_cons.mpr ⟨mm_9_225, List.forall_mem_cons.mpr ⟨mm_9_228, List.forall_mem_cons.mpr ⟨mm_9_231, List.forall_mem_cons.mpr ⟨mm_9_239, List.forall_mem_cons.mpr ⟨mm_9_242, List.forall_mem_cons.mpr ⟨mm_9_247, List.forall_mem_cons.mpr ⟨mm_9_254, List.forall_mem_cons.mpr ⟨mm_9_260, List.forall_mem_cons.mpr ⟨mm_9_265, List.forall_mem_cons.mpr ⟨mm_9_268, List.forall_mem_cons.mpr ⟨mm_9_271, fun _ h => absurd h List.not_mem_nil⟩⟩⟩⟩⟩⟩⟩⟩⟩⟩⟩⟩⟩⟩⟩⟩
def mmL_112 : List (Nat × Nat × Nat × Nat) := [(9, 274, 20, 1), (9, 287, 9, 1), (9, 290, 15, 1), (9, 293, 14, 1), (9, 296, 16, 1), (9, 299, 109, 1), (9, 302, 259, 0), (9, 319, 64, 1), (9, 323, 65, 1), (9, 331, 74, 1), (9, 334, 77, 1), (9, 344, 37, 1), (9, 355, 5, 1), (9, 375, 4, 1), (10, 62, 137, 1), (10, 75, 138, 0)]
theorem mmA_112 : ∀ q ∈ mmL_112, MM q := List.forall_mem_cons.mpr ⟨mm_9_274, List.forall_mem_cons.mpr ⟨mm_9_287, List.forall_mem_cons.mpr ⟨mm_9_290, List.forall_mem_cons.mpr ⟨mm_9_293, List.forall_mem_cons.mpr ⟨mm_9_296, List.forall_mem_cons.mpr ⟨mm_9_299, List.forall_mem_cons.mpr ⟨mm_9_302, List.forall_mem_cons.mpr ⟨mm_9_319, List.forall_mem_cons.mpr ⟨mm_9_323, List.forall_mem_cons.mpr ⟨mm_9_331, List.forall_mem_cons.mpr ⟨mm_9_334, List.forall_mem_cons.mpr ⟨mm_9_344, List.forall_mem_cons.mpr ⟨mm_9_355, List.forall_mem_cons.mpr ⟨mm_9_375, List.forall_mem_cons.mpr ⟨mm_10_62, List.forall_mem_cons.mpr ⟨mm_10_75, fun _ h => absurd h List.not_mem_nil⟩⟩⟩⟩⟩⟩⟩⟩⟩⟩⟩⟩⟩⟩⟩⟩
def mmL_128 : List (Nat × Nat × Nat × Nat) := [(10, 79, 146, 0), (10, 83, 0, 3), (10, 89, 0, 4), (10, 92, 147, 0), (10, 96, 148, 1), (10, 100, 150, 1), (10, 103, 149, 1), (10, 106, 153, 1), (10, 110, 0, 5), (10, 114, 143, 1), (10, 117, 157, 1), (10, 120, 158, 1), (10, 124, 159, 1), (10, 129, 160, 1), (10, 133, 161, 1), (10, 137, 164, 1)]
theorem mmA_128 : ∀ q ∈ mmL_128, MM q := List.forall_mem_cons.mpr ⟨mm_10_79, List.forall_mem_cons.mpr ⟨mm_10_83, List.forall_mem_cons.mpr ⟨mm_10_89, List.forall_mem_cons.mpr ⟨mm_10_92, List.forall_mem_cons.mpr ⟨mm_10_96, List.forall_mem_cons.mpr ⟨mm_10_100, List.forall_mem_cons.mpr ⟨mm_10_103, List.forall_mem_cons.mpr ⟨mm_10_106, List.forall_mem_cons.mpr ⟨mm_10_110, List.forall_mem_cons.mpr ⟨mm_10_114, List.forall_mem_cons.mpr ⟨mm_10_117, List.forall_mem_cons.mpr ⟨mm_10_120, List.forall_mem_cons.mpr ⟨mm_10_124, List.forall_mem_cons.mpr ⟨mm_10_129, List.forall_mem_cons.mpr ⟨mm_10_133, List.forall_mem_cons.mpr ⟨mm_10_137, fun _ h => absurd h List.not_mem_nil⟩⟩⟩⟩⟩⟩⟩⟩⟩⟩⟩⟩⟩⟩⟩⟩
def mmL_144 : List (Nat × Nat × Nat × Nat) := [(10, 140, 165, 1), (10, 143, 163, 1), (10, 146, 154, 1), (10, 149, 167, 1), (10, 152, 166, 1), (10, 155, 170, 1), (10, 158, 171, 1), (10, 161, 169, 1), (10, 164, 172, 1), (10, 167, 173, 1), (10, 170, 174, 1), (10, 173, 176, 1), (10, 176, 175, 1), (10, 179, 155, 1), (10, 183, 177, 1), (10, 186, 162, 1)]
theorem mmA_144 : ∀ q ∈ mmL_144, MM q := List.forall_mem_cons.mpr ⟨mm_10_140, List.forall_mem_cons.mpr ⟨mm_10_143, List.forall_mem_cons.mpr ⟨mm_10_146, List.forall_mem_cons.mpr ⟨mm_10_149, List.forall_mem_cons.mpr ⟨mm_10_152, List.forall_mem_cons.mpr ⟨mm_10_155, List.forall_mem_cons.mpr ⟨mm_10_158, List.forall_mem_cons.mpr ⟨mm_10_161, List.forall_mem_cons.mpr ⟨mm_10_164, List.forall_mem_cons.mpr ⟨mm_10_167, List.forall_mem_cons.mpr ⟨mm_10_170, List.forall_mem_cons.mpr ⟨mm_10_173, List.forall_mem_cons.mpr ⟨mm_10_176, List.forall_mem_cons.mpr ⟨mm_10_179, List.forall_mem_cons.mpr ⟨mm_10_183, List.forall_mem_cons.mpr ⟨mm_10_186, fun _ h => absurd h List.not_mem_nil⟩⟩⟩⟩⟩⟩⟩⟩⟩⟩⟩⟩⟩⟩⟩⟩
def mmL_160 : List (Nat × Nat × Nat × Nat) := [(10, 189, 156, 1), (10, 192, 168, 1), (10, 195, 178, 1), (10, 198, 183, 1), (10, 201, 184, 1), (10, 204, 182, 1), (10, 207, 185, 1), (10, 210, 181, 0), (10, 213, 186, 1), (10, 216, 145, 1), (10, 219, 187, 1), (10, 223, 140, 1), (10, 226, 141, 1), (10, 229, 192, 1), (10, 232, 142, 0), (10, 235, 139, 0)]
theorem mmA_160 : ∀ q ∈ mmL_160, MM q := List.forall_mem_cons.mpr ⟨mm_10_189, List.forall_mem_cons.mpr ⟨mm_10_192, List.forall_mem_cons.mpr ⟨mm_10_195, List.forall_mem_cons.mpr ⟨mm_10_198, List.forall_mem_cons.mpr ⟨mm_10_201, List.forall_mem_cons.mpr ⟨mm_10_204, List.forall_mem_cons.mpr ⟨mm_10_207, List.forall_mem_cons.mpr ⟨mm_10_210, List.forall_mem_cons.mpr ⟨mm_10_213, List.forall_mem_cons.mpr ⟨mm_10_216, List.forall_mem_cons.mpr ⟨mm_10_219, List.forall_mem_cons.mpr ⟨mm_10_223, List.forall_mem_cons.mpr ⟨mm_10_226, List.forall_mem_cons.mpr ⟨mm_10_229, List.forall_mem_cons.mpr ⟨mm_10_232, List.forall_mem_cons.mpr ⟨mm_10_235, fun _ h => absurd h List.not_mem_nil⟩⟩⟩⟩⟩⟩⟩⟩⟩⟩⟩⟩⟩⟩⟩⟩
def mmL_176 : List (Nat × Nat × Nat × Nat) := [(10, 238, 199, 1), (10, 241, 198, 1), (10, 244, 179, 1), (10, 247, 203, 1), (10, 250, 205, 1), (10, 253, 220, 1), (10, 256, 222, 1), (10, 259, 225, 1), (10, 262, 228, 1), (10, 265, 223, 0), (10, 274, 235, 1), (10, 281, 237, 1), (10, 284, 239, 1), (10, 287, 236, 1), (10, 290, 240, 1), (10, 294, 241, 1)]
theorem mmA_176 : ∀ q ∈ mmL_176, MM q := List.forall_mem_cons.mpr ⟨mm_10_238, List.forall_mem_cons.mpr ⟨mm_10_241, List.forall_mem_cons.mpr ⟨mm_10_244, List.forall_mem_cons.mpr ⟨mm_10_247, List.forall_mem_cons.mpr ⟨mm_10_250, List.forall_mem_cons.mpr ⟨mm_10_253, List.forall_mem_cons.mpr ⟨mm_10_256, List.forall_mem_cons.mpr ⟨mm_10_259, List.forall_mem_cons.mpr ⟨mm_10_262, List.forall_mem_cons.mpr ⟨mm_10_265, List.forall_mem_cons.mpr ⟨mm_10_274, List.forall_mem_cons.mpr ⟨mm_10_281, List.forall_mem_cons.mpr ⟨mm_10_284, List.forall_mem_cons.mpr ⟨mm_10_287, List.forall_mem_cons.mpr ⟨mm_10_290, List.forall_mem_cons.mpr ⟨mm_10_294, fun _ h => absurd h List.not_mem_nil⟩⟩⟩⟩⟩⟩⟩⟩⟩⟩⟩⟩⟩⟩⟩⟩
def mmL_192 : List (Nat × Nat × Nat × Nat) := [(10, 297, 238, 1), (10, 303, 242, 1), (10, 306, 248, 1), (10, 309, 245, 1), (10, 312, 246, 1), (10, 315, 151, 1), (10, 318, 152, 1), (10, 321, 247, 1), (10, 324, 244, 1), (10, 327, 243, 1), (10, 330, 144, 0), (10, 334, 249, 1), (10, 337, 251, 1), (10, 343, 253, 1), (10, 346, 254, 1), (11, 7, 81, 1)]
theorem mmA_192 : ∀ q ∈ mmL_192, MM q := List.forall_mem_cons.mpr ⟨mm_10_297, List.forall_mem_cons.mpr ⟨mm_10_303, List.forall_mem_cons.mpr ⟨mm_10_306, List.forall_mem_cons.mpr ⟨mm_10_309, List.forall_mem_cons.mpr ⟨mm_10_312, List.forall_mem_cons.mpr ⟨mm_10_315, List.forall_mem_cons.mpr ⟨mm_10_318, List.forall_mem_cons.mpr ⟨mm_10_321, List.forall_mem_cons.mpr ⟨mm_10_324, List.forall_mem_cons.mpr ⟨mm_10_327, List.forall_mem_cons.mpr ⟨mm_10_330, List.forall_mem_cons.mpr ⟨mm_10_334, List.forall_mem_cons.mpr ⟨mm_10_337, List.forall_mem_cons.mpr ⟨mm_10_343, List.forall_mem_cons.mpr ⟨mm_10_346, List.forall_mem_cons.mpr ⟨mm_11_7, fun _ h => absurd h List.not_mem_nil⟩⟩⟩⟩⟩⟩⟩⟩⟩⟩⟩⟩⟩⟩⟩⟩
def mmL_208 : List (Nat × Nat × Nat × Nat) := [(11, 19, 82, 1), (11, 25, 83, 1), (11, 28, 84, 1), (11, 32, 85, 1), (11, 36, 86, 1), (11, 39, 88, 1), (11, 43, 89, 1), (11, 46, 90, 1), (11, 49, 91, 1), (11, 52, 92, 1), (11, 55, 93, 1), (11, 59, 94, 1), (11, 62, 95, 1), (11, 65, 96, 1), (11, 68, 97, 1), (11, 71, 98, 1)]
theorem mmA_208 : ∀ q ∈ mmL_208, MM q := List.forall_mem_cons.mpr ⟨mm_11_19, List.forall_mem_cons.mpr ⟨mm_11_25, List.forall_mem_cons.mpr ⟨mm_11_28, List.forall_mem_cons.mpr ⟨mm_11_32, List.forall_mem_cons.mpr ⟨mm_11_36, List.forall_mem_cons.mpr ⟨mm_11_39, List.forall_mem_cons.mpr ⟨mm_11_43, List.forall_mem_cons.mpr ⟨mm_11_46, List.forall_mem_cons.mpr ⟨mm_11_49, List.forall_mem_cons.mpr ⟨mm_11_52, List.forall_mem_cons.mpr ⟨mm_11_55, List.forall_mem_cons.mpr ⟨mm_11_59, List.forall_mem_cons.mpr ⟨mm_11_62, List.forall_mem_cons.mpr ⟨mm_11_65, List.forall_mem_cons.mpr ⟨mm_11_68, List.forall_mem_cons.mpr ⟨mm_11_71, fun _ h => absurd h List.not_mem_nil⟩⟩⟩⟩⟩⟩⟩⟩⟩⟩⟩⟩⟩⟩⟩⟩
def mmL_224 : List (Nat × Nat × Nat × Nat) := [(11, 74, 99, 1), (11, 79, 100, 1), (11, 82, 101, 1), (11, 85, 102, 1), (11, 88, 103, 1), (11, 91, 104, 1), (11, 94, 105, 1), (11, 97, 106, 1), (11, 100, 107, 1), (11, 103, 108, 1), (11, 106, 109, 1), (11, 109, 110, 1), (11, 112, 111, 1), (11, 115, 112, 1), (11, 118, 113, 1), (11, 121, 114, 1)]
theorem mmA_224 : ∀ q ∈ mmL_224, MM q := List.forall_mem_cons.mpr ⟨mm_11_74, List.forall_mem_cons.mpr ⟨mm_11_79, List.forall_mem_cons.mpr ⟨mm_11_82, List.forall_mem_cons.mpr ⟨mm_11_85, List.forall_mem_cons.mpr ⟨mm_11_88, List.forall_mem_cons.mpr ⟨mm_11_91, List.forall_mem_cons.mpr ⟨mm_11_94, List.forall_mem_cons.mpr ⟨mm_11_97, List.forall_mem_cons.mpr ⟨mm_11_100, List.forall_mem_cons.mpr ⟨mm_11_103, List.forall_mem_cons.mpr ⟨mm_11_106, List.forall_mem_cons.mpr ⟨mm_11_109, List.forall_mem_cons.mpr ⟨mm_11_112, List.forall_mem_cons.mpr ⟨mm_11_115, List.forall_mem_cons.mpr ⟨mm_11_118, List.forall_mem_cons.mpr ⟨mm_11_121, fun _ h => absurd h List.not_mem_nil⟩⟩⟩⟩⟩⟩⟩⟩⟩⟩⟩⟩⟩⟩⟩⟩
def mmL_240 : List (Nat × Nat × Nat × Nat) := [(11, 124, 115, 1), (11, 130, 116, 1), (11, 133, 117, 1), (11, 137, 118, 1), (11, 141, 119, 1), (11, 144, 120, 1), (11, 147, 121, 1), (11, 150, 123, 1), (11, 157, 80, 1), (11, 160, 180, 1), (11, 161, 261, 0), (11, 166, 188, 1), (11, 167, 136, 1), (11, 170, 262, 0), (11, 173, 189, 1), (11, 174, 263, 0)]
theorem mmA_240 : ∀ q ∈ mmL_240, MM q := List.forall_mem_cons.mpr ⟨mm_11_124, List.forall_mem_cons.mpr ⟨mm_11_130, List.forall_mem_cons.mpr ⟨mm_11_133, List.forall_mem_cons.mpr ⟨mm_11_137, List.forall_mem_cons.mpr ⟨mm_11_141, List.forall_mem_cons.mpr ⟨mm_11_144, List.forall_mem_cons.mpr ⟨mm_11_147, List.forall_mem_cons.mpr ⟨mm_11_150, List.forall_mem_cons.mpr ⟨mm_11_157, List.forall_mem_cons.mpr ⟨mm_11_160, List.forall_mem_cons.mpr ⟨mm_11_161, List.forall_mem_cons.mpr ⟨mm_11_166, List.forall_mem_cons.mpr ⟨mm_11_167, List.forall_mem_cons.mpr ⟨mm_11_170, List.forall_mem_cons.mpr ⟨mm_11_173, List.forall_mem_cons.mpr ⟨mm_11_174, fun _ h => absurd h List.not_mem_nil⟩⟩⟩⟩⟩⟩⟩⟩⟩⟩⟩⟩⟩⟩⟩⟩
def mmL_256 : List (Nat × Nat × Nat × Nat) := [(11, 176, 190, 1), (11, 177, 264, 0), (11, 180, 191, 1), (11, 181, 265, 0), (11, 184, 193, 1), (11, 185, 266, 0), (11, 187, 194, 1), (11, 188, 87, 1), (11, 192, 195, 1), (11, 193, 267, 0), (11, 196, 196, 1), (11, 197, 268, 0), (11, 199, 197, 1), (11, 200, 269, 0), (11, 202, 200, 1), (11, 203, 270, 0)]
theorem mmA_256 : ∀ q ∈ mmL_256, MM q := List.forall_mem_cons.mpr ⟨mm_11_176, List.forall_mem_cons.mpr ⟨mm_11_177, List.forall_mem_cons.mpr ⟨mm_11_180, List.forall_mem_cons.mpr ⟨mm_11_181, List.forall_mem_cons.mpr ⟨mm_11_184, List.forall_mem_cons.mpr ⟨mm_11_185, List.forall_mem_cons.mpr ⟨mm_11_187, List.forall_mem_cons.mpr ⟨mm_11_188, List.forall_mem_cons.mpr ⟨mm_11_192, List.forall_mem_cons.mpr ⟨mm_11_193, List.forall_mem_cons.mpr ⟨mm_11_196, List.forall_mem_cons.mpr ⟨mm_11_197, List.forall_mem_cons.mpr ⟨mm_11_199, List.forall_mem_cons.mpr ⟨mm_11_200, List.forall_mem_cons.mpr ⟨mm_11_202, List.forall_mem_cons.mpr ⟨mm_11_203, fun _ h => absurd h List.not_mem_nil⟩⟩⟩⟩⟩⟩⟩⟩⟩⟩⟩⟩⟩⟩⟩⟩
def mmL_272 : List (Nat × Nat × Nat × Nat) := [(11, 205, 201, 1), (11, 206, 271, 0), (11, 208, 202, 1), (11, 209, 272, 0), (11, 212, 204, 1), (11, 213, 273, 0), (11, 215, 206, 1), (11, 216, 274, 0), (11, 218, 207, 1), (11, 219, 275, 0), (11, 221, 208, 1), (11, 222, 276, 0), (11, 224, 209, 1), (11, 225, 277, 0), (11, 227, 210, 1), (11, 228, 278, 0)]
theorem mmA_272 : ∀ q ∈ mmL_272, MM q := List.forall_mem_cons.mpr ⟨mm_11_205, List.forall_mem_cons.mpr ⟨mm_11_206, List.forall_mem_cons.mpr ⟨mm_11_208, List.forall_mem_cons.mpr ⟨mm_11_209, List.forall_mem_cons.mpr ⟨mm_11_212, List.forall_mem_cons.mpr ⟨mm_11_213, List.forall_mem_cons.mpr ⟨mm_11_215, List.forall_mem_cons.mpr ⟨mm_11_216, List.forall_mem_cons.mpr ⟨mm_11_218, List.forall_mem_cons.mpr ⟨mm_11_219, List.forall_mem_cons.mpr ⟨mm_11_221, List.forall_mem_cons.mpr ⟨mm_11_222, List.forall_mem_cons.mpr ⟨mm_11_224, List.forall_mem_cons.mpr ⟨mm_11_225, List.forall_mem_cons.mpr ⟨mm_11_227, List.forall_mem_cons.mpr ⟨mm_11_228, fun _ h => absurd h List.not_mem_nil⟩⟩⟩⟩⟩⟩⟩⟩⟩⟩⟩⟩⟩⟩⟩⟩
def mmL_288 : List (Nat × Nat × Nat × Nat) := [(11, 230, 211, 1), (11, 231, 279, 0), (11, 233, 212, 1), (11, 234, 280, 0), (11, 236, 213, 1), (11, 237, 281, 0), (11, 239, 214, 1), (11, 240, 282, 0), (11, 242, 215, 1), (11, 243, 283, 0), (11, 245, 216, 1), (11, 246, 284, 0), (11, 248, 217, 1), (11, 249, 285, 0), (11, 251, 218, 1), (11, 252, 286, 0)]
theorem mmA_288 : ∀ q ∈ mmL_288, MM q := List.forall_mem_cons.mpr ⟨mm_11_230, List.forall_mem_cons.mpr ⟨mm_11_231, List.forall_mem_cons.mpr ⟨mm_11_233, List.forall_mem_cons.mpr ⟨mm_11_234, List.forall_mem_cons.mpr ⟨mm_11_236, List.forall_mem_cons.mpr ⟨mm_11_237, List.forall_mem_cons.mpr ⟨mm_11_239, List.forall_mem_cons.mpr ⟨mm_11_240, List.forall_mem_cons.mpr ⟨mm_11_242, List.forall_mem_cons.mpr ⟨mm_11_243, List.forall_mem_cons.mpr ⟨mm_11_245, List.forall_mem_cons.mpr ⟨mm_11_246, List.forall_mem_cons.mpr ⟨mm_11_248, List.forall_mem_cons.mpr ⟨mm_11_249, List.forall_mem_cons.mpr ⟨mm_11_251, List.forall_mem_cons.mpr ⟨mm_11_252, fun _ h => absurd h List.not_mem_nil⟩⟩⟩⟩⟩⟩⟩⟩⟩⟩⟩⟩⟩⟩⟩⟩
def mmL_304 : List (Nat × Nat × Nat × Nat) := [(11, 254, 219, 1), (11, 255, 287, 0), (11, 257, 221, 1), (11, 258, 288, 0), (11, 260, 224, 1), (11, 261, 289, 0), (11, 263, 226, 1), (11, 264, 290, 0), (11, 266, 227, 1), (11, 267, 291, 0), (11, 269, 229, 1), (11, 270, 292, 0), (11, 272, 230, 1), (11, 273, 293, 0), (11, 275, 231, 1), (11, 276, 294, 0)]
theorem mmA_304 : ∀ q ∈ mmL_304, MM q := List.forall_mem_cons.mpr ⟨mm_11_254, List.forall_mem_cons.mpr ⟨mm_11_255, List.forall_mem_cons.mpr ⟨mm_11_257, List.forall_mem_cons.mpr ⟨mm_11_258, List.forall_mem_cons.mpr ⟨mm_11_260, List.forall_mem_cons.mpr ⟨mm_11_261, List.forall_mem_cons.mpr ⟨mm_11_263, List.forall_mem_cons.mpr ⟨mm_11_264, List.forall_mem_cons.mpr ⟨mm_11_266, List.forall_mem_cons.mpr ⟨mm_11_267, List.forall_mem_cons.mpr ⟨mm_11_269, List.forall_mem_cons.mpr ⟨mm_11_270, List.forall_mem_cons.mpr ⟨mm_11_272, List.forall_mem_cons.mpr ⟨mm_11_273, List.forall_mem_cons.mpr ⟨mm_11_275, List.forall_mem_cons.mpr ⟨mm_11_276, fun _ h => absurd h List.not_mem_nil⟩⟩⟩⟩⟩⟩⟩⟩⟩⟩⟩⟩⟩⟩⟩⟩
def mmL_320 : List (Nat × Nat × Nat × Nat) := [(11, 279, 232, 1), (11, 280, 295, 0), (11, 282, 233, 1), (11, 283, 296, 0), (11, 286, 234, 1), (11, 287, 297, 0), (11, 290, 250, 1), (11, 291, 298, 0), (11, 293, 252, 1), (11, 294, 299, 0), (11, 296, 255, 1), (11, 297, 300, 0), (11, 299, 256, 1), (11, 300, 122, 1), (11, 303, 257, 1), (11, 304, 301, 0)]
theorem mmA_320 : ∀ q ∈ mmL_320, MM q := List.forall_mem_cons.mpr ⟨mm_11_279, List.forall_mem_cons.mpr ⟨mm_11_280, List.forall_mem_cons.mpr ⟨mm_11_282, List.forall_mem_cons.mpr ⟨mm_11_283, List.forall_mem_cons.mpr ⟨mm_11_286, List.forall_mem_cons.mpr ⟨mm_11_287, List.forall_mem_cons.mpr ⟨mm_11_290, List.forall_mem_cons.mpr ⟨mm_11_291, List.forall_mem_cons.mpr ⟨mm_11_293, List.forall_mem_cons.mpr ⟨mm_11_294, List.forall_mem_cons.mpr ⟨mm_11_296, List.forall_mem_cons.mpr ⟨mm_11_297, List.forall_mem_cons.mpr ⟨mm_11_299, List.forall_mem_cons.mpr ⟨mm_11_300, List.forall_mem_cons.mpr ⟨mm_11_303, List.forall_mem_cons.mpr ⟨mm_11_304, fun _ h => absurd h List.not_mem_nil⟩⟩⟩⟩⟩⟩⟩⟩⟩⟩⟩⟩⟩⟩⟩⟩
def mmL_336 : List (Nat × Nat × Nat × Nat) := [(11, 306, 258, 1)]
theorem mmA_336 : ∀ q ∈ mmL_336, MM q := List.forall_mem_cons.mpr ⟨mm_11_306, fun _ h => absurd h List.not_mem_nil⟩
def mmL : List (Nat × Nat × Nat × Nat) := mmL_0 ++ (mmL_16 ++ (mmL_32 ++ (mmL_48 ++ (mmL_64 ++ (mmL_80 ++ (mmL_96 ++ (mmL_112 ++ (mmL_128 ++ (mmL_144 ++ (mmL_160 ++ (mmL_176 ++ (mmL_192 ++ (mmL_208 ++ (mmL_224 ++ (mmL_240 ++ (mmL_256 ++ (mmL_272 ++ (mmL_288 ++ (mmL_304 ++ (mmL_320 ++ (mmL_336)))))))))))))))))))))
theorem mm_all : ∀ q ∈ mmL, MM q := List.forall_mem_append.mpr ⟨mmA_0, List.forall_mem_append.mpr ⟨mmA_16, List.forall_mem_append.mpr ⟨mmA_32, List.forall_mem_append.mpr ⟨mmA_48, List.forall_mem_append.mpr ⟨mmA_64, List.forall_mem_append.mpr ⟨mmA_80, List.forall_mem_append.mpr ⟨mmA_96, List.forall_mem_append.mpr ⟨mmA_112, List.forall_mem_append.mpr ⟨mmA_128, List.forall_mem_append.mpr ⟨mmA_144, List.forall_mem_append.mpr ⟨mmA_160, List.forall_mem_append.mpr ⟨mmA_176, List.forall_mem_append.mpr ⟨mmA_192, List.forall_mem_append.mpr ⟨mmA_208, List.forall_mem_append.mpr ⟨mmA_224, List.forall_mem_append.mpr ⟨mmA_240, List.forall_mem_append.mpr ⟨mmA_256, List.forall_mem_append.mpr ⟨mmA_272, List.forall_mem_append.mpr ⟨mmA_288, List.forall_mem_append.mpr ⟨mmA_304, List.forall_mem_append.mpr ⟨mmA_320, mmA_336⟩⟩⟩⟩⟩⟩⟩⟩⟩⟩⟩⟩⟩⟩⟩⟩⟩⟩⟩⟩⟩
theorem mth_chk : ((List.range 16).all fun c => (List.range 512).all fun k => match mth c k with
    | none => true
    | some (z, d) => decide ((c, k, z, d) ∈ mmL)) = true := by decide +kernel
theorem mth_ok {c k z d : Nat} (h : mth c k = some (z, d)) : MM (c, k, z, d) := by
  have hb : Nat.blt c 16 = true ∧ Nat.blt k 512 = true := by
    unfold mth at h
    cases h1 : Nat.blt c 16 <;> cases h2 : Nat.blt k 512 <;> rw [h1, h2] at h <;> first | (cases h; done) | exact ⟨rfl, rfl⟩
  have hc : c < 16 := Nat.blt_eq.mp hb.1
  have hk : k < 512 := Nat.blt_eq.mp hb.2
  have h1 := List.all_eq_true.mp (List.all_eq_true.mp mth_chk c (List.mem_range.mpr hc)) k (List.mem_range.mpr hk)
  rw [h] at h1
  exact mm_all _ (of_decide_eq_true h1)
def KN (q : Nat × Nat × Int) : Prop := Jvm.Cond.constant (ownN q.1) q.2.1 (Int32.ofInt q.2.2) ∈ gw ∧ -2147483648 ≤ q.2.2 ∧ q.2.2 < 2147483648
theorem kn_10_128 : KN (10, 128, 1000000000) := ⟨gw_at (k := 6) (i := 237) rfl rfl, by decide, by decide⟩
theorem kn_12_265 : KN (12, 265, 1431655765) := ⟨gw_at (k := 5) (i := 69) rfl rfl, by decide, by decide⟩
theorem kn_12_266 : KN (12, 266, 858993459) := ⟨gw_at (k := 5) (i := 70) rfl rfl, by decide, by decide⟩
theorem kn_12_267 : KN (12, 267, 252645135) := ⟨gw_at (k := 5) (i := 71) rfl rfl, by decide, by decide⟩
def knL_0 : List (Nat × Nat × Int) := [(10, 128, 1000000000), (12, 265, 1431655765), (12, 266, 858993459), (12, 267, 252645135)]
theorem knA_0 : ∀ q ∈ knL_0, KN q := List.forall_mem_cons.mpr ⟨kn_10_128, List.forall_mem_cons.mpr ⟨kn_12_265, List.forall_mem_cons.mpr ⟨kn_12_266, List.forall_mem_cons.mpr ⟨kn_12_267, fun _ h => absurd h List.not_mem_nil⟩⟩⟩⟩
def knL : List (Nat × Nat × Int) := knL_0
theorem kn_all : ∀ q ∈ knL, KN q := knA_0
theorem kon_chk : ((List.range 16).all fun c => (List.range 512).all fun k => match kon c k with
    | none => true
    | some v => decide ((c, k, v) ∈ knL)) = true := by decide +kernel
theorem kon_ok {c k : Nat} {v : Int} (h : kon c k = some v) : KN (c, k, v) := by
  have hb : Nat.blt c 16 = true ∧ Nat.blt k 512 = true := by
    unfold kon at h
    cases h1 : Nat.blt c 16 <;> cases h2 : Nat.blt k 512 <;> rw [h1, h2] at h <;> first | (cases h; done) | exact ⟨rfl, rfl⟩
  have hc : c < 16 := Nat.blt_eq.mp hb.1
  have hk : k < 512 := Nat.blt_eq.mp hb.2
  have h1 := List.all_eq_true.mp (List.all_eq_true.mp kon_chk c (List.mem_range.mpr hc)) k (List.mem_range.mpr hk)
  rw [h] at h1
  exact kn_all _ (of_decide_eq_true h1)
theorem ac_nat : Jvm.Cond.native arraycopyName ∈ gw := gw_at (k := 2) (i := 68) rfl rfl
theorem ac_st : Jvm.Cond.static arraycopyName ∈ gw := gw_at (k := 2) (i := 67) rfl rfl
theorem ac_in : Jvm.Cond.initialized "java/lang/System" ∈ gw := gw_at (k := 1) (i := 19) rfl rfl
theorem ma_in : Jvm.Cond.initialized "java/lang/Math" ∈ gw := gw_at (k := 1) (i := 20) rfl rfl
theorem ma_min_st : Jvm.Cond.static Lib.Math.min.name ∈ gw := gw_at (k := 2) (i := 81) rfl rfl
theorem ma_min_cd : Jvm.Cond.code Lib.Math.min.name Lib.Math.min.code 2 (some .int) ∈ gw := gw_at (k := 2) (i := 82) rfl rfl
theorem ma_max_st : Jvm.Cond.static Lib.Math.max.name ∈ gw := gw_at (k := 6) (i := 117) rfl rfl
theorem ma_max_cd : Jvm.Cond.code Lib.Math.max.name Lib.Math.max.code 2 (some .int) ∈ gw := gw_at (k := 6) (i := 118) rfl rfl
theorem ma_abs_st : Jvm.Cond.static Lib.Math.abs.name ∈ gw := gw_at (k := 4) (i := 39) rfl rfl
theorem ma_abs_cd : Jvm.Cond.code Lib.Math.abs.name Lib.Math.abs.code 1 (some .int) ∈ gw := gw_at (k := 4) (i := 40) rfl rfl
theorem gst_chk : ((List.range 16).all fun c => (List.range 512).all fun k => match gst c k with
    | none => true
    | some t => decide ((c, k, t) ∈ [(8, 56, 46), (9, 170, 45)])) = true := by decide +kernel
theorem gst_ok {c k t : Nat} (h : gst c k = some t) : (c, k, t) ∈ [(8, 56, 46), (9, 170, 45)] := by
  have hb : Nat.blt c 16 = true ∧ Nat.blt k 512 = true := by
    unfold gst at h
    cases h1 : Nat.blt c 16 <;> cases h2 : Nat.blt k 512 <;> rw [h1, h2] at h <;> first | (cases h; done) | exact ⟨rfl, rfl⟩
  have hc : c < 16 := Nat.blt_eq.mp hb.1
  have hk : k < 512 := Nat.blt_eq.mp hb.2
  have h1 := List.all_eq_true.mp (List.all_eq_true.mp gst_chk c (List.mem_range.mpr hc)) k (List.mem_range.mpr hk)
  rw [h] at h1
  exact of_decide_eq_true h1
theorem gst_lim : Jvm.Cond.fieldLink (ownN 9) 170 "MapGeneralizer" "SETTING_LIMITS" "[I" ∈ gw := gw_at (k := 3) (i := 116) rfl rfl
