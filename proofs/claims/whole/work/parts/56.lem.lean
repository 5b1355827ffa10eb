def strs : List (String × Nat × String) := [("MapGeneralizer", 85, "a number of the point is out of range"), ("MapGeneralizer", 96, "a point or a line is there"), ("MapGeneralizer", 108, "there are 12 points"), ("MapGeneralizer", 129, "the corner is out of range"), ("MapGeneralizer", 142, "the rectangle or the parcel is out of range"), ("MapGeneralizer", 161, "the class is out of range"), ("MapGeneralizer", 173, "the level, the setting or its value is out of range"), ("MapGeneralizer", 178, "the value does not fit between the levels beside"), ("MapGeneralizer", 186, "the setting is out of range"), ("MapGeneralizer", 196, "there is no such count"), ("MapGeneralizer", 198, "a point has no such number"), ("MapGeneralizer", 236, "no line loses a vertex"), ("MapGeneralizer", 245, "the column or the row is out of range"), ("MapGeneralizer", 263, "the parcel has no field on level 0"), ("MapGeneralizer", 283, "the position is out of range"), ("MapGeneralizer", 285, "the point is not shown"), ("MapGeneralizer", 309, "no point is shown"), ("MapGeneralizer", 312, "the character code is out of range"), ("MapGeneralizer", 317, "the input has 60 characters"), ("MapGeneralizer", 329, "the input is not a text"), ("MapGeneralizer", 338, "a line cannot be added"), ("MapGeneralizer", 340, "there is no room for a line, or a point cannot be added"), ("MapGeneralizer", 342, "no error position was kept"), ("MapGeneralizer", 348, "there is no such character"), ("MapGeneralizer", 353, "no change is remembered"), ("MapGeneralizer", 358, "nothing was saved"), ("MapGeneralizer", 360, "the level is out of range"), ("MapGeneralizer", 362, "a coordinate is out of range"), ("MapGeneralizer", 366, "there is no such parcel"), ("MapGeneralizer", 369, "there is no such vertex"), ("MapGeneralizer", 371, "there is no such line"), ("MapGeneralizer", 373, "there is no such point")]
/-! ===== locals ===== -/
theorem i8_32 {v : Int} (h1 : -128 ≤ v) (h2 : v < 128) : (Int8.ofInt v).toInt32 = i32 v := by
  apply Int32.toInt_inj.mp
  rw [Int8.toInt_toInt32, Int8.toInt_ofInt_of_le h1 h2, i32_toInt ⟨by omega, by omega⟩]
theorem i16_32 {v : Int} (h1 : -32768 ≤ v) (h2 : v < 32768) : (Int16.ofInt v).toInt32 = i32 v := by
  apply Int32.toInt_inj.mp
  rw [Int16.toInt_toInt32, Int16.toInt_ofInt_of_le h1 h2, i32_toInt ⟨by omega, by omega⟩]
theorem lget_set_same : ∀ (ls : Lcs) (j : Nat) (v : Option AV), j < ls.length → lget (lset ls j v) j = v
  | [], j, v, h => absurd h (Nat.not_lt_zero j)
  | _ :: l, 0, v, _ => rfl
  | _ :: l, j + 1, v, h => lget_set_same l j v (Nat.lt_of_succ_lt_succ h)
theorem lget_set_ne : ∀ (ls : Lcs) (j k : Nat) (v : Option AV), k ≠ j → lget (lset ls j v) k = lget ls k
  | [], j, k, v, h => by cases k <;> rfl
  | a :: l, 0, 0, v, h => absurd rfl h
  | a :: l, 0, k + 1, v, h => rfl
  | a :: l, j + 1, 0, v, h => rfl
  | a :: l, j + 1, k + 1, v, h => lget_set_ne l j k v (fun e => h (congrArg (· + 1) e))
theorem lset_length : ∀ (ls : Lcs) (j : Nat) (v : Option AV), (lset ls j v).length = ls.length
  | [], j, v => rfl
  | a :: l, 0, v => rfl
  | a :: l, j + 1, v => congrArg (· + 1) (lset_length l j v)
theorem lget_lt : ∀ {ls : Lcs} {j : Nat} {v : AV}, lget ls j = some v → j < ls.length
  | [], j, v, h => by cases j <;> cases h
  | a :: l, 0, v, h => Nat.zero_lt_succ _
  | a :: l, j + 1, v, h => Nat.succ_lt_succ (lget_lt (ls := l) h)
theorem okL_set {cs : CS} {ls : Lcs} {j : Nat} {v : AV} (h : okL cs ls) (hv : okV cs v) : okL cs (lset ls j (some v)) := by
  intro k w hw
  by_cases hk : k = j
  · subst hk
    by_cases hl : k < ls.length
    · rw [lget_set_same ls k _ hl] at hw
      cases hw
      exact hv
    · exact absurd (by rw [← lset_length ls k (some v)]; exact lget_lt hw) hl
  · rw [lget_set_ne ls j k _ hk] at hw
    exact h k w hw
theorem okL_none {cs : CS} {ls : Lcs} {j : Nat} (h : okL cs ls) : okL cs (lset ls j none) := by
  intro k w hw
  by_cases hk : k = j
  · subst hk
    by_cases hl : k < ls.length
    · rw [lget_set_same ls k _ hl] at hw
      cases hw
    · exact absurd (by rw [← lset_length ls k none]; exact lget_lt hw) hl
  · rw [lget_set_ne ls j k _ hk] at hw
    exact h k w hw
theorem msk_lget : ∀ (m : List Bool) (ls : Lcs) (j : Nat) (v : AV), lget (msk m ls) j = some v → lget ls j = some v
  | [], ls, j, v, h => by cases j <;> cases h
  | b :: m, [], j, v, h => by cases j <;> cases h
  | b :: m, a :: l, 0, v, h => by
    cases b
    · cases h
    · exact h
  | b :: m, a :: l, j + 1, v, h => msk_lget m l j v h
def Rl (ad : Nat → Int → Nat) (y : Nat) (ls : Lcs) (lsC : Array Slot) : Prop := lv_has lsC (mlc y) [] ∧ ls.length ≤ mlc y ∧ ∀ j v, lget ls j = some v → lsC[j]? = some (.val (cv ad v))
def lvl (ad : Nat → Int → Nat) : Nat → Lcs → List (Nat × Value)
  | _, [] => []
  | k, none :: l => lvl ad (k + 1) l
  | k, some v :: l => (k, cv ad v) :: lvl ad (k + 1) l
theorem lvl_mem {ad : Nat → Int → Nat} : ∀ {ls : Lcs} {k : Nat} {q : Nat × Value}, q ∈ lvl ad k ls → ∃ j v, lget ls j = some v ∧ q = (k + j, cv ad v)
  | [], k, q, h => absurd h List.not_mem_nil
  | none :: l, k, q, h => by
    obtain ⟨j, v, h1, h2⟩ := lvl_mem (ls := l) (k := k + 1) h
    exact ⟨j + 1, v, h1, by rw [h2]; congr 1; omega⟩
  | some v :: l, k, q, h => by
    rcases List.mem_cons.mp h with h | h
    · exact ⟨0, v, rfl, h⟩
    · obtain ⟨j, v, h1, h2⟩ := lvl_mem (ls := l) (k := k + 1) h
      exact ⟨j + 1, v, h1, by rw [h2]; congr 1; omega⟩
theorem lvl_in {ad : Nat → Int → Nat} : ∀ {ls : Lcs} {k j : Nat} {v : AV}, lget ls j = some v → (k + j, cv ad v) ∈ lvl ad k ls
  | [], k, j, v, h => by cases j <;> cases h
  | none :: l, k, 0, v, h => by cases h
  | some w :: l, k, 0, v, h => by cases h; exact List.mem_cons_self
  | none :: l, k, j + 1, v, h => by
    have h1 := lvl_in (ad := ad) (ls := l) (k := k + 1) (j := j) (v := v) h
    rw [show k + (j + 1) = k + 1 + j by omega]
    exact h1
  | some w :: l, k, j + 1, v, h => by
    have h1 := lvl_in (ad := ad) (ls := l) (k := k + 1) (j := j) (v := v) h
    rw [show k + (j + 1) = k + 1 + j by omega]
    exact List.mem_cons_of_mem _ h1
theorem rl_has {ad : Nat → Int → Nat} {y : Nat} {ls : Lcs} {lsC : Array Slot} (h : Rl ad y ls lsC) : lv_has lsC (mlc y) (lvl ad 0 ls) := by
  refine ⟨h.1.1, h.1.2.1, fun q hq => ?_⟩
  obtain ⟨j, v, h1, rfl⟩ := lvl_mem hq
  rw [Nat.zero_add]
  exact h.2.2 j v h1
theorem lvl_at {ad : Nat → Int → Nat} {ls : Lcs} {j : Nat} {v : AV} (h : lget ls j = some v) : ∃ q : Nat, (lvl ad 0 ls)[q]? = some (j, cv ad v) := by
  have h1 := lvl_in (ad := ad) (k := 0) h
  rw [Nat.zero_add] at h1
  exact List.getElem?_of_mem h1
theorem ok1_cat {ls : Lcs} {j k : Nat} {v : AV} (h : ok1 ls j = true) (hk : k + 1 = j) (hv : lget ls k = some v) : avc v = 1 := by
  subst hk
  unfold ok1 at h
  simp only [hv] at h
  exact Nat.eq_of_beq_eq_true h
theorem rl_set {ad : Nat → Int → Nat} {y : Nat} {ls : Lcs} {lsC lsC' : Array Slot} {j : Nat} {v : AV} (h : Rl ad y ls lsC) (hj : Nat.blt j ls.length = true) (ho : ok1 ls j = true)
    (h' : lv_has lsC' (mlc y) ((j, cv ad v) :: (lvl ad 0 ls).filter (fun q => !(q.1 == j) && !(q.1 + 1 == j && q.2.category == 2)))) : Rl ad y (lset ls j (some v)) lsC' := by
  have hl : j < ls.length := Nat.blt_eq.mp hj
  refine ⟨⟨h'.1, h'.2.1, fun q hq => absurd hq List.not_mem_nil⟩, by rw [lset_length]; exact h.2.1, fun k w hw => ?_⟩
  by_cases hk : k = j
  · subst hk
    rw [lget_set_same ls k _ hl] at hw
    cases hw
    exact h'.2.2 (k, cv ad v) List.mem_cons_self
  · rw [lget_set_ne ls j k _ hk] at hw
    refine h'.2.2 (k, cv ad w) (List.mem_cons_of_mem _ (List.mem_filter.mpr ⟨?_, ?_⟩))
    · have h1 := lvl_in (ad := ad) (k := 0) hw
      rwa [Nat.zero_add] at h1
    · simp only [Bool.and_eq_true, Bool.not_eq_true', beq_eq_false_iff_ne, Bool.and_eq_false_iff]
      refine ⟨hk, ?_⟩
      by_cases hk1 : k + 1 = j
      · right
        rw [cv_cat, ok1_cat ho hk1 hw]
        decide
      · left
        exact hk1
theorem rl_set2 {ad : Nat → Int → Nat} {y : Nat} {ls : Lcs} {lsC lsC' : Array Slot} {j : Nat} {v : AV} (h : Rl ad y ls lsC) (hj : Nat.blt (j + 1) ls.length = true) (ho : ok1 ls j = true)
    (h' : lv_has lsC' (mlc y) ((j, cv ad v) :: (lvl ad 0 ls).filter (fun q => !(q.1 == j) && (!(q.1 == j + 1) && !(q.1 + 1 == j && q.2.category == 2))))) : Rl ad y (lset (lset ls j (some v)) (j + 1) none) lsC' := by
  have hl : j + 1 < ls.length := Nat.blt_eq.mp hj
  refine ⟨⟨h'.1, h'.2.1, fun q hq => absurd hq List.not_mem_nil⟩, by rw [lset_length, lset_length]; exact h.2.1, fun k w hw => ?_⟩
  by_cases hk2 : k = j + 1
  · subst hk2
    rw [lget_set_same _ _ _ (by rw [lset_length]; exact hl)] at hw
    cases hw
  · rw [lget_set_ne _ _ _ _ hk2] at hw
    by_cases hk : k = j
    · subst hk
      rw [lget_set_same ls k _ (by omega)] at hw
      cases hw
      exact h'.2.2 (k, cv ad v) List.mem_cons_self
    · rw [lget_set_ne ls j k _ hk] at hw
      refine h'.2.2 (k, cv ad w) (List.mem_cons_of_mem _ (List.mem_filter.mpr ⟨?_, ?_⟩))
      · have h1 := lvl_in (ad := ad) (k := 0) hw
        rwa [Nat.zero_add] at h1
      · simp only [Bool.and_eq_true, Bool.not_eq_true', beq_eq_false_iff_ne, Bool.and_eq_false_iff]
        refine ⟨hk, hk2, ?_⟩
        by_cases hk1 : k + 1 = j
        · right
          rw [cv_cat, ok1_cat ho hk1 hw]
          decide
        · left
          exact hk1
/-- a local forgotten -/
theorem rl_drop {ad : Nat → Int → Nat} {y : Nat} {ls : Lcs} {lsC lsC' : Array Slot} {j : Nat} {v : Value} (h : Rl ad y ls lsC) (hj : Nat.blt j ls.length = true) (ho : ok1 ls j = true)
    (h' : lv_has lsC' (mlc y) ((j, v) :: (lvl ad 0 ls).filter (fun q => !(q.1 == j) && !(q.1 + 1 == j && q.2.category == 2)))) : Rl ad y (lset ls j none) lsC' := by
  have hl : j < ls.length := Nat.blt_eq.mp hj
  refine ⟨⟨h'.1, h'.2.1, fun q hq => absurd hq List.not_mem_nil⟩, by rw [lset_length]; exact h.2.1, fun k w hw => ?_⟩
  by_cases hk : k = j
  · subst hk
    rw [lget_set_same ls k _ hl] at hw
    cases hw
  · rw [lget_set_ne ls j k _ hk] at hw
    refine h'.2.2 (k, cv ad w) (List.mem_cons_of_mem _ (List.mem_filter.mpr ⟨?_, ?_⟩))
    · have h1 := lvl_in (ad := ad) (k := 0) hw
      rwa [Nat.zero_add] at h1
    · simp only [Bool.and_eq_true, Bool.not_eq_true', beq_eq_false_iff_ne, Bool.and_eq_false_iff]
      refine ⟨hk, ?_⟩
      by_cases hk1 : k + 1 = j
      · right
        rw [cv_cat, ok1_cat ho hk1 hw]
        decide
      · left
        exact hk1
