/-! ===== read: a line is added; the map after it ===== -/
theorem anyB_or {f g : Nat → Bool} : ∀ (n a : Nat), anyB a n (fun i => f i || g i) = (anyB a n f || anyB a n g)
  | 0, a => rfl
  | n + 1, a => by
    unfold anyB
    rw [anyB_or n (a + 1)]
    show ((f a || g a) || (anyB (a + 1) n f || anyB (a + 1) n g)) = _
    cases f a <;> cases g a <;> cases anyB (a + 1) n f <;> rfl
theorem anyB_swap {f : Nat → Nat → Bool} {n m a b : Nat} : anyB a n (fun i => anyB b m fun j => f i j) = anyB b m fun j => anyB a n fun i => f i j := by
  have h : anyB a n (fun i => anyB b m fun j => f i j) = true ↔ anyB b m (fun j => anyB a n fun i => f i j) = true := by
    rw [anyB_true, anyB_true]
    constructor
    · rintro ⟨i, h1, h2, h3⟩
      obtain ⟨j, h4, h5, h6⟩ := anyB_true.mp h3
      exact ⟨j, h4, h5, anyB_true.mpr ⟨i, h1, h2, h6⟩⟩
    · rintro ⟨j, h1, h2, h3⟩
      obtain ⟨i, h4, h5, h6⟩ := anyB_true.mp h3
      exact ⟨i, h4, h5, anyB_true.mpr ⟨j, h1, h2, h6⟩⟩
  exact Bool.eq_iff_iff.mpr h
/-- two vertices in a row are the same -/
def samB (n : Nat) (V : Nat → Int) : Bool := anyB 0 (n - 1) fun i => decide (V i = V (i + 1))
def twI (n : Nat) (V : Nat → Int) (i : Nat) : Bool := (decide (i + 2 < n) && fold (V i) (V (i + 1)) (V (i + 2))) || anyB (i + 2) (n - 1 - (i + 2)) fun j => mtS (V i) (V (i + 1)) (V j) (V (j + 1))
/-- a row of codes is not simple -/
def twB (n : Nat) (V : Nat → Int) : Bool := anyB 0 (n - 1) (twI n V)
/-- it meets a line -/
def meB (nl : Nat) (sz : Nat → Nat) (cd : Nat → Nat → Int) (n : Nat) (V : Nat → Int) : Bool := anyB 0 (n - 1) fun i => anyB 0 nl fun l => anyB 0 (sz l - 1) fun k => mtS (V i) (V (i + 1)) (cd l k) (cd l (k + 1))
/-- a point is on it -/
def poB (np : Nat) (pt : Nat → Nat → Int) (n : Nat) (V : Nat → Int) : Bool := anyB 0 (n - 1) fun i => anyB 0 np fun p => onS (V i) (V (i + 1)) (pco pt p)
def wrL (s : Nat → Int) (n : Nat) (V : Nat → Int) : Bool := (samB n V || twB n V) || (meB (mNl s) (mSz s) (mCd s) n V || poB (mNp s) (mPt s) n V)
theorem sq_pos {x : Int} (h : x ≠ 0) : 0 < x * x := by
  rcases Int.lt_or_gt_of_ne h with c | c
  · exact Int.mul_pos_of_neg_of_neg c c
  · exact Int.mul_pos c c
theorem sq_nn (x : Int) : 0 ≤ x * x := by
  by_cases h : x = 0
  · rw [h]
    decide
  · exact Int.le_of_lt (sq_pos h)
theorem fold_aba {a b : Int} (h : a ≠ b) : fold a b a = true := by
  unfold fold crs
  have e : (b / 64 - a / 64) * (a % 64 - a % 64) - (b % 64 - a % 64) * (a / 64 - a / 64) = 0 := by
    rw [Int.sub_self, Int.sub_self, Int.mul_zero, Int.mul_zero, Int.sub_self]
  have p : 0 < (a / 64 - b / 64) * (a / 64 - b / 64) + (a % 64 - b % 64) * (a % 64 - b % 64) := by
    have h1 := sq_nn (a / 64 - b / 64)
    have h2 := sq_nn (a % 64 - b % 64)
    by_cases c : a / 64 - b / 64 = 0
    · have c2 : a % 64 - b % 64 ≠ 0 := fun z => h (by
        clear h1 h2 e
        omega)
      have h3 := sq_pos c2
      clear e c c2
      omega
    · have h3 := sq_pos c
      clear e c
      omega
  rw [decide_eq_true e, decide_eq_true p]
  rfl
theorem mt_abca (a b c : Int) : mtS a b c a = true := by
  unfold mtS
  have e1 : crs a b a = 0 := by
    unfold crs
    rw [Int.sub_self, Int.sub_self, Int.mul_zero, Int.mul_zero, Int.sub_self]
  have e2 : crs c a a = 0 := by
    unfold crs
    rw [Int.mul_comm, Int.sub_self]
  have e3 : ¬ ((a < c ∧ b < c ∧ a < a ∧ b < a) ∨ (c < a ∧ a < a ∧ c < b ∧ a < b)) := by
    clear e1 e2
    omega
  rw [e1, e2, Int.mul_zero, Int.zero_mul, decide_eq_false e3]
  rfl
/-- a simple row's vertices are different -/
theorem sim_ne {n : Nat} {V : Nat → Int} (h1 : samB n V = false) (h2 : twB n V = false) (j k : Nat) (hj : j < k) (hk : k < n) : V j ≠ V k := by
  have a1 : ∀ i : Nat, i + 1 < n → V i ≠ V (i + 1) := fun i hi => of_decide_eq_false (anyB_false.mp h1 i (Nat.zero_le _) (by omega))
  have a2 : ∀ i : Nat, i + 1 < n → twI n V i = false := fun i hi => anyB_false.mp h2 i (Nat.zero_le _) (by omega)
  by_cases c1 : k = j + 1
  · rw [c1]
    exact a1 j (by omega)
  · have t := a2 j (by omega)
    unfold twI at t
    rw [Bool.or_eq_false_iff] at t
    by_cases c2 : k = j + 2
    · intro e
      have t1 := t.1
      rw [decide_eq_true (show j + 2 < n by omega), Bool.true_and, ← c2, ← e, fold_aba (a1 j (by omega))] at t1
      cases t1
    · intro e
      have t2 := anyB_false.mp t.2 (k - 1) (by omega) (by omega)
      rw [show k - 1 + 1 = k by omega, ← e, mt_abca] at t2
      cases t2
/-- the map with one more line -/
def alS (s : Nat → Int) (n : Nat) (V : Nat → Int) : Nat → Int := fun j =>
  if j = 0 then s 0 + 1 else if j = 1 + mNl s then (n : Int)
  else if 7 + 10 * mNl s ≤ j ∧ j < 7 + 10 * mNl s + n then V (j - (7 + 10 * mNl s)) / 64
  else if 67 + 10 * mNl s ≤ j ∧ j < 67 + 10 * mNl s + n then V (j - (67 + 10 * mNl s)) % 64 else s j
section AL
variable {s : Nat → Int} {n : Nat} {V : Nat → Int}
theorem al_hi (h6 : mNl s < 6) (hn : n ≤ 10) {j : Nat} (hj : 127 ≤ j) : alS s n V j = s j := by
  unfold alS
  rw [if_neg (by omega), if_neg (by omega), if_neg (by omega), if_neg (by omega)]
theorem al_nl (hs : okM s) : mNl (alS s n V) = mNl s + 1 := by
  have h := mNl_c hs
  have e : alS s n V 0 = s 0 + 1 := if_pos rfl
  show (alS s n V 0).toNat = _
  rw [e, h]
  omega
theorem al_sz {l : Nat} (h6 : mNl s < 6) (hl : l < mNl s + 1) : mSz (alS s n V) l = if l = mNl s then n else mSz s l := by
  unfold mSz alS
  by_cases z : l = mNl s
  · rw [if_pos z, if_neg (by omega), if_pos (by omega)]
    exact Int.toNat_natCast n
  · rw [if_neg z, if_neg (by omega), if_neg (by omega), if_neg (by omega), if_neg (by omega)]
theorem al_x {l k : Nat} (h6 : mNl s < 6) (hn : n ≤ 10) (hl : l < mNl s + 1) (hk : k < 10) : alS s n V (7 + 10 * l + k) = if l = mNl s ∧ k < n then V k / 64 else s (7 + 10 * l + k) := by
  unfold alS
  by_cases z : l = mNl s ∧ k < n
  · rw [if_pos z, if_neg (by omega), if_neg (by omega), if_pos (by omega), show 7 + 10 * l + k - (7 + 10 * mNl s) = k by omega]
  · rw [if_neg z, if_neg (by omega), if_neg (by omega), if_neg (by omega), if_neg (by omega)]
theorem al_y {l k : Nat} (h6 : mNl s < 6) (hn : n ≤ 10) (hl : l < mNl s + 1) (hk : k < 10) : alS s n V (67 + 10 * l + k) = if l = mNl s ∧ k < n then V k % 64 else s (67 + 10 * l + k) := by
  unfold alS
  by_cases z : l = mNl s ∧ k < n
  · rw [if_pos z, if_neg (by omega), if_neg (by omega), if_neg (by omega), if_pos (by omega), show 67 + 10 * l + k - (67 + 10 * mNl s) = k by omega]
  · rw [if_neg z, if_neg (by omega), if_neg (by omega), if_neg (by omega), if_neg (by omega)]
theorem al_cd {l k : Nat} (h6 : mNl s < 6) (hn : n ≤ 10) (hl : l < mNl s + 1) (hk : k < 10) : mCd (alS s n V) l k = if l = mNl s ∧ k < n then V k else mCd s l k := by
  unfold mCd
  rw [al_x h6 hn hl hk, al_y h6 hn hl hk]
  by_cases z : l = mNl s ∧ k < n
  · rw [if_pos z, if_pos z, if_pos z]
    omega
  · rw [if_neg z, if_neg z, if_neg z]
theorem ok_al (hs : okM s) (h6 : mNl s < 6) (hn2 : 2 ≤ n) (hn : n ≤ 10) (hV : ∀ k : Nat, k < n → isC (V k)) (hd : ∀ j k : Nat, j < k → k < n → V j ≠ V k) : okM (alS s n V) := by
  have ho := hs.2.1
  have hc := hs.2.2.1
  have h0 := hs.1
  obtain ⟨b1, b2⟩ := okB_ag (s' := alS s n V) hs (fun j hj _ => al_hi h6 hn hj)
  have e : alS s n V 0 = s 0 + 1 := if_pos rfl
  refine ⟨by rw [e]; omega, ⟨by rw [al_nl hs]; exact h6, fun l hl => ?_⟩, fun l hl k hk => ?_, b1, b2, okO_ag hs.2.2.2.2.2.1 (fun j hj _ => al_hi h6 hn (by omega)), fun p hp => ?_, okSt_ag hs.2.2.2.2.2.2.2.1 (fun j hj _ => al_hi h6 hn (by omega)), ?_⟩
  · rw [al_nl hs] at hl
    rw [al_sz h6 hl]
    by_cases z : l = mNl s
    · rw [if_pos z]
      refine ⟨⟨hn2, hn⟩, fun k hk => ?_, fun j k hj hk => ?_⟩
      · rw [al_cd h6 hn hl (by omega), if_pos ⟨z, hk⟩]
        exact hV k hk
      · rw [al_cd h6 hn hl (by omega), al_cd h6 hn hl (by omega), if_pos ⟨z, (by omega : j < n)⟩, if_pos ⟨z, hk⟩]
        exact hd j k hj hk
    · rw [if_neg z]
      have hl2 : l < mNl s := by omega
      obtain ⟨c1, c2, c3⟩ := ho.2 l hl2
      have zn : ∀ k : Nat, ¬ (l = mNl s ∧ k < n) := fun k w => z w.1
      refine ⟨c1, fun k hk => ?_, fun j k hj hk => ?_⟩
      · rw [al_cd h6 hn hl (by omega), if_neg (zn k)]
        exact c2 k hk
      · rw [al_cd h6 hn hl (by omega), al_cd h6 hn hl (by omega), if_neg (zn k), if_neg (zn j)]
        exact c3 j k hj hk
  · rw [al_nl hs] at hl
    rw [al_sz h6 hl] at hk
    by_cases z : l = mNl s
    · rw [if_pos z] at hk
      rw [al_x h6 hn hl (by omega), al_y h6 hn hl (by omega), if_pos ⟨z, hk⟩, if_pos ⟨z, hk⟩]
      have := hV k hk
      unfold isC at this
      omega
    · rw [if_neg z] at hk
      have hl2 : l < mNl s := by omega
      have c1 := (ho.2 l hl2).1
      have zn : ¬ (l = mNl s ∧ k < n) := fun w => z w.1
      rw [al_x h6 hn hl (by omega), al_y h6 hn hl (by omega), if_neg zn, if_neg zn]
      exact hc l hl2 k hk
  · rw [al_hi h6 hn (by omega)]
    exact hs.2.2.2.2.2.2.1 p hp
  · rw [al_hi h6 hn (by decide)]
    exact hs.2.2.2.2.2.2.2.2
end AL
/-- what an entry does: 0 it is made, 1 it is in the way, 2 there is no room; the map then -/
noncomputable def apE (s : Nat → Int) (e : EN) : Int × (Nat → Int) :=
  if e.1 = 76 then (if wrL s e.2.1 e.2.2 = true then (1, s) else if mNl s < 6 then (0, alS s e.2.1 e.2.2) else (2, s))
  else if e.1 = 80 then (if tkO s (64 * e.2.2 0 + e.2.2 1) = true then (2, s) else if mNp s < 12 then (0, apS s (v6 (e.2.2 0) (e.2.2 1) (e.2.2 2) (e.2.2 3) (e.2.2 4) 0)) else (2, s))
  else (0, upS s (200 + (8 * (e.2.2 1).toNat + (e.2.2 0).toNat)) (e.2.2 2))
noncomputable def apA (s : Nat → Int) : List EN → Int × (Nat → Int)
  | [] => (0, s)
  | e :: l => if (apE s e).1 = 0 then apA (apE s e).2 l else ((apE s e).1, (apE s e).2)
theorem apE_ok {s : Nat → Int} {e : EN} (hs : okM s) (he : okE e) : okM (apE s e).2 := by
  unfold apE
  rcases he with ⟨h1, h2, h3, h4⟩ | ⟨h1, h2, h3⟩ | ⟨h1, h2, h3⟩
  · rw [if_pos h1]
    by_cases c : wrL s e.2.1 e.2.2 = true
    · rw [if_pos c]
      exact hs
    · rw [if_neg c]
      by_cases c2 : mNl s < 6
      · rw [if_pos c2]
        have c3 := Bool.eq_false_iff.mpr c
        unfold wrL at c3
        rw [Bool.or_eq_false_iff, Bool.or_eq_false_iff] at c3
        exact ok_al hs c2 h2 h3 h4 (sim_ne c3.1.1 c3.1.2)
      · rw [if_neg c2]
        exact hs
  · rw [if_neg (by omega), if_pos h1]
    by_cases c : tkO s (64 * e.2.2 0 + e.2.2 1) = true
    · rw [if_pos c]
      exact hs
    · rw [if_neg c]
      by_cases c2 : mNp s < 12
      · rw [if_pos c2]
        have r0 := h3 0 (by decide)
        have r1 := h3 1 (by decide)
        have r2 := h3 2 (by decide)
        have r3 := h3 3 (by decide)
        have r4 := h3 4 (by decide)
        have q0 : 0 ≤ e.2.2 0 ∧ e.2.2 0 ≤ 63 := r0
        have q1 : 0 ≤ e.2.2 1 ∧ e.2.2 1 ≤ 63 := r1
        exact ok_ap hs c2 ⟨⟨q0.1, by show e.2.2 0 < 64; omega⟩, ⟨q1.1, by show e.2.2 1 < 64; omega⟩, r2, r3, r4, Int.le_refl 0, (by decide : (0 : Int) ≤ 3)⟩
      · rw [if_neg c2]
        exact hs
  · rw [if_neg (by omega), if_neg (by omega)]
    have r0 : 0 ≤ e.2.2 0 ∧ e.2.2 0 ≤ 7 := h3 0 (by decide)
    have r1 : 0 ≤ e.2.2 1 ∧ e.2.2 1 ≤ 7 := h3 1 (by decide)
    have r2 : 0 ≤ e.2.2 2 ∧ e.2.2 2 ≤ 15 := h3 2 (by decide)
    have hf : 8 * (e.2.2 1).toNat + (e.2.2 0).toNat < 64 := by omega
    generalize 8 * (e.2.2 1).toNat + (e.2.2 0).toNat = f at hf ⊢
    show okM (upS s (200 + f) (e.2.2 2))
    obtain ⟨a1, a2, a3⟩ := okA_ag (s' := upS s (200 + f) (e.2.2 2)) hs (fun j hj => upS_ne (by omega))
    obtain ⟨b1, b2⟩ := okB_ag (s' := upS s (200 + f) (e.2.2 2)) hs (fun j _ hj => upS_ne (by omega))
    refine ⟨a1, a2, a3, b1, b2, fun g hg => ?_, fun p hp => ?_, okSt_ag hs.2.2.2.2.2.2.2.1 (fun j hj _ => upS_ne (by omega)), ?_⟩
    · have ho := hs.2.2.2.2.2.1 g hg
      unfold mOw at ho ⊢
      by_cases z : g = f
      · rw [z, upS_at]
        omega
      · rw [upS_ne (by omega)]
        exact ho
    · rw [upS_ne (by omega)]
      exact hs.2.2.2.2.2.2.1 p hp
    · rw [upS_ne (by omega)]
      exact hs.2.2.2.2.2.2.2.2
