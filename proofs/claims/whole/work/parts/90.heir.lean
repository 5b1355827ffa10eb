/-! ===== heirs and merging, class ===== -/
def bet (kd bd ar : Int → Int) (kp q h : Int) : Bool := if kd q = kp ∧ kd h ≠ kp then true else if kd q ≠ kp ∧ kd h = kp then false else if bd q = bd h then decide (ar h < ar q) else decide (bd h < bd q)
def hrS (kd : Int → Int) (st : Int) (bd ar : Int → Int) (kp : Int) (k : Nat) (h : Int) : Int := if 0 < bd k ∧ (st = 0 ∨ kd k = kp) then (if h = -1 then (k : Int) else bif bet kd bd ar kp k h then (k : Int) else h) else h
def heirO (kd : Int → Int) (st : Int) (o : Nat → Int) (p : Int) : Int := iterB 0 16 (hrS kd st (bdO o p) (arO o) (kd p)) (-1)
theorem g_isBetterHeir {i : Int} {G : GG} {kd bd ar : Int → Int} (hK : KdC G kd) (hB : ∀ q : Nat, q < 16 → G 9 i q = bd q) (hA : ∀ q : Nat, q < 16 → G 10 i q = ar q) {q h : Nat} (hq : q < 16) (hh : h < 16) (kp : Int) :
    f_Par_isBetterHeir i q h 0 kp G = rI (b2i (bet kd bd ar kp q h)) G := by
  rw [e_f_Par_isBetterHeir]
  have i1 : (0 : Int) ≤ q ∧ (q : Int) < 16 := by omega
  have i2 : (0 : Int) ≤ h ∧ (h : Int) < 16 := by omega
  simp only [if_pos i1, if_pos i2, hK q hq, hK h hh, hB q hq, hB h hh, hA q hq, hA h hh]
  unfold bet
  generalize kd q = a
  generalize kd h = b
  generalize bd q = c
  generalize bd h = d
  generalize ar q = e
  generalize ar h = f
  by_cases q1 : a = kp <;> by_cases q2 : b = kp <;> by_cases q3 : c = d <;> by_cases q4 : f < e <;> by_cases q5 : d < c <;> simp [q1, q2, q3, q4, q5, b2i]
theorem hrS_bd {kd : Int → Int} {st : Int} {bd ar : Int → Int} {kp : Int} {k : Nat} (hk : k < 16) {h : Int} (hh : -1 ≤ h ∧ h < 16) : -1 ≤ hrS kd st bd ar kp k h ∧ hrS kd st bd ar kp k h < 16 := by
  unfold hrS
  split
  · split
    · omega
    · cases bet kd bd ar kp k h with
      | true => show -1 ≤ (k : Int) ∧ (k : Int) < 16; omega
      | false => exact hh
  · exact hh
theorem iterB_snoc {S : Type} {f : Nat → S → S} : ∀ (n a : Nat) (s : S), iterB a (n + 1) f s = f (a + n) (iterB a n f s)
  | 0, a, s => rfl
  | n + 1, a, s => by
    show iterB (a + 1) (n + 1) f (f a s) = f (a + (n + 1)) (iterB (a + 1) n f (f a s))
    rw [iterB_snoc n (a + 1), show a + 1 + n = a + (n + 1) by omega]
/-- a loop with a state that keeps a property -/
theorem loop_stI {S α : Type} {l : S → Nat → α} {f : Nat → S → S} {r : S → α} {I : S → Prop} : ∀ (n a : Nat) (s : S), (∀ k s, a ≤ k → k < a + n → I s → l s k = l (f k s) (k + 1) ∧ I (f k s)) → (∀ s, I s → l s (a + n) = r s) → I s → l s a = r (iterB a n f s) ∧ I (iterB a n f s)
  | 0, a, s, h1, h2, h3 => ⟨h2 s h3, h3⟩
  | n + 1, a, s, h1, h2, h3 => by
    obtain ⟨e, h4⟩ := h1 a s (Nat.le_refl _) (by omega) h3
    rw [e]
    exact loop_stI n (a + 1) (f a s) (fun k s h5 h6 => h1 k s (by omega) (by omega)) (fun s h5 => (congrArg (l s) (show a + 1 + n = a + (n + 1) by omega)).trans (h2 s h5)) h4
theorem g_heirOf {i : Int} {o : Nat → Int} {G : GG} {kd : Int → Int} (hO : OwC G i o) (ho : okO o) (hK : KdC G kd) (hA : ∀ q : Nat, q < 16 → G 10 i q = arO o q) {st : Int} {p : Nat} (hp : p < 16) :
    ∃ G', f_Par_heirOf i p 0 st G = rI (heirO kd st o p) G' ∧ Fr (fun t j => j = i ∧ t = 9) G G' := by
  obtain ⟨G1, e1, hB, f1⟩ := g_measureBorders hO ho hp
  have hK1 : KdC G1 kd := fun q hq => (f1 11 0 q (fun z => absurd z.2 (by decide))).trans (hK q hq)
  have hA1 : ∀ q : Nat, q < 16 → G1 10 i q = arO o q := fun q hq => (f1 10 i q (fun z => absurd z.2 (by decide))).trans (hA q hq)
  refine ⟨G1, ?_, f1⟩
  rw [e_f_Par_heirOf, e1]
  simp only [bV_r]
  refine (loop_stI (l := fun (s : Int) (k : Nat) => l_Par_heirOf_11 i p 0 st s k G1) (f := hrS kd st (bdO o p) (arO o) (kd p)) (r := fun s => rI s G1) (I := fun s => -1 ≤ s ∧ s < 16) 16 0 (-1) (fun k s _ hk hI => ⟨?_, hrS_bd (by omega) hI⟩) (fun s hI => ?_) (by decide)).1
  · have ip : (0 : Int) ≤ p ∧ (p : Int) < 16 := by omega
    have ik : (0 : Int) ≤ k ∧ (k : Int) < 16 := by omega
    have ek : wr ((k : Int) + 1) = ((k + 1 : Nat) : Int) := wr_id (by omega) (by omega)
    have e := e_l_Par_heirOf_11 i p 0 st s k G1
    rw [if_pos (by omega)] at e
    simp only [if_pos ip, if_pos ik, hB k (by omega), hK1 k (by omega), hK1 p hp, ek] at e
    have cmp : s ≠ -1 → f_Par_isBetterHeir i k s 0 (kd p) G1 = rI (b2i (bet kd (bdO o p) (arO o) (kd p) k s)) G1 := fun hs => by
      obtain ⟨h, rfl⟩ : ∃ h : Nat, s = h := ⟨s.toNat, by omega⟩
      exact g_isBetterHeir hK1 hB hA1 (by omega) (by omega) _
    refine e.trans ?_
    clear e
    unfold hrS
    by_cases q1 : 0 < bdO o p k
    · rw [if_pos q1]
      by_cases q2 : st = 0
      · have q9 : 0 < bdO o p k ∧ (st = 0 ∨ kd k = kd p) := ⟨q1, Or.inl q2⟩
        rw [if_pos q2]
        simp only [if_pos q9]
        by_cases q3 : s = -1
        · simp only [if_pos q3]
        · simp only [if_neg q3]
          rw [cmp q3]
          simp only [bI_r]
          cases bet kd (bdO o p) (arO o) (kd p) k s with
          | true => rfl
          | false => rfl
      · rw [if_neg q2]
        by_cases q4 : kd k = kd p
        · have q9 : 0 < bdO o p k ∧ (st = 0 ∨ kd k = kd p) := ⟨q1, Or.inr q4⟩
          rw [if_pos q4]
          simp only [if_pos q9]
          by_cases q3 : s = -1
          · simp only [if_pos q3]
          · simp only [if_neg q3]
            rw [cmp q3]
            simp only [bI_r]
            cases bet kd (bdO o p) (arO o) (kd p) k s with
            | true => rfl
            | false => rfl
        · have q9 : ¬(0 < bdO o p k ∧ (st = 0 ∨ kd k = kd p)) := fun z => z.2.elim q2 q4
          rw [if_neg q4]
          simp only [if_neg q9]
    · have q9 : ¬(0 < bdO o p k ∧ (st = 0 ∨ kd k = kd p)) := fun z => q1 z.1
      rw [if_neg q1]
      simp only [if_neg q9]
  · rw [e_l_Par_heirOf_11, if_neg (by decide)]
theorem heirO_bd {kd : Int → Int} {st : Int} {o : Nat → Int} {p : Int} : -1 ≤ heirO kd st o p ∧ heirO kd st o p < 16 :=
  iterB_inv (I := fun s : Int => -1 ≤ s ∧ s < 16) 16 0 _ (fun k s _ hk hI => hrS_bd (by omega) hI) (by decide)
abbrev SM : Type := Int × Int × Int
def smS (kd : Int → Int) (st : Int) (o : Nat → Int) (k : Nat) (s : SM) : SM := if 0 < arO o k ∧ arO o k < s.1 ∧ heirO kd st o k ≠ -1 then (arO o k, (k : Int), heirO kd st o k) else s
def smO (kd : Int → Int) (st lim : Int) (o : Nat → Int) : SM := iterB 0 16 (smS kd st o) (lim, -1, -1)
def mgO (o : Nat → Int) (p h : Int) : Nat → Int := fun f => if o f = p then h else o f
theorem g_merge {i : Int} {o : Nat → Int} {G : GG} (hO : OwC G i o) (ho : okO o) (p h : Int) : ∃ G', l_Par_mergeSmallest_95 i p h 0 G = rI 1 G' ∧ OwC G' i (mgO o p h) ∧ Fr (fun t j => j = i ∧ t = 8) G G' := by
  refine loop_inv (l := fun (k : Nat) G1 => l_Par_mergeSmallest_95 i p h k G1) (I := fun k G1 => (∀ f : Nat, f < 64 → G1 8 i f = if f < k then mgO o p h f else o f) ∧ Fr (fun t j => j = i ∧ t = 8) G G1) (P := fun r => ∃ G', r = rI 1 G' ∧ OwC G' i (mgO o p h) ∧ Fr (fun t j => j = i ∧ t = 8) G G') 64 0 G (fun k G1 _ hk hI => ?_) (fun G1 hI => ?_) ⟨fun f hf => by rw [if_neg (by omega)]; exact hO f hf, Fr.refl G⟩
  · have e := e_l_Par_mergeSmallest_95 i p h k G1
    have hv := hI.1 k (by omega)
    have ek : (k : Int) + 1 = ((k + 1 : Nat) : Int) := by omega
    rw [if_neg (by omega)] at hv
    rw [if_pos (by omega), if_pos (by omega), hv, wr_id (by omega) (by omega), ek] at e
    by_cases q1 : o k = p
    · rw [if_pos q1] at e
      simp only [if_pos (show (0 : Int) ≤ k ∧ (k : Int) < 64 by omega)] at e
      refine ⟨_, e, fun f hf => ?_, hI.2.trans (Fr.up _ _ _ ⟨rfl, rfl⟩)⟩
      by_cases hfk : f = k
      · subst hfk
        rw [up_at, if_pos (by omega)]
        unfold mgO
        rw [if_pos q1]
      · rw [up_k (by omega), hI.1 f hf]
        by_cases hl : f < k
        · rw [if_pos hl, if_pos (by omega)]
        · rw [if_neg hl, if_neg (by omega)]
    · rw [if_neg q1] at e
      refine ⟨_, e, fun f hf => ?_, hI.2⟩
      rw [hI.1 f hf]
      by_cases hfk : f = k
      · subst hfk
        rw [if_neg (by omega), if_pos (by omega)]
        unfold mgO
        rw [if_neg q1]
      · by_cases hl : f < k
        · rw [if_pos hl, if_pos (by omega)]
        · rw [if_neg hl, if_neg (by omega)]
  · have e := e_l_Par_mergeSmallest_95 i p h ((0 + 64 : Nat) : Int) G1
    rw [if_neg (by decide)] at e
    exact ⟨G1, e, fun f hf => by rw [hI.1 f hf, if_pos (by omega)], hI.2⟩
theorem g_mergeSmallest {i : Int} {o : Nat → Int} {G : GG} {kd : Int → Int} (hO : OwC G i o) (ho : okO o) (hK : KdC G kd) {st lim : Int} :
    ∃ G', f_Par_mergeSmallest i lim 0 st G = rI (if (smO kd st lim o).2.1 = -1 then 0 else 1) G' ∧ OwC G' i (if (smO kd st lim o).2.1 = -1 then o else mgO o (smO kd st lim o).2.1 (smO kd st lim o).2.2) ∧ Fr (fun t j => j = i ∧ (t = 8 ∨ t = 9 ∨ t = 10)) G G' := by
  obtain ⟨G1, e1, hA, f1⟩ := g_measureAreas hO ho
  rw [e_f_Par_mergeSmallest, e1]
  simp only [bV_r]
  have inv := loop_inv (l := fun (k : Nat) G2 => l_Par_mergeSmallest_16 i 0 st (iterB 0 k (smS kd st o) (lim, -1, -1)).1 (iterB 0 k (smS kd st o) (lim, -1, -1)).2.1 (iterB 0 k (smS kd st o) (lim, -1, -1)).2.2 k G2)
    (I := fun _ G2 => Fr (fun t j => j = i ∧ t = 9) G1 G2)
    (P := fun r => ∃ G', r = rI (if (smO kd st lim o).2.1 = -1 then 0 else 1) G' ∧ OwC G' i (if (smO kd st lim o).2.1 = -1 then o else mgO o (smO kd st lim o).2.1 (smO kd st lim o).2.2) ∧ Fr (fun t j => j = i ∧ (t = 8 ∨ t = 9 ∨ t = 10)) G G') 16 0 G1
    (fun k G2 _ hk hI => ?_) (fun G2 hI => ?_) (Fr.refl G1)
  · exact inv
  · have hO2 : OwC G2 i o := fun f hf => ((hI 8 i f (fun z => absurd z.2 (by decide))).trans (f1 8 i f (fun z => absurd z.2 (by decide)))).trans (hO f hf)
    have hK2 : KdC G2 kd := fun q hq => ((hI 11 0 q (fun z => absurd z.2 (by decide))).trans (f1 11 0 q (fun z => absurd z.2 (by decide)))).trans (hK q hq)
    have hA2 : ∀ q : Nat, q < 16 → G2 10 i q = arO o q := fun q hq => (hI 10 i q (fun z => absurd z.2 (by decide))).trans (hA q hq)
    rw [iterB_snoc, Nat.zero_add]
    generalize iterB 0 k (smS kd st o) (lim, -1, -1) = s
    have e := e_l_Par_mergeSmallest_16 i 0 st s.1 s.2.1 s.2.2 k G2
    have ek : (k : Int) + 1 = ((k + 1 : Nat) : Int) := by omega
    rw [if_pos (by omega), if_pos (by omega), hA2 k (by omega), wr_id (by omega) (by omega), ek] at e
    unfold smS
    by_cases q1 : 0 < arO o k
    · rw [if_pos q1] at e
      simp only [if_pos (show (0 : Int) ≤ k ∧ (k : Int) < 16 by omega)] at e
      by_cases q2 : arO o k < s.1
      · rw [if_pos q2] at e
        obtain ⟨G3, e3, f3⟩ := g_heirOf hO2 ho hK2 hA2 (st := st) (p := k) (by omega)
        rw [e3] at e
        simp only [bI_r] at e
        by_cases q3 : heirO kd st o k = -1
        · rw [if_pos q3] at e
          rw [if_neg (fun z => z.2.2 q3)]
          exact ⟨G3, e, hI.trans f3⟩
        · rw [if_neg q3, f3 10 i k (fun z => absurd z.2 (by decide)), hA2 k (by omega)] at e
          rw [if_pos ⟨q1, q2, q3⟩]
          exact ⟨G3, e, hI.trans f3⟩
      · rw [if_neg q2] at e
        rw [if_neg (fun z => q2 z.2.1)]
        exact ⟨G2, e, hI⟩
    · rw [if_neg q1] at e
      rw [if_neg (fun z => q1 z.1)]
      exact ⟨G2, e, hI⟩
  · have hO2 : OwC G2 i o := fun f hf => ((hI 8 i f (fun z => absurd z.2 (by decide))).trans (f1 8 i f (fun z => absurd z.2 (by decide)))).trans (hO f hf)
    have f2 : Fr (fun t j => j = i ∧ (t = 8 ∨ t = 9 ∨ t = 10)) G G2 := (f1.mono fun t j z => ⟨z.1, Or.inr (Or.inr z.2)⟩).trans (hI.mono fun t j z => ⟨z.1, Or.inr (Or.inl z.2)⟩)
    show ∃ G', l_Par_mergeSmallest_16 i 0 st (smO kd st lim o).1 (smO kd st lim o).2.1 (smO kd st lim o).2.2 ((0 + 16 : Nat) : Int) G2 = rI (if (smO kd st lim o).2.1 = -1 then 0 else 1) G' ∧ OwC G' i (if (smO kd st lim o).2.1 = -1 then o else mgO o (smO kd st lim o).2.1 (smO kd st lim o).2.2) ∧ Fr (fun t j => j = i ∧ (t = 8 ∨ t = 9 ∨ t = 10)) G G'
    generalize smO kd st lim o = s
    have e := e_l_Par_mergeSmallest_16 i 0 st s.1 s.2.1 s.2.2 ((0 + 16 : Nat) : Int) G2
    rw [if_neg (by decide)] at e
    by_cases q1 : s.2.1 = -1
    · rw [if_pos q1] at e
      rw [if_pos q1, if_pos q1]
      exact ⟨G2, e, hO2, f2⟩
    · rw [if_neg q1] at e
      rw [if_neg q1, if_neg q1]
      obtain ⟨G3, e3, h3, f3⟩ := g_merge hO2 ho s.2.1 s.2.2
      exact ⟨G3, e.trans e3, h3, f2.trans (f3.mono fun t j z => ⟨z.1, Or.inl z.2⟩)⟩
