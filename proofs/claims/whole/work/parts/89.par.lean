/-! ===== parcels: owners, areas, borders ===== -/
theorem sumB_snoc {f : Nat → Int} : ∀ (n a : Nat), sumB a (n + 1) f = sumB a n f + f (a + n)
  | 0, a => by
    show f a + 0 = 0 + f (a + 0)
    rw [Nat.add_zero]
    omega
  | n + 1, a => by
    show f a + sumB (a + 1) (n + 1) f = (f a + sumB (a + 1) n f) + f (a + (n + 1))
    rw [sumB_snoc n (a + 1), show a + 1 + n = a + (n + 1) by omega]
    omega
theorem iRem8 {k : Nat} (h : k < 64) : iRem (k : Int) 8 = ((k % 8 : Nat) : Int) := by
  have key : ((List.range 64).all fun n => decide (iRem (n : Int) 8 = ((n % 8 : Nat) : Int))) = true := by decide +kernel
  exact of_decide_eq_true (List.all_eq_true.mp key k (List.mem_range.mpr h))
def okO (o : Nat → Int) : Prop := ∀ f : Nat, f < 64 → -1 ≤ o f ∧ o f ≤ 15
def OwC (G : GG) (i : Int) (o : Nat → Int) : Prop := ∀ f : Nat, f < 64 → G 8 i f = o f
def KdC (G : GG) (kd : Int → Int) : Prop := ∀ p : Nat, p < 16 → G 11 0 p = kd p
def arO (o : Nat → Int) (q : Int) : Int := sumB 0 64 fun f => if o f = q then 1 else 0
def pr1 (p q a b : Int) : Int := if (a = p ∧ b = q) ∨ (a = q ∧ b = p) then 1 else 0
def prF (o : Nat → Int) (p q : Int) (f : Nat) : Int := (if f % 8 < 7 then pr1 p q (o f) (o (f + 1)) else 0) + (if f < 56 then pr1 p q (o f) (o (f + 8)) else 0)
def bdO (o : Nat → Int) (p q : Int) : Int := if p = q then 0 else sumB 0 64 (prF o p q)
theorem pr1_bd (p q a b : Int) : 0 ≤ pr1 p q a b ∧ pr1 p q a b ≤ 1 := by unfold pr1; split <;> omega
theorem prF_bd (o : Nat → Int) (p q : Int) (f : Nat) : 0 ≤ prF o p q f ∧ prF o p q f ≤ 2 := by
  have h1 := pr1_bd p q (o f) (o (f + 1))
  have h2 := pr1_bd p q (o f) (o (f + 8))
  unfold prF
  split <;> split <;> omega
theorem g_fillA (i : Int) (G : GG) : ∃ G', f_Arr_fill_ARE i 0 G = rV G' ∧ (∀ q : Nat, q < 16 → G' 10 i q = 0) ∧ Fr (fun t j => j = i ∧ t = 10) G G' := by
  rw [e_f_Arr_fill_ARE]
  refine loop_inv (l := fun (k : Nat) G1 => l_Arr_fill_ARE_5 i 0 k 16 G1) (I := fun k G1 => (∀ q : Nat, q < k → G1 10 i q = 0) ∧ Fr (fun t j => j = i ∧ t = 10) G G1) (P := fun r => ∃ G', r = rV G' ∧ (∀ q : Nat, q < 16 → G' 10 i q = 0) ∧ Fr (fun t j => j = i ∧ t = 10) G G') 16 0 G (fun k G1 _ hk hI => ?_) (fun G1 hI => ?_) ⟨fun q hq => absurd hq (by omega), Fr.refl G⟩
  · have e := e_l_Arr_fill_ARE_5 i 0 k 16 G1
    rw [if_pos (by omega), if_pos (by omega), wr_id (by omega) (by omega)] at e
    refine ⟨_, e, fun q hq => ?_, hI.2.trans (Fr.up _ _ _ ⟨rfl, rfl⟩)⟩
    by_cases h : q = k
    · rw [h, up_at]
    · rw [up_k (by omega)]
      exact hI.1 q (by omega)
  · have e := e_l_Arr_fill_ARE_5 i 0 ((0 + 16 : Nat) : Int) 16 G1
    rw [if_neg (by decide)] at e
    exact ⟨G1, e, fun q hq => hI.1 q (by omega), hI.2⟩
theorem g_fillB (i : Int) (G : GG) : ∃ G', f_Arr_fill_BOR i 0 G = rV G' ∧ (∀ q : Nat, q < 16 → G' 9 i q = 0) ∧ Fr (fun t j => j = i ∧ t = 9) G G' := by
  rw [e_f_Arr_fill_BOR]
  refine loop_inv (l := fun (k : Nat) G1 => l_Arr_fill_BOR_5 i 0 k 16 G1) (I := fun k G1 => (∀ q : Nat, q < k → G1 9 i q = 0) ∧ Fr (fun t j => j = i ∧ t = 9) G G1) (P := fun r => ∃ G', r = rV G' ∧ (∀ q : Nat, q < 16 → G' 9 i q = 0) ∧ Fr (fun t j => j = i ∧ t = 9) G G') 16 0 G (fun k G1 _ hk hI => ?_) (fun G1 hI => ?_) ⟨fun q hq => absurd hq (by omega), Fr.refl G⟩
  · have e := e_l_Arr_fill_BOR_5 i 0 k 16 G1
    rw [if_pos (by omega), if_pos (by omega), wr_id (by omega) (by omega)] at e
    refine ⟨_, e, fun q hq => ?_, hI.2.trans (Fr.up _ _ _ ⟨rfl, rfl⟩)⟩
    by_cases h : q = k
    · rw [h, up_at]
    · rw [up_k (by omega)]
      exact hI.1 q (by omega)
  · have e := e_l_Arr_fill_BOR_5 i 0 ((0 + 16 : Nat) : Int) 16 G1
    rw [if_neg (by decide)] at e
    exact ⟨G1, e, fun q hq => hI.1 q (by omega), hI.2⟩
theorem g_measureAreas {i : Int} {o : Nat → Int} {G : GG} (hO : OwC G i o) (ho : okO o) : ∃ G', f_Par_measureAreas i G = rV G' ∧ (∀ q : Nat, q < 16 → G' 10 i q = arO o q) ∧ Fr (fun t j => j = i ∧ t = 10) G G' := by
  obtain ⟨G1, e1, h1, f1⟩ := g_fillA i G
  rw [e_f_Par_measureAreas, e1]
  simp only [bV_r]
  refine loop_inv (l := fun (k : Nat) G1 => l_Par_measureAreas_10 i k G1) (I := fun k G1 => (∀ q : Nat, q < 16 → G1 10 i q = sumB 0 k fun f => if o f = q then 1 else 0) ∧ Fr (fun t j => j = i ∧ t = 10) G G1) (P := fun r => ∃ G', r = rV G' ∧ (∀ q : Nat, q < 16 → G' 10 i q = arO o q) ∧ Fr (fun t j => j = i ∧ t = 10) G G') 64 0 G1 (fun k G2 _ hk hI => ?_) (fun G2 hI => ?_) ⟨h1, f1⟩
  · have e := e_l_Par_measureAreas_10 i k G2
    have hv : G2 8 i k = o k := (hI.2 8 i k (fun z => absurd z.2 (by decide))).trans (hO k (by omega))
    have hb := ho k (by omega)
    rw [if_pos (by omega), if_pos (by omega)] at e
    simp only [hv] at e
    by_cases q1 : o k = -1
    · rw [if_pos q1, wr_id (by omega) (by omega)] at e
      refine ⟨_, e, fun q hq => ?_, hI.2⟩
      rw [hI.1 q hq, sumB_snoc, Nat.zero_add, if_neg (by omega)]
      omega
    · obtain ⟨r, hr⟩ : ∃ r : Nat, o k = r := ⟨(o k).toNat, by omega⟩
      have hs := hI.1 r (by omega)
      have hbd := sumB_bd (f := fun f => if o f = (r : Int) then 1 else 0) (m := 1) k 0 (fun j _ _ => by split <;> omega)
      rw [if_neg q1, if_pos ⟨by omega, by omega⟩, if_pos ⟨by omega, by omega⟩, if_pos ⟨by omega, by omega⟩, hr, hs, wr_id (z := (k : Int) + 1) (by omega) (by omega), wr_id (by omega) (by omega)] at e
      refine ⟨_, e, fun q hq => ?_, hI.2.trans (Fr.up _ _ _ ⟨rfl, rfl⟩)⟩
      rw [sumB_snoc, Nat.zero_add]
      by_cases h : q = r
      · rw [h, up_at, if_pos hr]
      · rw [up_k (by omega), hI.1 q hq, if_neg (by omega)]
        omega
  · have e := e_l_Par_measureAreas_10 i ((0 + 64 : Nat) : Int) G2
    rw [if_neg (by decide)] at e
    exact ⟨G2, e, fun q hq => hI.1 q hq, hI.2⟩
theorem g_addToBorder {i : Int} {p : Nat} (hp : p < 16) {a b : Int} (ha : -1 ≤ a ∧ a ≤ 15) (hb : -1 ≤ b ∧ b ≤ 15) {G : GG} {S : Nat → Int} (hS : ∀ q : Nat, q < 16 → G 9 i q = S q ∧ 0 ≤ S q ∧ S q ≤ 1000) :
    ∃ G', f_Par_addToBorder i p a b G = rV G' ∧ (∀ q : Nat, q < 16 → G' 9 i q = S q + (if (p : Int) = q then 0 else pr1 p q a b)) ∧ Fr (fun t j => j = i ∧ t = 9) G G' := by
  have e := e_f_Par_addToBorder i p a b G
  by_cases q1 : a = b
  · rw [if_pos q1] at e
    refine ⟨G, e, fun q hq => ?_, Fr.refl G⟩
    rw [(hS q hq).1]
    unfold pr1
    split
    · omega
    · rw [if_neg (by omega)]
      omega
  rw [if_neg q1] at e
  by_cases q2 : a = -1
  · rw [if_pos q2] at e
    refine ⟨G, e, fun q hq => ?_, Fr.refl G⟩
    rw [(hS q hq).1]
    unfold pr1
    split
    · omega
    · rw [if_neg (by omega)]
      omega
  rw [if_neg q2] at e
  by_cases q3 : b = -1
  · rw [if_pos q3] at e
    refine ⟨G, e, fun q hq => ?_, Fr.refl G⟩
    rw [(hS q hq).1]
    unfold pr1
    split
    · omega
    · rw [if_neg (by omega)]
      omega
  rw [if_neg q3] at e
  by_cases q4 : a = p
  · obtain ⟨r, hr⟩ : ∃ r : Nat, b = r := ⟨b.toNat, by omega⟩
    subst hr
    have hs := hS r (by omega)
    rw [if_pos q4, if_pos ⟨by omega, by omega⟩, if_pos ⟨by omega, by omega⟩, hs.1, wr_id (by omega) (by omega)] at e
    refine ⟨_, e, fun q hq => ?_, Fr.up _ _ _ ⟨rfl, rfl⟩⟩
    unfold pr1
    by_cases h : q = r
    · rw [h, up_at, if_neg (by omega), if_pos (by omega)]
    · rw [up_k (by omega), (hS q hq).1]
      split
      · omega
      · rw [if_neg (by omega)]
        omega
  rw [if_neg q4] at e
  by_cases q5 : b = p
  · obtain ⟨r, hr⟩ : ∃ r : Nat, a = r := ⟨a.toNat, by omega⟩
    subst hr
    have hs := hS r (by omega)
    rw [if_pos q5, if_pos ⟨by omega, by omega⟩, if_pos ⟨by omega, by omega⟩, hs.1, wr_id (by omega) (by omega)] at e
    refine ⟨_, e, fun q hq => ?_, Fr.up _ _ _ ⟨rfl, rfl⟩⟩
    unfold pr1
    by_cases h : q = r
    · rw [h, up_at, if_neg (by omega), if_pos (by omega)]
    · rw [up_k (by omega), (hS q hq).1]
      split
      · omega
      · rw [if_neg (by omega)]
        omega
  rw [if_neg q5] at e
  refine ⟨G, e, fun q hq => ?_, Fr.refl G⟩
  rw [(hS q hq).1]
  unfold pr1
  split
  · omega
  · rw [if_neg (by omega)]
    omega
theorem g_measureBorders {i : Int} {o : Nat → Int} {G : GG} (hO : OwC G i o) (ho : okO o) {p : Nat} (hp : p < 16) : ∃ G', f_Par_measureBorders i p G = rV G' ∧ (∀ q : Nat, q < 16 → G' 9 i q = bdO o p q) ∧ Fr (fun t j => j = i ∧ t = 9) G G' := by
  obtain ⟨G1, e1, h1, f1⟩ := g_fillB i G
  rw [e_f_Par_measureBorders, e1]
  simp only [bV_r]
  refine loop_inv (l := fun (k : Nat) G1 => l_Par_measureBorders_10 i p k G1) (I := fun k G1 => (∀ q : Nat, q < 16 → G1 9 i q = if (p : Int) = q then 0 else sumB 0 k (prF o p q)) ∧ Fr (fun t j => j = i ∧ t = 9) G G1) (P := fun r => ∃ G', r = rV G' ∧ (∀ q : Nat, q < 16 → G' 9 i q = bdO o p q) ∧ Fr (fun t j => j = i ∧ t = 9) G G') 64 0 G1 (fun k G2 _ hk hI => ?_) (fun G2 hI => ?_) ⟨fun q hq => ?_, f1⟩
  · have e := e_l_Par_measureBorders_10 i p k G2
    have hw : ∀ {G3 : GG} {f : Nat}, Fr (fun t j => j = i ∧ t = 9) G G3 → f < 64 → G3 8 i f = o f := fun hf h => (hf 8 i _ (fun z => absurd z.2 (by decide))).trans (hO _ h)
    have hS : ∀ q : Nat, q < 16 → G2 9 i q = (fun q : Nat => if (p : Int) = q then 0 else sumB 0 k (prF o p q)) q ∧ 0 ≤ (fun q : Nat => if (p : Int) = q then 0 else sumB 0 k (prF o p q)) q ∧ (fun q : Nat => if (p : Int) = q then 0 else sumB 0 k (prF o p q)) q ≤ 128 := by
      intro q hq
      have hbd := sumB_bd (f := prF o p q) (m := 2) k 0 (fun j _ _ => prF_bd o p q j)
      refine ⟨hI.1 q hq, ?_⟩
      dsimp only
      split <;> omega
    have hk1 := ho k (by omega)
    have ek1 : (k : Int) + 1 = ((k + 1 : Nat) : Int) := by omega
    have ek8 : (k : Int) + 8 = ((k + 8 : Nat) : Int) := by omega
    rw [if_pos (by omega), iRem8 (by omega), wr_id (z := (k : Int) + 1) (by omega) (by omega), wr_id (z := (k : Int) + 8) (by omega) (by omega), ek1, ek8] at e
    have fin : ∀ (G3 : GG), l_Par_measureBorders_10 i p k G2 = l_Par_measureBorders_10 i p ((k + 1 : Nat) : Int) G3 → (∀ q : Nat, q < 16 → G3 9 i q = (if (p : Int) = q then 0 else sumB 0 k (prF o p q)) + (if (p : Int) = q then 0 else prF o p q k)) → Fr (fun t j => j = i ∧ t = 9) G G3 → ∃ G', l_Par_measureBorders_10 i p k G2 = l_Par_measureBorders_10 i p ((k + 1 : Nat) : Int) G' ∧ (∀ q : Nat, q < 16 → G' 9 i q = if (p : Int) = q then 0 else sumB 0 (k + 1) (prF o p q)) ∧ Fr (fun t j => j = i ∧ t = 9) G G' := by
      intro G3 e3 h3 f3
      refine ⟨G3, e3, fun q hq => ?_, f3⟩
      rw [h3 q hq, sumB_snoc, Nat.zero_add]
      split <;> omega
    by_cases q1 : k % 8 < 7
    · have hk2 := ho (k + 1) (by omega)
      rw [if_pos (by omega), if_pos (by omega), if_pos (by omega), hw hI.2 (by omega), hw hI.2 (by omega)] at e
      obtain ⟨G3, e3, h3, f3⟩ := g_addToBorder (i := i) hp hk1 hk2 (fun q hq => ⟨(hS q hq).1, (hS q hq).2.1, Int.le_trans (hS q hq).2.2 (by decide)⟩)
      have f4 := hI.2.trans f3
      rw [e3] at e
      simp only [bV_r] at e
      by_cases q2 : k < 56
      · have hk3 := ho (k + 8) (by omega)
        rw [if_pos (by omega), if_pos (by omega), if_pos (by omega), hw f4 (by omega), hw f4 (by omega)] at e
        obtain ⟨G4, e4, h4, f5⟩ := g_addToBorder (i := i) (G := G3) hp hk1 hk3 (fun q hq => ⟨h3 q hq, by
          have h8 := (hS q hq).2
          have h9 := pr1_bd p q (o k) (o (k + 1))
          dsimp only at h8 ⊢
          generalize (if (p : Int) = q then (0 : Int) else sumB 0 k (prF o p q)) = z at h8 ⊢
          split <;> omega⟩)
        rw [e4] at e
        simp only [bV_r] at e
        refine fin G4 e (fun q hq => ?_) (f4.trans f5)
        rw [h4 q hq]
        unfold prF
        rw [if_pos q1, if_pos q2]
        split <;> omega
      · rw [if_neg (by omega)] at e
        refine fin G3 e (fun q hq => ?_) f4
        rw [h3 q hq]
        unfold prF
        rw [if_pos q1, if_neg q2]
        split <;> omega
    · rw [if_neg (by omega)] at e
      by_cases q2 : k < 56
      · have hk3 := ho (k + 8) (by omega)
        rw [if_pos (by omega), if_pos (by omega), if_pos (by omega), hw hI.2 (by omega), hw hI.2 (by omega)] at e
        obtain ⟨G3, e3, h3, f3⟩ := g_addToBorder (i := i) hp hk1 hk3 (fun q hq => ⟨(hS q hq).1, (hS q hq).2.1, Int.le_trans (hS q hq).2.2 (by decide)⟩)
        rw [e3] at e
        simp only [bV_r] at e
        refine fin G3 e (fun q hq => ?_) (hI.2.trans f3)
        rw [h3 q hq]
        unfold prF
        rw [if_neg q1, if_pos q2]
        split <;> omega
      · rw [if_neg (by omega)] at e
        refine fin G2 e (fun q hq => ?_) hI.2
        rw [hI.1 q hq]
        unfold prF
        rw [if_neg q1, if_neg q2]
        split <;> omega
  · have e := e_l_Par_measureBorders_10 i p ((0 + 64 : Nat) : Int) G2
    rw [if_neg (by decide)] at e
    exact ⟨G2, e, fun q hq => hI.1 q hq, hI.2⟩
  · rw [h1 q hq]
    unfold sumB
    split <;> rfl
