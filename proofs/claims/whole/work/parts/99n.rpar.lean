/-! ===== reading parcels ===== -/
def setO (f : Nat → Bool) : Nat → Nat → Nat → Nat
  | _, 0, m => m
  | a, n + 1, m => setO f (a + 1) n (bif f a then m ||| 2 ^ a else m)
theorem setO_lt {f : Nat → Bool} {B : Nat} : ∀ (n a m : Nat), a + n ≤ B → m < 2 ^ B → setO f a n m < 2 ^ B
  | 0, a, m, h, hm => hm
  | n + 1, a, m, h, hm => by
    unfold setO
    refine setO_lt n (a + 1) _ (by omega) ?_
    cases f a with
    | false => exact hm
    | true => exact Nat.or_lt_two_pow hm (Nat.pow_lt_pow_right (by decide) (by omega))
/-- a loop that makes a set -/
theorem loop_set {α : Type} {l : Int → Nat → α} {f : Nat → Bool} {r : Int → α} {B : Nat} (hB : B ≤ 30) : ∀ (n a m : Nat), a + n ≤ B → m < 2 ^ B → (∀ k (m : Nat), a ≤ k → k < a + n → m < 2 ^ 30 → l (m : Int) k = l ((bif f k then m ||| 2 ^ k else m : Nat) : Int) (k + 1)) → (∀ m : Nat, l (m : Int) (a + n) = r (m : Int)) → l (m : Int) a = r ((setO f a n m : Nat) : Int)
  | 0, a, m, h, hm, h1, h2 => h2 m
  | n + 1, a, m, h, hm, h1, h2 => by
    have h30 : m < 2 ^ 30 := Nat.lt_of_lt_of_le hm (Nat.pow_le_pow_right (by decide) hB)
    rw [h1 a m (Nat.le_refl _) (by omega) h30]
    unfold setO
    have e9 : a + 1 + n = a + (n + 1) := by omega
    refine loop_set hB n (a + 1) _ (by omega) ?_ (fun k m h4 h5 => h1 k m (by omega) (by omega)) (fun m => by rw [e9]; exact h2 m)
    cases f a with
    | false => exact hm
    | true => exact Nat.or_lt_two_pow hm (Nat.pow_lt_pow_right (by decide) (by omega))
theorem bOr_set {m k : Nat} (hm : m < 2 ^ 30) (hk : k < 30) : bOr (m : Int) (bShl 1 (k : Int)) = ((m ||| 2 ^ k : Nat) : Int) := by
  rw [shl_1 (by omega)]
  exact bOr_nat (by omega) (Nat.pow_lt_pow_right (by decide) (by omega))
theorem bOr_0 {m : Nat} (hm : m < 2 ^ 30) : bOr (m : Int) 0 = (m : Int) := by
  have := bOr_nat (m := m) (n := 0) (by omega) (by decide)
  rw [Nat.or_zero] at this
  exact this
section RP
variable {i : Int} {o : Nat → Int} {G : GG} {kd : Int → Int}
theorem ar_bd (o : Nat → Int) (q : Int) : 0 ≤ arO o q ∧ arO o q ≤ 64 := sumB_bd (m := 1) 64 0 (fun k _ _ => by split <;> omega)
theorem g_areaOf (hO : OwC G i o) (q : Int) : f_Par_areaOf i q G = rI (arO o q) G := by
  rw [e_f_Par_areaOf]
  have h := loop_sumW (l := fun (s : Int) (k : Nat) => l_Par_areaOf_4 i q s k G) (f := fun f => if o f = q then 1 else 0) (r := fun s => rI s G) (m := 1) 64 0 0 (fun k s _ hk h1 h2 => ?_) (fun s => ?_) (fun k _ _ => by split <;> omega) (by omega) (by omega)
  · refine h.trans ?_
    rw [Int.zero_add]
    rfl
  · have e := e_l_Par_areaOf_4 i q s k G
    rw [if_pos (by omega), if_pos (by omega), hO k (by omega), wr_sc (show k < 64 by omega) (by decide), wr_id (z := s + 1) (by omega) (by omega)] at e
    refine e.trans ?_
    show _ = l_Par_areaOf_4 i q (s + if o k = q then 1 else 0) ((k + 1 : Nat) : Int) G
    by_cases q1 : o k = q
    · rw [if_pos q1, if_pos q1]
    · rw [if_neg q1, if_neg q1, Int.add_zero]
  · rw [e_l_Par_areaOf_4, if_neg (by decide)]
def fiO (o : Nat → Int) (q : Int) : Int := firO 0 64 fun f => decide (o f = q)
theorem g_firstField (hO : OwC G i o) (q : Int) : f_Par_firstFieldOf i q G = rI (fiO o q) G := by
  rw [e_f_Par_firstFieldOf]
  have stp : ∀ k : Nat, k < 64 → l_Par_firstFieldOf_2 i q k G = if o k = q then rI k G else l_Par_firstFieldOf_2 i q ((k + 1 : Nat) : Int) G := by
    intro k hk
    have e := e_l_Par_firstFieldOf_2 i q k G
    have c0 : (0 : Int) ≤ (k : Int) ∧ (k : Int) < 64 := by omega
    rw [if_pos c0.2] at e
    simp only [if_pos c0] at e
    rw [hO k hk, wr_sc (show k < 64 by omega) (by decide)] at e
    exact e
  refine loop_fir (l := fun (k : Nat) => l_Par_firstFieldOf_2 i q k G) (r := fun v => rI v G) 64 0 (fun k _ hk hf => ?_) (fun k _ hk hf => ?_) ?_
  · rw [stp k (by omega), if_pos (of_decide_eq_true hf)]
  · rw [stp k (by omega), if_neg (of_decide_eq_false hf)]
  · have e := e_l_Par_firstFieldOf_2 i q ((0 + 64 : Nat) : Int) G
    rw [if_neg (by decide)] at e
    exact e
theorem fi_ar (o : Nat → Int) (q : Int) : fiO o q = -1 ↔ ¬0 < arO o q := by
  unfold fiO
  rcases firO_spec (f := fun f => decide (o f = q)) 64 0 with ⟨h1, h2⟩ | ⟨k, h1, h2, h3, h4, h5⟩
  · refine ⟨fun _ z => ?_, fun _ => h1⟩
    obtain ⟨f, hf, hq⟩ := ar_pos.mp z
    exact of_decide_eq_false (h2 f (by omega) (by omega)) hq
  · refine ⟨fun z => by omega, fun z => absurd (ar_pos.mpr ⟨k, by omega, of_decide_eq_true h3⟩) z⟩
def cnK (kd : Int → Int) (kind : Int) (o : Nat → Int) : Int := 0 + sumB 0 16 fun p => if (kind = -1 ∨ kd p = kind) ∧ 0 < arO o p then 1 else 0
theorem g_countOf (hO : OwC G i o) (hK : KdC G kd) (kind : Int) : f_Par_countOf i kind 0 G = rI (cnK kd kind o) G := by
  rw [e_f_Par_countOf]
  refine loop_sumW (l := fun (s : Int) (k : Nat) => l_Par_countOf_5 i kind 0 s k G) (f := fun p => if (kind = -1 ∨ kd p = kind) ∧ 0 < arO o p then 1 else 0) (r := fun s => rI s G) (m := 1) 16 0 0 (fun k s _ hk h1 h2 => ?_) (fun s => ?_) (fun k _ _ => by split <;> omega) (by omega) (by omega)
  · have e := e_l_Par_countOf_5 i kind 0 s k G
    have c0 : (0 : Int) ≤ (k : Int) ∧ (k : Int) < 16 := by omega
    rw [if_pos c0.2, g_firstField hO] at e
    simp only [bI_r, if_pos c0] at e
    rw [hK k (by omega), wr_sc (show k < 16 by omega) (by decide), wr_id (z := s + 1) (by omega) (by omega)] at e
    refine e.trans ?_
    clear e
    have hfa := fi_ar o k
    by_cases q2 : fiO o k = -1
    · have q3 := hfa.mp q2
      have q5 : ¬((kind = -1 ∨ kd k = kind) ∧ 0 < arO o k) := fun z => q3 z.2
      simp only [if_pos q2, if_neg q5, Int.add_zero]
      split
      · rfl
      · split <;> rfl
    · have q3 : 0 < arO o k := Classical.byContradiction fun z => q2 (hfa.mpr z)
      rw [if_neg q2]
      by_cases q4 : kind = -1
      · rw [if_pos q4, if_pos ⟨Or.inl q4, q3⟩]
      · rw [if_neg q4]
        by_cases q5 : kd k = kind
        · rw [if_pos q5, if_pos ⟨Or.inr q5, q3⟩]
        · rw [if_neg q5, if_neg (fun z => z.1.elim q4 q5), Int.add_zero]
  · have e := e_l_Par_countOf_5 i kind 0 s ((0 + 16 : Nat) : Int) G
    rw [if_neg (by decide)] at e
    exact e
theorem r_manyPar {L : Nat} (hL : L < 5) (hO : OwR G L o) (hK : KdR G kd) {kind : Int} (hk : -1 ≤ kind) : f_Mod_manyParcels L kind G = rI (cnK kd kind o) G := by
  rw [e_f_Mod_manyParcels]
  refine loop_sumW (l := fun (s : Int) (k : Nat) => l_Mod_manyParcels_5 L kind s k G) (f := fun p => if (kind = -1 ∨ kd p = kind) ∧ 0 < arO o p then 1 else 0) (r := fun s => rI s G) (m := 1) 16 0 0 (fun k s _ hk h1 h2 => ?_) (fun s => ?_) (fun k _ _ => by split <;> omega) (by omega) (by omega)
  · have e := e_l_Mod_manyParcels_5 L kind s k G
    have c0 : (0 : Int) ≤ 264 + (k : Int) ∧ 264 + (k : Int) < 296 := by omega
    rw [if_pos (by omega), r_areaOf hL hO] at e
    simp only [bI_r] at e
    rw [wr_id (z := 264 + (k : Int)) (by omega) (by omega)] at e
    simp only [if_pos c0] at e
    rw [hK k (by omega), wr_sc (show k < 16 by omega) (by decide), wr_id (z := s + 1) (by omega) (by omega), wr_id (z := s + 0) (by omega) (by omega)] at e
    refine e.trans ?_
    clear e
    by_cases q3 : 0 < arO o k
    · rw [if_pos q3]
      by_cases q4 : kind < 0
      · rw [if_pos q4, if_pos ⟨Or.inl (by omega), q3⟩]
      · rw [if_neg q4]
        by_cases q5 : kd k = kind
        · rw [if_pos q5, if_pos ⟨Or.inr q5, q3⟩]
        · rw [if_neg q5, if_neg (fun z => z.1.elim (fun y => by omega) q5)]
    · rw [if_neg q3, if_neg (fun z => q3 z.2)]
  · have e := e_l_Mod_manyParcels_5 L kind s ((0 + 16 : Nat) : Int) G
    rw [if_neg (by decide)] at e
    exact e
def smK (lim : Int) (o : Nat → Int) : Int := 0 + sumB 0 16 fun p => if 0 < arO o p ∧ arO o p < lim then 1 else 0
theorem g_countSmall (hO : OwC G i o) (ho : okO o) (lim : Int) : ∃ G', f_Par_countSmall i lim G = rI (smK lim o) G' ∧ Fr (fun t j => j = i ∧ t = 10) G G' := by
  obtain ⟨G1, e1, hA, hF⟩ := g_measureAreas hO ho
  refine ⟨G1, ?_, hF⟩
  rw [e_f_Par_countSmall, e1]
  simp only [bV_r]
  refine loop_sumW (l := fun (s : Int) (k : Nat) => l_Par_countSmall_8 i lim s k G1) (f := fun p => if 0 < arO o p ∧ arO o p < lim then 1 else 0) (r := fun s => rI s G1) (m := 1) 16 0 0 (fun k s _ hk h1 h2 => ?_) (fun s => ?_) (fun k _ _ => by split <;> omega) (by omega) (by omega)
  · have e := e_l_Par_countSmall_8 i lim s k G1
    have c0 : (0 : Int) ≤ (k : Int) ∧ (k : Int) < 16 := by omega
    rw [if_pos c0.2] at e
    simp only [if_pos c0] at e
    rw [hA k (by omega), wr_sc (show k < 16 by omega) (by decide), wr_id (z := s + 1) (by omega) (by omega)] at e
    refine e.trans ?_
    clear e
    by_cases q3 : 0 < arO o k
    · rw [if_pos q3]
      by_cases q4 : arO o k < lim
      · rw [if_pos q4, if_pos ⟨q3, q4⟩]
      · rw [if_neg q4, if_neg (fun z => q4 z.2), Int.add_zero]
    · rw [if_neg q3, if_neg (fun z => q3 z.1), Int.add_zero]
  · have e := e_l_Par_countSmall_8 i lim s ((0 + 16 : Nat) : Int) G1
    rw [if_neg (by decide)] at e
    exact e
theorem r_countSmall {s : Nat → Int} (hs : okM s) (hR : RoR G 26 s) {L : Nat} (hL : L < 5) (hO : OwR G L o) : l_Mod_leftOver_33 L 0 0 G = rI (smK (mSt s (3 * L + 1)) o) G := by
  have hlim := (hs.2.2.2.2.2.2.2.1.1 L hL).2.1
  refine loop_sumW (l := fun (x : Int) (k : Nat) => l_Mod_leftOver_33 L x k G) (f := fun p => if 0 < arO o p ∧ arO o p < mSt s (3 * L + 1) then 1 else 0) (r := fun x => rI x G) (m := 1) 16 0 0 (fun k x _ hk h1 h2 => ?_) (fun x => ?_) (fun k _ _ => by split <;> omega) (by omega) (by omega)
  · have e := e_l_Mod_leftOver_33 L x k G
    have eo : f_Mod_of (L : Int) 1 G = rI (mSt s (3 * L + 1)) G := r_of (j := 1) hs hR hL (by decide)
    have hsm : f_Mod_isSmall L k G = rI (b2i (decide (0 < arO o k ∧ arO o k < mSt s (3 * L + 1)))) G := by
      rw [e_f_Mod_isSmall, r_areaOf hL hO]
      simp only [bI_r]
      rw [eo]
      simp only [bI_r]
      rw [wr_id (by omega) (by omega), r_isIn]
      simp only [bI_r]
      rw [if_pos (b2i_01 _), show decide (1 ≤ arO o k ∧ arO o k ≤ mSt s (3 * L + 1) - 1) = decide (0 < arO o k ∧ arO o k < mSt s (3 * L + 1)) from decide_eq_decide.mpr (by omega)]
    rw [if_pos (by omega), hsm] at e
    simp only [bI_r, b2i_0] at e
    rw [wr_sc (show k < 16 by omega) (by decide), wr_id (z := x + 1) (by omega) (by omega), wr_id (z := x + 0) (by omega) (by omega)] at e
    refine e.trans ?_
    clear e
    by_cases q : 0 < arO o k ∧ arO o k < mSt s (3 * L + 1)
    · rw [decide_eq_true q, if_neg (by decide), if_pos q]
    · rw [decide_eq_false q, if_pos rfl, if_neg q]
  · have e := e_l_Mod_leftOver_33 L x ((0 + 16 : Nat) : Int) G
    rw [if_neg (by decide)] at e
    exact e
def nbO (o : Nat → Int) (p : Int) : Nat := setO (fun q => decide (0 < bdO o p q)) 0 16 0
theorem g_neighbors {p : Nat} (hB : ∀ q : Nat, q < 16 → G 9 i q = bdO o p q) : l_Map_neighbors_28 i 0 0 G = rI (nbO o p) G := by
  refine loop_set (l := fun (m : Int) (k : Nat) => l_Map_neighbors_28 i m k G) (f := fun q => decide (0 < bdO o p q)) (r := fun m => rI m G) (B := 16) (by decide) 16 0 0 (by decide) (by decide) (fun k m _ hk hm => ?_) (fun m => ?_)
  · have e := e_l_Map_neighbors_28 i m k G
    have c0 : (0 : Int) ≤ (k : Int) ∧ (k : Int) < 16 := by omega
    rw [if_pos c0.2] at e
    simp only [if_pos c0] at e
    rw [hB k (by omega), wr_sc (show k < 16 by omega) (by decide), bOr_set hm (by omega)] at e
    refine e.trans ?_
    by_cases q : 0 < bdO o p k
    · rw [if_pos q, decide_eq_true q]
      rfl
    · rw [if_neg q, decide_eq_false q]
      rfl
  · have e := e_l_Map_neighbors_28 i m ((0 + 16 : Nat) : Int) G
    rw [if_neg (by decide)] at e
    exact e
theorem r_neighbors {L : Nat} (hL : L < 5) (hO : OwR G L o) {p : Nat} : l_Mod_neighbors_45 L p 0 0 G = rI (nbO o p) G := by
  refine loop_set (l := fun (m : Int) (k : Nat) => l_Mod_neighbors_45 L p m k G) (f := fun q => decide (0 < bdO o p q)) (r := fun m => rI m G) (B := 16) (by decide) 16 0 0 (by decide) (by decide) (fun k m _ hk hm => ?_) (fun m => ?_)
  · have e := e_l_Mod_neighbors_45 L p m k G
    rw [if_pos (by omega), r_borderOf hL hO (Int.natCast_nonneg _) (Int.natCast_nonneg _)] at e
    simp only [bI_r] at e
    rw [wr_sc (show k < 16 by omega) (by decide), bOr_set hm (by omega), bOr_0 hm] at e
    refine e.trans ?_
    by_cases q : 0 < bdO o p k
    · rw [if_pos q, decide_eq_true q]
      rfl
    · rw [if_neg q, decide_eq_false q]
      rfl
  · have e := e_l_Mod_neighbors_45 L p m ((0 + 16 : Nat) : Int) G
    rw [if_neg (by decide)] at e
    exact e
/-- the outline -/
def ikO (kd : Int → Int) (o : Nat → Int) (kind : Int) (f : Nat) : Bool := !decide (o f = -1) && decide (kd (o f) = kind)
def olF (kd : Int → Int) (o : Nat → Int) (kind : Int) (f : Nat) : Int := (if f % 8 < 7 ∧ ikO kd o kind f ≠ ikO kd o kind (f + 1) then 1 else 0) + (if f < 56 ∧ ikO kd o kind f ≠ ikO kd o kind (f + 8) then 1 else 0)
def olO (kd : Int → Int) (o : Nat → Int) (kind : Int) : Int := 0 + sumB 0 64 (olF kd o kind)
theorem olF_bd (kd : Int → Int) (o : Nat → Int) (kind : Int) (f : Nat) : 0 ≤ olF kd o kind f ∧ olF kd o kind f ≤ (2 : Nat) := by unfold olF; split <;> split <;> omega
theorem b2i_inj {a b : Bool} : b2i a = b2i b ↔ a = b := by cases a <;> cases b <;> decide
theorem g_isOfKind (hO : OwC G i o) (ho : okO o) (hK : KdC G kd) (kind : Int) {f : Nat} (hf : f < 64) : f_Par_isOfKind i f kind 0 G = rI (b2i (ikO kd o kind f)) G := by
  have h9 := ho f hf
  rw [e_f_Par_isOfKind, if_pos (by omega), hO f hf]
  unfold ikO
  by_cases q : o f = -1
  · rw [if_pos q, decide_eq_true q]
    rfl
  · obtain ⟨p, hp⟩ : ∃ p : Nat, o f = (p : Int) := ⟨(o f).toNat, by omega⟩
    rw [if_neg q, decide_eq_false q, if_pos (by omega), hp, hK p (by omega)]
    by_cases q2 : kd p = kind
    · rw [if_pos q2, decide_eq_true q2]
      rfl
    · rw [if_neg q2, decide_eq_false q2]
      rfl
theorem r_isOfClass {L : Nat} (hL : L < 5) (hO : OwR G L o) (ho : okO o) (hK : KdR G kd) (kind : Int) {f : Nat} (hf : f < 64) : f_Mod_isOfClass L f kind G = rI (b2i (ikO kd o kind f)) G := by
  have h9 := ho f hf
  have c0 : (0 : Int) ≤ 64 * (L : Int) + (f : Int) ∧ 64 * (L : Int) + (f : Int) < 320 := by omega
  rw [e_f_Mod_isOfClass, wr_id (z := 64 * (L : Int)) (by omega) (by omega), wr_id (z := 64 * (L : Int) + (f : Int)) (by omega) (by omega)]
  simp only [if_pos c0]
  rw [hO f hf]
  unfold ikO
  by_cases q : o f = -1
  · rw [if_pos (by omega), decide_eq_true q]
    rfl
  · obtain ⟨p, hp⟩ : ∃ p : Nat, o f = (p : Int) := ⟨(o f).toNat, by omega⟩
    rw [if_neg (by omega), decide_eq_false q, hp, wr_id (by omega) (by omega), if_pos (by omega), hK p (by omega)]
    by_cases q2 : kd p = kind
    · rw [if_pos q2, decide_eq_true q2]
      rfl
    · rw [if_neg q2, decide_eq_false q2]
      rfl
theorem g_outline (hO : OwC G i o) (ho : okO o) (hK : KdC G kd) (kind : Int) : f_Par_outlineOf i kind 0 G = rI (olO kd o kind) G := by
  rw [e_f_Par_outlineOf]
  refine loop_sumW (l := fun (s : Int) (k : Nat) => l_Par_outlineOf_5 i kind 0 s k G) (f := olF kd o kind) (r := fun s => rI s G) (m := 2) 64 0 0 (fun k s _ hk h1 h2 => ?_) (fun s => ?_) (fun k _ _ => olF_bd kd o kind k) (by omega) (by omega)
  · have hk : k < 64 := by omega
    have e := e_l_Par_outlineOf_5 i kind 0 s k G
    rw [if_pos (by omega), g_isOfKind hO ho hK kind hk, iRem8 hk, wr_id (z := (k : Int) + 8) (by omega) (by omega), wr_sc (show k < 64 by omega) (by decide), wr_id (z := s + 1) (by omega) (by omega), wr_id (z := s + 1 + 1) (by omega) (by omega)] at e
    simp only [bI_r] at e
    refine e.trans ?_
    clear e
    unfold olF
    by_cases q1 : k % 8 < 7
    · have c1 : ((k % 8 : Nat) : Int) < 7 := by omega
      rw [g_isOfKind hO ho hK kind (show k + 1 < 64 by omega)]
      simp only [bI_r]
      by_cases q2 : k < 56
      · have c8 : ((k + 8 : Nat) : Int) < 64 := by omega
        rw [show (k : Int) + 8 = ((k + 8 : Nat) : Int) by omega, g_isOfKind hO ho hK kind (show k + 8 < 64 by omega)]
        simp only [bI_r, b2i_inj, if_pos c1, if_pos c8]
        generalize ikO kd o kind k = A
        generalize ikO kd o kind (k + 1) = B
        generalize ikO kd o kind (k + 8) = C
        cases A <;> cases B <;> cases C <;> simp [q1, q2, Int.add_assoc]
      · have c8 : ¬((k : Int) + 8 < 64) := by omega
        simp only [bI_r, b2i_inj, if_pos c1, if_neg c8]
        generalize ikO kd o kind k = A
        generalize ikO kd o kind (k + 1) = B
        cases A <;> cases B <;> simp [q1, q2]
    · have c1 : ¬(((k % 8 : Nat) : Int) < 7) := by omega
      by_cases q2 : k < 56
      · have c8 : ((k + 8 : Nat) : Int) < 64 := by omega
        rw [show (k : Int) + 8 = ((k + 8 : Nat) : Int) by omega, g_isOfKind hO ho hK kind (show k + 8 < 64 by omega)]
        simp only [bI_r, b2i_inj, if_neg c1, if_pos c8]
        generalize ikO kd o kind k = A
        generalize ikO kd o kind (k + 8) = C
        cases A <;> cases C <;> simp [q1, q2]
      · have c8 : ¬((k : Int) + 8 < 64) := by omega
        simp only [bI_r, b2i_inj, if_neg c1, if_neg c8]
        simp [q1, q2]
  · have e := e_l_Par_outlineOf_5 i kind 0 s ((0 + 64 : Nat) : Int) G
    rw [if_neg (by decide)] at e
    exact e
theorem r_outline {L : Nat} (hL : L < 5) (hO : OwR G L o) (ho : okO o) (hK : KdR G kd) (kind : Int) : l_Mod_outline_43 L kind 0 0 G = rI (olO kd o kind) G := by
  refine loop_sumW (l := fun (s : Int) (k : Nat) => l_Mod_outline_43 L kind s k G) (f := olF kd o kind) (r := fun s => rI s G) (m := 2) 64 0 0 (fun k s _ hk h1 h2 => ?_) (fun s => ?_) (fun k _ _ => olF_bd kd o kind k) (by omega) (by omega)
  · have hk : k < 64 := by omega
    have e := e_l_Mod_outline_43 L kind s k G
    rw [if_pos (by omega), r_isOfClass hL hO ho hK kind hk, iRem8 hk, wr_id (z := (k : Int) + 8) (by omega) (by omega), wr_sc (show k < 64 by omega) (by decide), wr_id (z := s + 1) (by omega) (by omega), wr_id (z := s + 0) (by omega) (by omega), wr_id (z := s + 1 + 1) (by omega) (by omega), wr_id (z := s + 1 + 0) (by omega) (by omega), wr_id (z := s + 0 + 0) (by omega) (by omega), wr_id (z := s + 0 + 1) (by omega) (by omega)] at e
    simp only [bI_r] at e
    refine e.trans ?_
    clear e
    unfold olF
    by_cases q1 : k % 8 < 7
    · have c1 : ((k % 8 : Nat) : Int) < 7 := by omega
      rw [r_isOfClass hL hO ho hK kind (show k + 1 < 64 by omega)]
      simp only [bI_r]
      by_cases q2 : k < 56
      · have c8 : (k : Int) < 56 := by omega
        rw [show (k : Int) + 8 = ((k + 8 : Nat) : Int) by omega, r_isOfClass hL hO ho hK kind (show k + 8 < 64 by omega)]
        simp only [bI_r, b2i_inj, if_pos c1, if_pos c8]
        generalize ikO kd o kind k = A
        generalize ikO kd o kind (k + 1) = B
        generalize ikO kd o kind (k + 8) = C
        cases A <;> cases B <;> cases C <;> simp [q1, q2, Int.add_assoc]
      · have c8 : ¬((k : Int) < 56) := by omega
        simp only [bI_r, b2i_inj, if_pos c1, if_neg c8]
        generalize ikO kd o kind k = A
        generalize ikO kd o kind (k + 1) = B
        cases A <;> cases B <;> simp [q1, q2]
    · have c1 : ¬(((k % 8 : Nat) : Int) < 7) := by omega
      by_cases q2 : k < 56
      · have c8 : (k : Int) < 56 := by omega
        rw [show (k : Int) + 8 = ((k + 8 : Nat) : Int) by omega, r_isOfClass hL hO ho hK kind (show k + 8 < 64 by omega)]
        simp only [bI_r, b2i_inj, if_neg c1, if_pos c8]
        generalize ikO kd o kind k = A
        generalize ikO kd o kind (k + 8) = C
        cases A <;> cases C <;> simp [q1, q2]
      · have c8 : ¬((k : Int) < 56) := by omega
        simp only [bI_r, b2i_inj, if_neg c1, if_neg c8]
        simp [q1, q2]
  · have e := e_l_Mod_outline_43 L kind s ((0 + 64 : Nat) : Int) G
    rw [if_neg (by decide)] at e
    exact e
theorem r_fieldsOf {s : Nat → Int} (hR : RoR G 26 s) (q : Int) : f_Mod_fieldsOf q G = rI (arO (mOw s) q) G := by
  rw [e_f_Mod_fieldsOf]
  have h := loop_sumW (l := fun (x : Int) (k : Nat) => l_Mod_fieldsOf_4 q x k G) (f := fun f => if mOw s f = q then 1 else 0) (r := fun x => rI x G) (m := 1) 64 0 0 (fun k x _ hk h1 h2 => ?_) (fun x => ?_) (fun k _ _ => by split <;> omega) (by omega) (by omega)
  · refine h.trans ?_
    rw [Int.zero_add]
    rfl
  · have e := e_l_Mod_fieldsOf_4 q x k G
    rw [if_pos (by omega), wr_id (z := 200 + (k : Int)) (by omega) (by omega), if_pos (by omega), hR.ow k (by omega), wr_sc (show k < 64 by omega) (by decide), wr_id (z := x + 1) (by omega) (by omega), wr_id (z := x + 0) (by omega) (by omega)] at e
    refine e.trans ?_
    show _ = l_Mod_fieldsOf_4 q (x + if mOw s k = q then 1 else 0) ((k + 1 : Nat) : Int) G
    by_cases q1 : mOw s k = q
    · rw [if_pos q1, if_pos q1]
    · rw [if_neg q1, if_neg q1]
  · rw [e_l_Mod_fieldsOf_4, if_neg (by decide)]
end RP
