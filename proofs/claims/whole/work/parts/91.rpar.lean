/-! ===== parcels, reference ===== -/
def OwR (G : GG) (L : Nat) (o : Nat → Int) : Prop := ∀ f : Nat, f < 64 → G 36 0 (64 * (L : Int) + f) = o f
def KdR (G : GG) (kd : Int → Int) : Prop := ∀ p : Nat, p < 16 → G 26 0 (264 + (p : Int)) = kd p
theorem r_areaOf {L : Nat} (hL : L < 5) {o : Nat → Int} {G : GG} (hO : OwR G L o) (q : Int) : f_Mod_areaOf L q G = rI (arO o q) G := by
  rw [e_f_Mod_areaOf]
  have h := loop_sumW (l := fun (s : Int) (k : Nat) => l_Mod_areaOf_5 L q s k G) (f := fun f => if o f = q then 1 else 0) (r := fun s => rI s G) (m := 1) 64 0 0 (fun k s _ hk h1 h2 => ?_) (fun s => ?_) (fun k _ _ => by split <;> omega) (by omega) (by omega)
  · refine h.trans ?_
    rw [Int.zero_add]
    rfl
  · have e := e_l_Mod_areaOf_5 L q s k G
    rw [if_pos (by omega)] at e
    simp (disch := omega) only [wr_id] at e
    rw [if_pos (by omega), hO k (by omega)] at e
    refine e.trans ?_
    show _ = l_Mod_areaOf_5 L q (s + if o k = q then 1 else 0) ((k + 1 : Nat) : Int) G
    by_cases q1 : o k = q
    · rw [if_pos q1, if_pos q1]
      rfl
    · rw [if_neg q1, if_neg q1]
      rfl
  · rw [e_l_Mod_areaOf_5, if_neg (by decide)]
theorem p118 (x1 p q k h b s0 s1 : Int) (G : GG) : l_Mod_pairs_118 x1 p q k h b s0 s1 G = l_Mod_pairs_152 x1 p q k (pr1 p q h b) (wr (s1 + s0)) G := by
  rw [e_l_Mod_pairs_118]
  unfold pr1
  by_cases q1 : h = p <;> by_cases q2 : b = q <;> by_cases q3 : h = q <;> by_cases q4 : b = p <;> simp [q1, q2, q3, q4] <;> (split <;> simp_all)
theorem p85 (x1 p q s k h r b : Int) (G : GG) : l_Mod_pairs_85 x1 p q s k h r b G = l_Mod_pairs_118 x1 p q k h b (pr1 p q h r) s G := by
  rw [e_l_Mod_pairs_85]
  unfold pr1
  by_cases q1 : h = p <;> by_cases q2 : r = q <;> by_cases q3 : h = q <;> by_cases q4 : r = p <;> simp [q1, q2, q3, q4] <;> (split <;> simp_all)
theorem pr1_out {p q : Int} (hp : 0 ≤ p) (hq : 0 ≤ q) (a : Int) : pr1 p q a (-2) = 0 := by unfold pr1; rw [if_neg (by omega)]
theorem r_pairs {L : Nat} (hL : L < 5) {o : Nat → Int} {G : GG} (hO : OwR G L o) {p q : Int} (hp : 0 ≤ p) (hq : 0 ≤ q) : f_Mod_pairs L p q G = rI (sumB 0 64 (prF o p q)) G := by
  rw [e_f_Mod_pairs]
  have h := loop_sumW (l := fun (s : Int) (k : Nat) => l_Mod_pairs_6 L p q s k G) (f := prF o p q) (r := fun s => rI s G) (m := 2) 64 0 0 (fun k s _ hk h1 h2 => ?_) (fun s => ?_) (fun k _ _ => prF_bd o p q k) (by omega) (by omega)
  · refine h.trans ?_
    rw [Int.zero_add]
  · have e := e_l_Mod_pairs_6 L p q s k G
    have ek1 : 64 * (L : Int) + (k : Int) + 1 = 64 * (L : Int) + ((k + 1 : Nat) : Int) := by omega
    have ek8 : 64 * (L : Int) + (k : Int) + 8 = 64 * (L : Int) + ((k + 8 : Nat) : Int) := by omega
    have last : ∀ r b : Int, pr1 p q (o k) r = (if k % 8 < 7 then pr1 p q (o k) (o (k + 1)) else 0) → pr1 p q (o k) b = (if k < 56 then pr1 p q (o k) (o (k + 8)) else 0) → l_Mod_pairs_85 L p q s k (o k) r b G = l_Mod_pairs_6 L p q (s + prF o p q k) ((k + 1 : Nat) : Int) G := by
      intro r b e1 e2
      have b1 := pr1_bd p q (o k) r
      have b2 := pr1_bd p q (o k) b
      rw [p85, p118, e_l_Mod_pairs_152]
      simp (disch := omega) only [wr_id]
      unfold prF
      rw [← e1, ← e2, Int.add_assoc]
      rfl
    have below : ∀ r : Int, pr1 p q (o k) r = (if k % 8 < 7 then pr1 p q (o k) (o (k + 1)) else 0) → l_Mod_pairs_56 L p q s k (o k) r G = l_Mod_pairs_6 L p q (s + prF o p q k) ((k + 1 : Nat) : Int) G := by
      intro r e1
      have e2 := e_l_Mod_pairs_56 L p q s k (o k) r G
      by_cases q2 : k < 56
      · rw [if_pos (by omega)] at e2
        simp (disch := omega) only [wr_id] at e2
        rw [if_pos (by omega), ek8, hO (k + 8) (by omega)] at e2
        exact e2.trans (last _ _ e1 (by rw [if_pos q2]))
      · rw [if_neg (by omega)] at e2
        exact e2.trans (last _ _ e1 (by rw [if_neg q2, pr1_out hp hq]))
    rw [if_pos (by omega), iRem8 (by omega)] at e
    simp (disch := omega) only [wr_id] at e
    rw [if_pos (by omega), hO k (by omega)] at e
    by_cases q1 : k % 8 < 7
    · rw [if_pos (by omega), if_pos (by omega), ek1, hO (k + 1) (by omega)] at e
      exact e.trans (below _ (by rw [if_pos q1]))
    · rw [if_neg (by omega)] at e
      exact e.trans (below _ (by rw [if_neg q1, pr1_out hp hq]))
  · rw [e_l_Mod_pairs_6, if_neg (by decide)]
theorem r_borderOf {L : Nat} (hL : L < 5) {o : Nat → Int} {G : GG} (hO : OwR G L o) {p q : Int} (hp : 0 ≤ p) (hq : 0 ≤ q) : f_Mod_borderOf L p q G = rI (bdO o p q) G := by
  rw [e_f_Mod_borderOf]
  unfold bdO
  by_cases h : p = q
  · rw [if_pos h, if_pos h]
  · rw [if_neg h, if_neg h, r_pairs hL hO hp hq]
    rfl
/-- the reference's rounds of heirs -/
abbrev GT : Type := Int × Int
def gtS (c : Int → Bool) (bd ar : Int → Int) (k : Nat) (s : GT) : GT := if 0 < bd k ∧ c k = true then (if s.2 < bd k then ((k : Int), bd k) else if bd k = s.2 ∧ ar s.1 < ar k then ((k : Int), bd k) else s) else s
def gtO (c : Int → Bool) (bd ar : Int → Int) : GT := iterB 0 16 (gtS c bd ar) (-1, 0)
def ownK (kd : Int → Int) (p : Int) : Int → Bool := fun k => decide (kd k = kd p)
def anyK : Int → Bool := fun _ => true
theorem r_round {L : Nat} (hL : L < 5) {o : Nat → Int} {G : GG} {kd : Int → Int} (hO : OwR G L o) (hK : KdR G kd) {p : Nat} (hp : p < 16) {r : Nat} (hr : r < 2) (hs : r = 0 ∨ G 26 0 295 = 0) :
    l_Mod_goesTo_21 L p (-1) r 0 0 G = l_Mod_goesTo_5 L p (gtO (if r = 0 then ownK kd p else anyK) (bdO o p) (arO o)).1 ((r + 1 : Nat) : Int) G := by
  refine loop_st (l := fun (s : GT) (k : Nat) => l_Mod_goesTo_21 L p s.1 r s.2 k G) (f := gtS (if r = 0 then ownK kd p else anyK) (bdO o p) (arO o)) (r := fun s : GT => l_Mod_goesTo_5 L p s.1 ((r + 1 : Nat) : Int) G) 16 0 (-1, 0) (fun k s _ hk => ?_) (fun s => ?_)
  · have ek : wr ((k : Int) + 1) = ((k + 1 : Nat) : Int) := wr_id (by omega) (by omega)
    have t106 : ∀ f : Int, l_Mod_goesTo_106 L p s.1 r s.2 k (bdO o p k) f G = if f = 0 then l_Mod_goesTo_21 L p s.1 r s.2 ((k + 1 : Nat) : Int) G else l_Mod_goesTo_21 L p (if s.2 < bdO o p k then ((k : Int), bdO o p k) else if bdO o p k = s.2 ∧ arO o s.1 < arO o k then ((k : Int), bdO o p k) else s).1 r (if s.2 < bdO o p k then ((k : Int), bdO o p k) else if bdO o p k = s.2 ∧ arO o s.1 < arO o k then ((k : Int), bdO o p k) else s).2 ((k + 1 : Nat) : Int) G := by
      intro f
      have e := e_l_Mod_goesTo_106 L p s.1 r s.2 k (bdO o p k) f G
      simp only [ek, r_areaOf hL hO, bI_r] at e
      refine e.trans ?_
      clear e
      by_cases q1 : f = 0
      · simp only [if_pos q1]
      · simp only [if_neg q1]
        by_cases q2 : s.2 < bdO o p k
        · simp only [if_pos q2]
        · simp only [if_neg q2]
          by_cases q3 : bdO o p k = s.2
          · by_cases q4 : arO o s.1 < arO o k
            · simp only [if_pos q3, if_pos q4, if_pos (show bdO o p k = s.2 ∧ arO o s.1 < arO o k from ⟨q3, q4⟩)]
            · simp only [if_pos q3, if_neg q4, if_neg (show ¬(bdO o p k = s.2 ∧ arO o s.1 < arO o k) from fun z => q4 z.2)]
          · simp only [if_neg q3, if_neg (show ¬(bdO o p k = s.2 ∧ arO o s.1 < arO o k) from fun z => q3 z.1)]
    have t73 : ∀ f : Int, (r = 0 → f = b2i (ownK kd p k)) → l_Mod_goesTo_73 L p s.1 r s.2 k f G = l_Mod_goesTo_21 L p (gtS (if r = 0 then ownK kd p else anyK) (bdO o p) (arO o) k s).1 r (gtS (if r = 0 then ownK kd p else anyK) (bdO o p) (arO o) k s).2 ((k + 1 : Nat) : Int) G := by
      intro f hf
      have e := e_l_Mod_goesTo_73 L p s.1 r s.2 k f G
      rw [r_borderOf hL hO (by omega) (by omega)] at e
      simp only [bI_r, t106] at e
      refine e.trans ?_
      clear e
      unfold gtS
      by_cases q1 : r = 0
      · have q1' : ¬(r : Int) = 1 := by omega
        have hf := hf q1
        simp only [if_neg q1', if_pos q1]
        by_cases q2 : ownK kd p k = true
        · rw [q2] at hf
          subst hf
          by_cases q3 : 0 < bdO o p k
          · simp only [if_pos q3, if_pos (show 0 < bdO o p k ∧ ownK kd p k = true from ⟨q3, q2⟩)]
            rfl
          · simp only [if_neg q3, if_neg (show ¬(0 < bdO o p k ∧ ownK kd p k = true) from fun z => q3 z.1)]
            rfl
        · rw [Bool.not_eq_true] at q2
          rw [q2] at hf
          subst hf
          simp only [if_neg (show ¬(0 < bdO o p k ∧ ownK kd p k = true) from fun z => by rw [q2] at z; cases z.2)]
          rfl
      · have q1' : (r : Int) = 1 := by omega
        simp only [if_pos q1', if_neg q1]
        by_cases q3 : 0 < bdO o p k
        · simp only [if_pos q3, if_pos (show 0 < bdO o p k ∧ anyK (k : Int) = true from ⟨q3, rfl⟩)]
          rfl
        · simp only [if_neg q3, if_neg (show ¬(0 < bdO o p k ∧ anyK (k : Int) = true) from fun z => q3 z.1)]
          rfl
    have e := e_l_Mod_goesTo_21 L p s.1 r s.2 k G
    rw [if_pos (by omega)] at e
    simp (disch := omega) only [wr_id] at e
    have i1 : (0 : Int) ≤ 264 + (k : Int) ∧ 264 + (k : Int) < 296 := by omega
    have i2 : (0 : Int) ≤ 264 + (p : Int) ∧ 264 + (p : Int) < 296 := by omega
    simp only [if_pos i1, if_pos i2, hK k (by omega), hK p hp] at e
    refine e.trans ?_
    clear e
    show _ = l_Mod_goesTo_21 L p (gtS (if r = 0 then ownK kd p else anyK) (bdO o p) (arO o) k s).1 r (gtS (if r = 0 then ownK kd p else anyK) (bdO o p) (arO o) k s).2 ((k + 1 : Nat) : Int) G
    by_cases q1 : r = 0
    · rw [if_pos (by omega)]
      by_cases q2 : kd k = kd p
      · rw [if_pos q2]
        exact t73 1 (fun _ => by unfold ownK; rw [decide_eq_true q2]; rfl)
      · rw [if_neg q2]
        exact t73 0 (fun _ => by unfold ownK; rw [decide_eq_false q2]; rfl)
    · rw [if_neg (by omega), if_pos (hs.resolve_left q1)]
      by_cases q2 : kd k = kd p
      · rw [if_pos q2]
        exact t73 1 (fun h => absurd h q1)
      · rw [if_neg q2]
        exact t73 0 (fun h => absurd h q1)
  · have e := e_l_Mod_goesTo_21 L p s.1 r s.2 ((0 + 16 : Nat) : Int) G
    rw [if_neg (by decide), wr_id (by omega) (by omega)] at e
    exact e

theorem gtO_bd {c : Int → Bool} {bd ar : Int → Int} : -1 ≤ (gtO c bd ar).1 ∧ (gtO c bd ar).1 < 16 :=
  iterB_inv (I := fun s : GT => -1 ≤ s.1 ∧ s.1 < 16) 16 0 _ (fun k s _ hk hI => by
    unfold gtS
    split
    · split
      · show -1 ≤ (k : Int) ∧ (k : Int) < 16
        omega
      · split
        · show -1 ≤ (k : Int) ∧ (k : Int) < 16
          omega
        · exact hI
    · exact hI) (by decide)
/-- two loops side by side -/
theorem iterB_rel2 {S T : Type} {f : Nat → S → S} {g : Nat → T → T} {R : S → T → Prop} : ∀ (n a : Nat) (s : S) (t : T), (∀ k s t, a ≤ k → k < a + n → R s t → R (f k s) (g k t)) → R s t → R (iterB a n f s) (iterB a n g t)
  | 0, a, s, t, h1, h2 => h2
  | n + 1, a, s, t, h1, h2 => iterB_rel2 n (a + 1) (f a s) (g a t) (fun k s t h3 h4 => h1 k s t (by omega) (by omega)) (h1 a s t (Nat.le_refl _) (by omega) h2)
theorem iterB_pair {S T : Type} {f : Nat → S → S} {g : Nat → T → T} : ∀ (n a : Nat) (s : S) (t : T), iterB a n (fun k (z : S × T) => (f k z.1, g k z.2)) (s, t) = (iterB a n f s, iterB a n g t)
  | 0, a, s, t => rfl
  | n + 1, a, s, t => iterB_pair n (a + 1) (f a s) (g a t)
def relH (kd : Int → Int) (st : Int) (bd : Int → Int) (kp : Int) (h : Int) (z : GT × GT) : Prop :=
  ((z.1.1 = -1 ∧ z.1.2 = 0) ∨ (0 ≤ z.1.1 ∧ z.1.2 = bd z.1.1 ∧ kd z.1.1 = kp ∧ 0 < bd z.1.1)) ∧
  ((z.2.1 = -1 ∧ z.2.2 = 0) ∨ (0 ≤ z.2.1 ∧ z.2.2 = bd z.2.1 ∧ 0 < bd z.2.1)) ∧
  (z.1.1 = -1 → z.2.1 = -1 ∨ kd z.2.1 ≠ kp) ∧
  h = (if z.1.1 ≠ -1 then z.1.1 else if st = 0 then z.2.1 else -1)
def lx (bd ar : Int → Int) (q h : Int) : Bool := if bd q = bd h then decide (ar h < ar q) else decide (bd h < bd q)
theorem gt_lx {c : Int → Bool} {bd ar : Int → Int} {k : Nat} {s : GT} (h1 : 0 < bd k) (hc : c k = true) (hb : s.2 = bd s.1) : gtS c bd ar k s = bif lx bd ar k s.1 then ((k : Int), bd k) else s := by
  unfold gtS lx
  rw [if_pos ⟨h1, hc⟩, hb]
  by_cases q : bd k = bd s.1
  · rw [if_neg (by omega), if_pos q]
    by_cases r : ar s.1 < ar k
    · rw [if_pos ⟨q, r⟩, decide_eq_true r]
      rfl
    · rw [if_neg (fun z => r z.2), decide_eq_false r]
      rfl
  · by_cases r : bd s.1 < bd k
    · rw [if_pos r, if_neg q, decide_eq_true r]
      rfl
    · rw [if_neg r, if_neg (fun z => q z.1), if_neg q, decide_eq_false r]
      rfl
theorem gt_new {c : Int → Bool} {bd ar : Int → Int} {k : Nat} {s : GT} (h1 : 0 < bd k) (hc : c k = true) (hb : s.2 = 0) : gtS c bd ar k s = ((k : Int), bd k) := by
  unfold gtS
  rw [if_pos ⟨h1, hc⟩, if_pos (by omega)]
theorem gt_no {c : Int → Bool} {bd ar : Int → Int} {k : Nat} {s : GT} (h1 : ¬(0 < bd k ∧ c k = true)) : gtS c bd ar k s = s := by
  unfold gtS
  rw [if_neg h1]
theorem gt_inv {bd ar : Int → Int} {k : Nat} {s : GT} (h : (s.1 = -1 ∧ s.2 = 0) ∨ (0 ≤ s.1 ∧ s.2 = bd s.1 ∧ 0 < bd s.1)) :
    ((gtS anyK bd ar k s).1 = -1 ∧ (gtS anyK bd ar k s).2 = 0) ∨ (0 ≤ (gtS anyK bd ar k s).1 ∧ (gtS anyK bd ar k s).2 = bd (gtS anyK bd ar k s).1 ∧ 0 < bd (gtS anyK bd ar k s).1) := by
  by_cases q1 : 0 < bd k
  · rcases h with h | h
    · rw [gt_new q1 rfl h.2]
      exact Or.inr ⟨Int.natCast_nonneg k, rfl, q1⟩
    · rw [gt_lx q1 rfl h.2.1]
      cases lx bd ar k s.1 with
      | true => exact Or.inr ⟨Int.natCast_nonneg k, rfl, q1⟩
      | false => exact Or.inr h
  · rw [gt_no (fun z => q1 z.1)]
    exact h
theorem bet_lx {kd bd ar : Int → Int} {kp q h : Int} (e : kd q = kp ↔ kd h = kp) : bet kd bd ar kp q h = lx bd ar q h := by
  unfold bet lx
  rw [if_neg (fun z => z.2 (e.mp z.1)), if_neg (fun z => z.1 (e.mpr z.2))]
theorem bet_t {kd bd ar : Int → Int} {kp q h : Int} (e : kd q = kp) (e2 : kd h ≠ kp) : bet kd bd ar kp q h = true := by
  unfold bet
  rw [if_pos ⟨e, e2⟩]
theorem bet_f {kd bd ar : Int → Int} {kp q h : Int} (e : kd q ≠ kp) (e2 : kd h = kp) : bet kd bd ar kp q h = false := by
  unfold bet
  rw [if_neg (fun z => e z.1), if_pos ⟨e, e2⟩]
theorem relH_step {kd : Int → Int} {st : Int} {bd ar : Int → Int} {kp : Int} {k : Nat} {h : Int} {z : GT × GT} (hz : relH kd st bd kp h z) :
    relH kd st bd kp (hrS kd st bd ar kp k h) (gtS (fun q => decide (kd q = kp)) bd ar k z.1, gtS anyK bd ar k z.2) := by
  obtain ⟨h1, h2, h3, h4⟩ := hz
  have hk0 : (0 : Int) ≤ k := Int.natCast_nonneg k
  have inv := gt_inv (ar := ar) (k := k) h2
  by_cases q1 : 0 < bd k
  · by_cases q2 : kd k = kp
    · have qc : (fun q => decide (kd q = kp)) (k : Int) = true := decide_eq_true q2
      unfold hrS
      rw [if_pos ⟨q1, Or.inr q2⟩]
      rcases h1 with h1 | h1
      · have e0 := gt_new (c := fun q => decide (kd q = kp)) (ar := ar) (s := z.1) q1 qc h1.2
        have eh : (if h = -1 then (k : Int) else bif bet kd bd ar kp k h then (k : Int) else h) = k := by
          by_cases q3 : h = -1
          · rw [if_pos q3]
          · rw [if_neg q3]
            have e5 : kd h ≠ kp := by
              rw [if_neg (fun z => z h1.1)] at h4
              by_cases q4 : st = 0
              · rw [if_pos q4] at h4
                rw [h4]
                exact (h3 h1.1).resolve_left (fun z => q3 (h4.trans z))
              · rw [if_neg q4] at h4
                exact absurd h4 q3
            rw [bet_t q2 e5]
            rfl
        rw [eh, e0]
        exact ⟨Or.inr ⟨hk0, rfl, q2, q1⟩, inv, fun z => absurd z (by dsimp only; omega), by rw [if_pos (show ((k : Int), bd k).1 ≠ -1 by dsimp only; omega)]⟩
      · have e0 := gt_lx (c := fun q => decide (kd q = kp)) (ar := ar) (s := z.1) q1 qc h1.2.1
        rw [if_pos (by omega)] at h4
        have e5 : (kd (k : Int) = kp ↔ kd h = kp) := by rw [h4]; exact ⟨fun _ => h1.2.2.1, fun _ => q2⟩
        rw [if_neg (by omega), bet_lx e5, e0, h4]
        cases lx bd ar k z.1.1 with
        | true => exact ⟨Or.inr ⟨hk0, rfl, q2, q1⟩, inv, fun z => absurd z (by dsimp only [cond]; omega), by show (k : Int) = if (k : Int) ≠ -1 then (k : Int) else if st = 0 then (gtS anyK bd ar k z.2).1 else -1; rw [if_pos (by omega)]⟩
        | false => exact ⟨Or.inr h1, inv, fun z9 => absurd z9 (by dsimp only [cond]; omega), by dsimp only [cond]; rw [if_pos (by omega)]⟩
    · have e0 : gtS (fun q => decide (kd q = kp)) bd ar k z.1 = z.1 := gt_no (fun z => q2 (of_decide_eq_true z.2))
      rw [e0]
      unfold hrS
      by_cases q5 : st = 0
      · rw [if_pos ⟨q1, Or.inl q5⟩]
        rcases h1 with h1 | h1
        · rw [if_neg (fun z => z h1.1), if_pos q5] at h4
          rcases h2 with h2 | h2
          · have e1 := gt_new (c := anyK) (ar := ar) (s := z.2) q1 rfl h2.2
            rw [if_pos (h4.trans h2.1)]
            refine ⟨Or.inl h1, inv, fun _ => Or.inr ?_, ?_⟩
            · rw [e1]
              exact q2
            · rw [e1]
              rw [if_neg (fun z => z h1.1), if_pos q5]
          · have e1 := gt_lx (c := anyK) (ar := ar) (s := z.2) q1 rfl h2.2.1
            have e6 : kd z.2.1 ≠ kp := (h3 h1.1).resolve_left (by omega)
            have e5 : (kd (k : Int) = kp ↔ kd h = kp) := by rw [h4]; exact ⟨fun w => absurd w q2, fun w => absurd w e6⟩
            rw [if_neg (by omega), bet_lx e5]
            refine ⟨Or.inl h1, inv, fun _ => Or.inr ?_, ?_⟩
            · rw [e1]
              cases lx bd ar k z.2.1 with
              | true => exact q2
              | false => exact e6
            · rw [e1, if_neg (fun z => z h1.1), if_pos q5, h4]
              cases lx bd ar k z.2.1 with
              | true => rfl
              | false => rfl
        · rw [if_pos (by omega)] at h4
          rw [if_neg (by omega), bet_f q2 (by rw [h4]; exact h1.2.2.1)]
          have e7 : z.1.1 ≠ -1 := by omega
          refine ⟨Or.inr h1, inv, fun w => absurd w e7, ?_⟩
          show h = if z.1.1 ≠ -1 then z.1.1 else if st = 0 then (gtS anyK bd ar k z.2).1 else -1
          rw [if_pos e7]
          exact h4
      · rw [if_neg (fun z => z.2.elim q5 q2)]
        refine ⟨h1, inv, fun e => ?_, ?_⟩
        · rcases h2 with h2 | h2
          · rw [gt_new (c := anyK) q1 rfl h2.2]
            exact Or.inr q2
          · rw [gt_lx (c := anyK) q1 rfl h2.2.1]
            cases lx bd ar k z.2.1 with
            | true => exact Or.inr q2
            | false => exact h3 e
        · rw [h4]
          simp only [if_neg q5]
  · have e1 := gt_no (c := fun q => decide (kd q = kp)) (ar := ar) (k := k) (s := z.1) (fun z => q1 z.1)
    have e2 := gt_no (c := anyK) (ar := ar) (k := k) (s := z.2) (fun z => q1 z.1)
    rw [e1, e2]
    unfold hrS
    rw [if_neg (fun z => q1 z.1)]
    exact ⟨h1, h2, h3, h4⟩
theorem heir_gt (kd : Int → Int) (st : Int) (o : Nat → Int) (p : Int) : heirO kd st o p = (if (gtO (ownK kd p) (bdO o p) (arO o)).1 ≠ -1 then (gtO (ownK kd p) (bdO o p) (arO o)).1 else if st = 0 then (gtO anyK (bdO o p) (arO o)).1 else -1) := by
  have key := iterB_rel2 (f := hrS kd st (bdO o p) (arO o) (kd p)) (g := fun k (z : GT × GT) => (gtS (ownK kd p) (bdO o p) (arO o) k z.1, gtS anyK (bdO o p) (arO o) k z.2)) (R := relH kd st (bdO o p) (kd p)) 16 0 (-1) ((-1, 0), (-1, 0)) (fun k s t _ _ h => relH_step h) ⟨Or.inl ⟨rfl, rfl⟩, Or.inl ⟨rfl, rfl⟩, fun _ => Or.inl rfl, by dsimp only; rw [if_neg (by decide)]; split <;> rfl⟩
  rw [iterB_pair] at key
  exact key.2.2.2
theorem r_goesTo {L : Nat} (hL : L < 5) {o : Nat → Int} {G : GG} {kd : Int → Int} (hO : OwR G L o) (hK : KdR G kd) {p : Nat} (hp : p < 16) : f_Mod_goesTo L p G = rI (heirO kd (G 26 0 295) o p) G := by
  have b0 := gtO_bd (c := ownK kd p) (bd := bdO o p) (ar := arO o)
  have b1 := gtO_bd (c := anyK) (bd := bdO o p) (ar := arO o)
  rw [e_f_Mod_goesTo, e_l_Mod_goesTo_5, if_pos (by decide), if_pos (by decide), heir_gt]
  have r0 := r_round hL hO hK hp (r := 0) (by decide) (Or.inl rfl)
  rw [if_pos rfl] at r0
  refine r0.trans ?_
  generalize gtO (ownK kd p) (bdO o p) (arO o) = s at b0 ⊢
  have e := e_l_Mod_goesTo_5 L p s.1 ((0 + 1 : Nat) : Int) G
  rw [if_pos (by decide)] at e
  refine e.trans ?_
  by_cases q1 : s.1 < 0
  · have q2 : s.1 = -1 := by omega
    rw [if_pos q1, if_neg (fun z => z q2), q2]
    by_cases q3 : G 26 0 295 = 0
    · have r1 := r_round hL hO hK hp (r := 1) (by decide) (Or.inr q3)
      rw [if_neg (by decide)] at r1
      rw [if_pos q3]
      refine r1.trans ?_
      rw [e_l_Mod_goesTo_5, if_neg (by decide)]
    · have e := e_l_Mod_goesTo_21 L p (-1) ((0 + 1 : Nat) : Int) 0 0 G
      rw [if_pos (by decide), if_neg (by decide), if_neg q3] at e
      rw [if_neg q3]
      refine e.trans ?_
      rw [e_l_Mod_goesTo_5, if_neg (by decide)]
  · rw [if_neg q1, if_pos (by omega)]
