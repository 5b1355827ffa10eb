/-! ===== the vertex that goes next ===== -/
def Fr (P : Nat → Int → Prop) (G G' : GG) : Prop := ∀ t i k, ¬ P t i → G' t i k = G t i k
theorem Fr.refl {P : Nat → Int → Prop} (G : GG) : Fr P G G := fun _ _ _ _ => rfl
theorem Fr.trans {P : Nat → Int → Prop} {G1 G2 G3 : GG} (h1 : Fr P G1 G2) (h2 : Fr P G2 G3) : Fr P G1 G3 := fun t i k h => (h2 t i k h).trans (h1 t i k h)
theorem Fr.mono {P Q : Nat → Int → Prop} {G G' : GG} (h : Fr P G G') (hPQ : ∀ t i, P t i → Q t i) : Fr Q G G' := fun t i k hq => h t i k (fun z => hq (hPQ t i z))
theorem Fr.up {P : Nat → Int → Prop} {t : Nat} {i : Int} (G : GG) (k v : Int) (h : P t i) : Fr P G (up G t i k v) := fun t' i' k' hn => up_ne (fun z => by
  have e1 : t' = t := congrArg Prod.fst z
  have e2 : i' = i := congrArg Prod.snd z
  rw [e1, e2] at hn
  exact hn h) k'
theorem Fr.cpy {P : Nat → Int → Prop} {td : Nat} {id : Int} (G : GG) (ts : Nat) (is sp dp n : Int) (h : P td id) : Fr P G (cpy G ts is sp td id dp n) := fun t' i' k' hn => cpy_ne (fun z => by
  have e1 : t' = td := congrArg Prod.fst z
  have e2 : i' = id := congrArg Prod.snd z
  rw [e1, e2] at hn
  exact hn h) k'
/-- a loop with a state -/
def iterB {S : Type} : Nat → Nat → (Nat → S → S) → S → S
  | _, 0, _, s => s
  | a, n + 1, f, s => iterB (a + 1) n f (f a s)
theorem loop_st {S α : Type} {l : S → Nat → α} {f : Nat → S → S} {r : S → α} : ∀ (n a : Nat) (s : S), (∀ k s, a ≤ k → k < a + n → l s k = l (f k s) (k + 1)) → (∀ s, l s (a + n) = r s) → l s a = r (iterB a n f s)
  | 0, a, s, h1, h2 => h2 s
  | n + 1, a, s, h1, h2 => by
    rw [h1 a s (Nat.le_refl _) (by omega)]
    exact loop_st n (a + 1) (f a s) (fun k s h3 h4 => h1 k s (by omega) (by omega)) (fun s => (congrArg (l s) (show a + 1 + n = a + (n + 1) by omega)).trans (h2 s))
theorem iterB_inv {S : Type} {f : Nat → S → S} {I : S → Prop} : ∀ (n a : Nat) (s : S), (∀ k s, a ≤ k → k < a + n → I s → I (f k s)) → I s → I (iterB a n f s)
  | 0, a, s, h1, h2 => h2
  | n + 1, a, s, h1, h2 => iterB_inv n (a + 1) (f a s) (fun k s h3 h4 => h1 k s (by omega) (by omega)) (h1 a s (Nat.le_refl _) (by omega) h2)
theorem iterB_congr {S : Type} {f g : Nat → S → S} {I : S → Prop} : ∀ (n a : Nat) (s : S), (∀ k s, a ≤ k → k < a + n → I s → f k s = g k s ∧ I (f k s)) → I s → iterB a n f s = iterB a n g s
  | 0, a, s, h1, h2 => rfl
  | n + 1, a, s, h1, h2 => by
    obtain ⟨e, h3⟩ := h1 a s (Nat.le_refl _) (by omega) h2
    unfold iterB
    rw [← e]
    exact iterB_congr n (a + 1) (f a s) (fun k s h4 h5 => h1 k s (by omega) (by omega)) h3
abbrev BS : Type := Int × Int
def scK (w : Nat → Int) (r : Nat → Bool) (b : Int) (k : Nat) (s : BS) : BS := if w k < s.1 ∧ r k = true then (w k, b + (k : Int)) else s
def scL (nl : Nat) (sz : Nat → Nat) (cd : Nat → Nat → Int) (np : Nat) (pt : Nat → Nat → Int) (tol : Int) (l : Nat) (s : BS) : BS := iterB 1 (sz l - 2) (scK (wt cd l) (fun k => decide (rsn nl sz cd np pt tol l k = 0)) (10 * (l : Int))) s
def bestV (nl : Nat) (sz : Nat → Nat) (cd : Nat → Nat → Int) (np : Nat) (pt : Nat → Nat → Int) (tol : Int) : Int := (iterB 0 nl (scL nl sz cd np pt tol) (tol + 1, -1)).2
def szD (sz : Nat → Nat) (l : Nat) : Nat → Nat := fun o => if o = l then sz o - 1 else sz o
def mkD {α : Type} (mk : Nat → Nat → α) (l k : Nat) : Nat → Nat → α := fun o j => if o = l ∧ k ≤ j then mk o (j + 1) else mk o j
/-- the vertex found is one that may go -/
theorem best_ok {nl : Nat} {sz : Nat → Nat} {cd : Nat → Nat → Int} {np : Nat} {pt : Nat → Nat → Int} {tol : Int} (hn : ∀ l : Nat, l < nl → sz l ≤ 10) :
    bestV nl sz cd np pt tol = -1 ∨ ∃ l k : Nat, bestV nl sz cd np pt tol = 10 * (l : Int) + k ∧ l < nl ∧ 1 ≤ k ∧ k + 1 < sz l ∧ rsn nl sz cd np pt tol l k = 0 := by
  refine iterB_inv (I := fun s : BS => s.2 = -1 ∨ ∃ l k : Nat, s.2 = 10 * (l : Int) + k ∧ l < nl ∧ 1 ≤ k ∧ k + 1 < sz l ∧ rsn nl sz cd np pt tol l k = 0) nl 0 _ (fun l s _ hl h => ?_) (Or.inl rfl)
  refine iterB_inv (I := fun s : BS => s.2 = -1 ∨ ∃ l k : Nat, s.2 = 10 * (l : Int) + k ∧ l < nl ∧ 1 ≤ k ∧ k + 1 < sz l ∧ rsn nl sz cd np pt tol l k = 0) (sz l - 2) 1 _ (fun k s h1 h2 h => ?_) h
  unfold scK
  split
  · rename_i hq
    exact Or.inr ⟨l, k, rfl, by omega, h1, by omega, of_decide_eq_true hq.2⟩
  · exact h
section DROP
variable {i : Int} {nl : Nat} {sz : Nat → Nat} {cd : Nat → Nat → Int} {G : GG}
def bln (b : Int) : Int := if b < 0 then -1 else b / 10
def bix (b : Int) : Int := if b < 0 then -1 else b % 10
theorem g_takeOutVertex (hL : LnC G i nl sz cd) (ho : okLn nl sz cd) {l k : Nat} (hl : l < nl) (hk : k < sz l) : ∃ G', f_Lin_takeOutVertex i l k G = rV G' ∧ LnC G' i nl (szD sz l) (mkD cd l k) ∧ Fr (fun t j => j = i ∧ (t = 3 ∨ t = 4)) G G' := by
  have h6 := ho.1
  obtain ⟨h10, -, -⟩ := ho.2 l hl
  have hs := (hL.2 l hl).1
  rw [e_f_Lin_takeOutVertex, hs]
  simp (disch := omega) only [wr_id]
  rw [cpy_t (by decide), hs]
  simp (disch := omega) only [wr_id]
  rw [if_pos (by omega), if_pos (by omega), if_pos (by omega), if_pos (by omega)]
  refine ⟨_, rfl, ⟨?_, fun o ho2 => ⟨?_, fun j hj => ?_⟩⟩, (Fr.cpy G _ _ _ _ _ ⟨rfl, Or.inl rfl⟩).trans (Fr.up _ _ _ ⟨rfl, Or.inr rfl⟩)⟩
  · rw [up_t (by decide), cpy_t (by decide)]
    exact hL.1
  · unfold szD
    by_cases h : o = l
    · subst h
      rw [if_pos rfl, up_at]
      omega
    · rw [if_neg h, up_k (by omega), cpy_t (by decide)]
      exact (hL.2 o ho2).1
  · have h11 := (ho.2 o ho2).1
    rw [up_t (by decide)]
    unfold szD at hj
    unfold mkD
    by_cases h : o = l
    · subst h
      rw [if_pos rfl] at hj
      by_cases hkj : k ≤ j
      · rw [if_pos ⟨rfl, hkj⟩, cpy_in (by omega) (by omega)]
        exact hL.at ho2 (by omega) (by omega)
      · rw [if_neg (fun z => hkj z.2), cpy_out (by omega)]
        exact hL.at ho2 (by omega) (by omega)
    · rw [if_neg h] at hj
      rw [if_neg (fun z => h z.1), cpy_out (by omega)]
      exact hL.at ho2 hj (by omega)
theorem g_drop (hL : LnC G i nl sz cd) (ho : okLn nl sz cd) {j : Int} {np : Nat} {pt : Nat → Nat → Int} (hP : PtC G j np pt) (hp : okPt np pt) {tol : Int} (ht : 0 ≤ tol ∧ tol ≤ 500) :
    (bestV nl sz cd np pt tol = -1 ∧ f_Lin_dropLightest i tol j G = rI 0 G) ∨ ∃ (l k : Nat) (G' : GG), bestV nl sz cd np pt tol = 10 * (l : Int) + k ∧ (l < nl ∧ 1 ≤ k ∧ k + 1 < sz l) ∧ f_Lin_dropLightest i tol j G = rI 1 G' ∧ LnC G' i nl (szD sz l) (mkD cd l k) ∧ Fr (fun t j => j = i ∧ (t = 3 ∨ t = 4)) G G' := by
  have h6 := ho.1
  have inner : ∀ (l : Nat) (s : BS), l < nl → l_Lin_dropLightest_13 i tol j s.1 (bln s.2) (bix s.2) l G = l_Lin_dropLightest_13 i tol j (scL nl sz cd np pt tol l s).1 (bln (scL nl sz cd np pt tol l s).2) (bix (scL nl sz cd np pt tol l s).2) ((l + 1 : Nat) : Int) G := by
    intro l s hl
    obtain ⟨h10, hc, -⟩ := ho.2 l hl
    have hs := (hL.2 l hl).1
    rw [e_l_Lin_dropLightest_13, if_pos (by rw [hL.1]; omega)]
    refine loop_st (l := fun (s : BS) (k : Nat) => l_Lin_dropLightest_25 i tol j s.1 (bln s.2) (bix s.2) l k G) (r := fun s : BS => l_Lin_dropLightest_13 i tol j s.1 (bln s.2) (bix s.2) ((l + 1 : Nat) : Int) G) (sz l - 2) 1 s (fun k s h1 h2 => ?_) (fun s => ?_)
    · rw [e_l_Lin_dropLightest_25, hs]
      simp (disch := omega) only [wr_id]
      rw [if_pos (by omega), if_pos (by omega), g_wt hL ho hl h1 (by omega)]
      simp only [bI_r, g_rsn hL ho hP hp hl (show k < sz l by omega)]
      unfold scK
      have e1 : (k : Int) + 1 = ((k + 1 : Nat) : Int) := by omega
      rw [e1]
      by_cases q1 : wt cd l k < s.1
      · rw [if_pos q1]
        by_cases q2 : rsn nl sz cd np pt tol l k = 0
        · have hb : bln (10 * (l : Int) + k) = l ∧ bix (10 * (l : Int) + k) = k := by unfold bln bix; omega
          rw [if_pos q2, if_pos ⟨q1, decide_eq_true q2⟩]
          dsimp only
          rw [hb.1, hb.2]
        · rw [if_neg q2, if_neg (fun z => q2 (of_decide_eq_true z.2))]
      · rw [if_neg q1, if_neg (fun z => q1 z.1)]
    · rw [e_l_Lin_dropLightest_25, hs]
      simp (disch := omega) only [wr_id]
      rw [if_pos (by omega), if_neg (by omega)]
      rfl
  have all := loop_st (l := fun (s : BS) (l : Nat) => l_Lin_dropLightest_13 i tol j s.1 (bln s.2) (bix s.2) l G) (f := scL nl sz cd np pt tol) (r := fun s : BS => l_Lin_dropLightest_13 i tol j s.1 (bln s.2) (bix s.2) nl G) nl 0 (tol + 1, -1) (fun l s _ hl => inner l s (by omega)) (fun s => by rw [Nat.zero_add])
  have e0 : f_Lin_dropLightest i tol j G = (if bln (bestV nl sz cd np pt tol) = -1 then rI 0 G else bV (f_Lin_takeOutVertex i (bln (bestV nl sz cd np pt tol)) (bix (bestV nl sz cd np pt tol)) G) fun G1 => rI 1 G1) := by
    rw [e_f_Lin_dropLightest, wr_id (by omega) (by omega)]
    refine Eq.trans all ?_
    rw [e_l_Lin_dropLightest_13, if_neg (by rw [hL.1]; omega)]
    rfl
  rcases best_ok (cd := cd) (np := np) (pt := pt) (tol := tol) (fun l hl => (ho.2 l hl).1.2) with hb | ⟨l, k, hb, h1, h2, h3, h4⟩
  · refine Or.inl ⟨hb, ?_⟩
    rw [e0, hb]
    rfl
  · right
    have h10 := (ho.2 l h1).1
    have hbl : bln (10 * (l : Int) + k) = l ∧ bix (10 * (l : Int) + k) = k := by unfold bln bix; omega
    obtain ⟨G', e1, e2, e3⟩ := g_takeOutVertex hL ho h1 (show k < sz l by omega)
    refine ⟨l, k, G', hb, ⟨h1, h2, h3⟩, ?_, e2, e3⟩
    rw [e0, hb, hbl.1, hbl.2, if_neg (by omega), e1]
    rfl
end DROP
