/-! ===== numbers and loops of the small machine ===== -/
theorem wr_id {z : Int} (h1 : -2147483648 ≤ z) (h2 : z < 2147483648) : wr z = z := by unfold wr; omega
theorem bI_r (x : Int) (G : GG) (k : Int → GG → RS) : bI (rI x G) k = k x G := rfl
theorem bV_r (G : GG) (k : GG → RS) : bV (rV G) k = k G := rfl
theorem bR_r (t : Nat) (i : Int) (G : GG) (k : Int → GG → RS) : bR t (rR t i G) k = k i G := by
  show (if t = t then k i G else none) = k i G
  rw [if_pos rfl]
theorem bD_r (x : UInt64) (G : GG) (k : UInt64 → GG → RS) : bD (rD x G) k = k x G := rfl
theorem bI_x (e : Nat) (G : GG) (k : Int → GG → RS) : bI (rX e G) k = rX e G := rfl
theorem bV_x (e : Nat) (G : GG) (k : GG → RS) : bV (rX e G) k = rX e G := rfl
theorem bR_x (t e : Nat) (G : GG) (k : Int → GG → RS) : bR t (rX e G) k = rX e G := rfl
theorem up_at (G : GG) (t : Nat) (i k v : Int) : up G t i k v t i k = v := up_same G t i k v
theorem up_t {G : GG} {t t' : Nat} {i k v i' k' : Int} (h : t' ≠ t) : up G t i k v t' i' k' = G t' i' k' := by unfold up; rw [if_neg (fun z => h z.1)]
theorem up_i {G : GG} {t t' : Nat} {i k v i' k' : Int} (h : i' ≠ i) : up G t i k v t' i' k' = G t' i' k' := by unfold up; rw [if_neg (fun z => h z.2.1)]
theorem up_k {G : GG} {t t' : Nat} {i k v i' k' : Int} (h : k' ≠ k) : up G t i k v t' i' k' = G t' i' k' := by unfold up; rw [if_neg (fun z => h z.2.2)]
theorem cpy_t {G : GG} {ts : Nat} {is sp : Int} {td : Nat} {id dp n : Int} {t' : Nat} {i' k' : Int} (h : t' ≠ td) : cpy G ts is sp td id dp n t' i' k' = G t' i' k' := by unfold cpy; rw [if_neg (fun z => h z.1)]
theorem cpy_i {G : GG} {ts : Nat} {is sp : Int} {td : Nat} {id dp n : Int} {t' : Nat} {i' k' : Int} (h : i' ≠ id) : cpy G ts is sp td id dp n t' i' k' = G t' i' k' := by unfold cpy; rw [if_neg (fun z => h z.2.1)]
theorem cpy_in {G : GG} {ts : Nat} {is sp : Int} {td : Nat} {id dp n : Int} {k' : Int} (h1 : dp ≤ k') (h2 : k' < dp + n) : cpy G ts is sp td id dp n td id k' = G ts is (sp + (k' - dp)) := by unfold cpy; rw [if_pos ⟨rfl, rfl, h1, h2⟩]
theorem cpy_out {G : GG} {ts : Nat} {is sp : Int} {td : Nat} {id dp n : Int} {t' : Nat} {i' k' : Int} (h : k' < dp ∨ dp + n ≤ k') : cpy G ts is sp td id dp n t' i' k' = G t' i' k' := by unfold cpy; rw [if_neg (fun z => by omega)]
theorem mul_bd {u v : Int} {a b : Nat} (h1 : -(a : Int) ≤ u) (h2 : u ≤ a) (h3 : -(b : Int) ≤ v) (h4 : v ≤ b) : -((a * b : Nat) : Int) ≤ u * v ∧ u * v ≤ ((a * b : Nat) : Int) := by
  have h5 : u.natAbs ≤ a := by omega
  have h6 : v.natAbs ≤ b := by omega
  have h7 : (u * v).natAbs ≤ a * b := by rw [Int.natAbs_mul]; exact Nat.mul_le_mul h5 h6
  generalize u * v = w at h7 ⊢
  generalize a * b = c at h7 ⊢
  omega
theorem bShr6 {c : Int} (h0 : 0 ≤ c) (h1 : c < 4096) : bShr c 6 = c / 64 := by
  have key : ∀ n : Nat, n < 4096 → bShr (n : Int) 6 = ((n / 64 : Nat) : Int) := by
    have h : ((List.range 4096).all fun n => decide (bShr (n : Int) 6 = ((n / 64 : Nat) : Int))) = true := by decide +kernel
    exact fun n hn => of_decide_eq_true (List.all_eq_true.mp h n (List.mem_range.mpr hn))
  have := key c.toNat (by omega)
  rw [show ((c.toNat : Nat) : Int) = c by omega] at this
  rw [this]
  omega
theorem bAnd63 {c : Int} (h0 : 0 ≤ c) (h1 : c < 4096) : bAnd c 63 = c % 64 := by
  have key : ∀ n : Nat, n < 4096 → bAnd (n : Int) 63 = ((n % 64 : Nat) : Int) := by
    have h : ((List.range 4096).all fun n => decide (bAnd (n : Int) 63 = ((n % 64 : Nat) : Int))) = true := by decide +kernel
    exact fun n hn => of_decide_eq_true (List.all_eq_true.mp h n (List.mem_range.mpr hn))
  have := key c.toNat (by omega)
  rw [show ((c.toNat : Nat) : Int) = c by omega] at this
  rw [this]
  omega
/-! loops that only look -/
def anyB : Nat → Nat → (Nat → Bool) → Bool
  | _, 0, _ => false
  | a, n + 1, f => f a || anyB (a + 1) n f
/-- a loop from a over n places that ends at the first place where f holds -/
theorem loop_first {α : Type} {l : Nat → α} {f : Nat → Bool} {rf : α} {rt : Nat → α} : ∀ (n a : Nat), (∀ k, a ≤ k → k < a + n → f k = true → l k = rt k) → (∀ k, a ≤ k → k < a + n → f k = false → l k = l (k + 1)) → l (a + n) = rf →
    (anyB a n f = false → l a = rf) ∧ (∀ k, a ≤ k → k < a + n → f k = true → (∀ j, a ≤ j → j < k → f j = false) → l a = rt k)
  | 0, a, h1, h2, h3 => ⟨fun _ => h3, fun k h4 h5 => absurd h5 (by omega)⟩
  | n + 1, a, h1, h2, h3 => by
    have h3' : l (a + 1 + n) = rf := (congrArg l (show a + 1 + n = a + (n + 1) by omega)).trans h3
    have ih := loop_first n (a + 1) (fun k h4 h5 => h1 k (by omega) (by omega)) (fun k h4 h5 => h2 k (by omega) (by omega)) h3'
    refine ⟨fun h => ?_, fun k h4 h5 h6 h7 => ?_⟩
    · unfold anyB at h
      rw [Bool.or_eq_false_iff] at h
      rw [h2 a (Nat.le_refl _) (by omega) h.1]
      exact ih.1 h.2
    · by_cases hk : k = a
      · subst hk
        exact h1 k (Nat.le_refl _) (by omega) h6
      · rw [h2 a (Nat.le_refl _) (by omega) (h7 a (Nat.le_refl _) (by omega))]
        exact ih.2 k (by omega) (by omega) h6 (fun j h8 h9 => h7 j (by omega) h9)
theorem loop_any {α : Type} {l : Nat → α} {f : Nat → Bool} {rf rt : α} : ∀ (n a : Nat), (∀ k, a ≤ k → k < a + n → f k = true → l k = rt) → (∀ k, a ≤ k → k < a + n → f k = false → l k = l (k + 1)) → l (a + n) = rf →
    l a = bif anyB a n f then rt else rf
  | 0, a, h1, h2, h3 => h3
  | n + 1, a, h1, h2, h3 => by
    have h3' : l (a + 1 + n) = rf := (congrArg l (show a + 1 + n = a + (n + 1) by omega)).trans h3
    have ih := loop_any n (a + 1) (fun k h4 h5 => h1 k (by omega) (by omega)) (fun k h4 h5 => h2 k (by omega) (by omega)) h3'
    unfold anyB
    cases hf : f a with
    | true => rw [h1 a (Nat.le_refl _) (by omega) hf]; rfl
    | false => rw [h2 a (Nat.le_refl _) (by omega) hf, ih]; rfl
theorem anyB_true {f : Nat → Bool} : ∀ {n a : Nat}, anyB a n f = true ↔ ∃ k, a ≤ k ∧ k < a + n ∧ f k = true
  | 0, a => ⟨(fun h => by cases h), (fun ⟨k, h1, h2, _⟩ => absurd h2 (by omega))⟩
  | n + 1, a => by
    unfold anyB
    rw [Bool.or_eq_true, anyB_true]
    constructor
    · rintro (h | ⟨k, h1, h2, h3⟩)
      · exact ⟨a, Nat.le_refl _, by omega, h⟩
      · exact ⟨k, by omega, by omega, h3⟩
    · rintro ⟨k, h1, h2, h3⟩
      by_cases hk : k = a
      · subst hk; exact Or.inl h3
      · exact Or.inr ⟨k, by omega, by omega, h3⟩
theorem anyB_false {f : Nat → Bool} {n a : Nat} : anyB a n f = false ↔ ∀ k, a ≤ k → k < a + n → f k = false := by
  rw [← Bool.not_eq_true, anyB_true]
  constructor
  · intro h k h1 h2
    cases hf : f k with
    | false => rfl
    | true => exact absurd ⟨k, h1, h2, hf⟩ h
  · rintro h ⟨k, h1, h2, h3⟩
    rw [h k h1 h2] at h3
    cases h3
theorem anyB_congr {f g : Nat → Bool} : ∀ (n a : Nat), (∀ k, a ≤ k → k < a + n → f k = g k) → anyB a n f = anyB a n g
  | 0, a, h => rfl
  | n + 1, a, h => by
    unfold anyB
    rw [h a (Nat.le_refl _) (by omega), anyB_congr n (a + 1) (fun k h1 h2 => h k (by omega) (by omega))]
/-- sums -/
def sumB : Nat → Nat → (Nat → Int) → Int
  | _, 0, _ => 0
  | a, n + 1, f => f a + sumB (a + 1) n f
theorem sumB_bd {f : Nat → Int} {m : Nat} : ∀ (n a : Nat), (∀ k, a ≤ k → k < a + n → 0 ≤ f k ∧ f k ≤ m) → 0 ≤ sumB a n f ∧ sumB a n f ≤ ((n * m : Nat) : Int)
  | 0, a, h => by unfold sumB; omega
  | n + 1, a, h => by
    unfold sumB
    have h1 := h a (Nat.le_refl _) (by omega)
    have h2 := sumB_bd n (a + 1) (fun k h4 h5 => h k (by omega) (by omega))
    rw [Nat.succ_mul]
    omega
theorem sumB_congr {f g : Nat → Int} : ∀ (n a : Nat), (∀ k, a ≤ k → k < a + n → f k = g k) → sumB a n f = sumB a n g
  | 0, a, h => rfl
  | n + 1, a, h => by
    unfold sumB
    rw [h a (Nat.le_refl _) (by omega), sumB_congr n (a + 1) (fun k h1 h2 => h k (by omega) (by omega))]
/-- a loop that adds up -/
theorem loop_sum {α : Type} {l : Int → Nat → α} {f : Nat → Int} {r : Int → α} : ∀ (n a : Nat) (s : Int), (∀ k s, a ≤ k → k < a + n → l s k = l (s + f k) (k + 1)) → (∀ s, l s (a + n) = r s) → l s a = r (s + sumB a n f)
  | 0, a, s, h1, h2 => by unfold sumB; rw [Int.add_zero]; exact h2 s
  | n + 1, a, s, h1, h2 => by
    unfold sumB
    rw [h1 a s (Nat.le_refl _) (by omega), loop_sum n (a + 1) (s + f a) (fun k s h4 h5 => h1 k s (by omega) (by omega)) (fun s => (congrArg (l s) (show a + 1 + n = a + (n + 1) by omega)).trans (h2 s)), Int.add_assoc]
/-- the same where the sum stays within bounds -/
theorem loop_sumW {α : Type} {l : Int → Nat → α} {f : Nat → Int} {r : Int → α} {m : Nat} : ∀ (n a : Nat) (s : Int), (∀ k s, a ≤ k → k < a + n → 0 ≤ s → s ≤ ((k * m : Nat) : Int) → l s k = l (s + f k) (k + 1)) → (∀ s, l s (a + n) = r s) → (∀ k, a ≤ k → k < a + n → 0 ≤ f k ∧ f k ≤ m) → 0 ≤ s → s ≤ ((a * m : Nat) : Int) → l s a = r (s + sumB a n f)
  | 0, a, s, h1, h2, h3, h4, h5 => by unfold sumB; rw [Int.add_zero]; exact h2 s
  | n + 1, a, s, h1, h2, h3, h4, h5 => by
    unfold sumB
    have h6 := h3 a (Nat.le_refl _) (by omega)
    rw [h1 a s (Nat.le_refl _) (by omega) h4 h5, loop_sumW n (a + 1) (s + f a) (fun k s h7 h8 => h1 k s (by omega) (by omega)) (fun s => (congrArg (l s) (show a + 1 + n = a + (n + 1) by omega)).trans (h2 s)) (fun k h7 h8 => h3 k (by omega) (by omega)) (by omega) (by rw [Nat.succ_mul]; omega), Int.add_assoc]
/-- a loop that writes: an invariant -/
theorem loop_inv {l : Nat → GG → RS} {I : Nat → GG → Prop} {P : RS → Prop} : ∀ (n a : Nat) (G : GG), (∀ k G, a ≤ k → k < a + n → I k G → ∃ G', l k G = l (k + 1) G' ∧ I (k + 1) G') → (∀ G, I (a + n) G → P (l (a + n) G)) → I a G → P (l a G)
  | 0, a, G, h1, h2, h3 => h2 G h3
  | n + 1, a, G, h1, h2, h3 => by
    obtain ⟨G', e, h4⟩ := h1 a G (Nat.le_refl _) (by omega) h3
    rw [e]
    exact loop_inv n (a + 1) G' (fun k G h5 h6 => h1 k G (by omega) (by omega)) (fun G h5 => by
      have e9 : a + 1 + n = a + (n + 1) := by omega
      rw [e9] at h5
      rw [e9]
      exact h2 G h5) h4
