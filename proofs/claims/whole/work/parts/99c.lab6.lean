/-! ===== labels: the first free place ===== -/
theorem iRem4 {k : Nat} (h : k < 8) : iRem (k : Int) 4 = ((k % 4 : Nat) : Int) := by
  have key : ((List.range 8).all fun n => decide (iRem (n : Int) 4 = ((n % 4 : Nat) : Int))) = true := by decide +kernel
  exact of_decide_eq_true (List.all_eq_true.mp key k (List.mem_range.mpr h))
/-- the first of n places from d + k on (modulo 4) against which nothing speaks -/
def ffO (r : Int → Int) (d : Nat) : Nat → Nat → Int
  | _, 0 => -1
  | k, n + 1 => if r (((d + k) % 4 : Nat) : Int) = 0 then (((d + k) % 4 : Nat) : Int) else ffO r d (k + 1) n
theorem ffO_s (r : Int → Int) (d k n : Nat) : ffO r d k (n + 1) = if r (((d + k) % 4 : Nat) : Int) = 0 then (((d + k) % 4 : Nat) : Int) else ffO r d (k + 1) n := rfl
section LABFF
variable {np : Nat} {pt : Nat → Nat → Int} {nl : Nat} {sz : Nat → Nat} {cd : Nat → Nat → Int} {pl : Nat → Int} {lr : Int} {G : GG}
theorem g_ff {i : Int} (hP : PtC G 0 np pt) (ho : okPt np pt) (hlr : G 19 i 3 = lr) (hp2 : PlC G i np pl) (hpl : okPl np pt lr pl) (hL : LnC G (lix i) nl sz cd) (hl : okLn nl sz cd) {p : Nat} (hp : p < np) {d : Nat} (hd : d < 4) : ∀ (n k : Nat), k + n = 4 →
    l_Lab_firstFree_12 i p d k G = rI (ffO (rsL np pt lr nl sz cd pl p) d k n) G
  | 0, k, h => by
    rw [e_l_Lab_firstFree_12, if_neg (by omega)]
    rfl
  | n + 1, k, h => by
    have e := e_l_Lab_firstFree_12 i p d k G
    have a1 : iRem (wr ((d : Int) + (k : Int))) 4 = (((d + k) % 4 : Nat) : Int) := by
      rw [wr_id (by omega) (by omega), show (d : Int) + (k : Int) = ((d + k : Nat) : Int) by omega]
      exact iRem4 (by omega)
    rw [if_pos (by omega), a1, wr_sc (show k < 4 by omega) (by decide), g_reason hP ho hlr hp2 hpl hL hl hp (Int.natCast_nonneg _)] at e
    simp only [bI_r] at e
    rw [g_ff hP ho hlr hp2 hpl hL hl hp hd n (k + 1) (by omega)] at e
    refine e.trans ?_
    rw [ffO_s]
    split <;> rfl
end LABFF
