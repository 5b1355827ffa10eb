/-! ===== read: what a number is ===== -/
section SF
variable {tx : Nat → Int} {tn a : Nat} {lo hi : Int}
/-- what a result says of its place and value -/
def NmS (tn a : Nat) (lo hi : Int) (r : Int × Int × Nat) : Prop := (r.1 = 0 ∨ r.1 = 1) ∧ a ≤ r.2.2 ∧ (a ≤ tn → r.2.2 ≤ tn) ∧ (r.1 = 1 → a < r.2.2 ∧ lo ≤ r.2.1 ∧ r.2.1 ≤ hi)
theorem nms_0 {b : Nat} (h : a ≤ b) (h2 : a ≤ tn → b ≤ tn) : NmS tn a lo hi (0, 0, b) := ⟨Or.inl rfl, h, h2, fun w => absurd (show (0 : Int) = 1 from w) (by decide)⟩
theorem nms_1 {b : Nat} {v : Int} (h : a < b) (h2 : b ≤ tn) (hv : lo ≤ v ∧ v ≤ hi) : NmS tn a lo hi (1, v, b) := ⟨Or.inr rfl, Nat.le_of_lt h, fun _ => h2, fun _ => ⟨h, hv⟩⟩
theorem pN_sp : NmS tn a lo hi (pN tx tn lo hi a) := by
  unfold pN
  by_cases d0 : dg tx tn a = -1
  · rw [if_pos d0]
    exact nms_0 (Nat.le_refl a) id
  · have l0 := dg_lt d0
    rw [if_neg d0]
    by_cases c1 : 0 < dg tx tn a ∧ dg tx tn a * 10 ≤ hi ∧ lo ≤ dg tx tn a * 10 + 9
    · rw [if_pos c1]
      by_cases c2 : dg tx tn (a + 1) ≠ -1 ∧ lo ≤ dg tx tn a * 10 + dg tx tn (a + 1) ∧ dg tx tn a * 10 + dg tx tn (a + 1) ≤ hi
      · rw [if_pos c2]
        exact nms_1 (by omega) (dg_lt c2.1) c2.2
      · rw [if_neg c2]
        by_cases c3 : lo ≤ dg tx tn a ∧ dg tx tn a ≤ hi
        · rw [if_pos c3]
          exact nms_1 (Nat.lt_succ_self a) l0 c3
        · rw [if_neg c3]
          exact nms_0 (Nat.le_succ a) (fun _ => l0)
    · rw [if_neg c1]
      by_cases c3 : lo ≤ dg tx tn a ∧ dg tx tn a ≤ hi
      · rw [if_pos c3]
        exact nms_1 (Nat.lt_succ_self a) l0 c3
      · rw [if_neg c3]
        exact nms_0 (Nat.le_refl a) id
/-- a position: found, x, y, the place after it -/
def pP (tx : Nat → Int) (tn a : Nat) : Int × Int × Int × Nat :=
  if (pN tx tn 0 63 a).1 = 0 then (0, 0, 0, (pN tx tn 0 63 a).2.2) else
  if chAt tx tn 44 (pN tx tn 0 63 a).2.2 then
    (if (pN tx tn 0 63 ((pN tx tn 0 63 a).2.2 + 1)).1 = 0 then (0, 0, 0, (pN tx tn 0 63 ((pN tx tn 0 63 a).2.2 + 1)).2.2)
     else (1, (pN tx tn 0 63 a).2.1, (pN tx tn 0 63 ((pN tx tn 0 63 a).2.2 + 1)).2.1, (pN tx tn 0 63 ((pN tx tn 0 63 a).2.2 + 1)).2.2))
  else (0, 0, 0, (pN tx tn 0 63 a).2.2)
end SF
