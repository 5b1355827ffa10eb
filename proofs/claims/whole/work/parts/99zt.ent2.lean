/-! ===== read: an entry passed; the class ===== -/
section SM
variable {G : GG} {tn a : Nat} {tx : Nat → Int}
theorem st_L (ht : tn ≤ 60) (h : ScC G tn tx a 0 (fun _ => 0)) (ha : a ≤ tn) : StP G tn tx (bI (f_Scr_passVertices G) fun r2 G1 => if r2 = 0 then rI 0 G1 else bI (f_Scr_pass 59 G1) fun r4 G3 => if r4 = 0 then rI 0 G3 else rI 1 G3) (pEL tx tn a) :=
  StP.bind (st_verts ht h ha) fun G1 s n => StP.last (st_ch ht s n)
theorem st_P (ht : tn ≤ 60) (h : ScC G tn tx a 0 (fun _ => 0)) (ha : a ≤ tn) : StP G tn tx (bI (f_Scr_passPosition G) fun r6 G5 => if r6 = 0 then rI 0 G5 else bI (f_Scr_pass 114 G5) fun r8 G7 => if r8 = 0 then rI 0 G7 else bI (f_Scr_passNumber 0 9 G7) fun r10 G9 => if r10 = 0 then rI 0 G9 else bI (f_Scr_pass 119 G9) fun r12 G11 => if r12 = 0 then rI 0 G11 else bI (f_Scr_passNumber 2 12 G11) fun r14 G13 => if r14 = 0 then rI 0 G13 else bI (f_Scr_pass 104 G13) fun r16 G15 => if r16 = 0 then rI 0 G15 else bI (f_Scr_passNumber 1 4 G15) fun r18 G17 => if r18 = 0 then rI 0 G17 else bI (f_Scr_pass 59 G17) fun r20 G19 => if r20 = 0 then rI 0 G19 else rI 1 G19) (pEP tx tn a) :=
  StP.bind (st_pos ht h (by decide) ha) fun G1 s n => StP.bind (st_ch ht s n) fun G1 s n => StP.bind (st_num ht s (show 2 < 11 by decide) n) fun G1 s n => StP.bind (st_ch ht s n) fun G1 s n => StP.bind (st_num ht s (show 3 < 11 by decide) n) fun G1 s n => StP.bind (st_ch ht s n) fun G1 s n => StP.bind (st_num ht s (show 4 < 11 by decide) n) fun G1 s n => StP.last (st_ch ht s n)
theorem st_F (ht : tn ≤ 60) (h : ScC G tn tx a 0 (fun _ => 0)) (ha : a ≤ tn) : StP G tn tx (bI (f_Scr_passNumber 0 7 G) fun r22 G21 => if r22 = 0 then rI 0 G21 else bI (f_Scr_passNumber 0 7 G21) fun r24 G23 => if r24 = 0 then rI 0 G23 else bI (f_Scr_pass 61 G23) fun r26 G25 => if r26 = 0 then rI 0 G25 else bI (f_Scr_passNumber 0 15 G25) fun r28 G27 => if r28 = 0 then rI 0 G27 else bI (f_Scr_pass 59 G27) fun r30 G29 => if r30 = 0 then rI 0 G29 else rI 1 G29) (pEF tx tn a) :=
  StP.bind (st_num ht h (by decide) ha) fun G1 s n => StP.bind (st_num ht s (show 1 < 11 by decide) n) fun G1 s n => StP.bind (st_ch ht s n) fun G1 s n => StP.bind (st_num ht s (show 2 < 11 by decide) n) fun G1 s n => StP.last (st_ch ht s n)
/-- an entry passed -/
def EnC (G : GG) (tn : Nat) (tx : Nat → Int) (a : Nat) (L : RS) (r : PR) : Prop :=
  ∃ G1, L = rI r.1 G1 ∧ Fr FSc G G1 ∧ TxC G1 tn tx ∧ G1 21 0 2 = (r.2.1 : Int) ∧ r.2.1 ≤ tn ∧ (r.1 = 0 ∨ r.1 = 1) ∧ (r.1 = 1 → ScC G1 tn tx r.2.1 r.2.2.1 r.2.2.2 ∧ G1 21 0 3 = tx a ∧ a < tn)
theorem st_entry (ht : tn ≤ 60) (h1 : TxC G tn tx) (h2 : G 21 0 2 = (a : Int)) (ha : a ≤ tn) (hx : ∀ j : Nat, j < tn → 32 ≤ tx j ∧ tx j ≤ 126) : EnC G tn tx a (f_Scr_passEntry G) (pE tx tn a) := by
  have e := e_f_Scr_passEntry G
  have u2 : (up G 21 0 5 0) 21 0 2 = (a : Int) := by rw [up_k (by decide)]; exact h2
  have u1 : (up G 21 0 5 0) 21 0 1 = (tn : Int) := by rw [up_k (by decide)]; exact h1.1
  have f5 : Fr FSc G (up G 21 0 5 0) := Fr.up G 5 0 (Or.inl rfl)
  have t5 : TxC (up G 21 0 5 0) tn tx := ⟨u1, fun j hj => by rw [up_t (by decide)]; exact h1.2 j hj⟩
  rw [u2, u1] at e
  unfold pE
  by_cases c : a < tn
  · have c1 : (a : Int) < (tn : Int) := by omega
    have c2 : 0 ≤ (a : Int) ∧ (a : Int) < 60 := by omega
    have hxa := hx a c
    have c3 : 0 ≤ tx a ∧ tx a < 65536 := by omega
    have u3 : (up G 21 0 5 0) 22 0 (a : Int) = tx a := t5.2 a c
    rw [if_pos c1, if_pos c2, u3, if_pos c3, up_at, up_k (show (2 : Int) ≠ 3 by decide), u2] at e
    rw [if_pos c]
    have w : wr ((a : Int) + 1) = ((a + 1 : Nat) : Int) := by
      rw [wr_id (by omega) (by omega)]
      omega
    rw [w] at e
    clear w
    have t3 : TxC (up (up G 21 0 5 0) 21 0 3 (tx a)) tn tx := ⟨by rw [up_k (by decide)]; exact u1, fun j hj => by rw [up_t (by decide)]; exact t5.2 j hj⟩
    have f3 : Fr FSc G (up (up G 21 0 5 0) 21 0 3 (tx a)) := f5.trans (Fr.up _ 3 _ (Or.inl rfl))
    have f2 : Fr FSc G (up (up (up G 21 0 5 0) 21 0 3 (tx a)) 21 0 2 ((a + 1 : Nat) : Int)) := f3.trans (Fr.up _ 2 _ (Or.inl rfl))
    have s2 : ScC (up (up (up G 21 0 5 0) 21 0 3 (tx a)) 21 0 2 ((a + 1 : Nat) : Int)) tn tx (a + 1) 0 (fun _ => 0) := by
      refine ⟨⟨?_, fun j hj => ?_⟩, up_at _ _ _ _ _, ?_, fun j hj => absurd hj (Nat.not_lt_zero j)⟩
      · rw [up_k (by decide)]
        exact t3.1
      · rw [up_t (by decide)]
        exact t3.2 j hj
      · rw [up_k (by decide), up_k (by decide), up_at]
        rfl
    have k2 : (up (up (up G 21 0 5 0) 21 0 3 (tx a)) 21 0 2 ((a + 1 : Nat) : Int)) 21 0 3 = tx a := by
      rw [up_k (by decide), up_at]
    have fin : ∀ {L : RS} {r : PR}, StP (up (up (up G 21 0 5 0) 21 0 3 (tx a)) 21 0 2 ((a + 1 : Nat) : Int)) tn tx L r → EnC G tn tx a L r := fun q => by
      obtain ⟨G1, e1, hF, hT, hp, hn, h01, hs⟩ := q
      exact ⟨G1, e1, f2.trans hF.1, hT, hp, hn, h01, fun z => ⟨hs z, hF.2.trans k2, c⟩⟩
    have g4 : (up (up G 21 0 5 0) 21 0 3 (tx a)) 21 0 2 = (a : Int) := by rw [up_k (by decide)]; exact u2
    generalize up (up (up G 21 0 5 0) 21 0 3 (tx a)) 21 0 2 ((a + 1 : Nat) : Int) = G3 at *
    generalize up (up G 21 0 5 0) 21 0 3 (tx a) = G4 at *
    by_cases k76 : tx a = 76
    · rw [if_pos k76] at e
      rw [e, if_pos k76]
      exact fin (st_L ht s2 c)
    · rw [if_neg k76] at e
      rw [if_neg k76]
      by_cases k80 : tx a = 80
      · rw [if_pos k80] at e
        rw [e, if_pos k80]
        exact fin (st_P ht s2 c)
      · rw [if_neg k80] at e
        rw [if_neg k80]
        by_cases k70 : tx a = 70
        · rw [if_pos k70] at e
          rw [e, if_pos k70]
          exact fin (st_F ht s2 c)
        · rw [if_neg k70] at e
          rw [e, if_neg k70]
          exact ⟨G4, rfl, f3, t3, g4, ha, Or.inl rfl, fun z => absurd (show (0 : Int) = 1 from z) (by decide)⟩
  · have c1 : ¬ (a : Int) < (tn : Int) := by omega
    rw [if_neg c1] at e
    rw [e, if_neg c]
    exact ⟨_, rfl, f5, t5, u2, ha, Or.inl rfl, fun z => absurd (show (0 : Int) = 1 from z) (by decide)⟩
end SM
