/-! ===== the invariant of the law's loop; answers of both sides ===== -/
/-- the pure state: the map, what is remembered (how many, the rows), what is saved, the input, the error position -/
def IS (s : Nat → Int) (c : Nat) (H : Nat → Nat → Int) (sv : Int) (K : Nat → Int) (tn : Nat) (tx : Nat → Int) (er : Int) : Prop :=
  okM s ∧ c ≤ 8 ∧ (∀ j : Nat, j < c → okM (H j)) ∧ (sv = 0 ∨ (sv = 1 ∧ okM K)) ∧ tn ≤ 60 ∧ (∀ j : Nat, j < tn → 32 ≤ tx j ∧ tx j ≤ 126) ∧ -1 ≤ er ∧ er ≤ 60
def IC (G : GG) (s : Nat → Int) (c : Nat) (H : Nat → Nat → Int) (sv : Int) (K : Nat → Int) (tn : Nat) (tx : Nat → Int) (er : Int) : Prop :=
  ShC G 0 s ∧ CC G s ∧ (G 13 0 2 = (c : Int) ∧ ∃ nx : Nat, nx < 8 ∧ G 13 0 1 = (nx : Int) ∧ ∀ j : Nat, j < c → ShC G (3 + (((nx + 8 - c + j) % 8 : Nat) : Int)) (H j)) ∧ (G 0 0 7 = sv ∧ (sv = 1 → ShC G 2 K)) ∧ (G 21 0 1 = (tn : Int) ∧ ∀ j : Nat, j < tn → G 22 0 j = tx j) ∧ G 0 0 8 = er
def IR (G : GG) (s : Nat → Int) (c : Nat) (H : Nat → Nat → Int) (sv : Int) (K : Nat → Int) (tn : Nat) (tx : Nat → Int) (er : Int) : Prop :=
  RoR G 26 s ∧ RC G s ∧ (G 25 0 5 = (c : Int) ∧ ∀ j : Nat, j < c → PaR G j (H j)) ∧ (G 25 0 4 = sv ∧ (sv = 1 → RoR G 28 K)) ∧ (G 25 0 19 = (tn : Int) ∧ ∀ j : Nat, j < tn → G 39 0 j = tx j) ∧ G 25 0 23 = er
def FCl (t : Nat) (_ : Int) : Prop := t < 25 ∨ t = 42 ∨ t = 43 ∨ t = 48
def FRl (t : Nat) (_ : Int) : Prop := 25 ≤ t ∧ t < 42
/-- what a question may write, with its answer's cells -/
def FQ2 (t : Nat) (i : Int) : Prop := FQ t i ∨ t = 42 ∨ t = 43 ∨ t = 48
/-- what a question to the reference may write -/
def FRq (t : Nat) (_ : Int) : Prop := t = 25 ∨ (30 ≤ t ∧ t ≤ 38) ∨ t = 41
section GLUE
variable {s : Nat → Int} {c : Nat} {H : Nat → Nat → Int} {sv : Int} {K : Nat → Int} {tn : Nat} {tx : Nat → Int} {er : Int} {G G' : GG}
theorem IC.fr (h : IC G s c H sv K tn tx er) (h1 : ∀ t i k, t < 25 → G' t i k = G t i k) : IC G' s c H sv K tn tx er := by
  obtain ⟨q1, q2, ⟨q3, nx, q4, q5, q6⟩, ⟨q7, q8⟩, ⟨q9, q10⟩, q11⟩ := h
  exact ⟨q1.fr (fun t k ht => h1 t 0 k (by omega)), q2.fr (fun t i k ht => h1 t i k (by omega)), ⟨(h1 _ _ _ (by decide)).trans q3, nx, q4, (h1 _ _ _ (by decide)).trans q5, fun j hj => (q6 j hj).fr (fun t k ht => h1 t _ k (by omega))⟩, ⟨(h1 _ _ _ (by decide)).trans q7, fun z => (q8 z).fr (fun t k ht => h1 t 2 k (by omega))⟩, ⟨(h1 _ _ _ (by decide)).trans q9, fun j hj => (h1 _ _ _ (by decide)).trans (q10 j hj)⟩, (h1 _ _ _ (by decide)).trans q11⟩
theorem IC.cl (h : IC G s c H sv K tn tx er) (h1 : Fr FRl G G') : IC G' s c H sv K tn tx er := h.fr (fun t i k ht => h1 t i k (by unfold FRl; omega))
theorem IC.q (h : IC G s c H sv K tn tx er) (hC : CC G' s) (h1 : Fr FQ2 G G') : IC G' s c H sv K tn tx er := by
  obtain ⟨q1, q2, ⟨q3, nx, q4, q5, q6⟩, ⟨q7, q8⟩, ⟨q9, q10⟩, q11⟩ := h
  have hsh : ∀ {i : Int} {s9 : Nat → Int}, ShC G i s9 → i < 11 → ShC G' i s9 := fun hh hi => hh.fr (fun t k ht => h1 t _ k (by unfold FQ2 FQ; omega))
  exact ⟨hsh q1 (by decide), hC, ⟨(h1 _ _ _ (by unfold FQ2 FQ; omega)).trans q3, nx, q4, (h1 _ _ _ (by unfold FQ2 FQ; omega)).trans q5, fun j hj => hsh (q6 j hj) (by omega)⟩, ⟨(h1 _ _ _ (by unfold FQ2 FQ; omega)).trans q7, fun z => hsh (q8 z) (by decide)⟩, ⟨(h1 _ _ _ (by unfold FQ2 FQ; omega)).trans q9, fun j hj => (h1 _ _ _ (by unfold FQ2 FQ; omega)).trans (q10 j hj)⟩, (h1 _ _ _ (by unfold FQ2 FQ; omega)).trans q11⟩
theorem IR.fr (h : IR G s c H sv K tn tx er) (h1 : ∀ t i k, 25 ≤ t → t < 42 → G' t i k = G t i k) : IR G' s c H sv K tn tx er := by
  obtain ⟨q1, q2, ⟨q3, q4⟩, ⟨q7, q8⟩, ⟨q9, q10⟩, q11⟩ := h
  refine ⟨q1.fr (fun k => h1 _ _ _ (by decide) (by decide)), ?_, ⟨(h1 _ _ _ (by decide) (by decide)).trans q3, fun j hj k hk => (h1 _ _ _ (by decide) (by decide)).trans (q4 j hj k hk)⟩, ⟨(h1 _ _ _ (by decide) (by decide)).trans q7, fun z => (q8 z).fr (fun k => h1 _ _ _ (by decide) (by decide))⟩, ⟨(h1 _ _ _ (by decide) (by decide)).trans q9, fun j hj => (h1 _ _ _ (by decide) (by decide)).trans (q10 j hj)⟩, (h1 _ _ _ (by decide) (by decide)).trans q11⟩
  rcases q2 with z | z
  · exact Or.inl ((h1 _ _ _ (by decide) (by decide)).trans z)
  · exact Or.inr (z.fr (fun t k ht => h1 t 0 k (by omega) (by omega)))
theorem IR.cl (h : IR G s c H sv K tn tx er) (h1 : Fr FCl G G') : IR G' s c H sv K tn tx er := h.fr (fun t i k ht ht2 => h1 t i k (by unfold FCl; omega))
theorem IR.q (h : IR G s c H sv K tn tx er) (hC : RC G' s) (h1 : Fr FRq G G') (h2 : ∀ k : Int, k ≠ 6 → k ≠ 11 → k ≠ 25 → G' 25 0 k = G 25 0 k) : IR G' s c H sv K tn tx er := by
  obtain ⟨q1, q2, ⟨q3, q4⟩, ⟨q7, q8⟩, ⟨q9, q10⟩, q11⟩ := h
  have hf : ∀ t k, t = 26 ∨ t = 28 ∨ t = 29 ∨ t = 39 → G' t 0 k = G t 0 k := fun t k ht => h1 t 0 k (by unfold FRq; omega)
  exact ⟨q1.fr (fun k => hf _ _ (by decide)), hC, ⟨(h2 _ (by decide) (by decide) (by decide)).trans q3, fun j hj k hk => (hf _ _ (by decide)).trans (q4 j hj k hk)⟩, ⟨(h2 _ (by decide) (by decide) (by decide)).trans q7, fun z => (q8 z).fr (fun k => hf _ _ (by decide))⟩, ⟨(h2 _ (by decide) (by decide) (by decide)).trans q9, fun j hj => (hf _ _ (by decide)).trans (q10 j hj)⟩, (h2 _ (by decide) (by decide) (by decide)).trans q11⟩
/-- a question to the class: its value, or the exception that it throws -/
def QMv (s : Nat → Int) (G : GG) (r : RS) (v : Int) : Prop := ∃ G', r = rI v G' ∧ CC G' s ∧ Fr FQ G G'
def QMx (s : Nat → Int) (G : GG) (r : RS) (e : Nat) : Prop := ∃ G', r = rX e (bump G') ∧ CC G' s ∧ Fr FQ G G'
/-- the same as the law takes it: its code (0: it returns), its value -/
def QAc (s : Nat → Int) (G : GG) (r : RS) (k v : Int) : Prop := ∃ G', r = rI k G' ∧ (k = 0 → G' 42 0 0 = v) ∧ CC G' s ∧ Fr FQ2 G G' ∧ G' 48 0 0 ≤ G 48 0 0 + 1
def QAr (s : Nat → Int) (G : GG) (r : RS) (k v : Int) : Prop := ∃ G' b, r = rI b G' ∧ G' 25 0 6 = k ∧ (k = 0 → b = v) ∧ RC G' s ∧ Fr FRq G G' ∧ ∀ z : Int, z ≠ 6 → z ≠ 11 → z ≠ 25 → G' 25 0 z = G 25 0 z
theorem contI_r (x : Int) (G : GG) (h : Nat → GG → RS) (k : Int → GG → RS) : contI (rI x G) h k = k x G := rfl
theorem contI_x (e : Nat) (G : GG) (h : Nat → GG → RS) (k : Int → GG → RS) : contI (rX e G) h k = h e G := rfl
theorem contD_r (x : UInt64) (G : GG) (h : Nat → GG → RS) (k : UInt64 → GG → RS) : contD (rD x G) h k = k x G := rfl
theorem contD_x (e : Nat) (G : GG) (h : Nat → GG → RS) (k : UInt64 → GG → RS) : contD (rX e G) h k = h e G := rfl
theorem bD_x (e : Nat) (G : GG) (k : UInt64 → GG → RS) : bD (rX e G) k = rX e G := rfl
theorem bump_t {t : Nat} (h : t ≠ 48) (i k : Int) : bump G t i k = G t i k := up_t h
theorem bump_48 : bump G 48 0 0 = G 48 0 0 + 1 := up_at _ _ _ _ _
theorem qa_v {r r' : RS} {v : Int} {h : Nat → GG → RS} (hq : QMv s G r v) (e : r' = contI r h (fun r2 G1 => rI 0 (up G1 42 0 0 r2))) : QAc s G r' 0 v := by
  obtain ⟨G1, e1, hC, hF⟩ := hq
  rw [e1] at e
  refine ⟨_, e, fun _ => up_at _ _ _ _ _, hC.fr (fun t i k ht => up_t (by omega)), (hF.mono (fun t i z => Or.inl z)).trans (Fr.up _ _ _ (Or.inr (Or.inl rfl))), ?_⟩
  rw [up_t (by decide), hF 48 0 0 (by unfold FQ; omega)]
  omega
theorem qa_x {r r' : RS} {x : Nat} {k v : Int} {h : Nat → GG → RS} {kk : Int → GG → RS} (hq : QMx s G r x) (e : r' = contI r h kk) (hh : ∀ G1, h x G1 = rI k G1) (hk : k ≠ 0) : QAc s G r' k v := by
  obtain ⟨G1, e1, hC, hF⟩ := hq
  rw [e1, contI_x, hh] at e
  refine ⟨_, e, fun z => absurd z hk, hC.fr (fun t i k ht => bump_t (by omega) i k), (hF.mono (fun t i z => Or.inl z)).trans (Fr.up _ _ _ (Or.inr (Or.inr (Or.inr rfl)))), ?_⟩
  rw [bump_48, hF 48 0 0 (by unfold FQ; omega)]
  exact Int.le_refl _
/-- the reference: it refuses at once -/
theorem qr_x {r : RS} {k v : Int} (hC : RC G s) (e : r = rI 0 (up G 25 0 6 k)) (hk : k ≠ 0) : QAr s G r k v :=
  ⟨_, 0, e, up_at _ _ _ _ _, fun z => absurd z hk, by
    rcases hC with z | z
    · exact Or.inl ((up_k (by decide)).trans z)
    · exact Or.inr (z.fr (fun t k ht => up_t (by omega))), Fr.up _ _ _ (Or.inl rfl), fun z h6 _ _ => up_k h6⟩
theorem RC.up6 (hC : RC G s) (k : Int) : RC (up G 25 0 6 k) s := by
  rcases hC with z | z
  · exact Or.inl ((up_k (by decide)).trans z)
  · exact Or.inr (z.fr (fun t k ht => up_t (by omega)))
/-- the law's comparison -/
theorem jCmp_self (x : Int) : jCmp x x = 0 := by unfold jCmp; rw [if_neg (by omega), if_pos rfl]
noncomputable def tailL (nxt : GG → RS) (r2 : Int) (rm : RS) : RS := bI rm fun r4 G3 => bI (f_Mod_thrown G3) fun r6 G5 => if r6 = r2 then (if r2 = 0 then (if jCmp (G5 42 0 0) r4 = 0 then nxt G5 else rI 0 G5) else nxt G5) else rI 0 G5
theorem tailL_ok {nxt : GG → RS} {k b : Int} {rm : RS} (e : rm = rI b G) (h : G 25 0 6 = k) (h2 : k = 0 → G 42 0 0 = b) : tailL nxt k rm = nxt G := by
  unfold tailL
  rw [e]
  simp only [bI_r]
  rw [e_f_Mod_thrown]
  simp only [bI_r]
  rw [if_pos h]
  by_cases hk : k = 0
  · rw [if_pos hk, h2 hk, if_pos (jCmp_self b)]
  · rw [if_neg hk]
/-- the whole invariant: after n calls -/
def Inv (cn : Int) (G : GG) : Prop := ∃ s c H sv K tn tx er, IS s c H sv K tn tx er ∧ IC G s c H sv K tn tx er ∧ IR G s c H sv K tn tx er ∧ G 48 0 0 ≤ cn
/-- the script and the tables of the program stay -/
def Kp (G G' : GG) : Prop := ∀ (t : Nat) (k : Int), 44 ≤ t → t < 48 → G' t 0 k = G t 0 k
theorem Kp.trans {G1 G2 G3 : GG} (h1 : Kp G1 G2) (h2 : Kp G2 G3) : Kp G1 G3 := fun t k a b => (h2 t k a b).trans (h1 t k a b)
theorem Kp.q2 (h : Fr FQ2 G G') : Kp G G' := fun t k a b => h t 0 k (by unfold FQ2 FQ; omega)
theorem Kp.rq (h : Fr FRq G G') : Kp G G' := fun t k a b => h t 0 k (by unfold FRq; omega)
theorem Kp.cl (h : Fr FCl G G') : Kp G G' := fun t k a b => h t 0 k (by unfold FCl; omega)
theorem Kp.rl (h : Fr FRl G G') : Kp G G' := fun t k a b => h t 0 k (by unfold FRl; omega)
/-- a question: both sides, as the law asks them -/
theorem q_case {cn : Int} {L fc : RS} {fm : GG → RS} {nxt : GG → RS}
    (hI : Inv cn G)
    (hc : ∀ s, okM s → ShC G 0 s → CC G s → ∃ k v, QAc s G fc k v ∧ ∀ G1, ShC G1 0 s → RoR G1 26 s → RC G1 s → Kp G G1 → QAr s G1 (fm G1) k v)
    (e : ∀ k G1, fc = rI k G1 → Kp G G1 → L = tailL nxt k (fm G1)) : ∃ G', L = nxt G' ∧ Inv (cn + 1) G' ∧ Kp G G' := by
  obtain ⟨s, c, H, sv, K, tn, tx, er, hS, hC, hR, hn⟩ := hI
  obtain ⟨k, v, ⟨G1, e1, h42, hC1, hF1, h48⟩, hm⟩ := hc s hS.1 hC.1 hC.2.1
  have hIC1 := hC.q hC1 hF1
  have hIR1 : IR G1 s c H sv K tn tx er := hR.fr (fun t i k h1 h2 => hF1 t i k (by unfold FQ2 FQ; omega))
  obtain ⟨G2, b, e2, h6, hb, hC2, hF2, h25⟩ := hm G1 hIC1.1 hIR1.1 hIR1.2.1 (Kp.q2 hF1)
  have hIC2 : IC G2 s c H sv K tn tx er := hIC1.fr (fun t i k ht => hF2 t i k (by unfold FRq; omega))
  have hIR2 := hIR1.q hC2 hF2 h25
  refine ⟨G2, ?_, ⟨s, c, H, sv, K, tn, tx, er, hS, hIC2, hIR2, ?_⟩, (Kp.q2 hF1).trans (Kp.rq hF2)⟩
  · rw [e k G1 e1 (Kp.q2 hF1)]
    exact tailL_ok e2 h6 (fun z => (hF2 42 0 0 (by unfold FRq; omega)).trans ((h42 z).trans (hb z).symm))
  · rw [hF2 48 0 0 (by unfold FRq; omega)]
    omega
/-- a change: both sides -/
theorem ch_case {cn : Int} {L fc : RS} {fm : GG → RS} {nxt : GG → RS}
    (hI : Inv cn G)
    (hc : ∀ s c H sv K tn tx er, IS s c H sv K tn tx er → IC G s c H sv K tn tx er → ∃ s' c' H' sv' K' tn' tx' er' k v, IS s' c' H' sv' K' tn' tx' er' ∧ (∃ G1, fc = rI k G1 ∧ (k = 0 → G1 42 0 0 = v) ∧ IC G1 s' c' H' sv' K' tn' tx' er' ∧ Fr FCl G G1 ∧ G1 48 0 0 ≤ G 48 0 0 + 1) ∧
      ∀ G1, IR G1 s c H sv K tn tx er → Kp G G1 → ∃ G2 b, fm G1 = rI b G2 ∧ G2 25 0 6 = k ∧ (k = 0 → b = v) ∧ IR G2 s' c' H' sv' K' tn' tx' er' ∧ Fr FRl G1 G2)
    (e : ∀ k G1, fc = rI k G1 → Kp G G1 → L = tailL nxt k (fm G1)) : ∃ G', L = nxt G' ∧ Inv (cn + 1) G' ∧ Kp G G' := by
  obtain ⟨s, c, H, sv, K, tn, tx, er, hS, hC, hR, hn⟩ := hI
  obtain ⟨s', c', H', sv', K', tn', tx', er', k, v, hS', ⟨G1, e1, h42, hC1, hF1, h48⟩, hm⟩ := hc s c H sv K tn tx er hS hC
  have hIR1 := hR.cl hF1
  obtain ⟨G2, b, e2, h6, hb, hR2, hF2⟩ := hm G1 hIR1 (Kp.cl hF1)
  refine ⟨G2, ?_, ⟨s', c', H', sv', K', tn', tx', er', hS', hC1.cl hF2, hR2, ?_⟩, (Kp.cl hF1).trans (Kp.rl hF2)⟩
  · rw [e k G1 e1 (Kp.cl hF1)]
    exact tailL_ok e2 h6 (fun z => (hF2 42 0 0 (by unfold FRl; omega)).trans ((h42 z).trans (hb z).symm))
  · rw [hF2 48 0 0 (by unfold FRl; omega)]
    omega
end GLUE
