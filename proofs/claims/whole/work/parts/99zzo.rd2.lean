/-! ===== read: the class's answer ===== -/
section SK9
variable {s : Nat → Int} {G G' : GG} {c : Nat} {H : Nat → Nat → Int} {sv : Int} {K : Nat → Int} {tn : Nat} {tx : Nat → Int} {er er' : Int}
/-- it is no text -/
theorem g_read_1 (hS : IS s c H sv K tn tx er) (hC : IC G s c H sv K tn tx er) (h0 : (pT tx tn).1 = 0) : ∃ G1, f_Map_read G = rX 0 (bump G1) ∧ IC G1 s c H sv K 0 tx ((pT tx tn).2.1 : Int) ∧ Fr FCl G G1 ∧ G1 48 0 0 = G 48 0 0 := by
  have hT : TxC G tn tx := hC.2.2.2.2.1
  obtain ⟨G1, e1, hF, hT1, hp⟩ := g_countAll hS.2.2.2.2.1 hS.2.2.2.2.2.1 hT
  have e := e_f_Map_read G
  rw [if_pos h0] at e1
  rw [e1, bI_r, if_pos rfl, hp] at e
  refine ⟨_, e, hC.dr (fun t i k z1 z2 z3 z4 => ?_) ?_ ?_ (up_at _ _ _ _ _), ?_, ?_⟩
  · rw [up_t z3, up_t z2]
    exact hF t i k (by unfold FSc; omega)
  · rw [up_t (by decide), up_k (by decide)]
    exact hF 0 0 7 (by unfold FSc; omega)
  · rw [up_t (by decide), up_at]
  · exact ((hF.mono (fun t i z => by unfold FSc at z; unfold FCl; omega)).trans (Fr.up _ _ _ (Or.inl (by decide)))).trans (Fr.up _ _ _ (Or.inl (by decide)))
  · rw [up_t (by decide), up_t (by decide)]
    exact hF 48 0 0 (by unfold FSc; omega)
/-- it is a text: the entries are made in the draft -/
theorem g_read_2 (hS : IS s c H sv K tn tx er) (hC : IC G s c H sv K tn tx er) (h1 : (pT tx tn).1 = 1) : ∃ G1, IC G1 s c H sv K 0 tx er ∧ Fr FCl G G1 ∧ G1 48 0 0 = G 48 0 0 ∧ ShC G1 1 (apA s (pT tx tn).2.2).2 ∧
    f_Map_read G = (if (apA s (pT tx tn).2.2).1 = 1 then rX 4 (bump G1) else if (apA s (pT tx tn).2.2).1 = 2 then rX 1 (bump G1) else bV (f_Map_beginChange G1) fun G6 => bV (f_She_copyFrom 0 1 G6) fun G7 => rI ((pT tx tn).2.2.length : Int) G7) := by
  have hs := hS.1
  have ht := hS.2.2.2.2.1
  have hx := hS.2.2.2.2.2.1
  have hT : TxC G tn tx := hC.2.2.2.2.1
  obtain ⟨G1, e1, hF, hT1, hp⟩ := g_countAll ht hx hT
  have e := e_f_Map_read G
  have h0 : ¬ (pT tx tn).1 = 0 := by omega
  have hn1 : ¬ ((pT tx tn).2.2.length : Int) = -1 := by omega
  rw [if_neg h0] at e1
  rw [e1, bI_r, if_neg hn1] at e
  have hS0 : ShC G1 0 s := hC.1.fr (fun t k z => hF t 0 k (by unfold FSc; omega))
  obtain ⟨G2, e2, hS2, hF2⟩ := g_copySheet (i := 1) (j := 0) (by decide) hs hS0
  rw [e2, bV_r] at e
  have hT2 : TxC G2 tn tx := ⟨(hF2 21 0 1 (by unfold FSh; omega)).trans hT1.1, fun j hj => (hF2 22 0 j (by unfold FSh; omega)).trans (hT1.2 j hj)⟩
  have hlen : (pT tx tn).2.2.length ≤ tn := by
    have := (pA_sp (tx := tx) (tn := tn) (tn + 1) 0 (Nat.zero_le tn)).2.2.1
    rw [Nat.zero_add] at this
    exact this
  have htn : 0 < tn := by
    refine Nat.pos_of_ne_zero (fun z => ?_)
    have hE : (pE tx tn 0) = (0, 0, 0, fun _ => 0) := by
      unfold pE
      rw [if_neg (by omega)]
    have hp9 : (pT tx tn).1 = 0 := by
      unfold pT pA
      rw [hE, if_pos rfl]
    omega
  obtain ⟨G3, e3, hS3, hF3⟩ := g_mkAll ht hx (pT tx tn).2.2.length (by omega) (tn + 1) 0 0 s (up G2 21 0 2 0) ⟨(up_k (by decide)).trans hT2.1, fun j hj => (up_t (by decide)).trans (hT2.2 j hj)⟩ (up_at _ _ _ _ _) htn h1 (Nat.zero_add _) hs (hS2.fr (fun t k z => up_t (by omega)))
  have e4 : f_She_makeEntries 1 ((pT tx tn).2.2.length : Int) G2 = rI (apA s (pT tx tn).2.2).1 G3 := (e_f_She_makeEntries 1 _ G2).trans e3
  rw [e4, bI_r] at e
  have nn : ∀ t i k, (i ≠ 1 ∨ 12 < t) → t ≠ 21 → t ≠ 23 → G3 t i k = G t i k := fun t i k z1 z3 z4 => by
    rw [hF3 t i k (by unfold FMk FSc FSh; omega), up_t z3, hF2 t i k (by unfold FSh; omega)]
    exact hF t i k (by unfold FSc; omega)
  refine ⟨up G3 21 0 1 0, hC.dr (fun t i k z1 z2 z3 z4 => (up_t z3).trans (nn t i k z1 z3 z4)) ((up_t (by decide)).trans (nn 0 0 7 (Or.inl (by decide)) (by decide) (by decide))) ?_ (up_at _ _ _ _ _), fun t i k z => ?_, (up_t (by decide)).trans (nn 48 0 0 (Or.inl (by decide)) (by decide) (by decide)), hS3.fr (fun t k z => up_t (by omega)), e⟩
  · exact (up_t (by decide)).trans ((nn 0 0 8 (Or.inl (by decide)) (by decide) (by decide)).trans hC.2.2.2.2.2)
  · unfold FCl at z
    exact (up_t (by omega)).trans (nn t i k (by omega) (by omega) (by omega))
theorem apA_ok : ∀ (l : List EN) (s : Nat → Int), okM s → (∀ e ∈ l, okE e) → okM (apA s l).2
  | [], s, hs, he => hs
  | e :: l, s, hs, he => by
    have hE : okE e := he e (List.mem_cons_self)
    have h2 := apE_ok hs hE
    by_cases c : (apE s e).1 = 0
    · have hap : apA s (e :: l) = apA (apE s e).2 l := if_pos c
      rw [hap]
      exact apA_ok l _ h2 (fun e9 h9 => he e9 (List.mem_cons_of_mem _ h9))
    · have hap : apA s (e :: l) = ((apE s e).1, (apE s e).2) := if_neg c
      rw [hap]
      exact h2
theorem apA_c : ∀ (l : List EN) (s : Nat → Int), (apA s l).1 = 0 ∨ (apA s l).1 = 1 ∨ (apA s l).1 = 2
  | [], s => Or.inl rfl
  | e :: l, s => by
    by_cases c : (apE s e).1 = 0
    · have hap : apA s (e :: l) = apA (apE s e).2 l := if_pos c
      rw [hap]
      exact apA_c l _
    · have hap : apA s (e :: l) = ((apE s e).1, (apE s e).2) := if_neg c
      rw [hap]
      exact apE_c s e
theorem pT_ok : ((pT tx tn).1 = 0 ∨ (pT tx tn).1 = 1) ∧ (pT tx tn).2.1 ≤ tn ∧ (pT tx tn).2.2.length ≤ tn ∧ ∀ e ∈ (pT tx tn).2.2, okE e := by
  obtain ⟨a, b, c, d⟩ := pA_sp (tx := tx) (tn := tn) (tn + 1) 0 (Nat.zero_le tn)
  rw [Nat.zero_add] at c
  exact ⟨a, b, c, d⟩
/-- the change itself -/
theorem g_read_3 (hS : IS s c H sv K 0 tx er) (hC : IC G s c H sv K 0 tx er) {s' : Nat → Int} (hs' : okM s') (h1 : ShC G 1 s') (v : Int) : ∃ G2, (bV (f_Map_beginChange G) fun G6 => bV (f_She_copyFrom 0 1 G6) fun G7 => rI v G7) = rI v G2 ∧ IC G2 s' (pushC c) (pushH c H s) sv K 0 tx er ∧ Fr FCl G G2 ∧ G2 48 0 0 = G 48 0 0 := by
  obtain ⟨G1, e1, k1, f1, n1, w1⟩ := ic_change hS hC
  obtain ⟨Gc, ec, k2⟩ := bc_one hS hC
  have hG : G1 = Gc := rV_inj (e1.symm.trans ec)
  rw [← hG] at k2
  have h11 : ShC G1 1 s' := h1.fr (fun t k z => k2 t k (by omega) (by omega))
  obtain ⟨G2, e2, h2, f2⟩ := g_copySheet (i := 0) (j := 1) (by decide) hs' h11
  refine ⟨G2, ?_, w1 G2 s' hs' h2 (f2.mono (fun t i z => by unfold FSh at z; omega)), f1.trans (f2.mono (fun t i z => by unfold FSh at z; unfold FCl; omega)), (f2 48 0 0 (by unfold FSh; omega)).trans n1⟩
  rw [e1, bV_r, e2, bV_r]
end SK9
