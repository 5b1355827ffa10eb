/-! ===== read: both sides; the law's case ===== -/
section SO9
variable {s : Nat → Int} {G : GG} {c : Nat} {H : Nat → Nat → Int} {sv : Int} {K : Nat → Int} {tn : Nat} {tx : Nat → Int} {er er' : Int}
theorem ch_failR {fl fcl : RS} {fm : GG → RS} {x : Nat} {k : Int} {h9 : Nat → GG → RS} {kk : Int → GG → RS} (hS' : IS s c H sv K 0 tx er') (ec : ∃ G2, fcl = rX x (bump G2) ∧ IC G2 s c H sv K 0 tx er' ∧ Fr FCl G G2 ∧ G2 48 0 0 = G 48 0 0) (el : fl = contI fcl h9 kk) (hh : ∀ G1, h9 x G1 = rI k G1) (hk : k ≠ 0)
    (er2 : ∀ G1, IR G1 s c H sv K tn tx er → ∃ G2, fm G1 = rI 0 G2 ∧ G2 25 0 6 = k ∧ IR G2 s c H sv K 0 tx er' ∧ Fr FRl G1 G2) : ∃ s' c' H' sv' K' tn' tx' er' k v, IS s' c' H' sv' K' tn' tx' er' ∧ (∃ G1, fl = rI k G1 ∧ (k = 0 → G1 42 0 0 = v) ∧ IC G1 s' c' H' sv' K' tn' tx' er' ∧ Fr FCl G G1 ∧ G1 48 0 0 ≤ G 48 0 0 + 1) ∧
      ∀ G1, IR G1 s c H sv K tn tx er → Kp G G1 → ∃ G2 b, fm G1 = rI b G2 ∧ G2 25 0 6 = k ∧ (k = 0 → b = v) ∧ IR G2 s' c' H' sv' K' tn' tx' er' ∧ Fr FRl G1 G2 := by
  obtain ⟨G2, e2, h2, f2, n2⟩ := ec
  refine ⟨s, c, H, sv, K, 0, tx, er', k, 0, hS', ⟨bump G2, ?_, fun z => absurd z hk, h2.fr (fun t i k ht => bump_t (by omega) i k), f2.trans (Fr.up _ _ _ (Or.inr (Or.inr (Or.inr rfl)))), by rw [bump_48, n2]; exact Int.le_refl _⟩, fun G1 hR _ => ?_⟩
  · rw [el, e2, contI_x, hh]
  · obtain ⟨G3, e3, h6, hI, hF⟩ := er2 G1 hR
    exact ⟨G3, 0, e3, h6, fun z => absurd z hk, hI, hF⟩
theorem ch_read : CHp G (f_Law_read G) (fun G1 => f_Mod_read G1) := by
  intro s c H sv K tn tx er hS hC
  obtain ⟨t1, t2, t3, t4⟩ := pT_ok (tx := tx) (tn := tn)
  have hs := hS.1
  have her := hS.2.2.2.2.2.2
  have ht := hS.2.2.2.2.1
  have hS0 : ∀ e9 : Int, -1 ≤ e9 ∧ e9 ≤ 60 → IS s c H sv K 0 tx e9 := fun e9 h9 => ⟨hs, hS.2.1, hS.2.2.1, hS.2.2.2.1, Nat.zero_le _, fun j hj => absurd hj (Nat.not_lt_zero j), h9⟩
  have el := e_f_Law_read G
  rcases t1 with h0 | h1
  · exact ch_failR (s := s) (fcl := f_Map_read G) (x := 0) (k := 1) (hS0 ((pT tx tn).2.1 : Int) (by omega)) (g_read_1 hS hC h0) el (fun G1 => if_pos rfl) (by decide) (fun G1 hR => r_read_1 hS hR h0)
  · obtain ⟨G1, hI1, hF1, h48, hSh, e1⟩ := g_read_2 hS hC h1
    have hs' := apA_ok (pT tx tn).2.2 s hs t4
    rcases apA_c (pT tx tn).2.2 s with o | o | o
    · have n1 : ¬ (apA s (pT tx tn).2.2).1 = 1 := by omega
      have n2 : ¬ (apA s (pT tx tn).2.2).1 = 2 := by omega
      rw [if_neg n1, if_neg n2] at e1
      obtain ⟨G2, e2, hI2, hF2, h482⟩ := g_read_3 (hS0 er her) hI1 hs' hSh ((pT tx tn).2.2.length : Int)
      exact ch_ok (v := ((pT tx tn).2.2.length : Int)) (fcl := f_Map_read G) ((hS0 er her).map hs') ⟨G2, e1.trans e2, hI2, hF1.trans hF2, h482.trans h48⟩ el (fun G3 hR => r_read_s hS hR h1 o)
    · rw [if_pos o] at e1
      refine ch_failR (s := s) (fcl := f_Map_read G) (x := 4) (k := 2) (hS0 er her) ⟨G1, e1, hI1, hF1, h48⟩ el (fun G1 => rfl) (by decide) (fun G1 hR => ?_)
      obtain ⟨G2, a1, a2, a3, a4⟩ := r_read_f hS hR h1 (by omega)
      rw [o] at a2
      exact ⟨G2, a1, a2, a3, a4⟩
    · have n1 : ¬ (apA s (pT tx tn).2.2).1 = 1 := by omega
      rw [if_neg n1, if_pos o] at e1
      refine ch_failR (s := s) (fcl := f_Map_read G) (x := 1) (k := 3) (hS0 er her) ⟨G1, e1, hI1, hF1, h48⟩ el (fun G1 => rfl) (by decide) (fun G1 hR => ?_)
      obtain ⟨G2, a1, a2, a3, a4⟩ := r_read_f hS hR h1 (by omega)
      rw [o] at a2
      exact ⟨G2, a1, a2, a3, a4⟩
theorem lc_2851 {cn : Int} {x : Nat} (hI : Inv cn G) (hx : SX x G) : ∃ G', l_Law_law_2851 x G = l_Law_law_28 (wr ((x : Int) + 7)) G' ∧ Inv (cn + 1) G' ∧ Kp G G' := by
  refine ch_case (L := l_Law_law_2851 x G) (fc := f_Law_read G) (fm := fun G1 => f_Mod_read G1) (nxt := fun G' => l_Law_law_28 (wr ((x : Int) + 7)) G') hI ch_read (fun k G1 ef hk => ?_)
  have e := e_l_Law_law_2851 (x : Int) G
  rw [ef, bI_r] at e
  unfold tailL
  exact e
theorem rd_ok : RdOk := fun cn x G hI hx _ => lc_2851 hI hx
end SO9
