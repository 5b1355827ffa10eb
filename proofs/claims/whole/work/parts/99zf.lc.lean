/-! ===== the law's cases ===== -/
def SX (x : Nat) (G : GG) : Prop := ∃ n : Nat, G 47 0 0 = (n : Int) ∧ n ≤ 3584 ∧ x + 7 ≤ n
theorem sx_c {x : Nat} {G : GG} (h : SX x G) {i : Int} (hi : 0 ≤ i ∧ i ≤ 6) : 0 ≤ (x : Int) + i ∧ (x : Int) + i < G 47 0 0 := by
  obtain ⟨n, h1, h2, h3⟩ := h
  rw [h1]
  omega
theorem sx_w {x : Nat} {G : GG} (h : SX x G) {i : Int} (hi : 0 ≤ i ∧ i ≤ 7) : wr ((x : Int) + i) = (x : Int) + i := by
  obtain ⟨n, h1, h2, h3⟩ := h
  exact wr_id (by omega) (by omega)
section LC
variable {G : GG} {cn : Int} {x : Nat}
theorem u_case {L fc : RS} {fm : GG → RS} {nxt : GG → RS} (hI : Inv cn G)
    (hc : ∀ s c H sv K tn tx er, IS s c H sv K tn tx er → IC G s c H sv K tn tx er → ∃ s' c' H' sv' K' tn' tx' er' v, IS s' c' H' sv' K' tn' tx' er' ∧ (∃ G1, fc = rI v G1 ∧ IC G1 s' c' H' sv' K' tn' tx' er' ∧ Fr FCl G G1 ∧ G1 48 0 0 = G 48 0 0) ∧ ∀ G1, IR G1 s c H sv K tn tx er → ∃ G2, fm G1 = rI v G2 ∧ IR G2 s' c' H' sv' K' tn' tx' er' ∧ Fr FRl G1 G2)
    (e : ∀ v G1, fc = rI v G1 → Kp G G1 → L = bI (fm G1) fun r4 G3 => if v = r4 then nxt G3 else rI 0 G3) : ∃ G', L = nxt G' ∧ Inv (cn + 1) G' ∧ Kp G G' := by
  obtain ⟨s, c, H, sv, K, tn, tx, er, hS, hC, hR, hn⟩ := hI
  obtain ⟨s', c', H', sv', K', tn', tx', er', v, hS', ⟨G1, e1, hC1, hF1, h48⟩, hm⟩ := hc s c H sv K tn tx er hS hC
  obtain ⟨G2, e2, hR2, hF2⟩ := hm G1 (hR.cl hF1)
  refine ⟨G2, ?_, ⟨s', c', H', sv', K', tn', tx', er', hS', hC1.cl hF2, hR2, ?_⟩, (Kp.cl hF1).trans (Kp.rl hF2)⟩
  · rw [e v G1 e1 (Kp.cl hF1), e2, bI_r, if_pos rfl]
  · rw [hF2 48 0 0 (by unfold FRl; omega), h48]
    clear e1 e2 e
    omega
theorem lc_249 (hI : Inv cn G) (hx : SX x G) : ∃ G', l_Law_law_249 x G = l_Law_law_28 (wr ((x : Int) + 7)) G' ∧ Inv (cn + 1) G' ∧ Kp G G' := by
  have c1 := sx_c hx (i := 1) (by decide)
  have c2 := sx_c hx (i := 2) (by decide)
  have c3 := sx_c hx (i := 3) (by decide)
  have c4 := sx_c hx (i := 4) (by decide)
  have c5 := sx_c hx (i := 5) (by decide)
  have c6 := sx_c hx (i := 6) (by decide)
  refine ch_case (L := l_Law_law_249 x G) (fc := f_Law_addPoint (G 44 0 ((x : Int) + 1)) (G 44 0 ((x : Int) + 2)) (G 44 0 ((x : Int) + 3)) (G 44 0 ((x : Int) + 4)) (G 44 0 ((x : Int) + 5)) (G 44 0 ((x : Int) + 6)) G) (fm := fun G1 => f_Mod_addPoint (G 44 0 ((x : Int) + 1)) (G 44 0 ((x : Int) + 2)) (G 44 0 ((x : Int) + 3)) (G 44 0 ((x : Int) + 4)) (G 44 0 ((x : Int) + 5)) (G 44 0 ((x : Int) + 6)) G1) (nxt := fun G' => l_Law_law_28 (wr ((x : Int) + 7)) G') hI (ch_addPoint (G 44 0 ((x : Int) + 1)) (G 44 0 ((x : Int) + 2)) (G 44 0 ((x : Int) + 3)) (G 44 0 ((x : Int) + 4)) (G 44 0 ((x : Int) + 5)) (G 44 0 ((x : Int) + 6))) (fun k G1 ef hk => ?_)
  have e := e_l_Law_law_249 (x : Int) G
  rw [sx_w hx (i := 1) (by decide), sx_w hx (i := 2) (by decide), sx_w hx (i := 3) (by decide), sx_w hx (i := 4) (by decide), sx_w hx (i := 5) (by decide), sx_w hx (i := 6) (by decide), if_pos c1, if_pos c2, if_pos c3, if_pos c4, if_pos c5, if_pos c6, ef, bI_r, hk 47 0 (by decide) (by decide), hk 44 ((x : Int) + 1) (by decide) (by decide), hk 44 ((x : Int) + 2) (by decide) (by decide), hk 44 ((x : Int) + 3) (by decide) (by decide), hk 44 ((x : Int) + 4) (by decide) (by decide), hk 44 ((x : Int) + 5) (by decide) (by decide), hk 44 ((x : Int) + 6) (by decide) (by decide), if_pos c1, if_pos c2, if_pos c3, if_pos c4, if_pos c5, if_pos c6] at e
  unfold tailL
  exact e
theorem lc_367 (hI : Inv cn G) (hx : SX x G) : ∃ G', l_Law_law_367 x G = l_Law_law_28 (wr ((x : Int) + 7)) G' ∧ Inv (cn + 1) G' ∧ Kp G G' := by
  have c1 := sx_c hx (i := 1) (by decide)
  refine ch_case (L := l_Law_law_367 x G) (fc := f_Law_removeLine (G 44 0 ((x : Int) + 1)) G) (fm := fun G1 => f_Mod_removeLine (G 44 0 ((x : Int) + 1)) G1) (nxt := fun G' => l_Law_law_28 (wr ((x : Int) + 7)) G') hI (ch_removeLine (G 44 0 ((x : Int) + 1))) (fun k G1 ef hk => ?_)
  have e := e_l_Law_law_367 (x : Int) G
  rw [sx_w hx (i := 1) (by decide), if_pos c1, ef, bI_r, hk 47 0 (by decide) (by decide), hk 44 ((x : Int) + 1) (by decide) (by decide), if_pos c1] at e
  unfold tailL
  exact e
theorem lc_423 (hI : Inv cn G) (hx : SX x G) : ∃ G', l_Law_law_423 x G = l_Law_law_28 (wr ((x : Int) + 7)) G' ∧ Inv (cn + 1) G' ∧ Kp G G' := by
  have c1 := sx_c hx (i := 1) (by decide)
  refine ch_case (L := l_Law_law_423 x G) (fc := f_Law_removePoint (G 44 0 ((x : Int) + 1)) G) (fm := fun G1 => f_Mod_removePoint (G 44 0 ((x : Int) + 1)) G1) (nxt := fun G' => l_Law_law_28 (wr ((x : Int) + 7)) G') hI (ch_removePoint (G 44 0 ((x : Int) + 1))) (fun k G1 ef hk => ?_)
  have e := e_l_Law_law_423 (x : Int) G
  rw [sx_w hx (i := 1) (by decide), if_pos c1, ef, bI_r, hk 47 0 (by decide) (by decide), hk 44 ((x : Int) + 1) (by decide) (by decide), if_pos c1] at e
  unfold tailL
  exact e
theorem lc_479 (hI : Inv cn G) (hx : SX x G) : ∃ G', l_Law_law_479 x G = l_Law_law_28 (wr ((x : Int) + 7)) G' ∧ Inv (cn + 1) G' ∧ Kp G G' := by
  have c1 := sx_c hx (i := 1) (by decide)
  have c2 := sx_c hx (i := 2) (by decide)
  refine ch_case (L := l_Law_law_479 x G) (fc := f_Law_setCorner (G 44 0 ((x : Int) + 1)) (G 44 0 ((x : Int) + 2)) G) (fm := fun G1 => f_Mod_setCorner (G 44 0 ((x : Int) + 1)) (G 44 0 ((x : Int) + 2)) G1) (nxt := fun G' => l_Law_law_28 (wr ((x : Int) + 7)) G') hI (ch_setCorner (G 44 0 ((x : Int) + 1)) (G 44 0 ((x : Int) + 2))) (fun k G1 ef hk => ?_)
  have e := e_l_Law_law_479 (x : Int) G
  rw [sx_w hx (i := 1) (by decide), sx_w hx (i := 2) (by decide), if_pos c1, if_pos c2, ef, bI_r, hk 47 0 (by decide) (by decide), hk 44 ((x : Int) + 1) (by decide) (by decide), hk 44 ((x : Int) + 2) (by decide) (by decide), if_pos c1, if_pos c2] at e
  unfold tailL
  exact e
theorem lc_547 (hI : Inv cn G) (hx : SX x G) : ∃ G', l_Law_law_547 x G = l_Law_law_28 (wr ((x : Int) + 7)) G' ∧ Inv (cn + 1) G' ∧ Kp G G' := by
  have c1 := sx_c hx (i := 1) (by decide)
  have c2 := sx_c hx (i := 2) (by decide)
  have c3 := sx_c hx (i := 3) (by decide)
  have c4 := sx_c hx (i := 4) (by decide)
  have c5 := sx_c hx (i := 5) (by decide)
  refine ch_case (L := l_Law_law_547 x G) (fc := f_Law_paint (G 44 0 ((x : Int) + 1)) (G 44 0 ((x : Int) + 2)) (G 44 0 ((x : Int) + 3)) (G 44 0 ((x : Int) + 4)) (G 44 0 ((x : Int) + 5)) G) (fm := fun G1 => f_Mod_paint (G 44 0 ((x : Int) + 1)) (G 44 0 ((x : Int) + 2)) (G 44 0 ((x : Int) + 3)) (G 44 0 ((x : Int) + 4)) (G 44 0 ((x : Int) + 5)) G1) (nxt := fun G' => l_Law_law_28 (wr ((x : Int) + 7)) G') hI (ch_paint (G 44 0 ((x : Int) + 1)) (G 44 0 ((x : Int) + 2)) (G 44 0 ((x : Int) + 3)) (G 44 0 ((x : Int) + 4)) (G 44 0 ((x : Int) + 5))) (fun k G1 ef hk => ?_)
  have e := e_l_Law_law_547 (x : Int) G
  rw [sx_w hx (i := 1) (by decide), sx_w hx (i := 2) (by decide), sx_w hx (i := 3) (by decide), sx_w hx (i := 4) (by decide), sx_w hx (i := 5) (by decide), if_pos c1, if_pos c2, if_pos c3, if_pos c4, if_pos c5, ef, bI_r, hk 47 0 (by decide) (by decide), hk 44 ((x : Int) + 1) (by decide) (by decide), hk 44 ((x : Int) + 2) (by decide) (by decide), hk 44 ((x : Int) + 3) (by decide) (by decide), hk 44 ((x : Int) + 4) (by decide) (by decide), hk 44 ((x : Int) + 5) (by decide) (by decide), if_pos c1, if_pos c2, if_pos c3, if_pos c4, if_pos c5] at e
  unfold tailL
  exact e
theorem lc_651 (hI : Inv cn G) (hx : SX x G) : ∃ G', l_Law_law_651 x G = l_Law_law_28 (wr ((x : Int) + 7)) G' ∧ Inv (cn + 1) G' ∧ Kp G G' := by
  have c1 := sx_c hx (i := 1) (by decide)
  have c2 := sx_c hx (i := 2) (by decide)
  refine ch_case (L := l_Law_law_651 x G) (fc := f_Law_setClass (G 44 0 ((x : Int) + 1)) (G 44 0 ((x : Int) + 2)) G) (fm := fun G1 => f_Mod_setClass (G 44 0 ((x : Int) + 1)) (G 44 0 ((x : Int) + 2)) G1) (nxt := fun G' => l_Law_law_28 (wr ((x : Int) + 7)) G') hI (ch_setClass (G 44 0 ((x : Int) + 1)) (G 44 0 ((x : Int) + 2))) (fun k G1 ef hk => ?_)
  have e := e_l_Law_law_651 (x : Int) G
  rw [sx_w hx (i := 1) (by decide), sx_w hx (i := 2) (by decide), if_pos c1, if_pos c2, ef, bI_r, hk 47 0 (by decide) (by decide), hk 44 ((x : Int) + 1) (by decide) (by decide), hk 44 ((x : Int) + 2) (by decide) (by decide), if_pos c1, if_pos c2] at e
  unfold tailL
  exact e
theorem lc_760 (hI : Inv cn G) (hx : SX x G) (hT : Lm G) : ∃ G', l_Law_law_760 x G = l_Law_law_28 (wr ((x : Int) + 7)) G' ∧ Inv (cn + 1) G' ∧ Kp G G' := by
  have c1 := sx_c hx (i := 1) (by decide)
  have c2 := sx_c hx (i := 2) (by decide)
  have c3 := sx_c hx (i := 3) (by decide)
  refine ch_case (L := l_Law_law_760 x G) (fc := f_Law_set (G 44 0 ((x : Int) + 1)) (G 44 0 ((x : Int) + 2)) (G 44 0 ((x : Int) + 3)) G) (fm := fun G1 => f_Mod_set (G 44 0 ((x : Int) + 1)) (G 44 0 ((x : Int) + 2)) (G 44 0 ((x : Int) + 3)) G1) (nxt := fun G' => l_Law_law_28 (wr ((x : Int) + 7)) G') hI (ch_set hT (G 44 0 ((x : Int) + 1)) (G 44 0 ((x : Int) + 2)) (G 44 0 ((x : Int) + 3))) (fun k G1 ef hk => ?_)
  have e := e_l_Law_law_760 (x : Int) G
  rw [sx_w hx (i := 1) (by decide), sx_w hx (i := 2) (by decide), sx_w hx (i := 3) (by decide), if_pos c1, if_pos c2, if_pos c3, ef, bI_r, hk 47 0 (by decide) (by decide), hk 44 ((x : Int) + 1) (by decide) (by decide), hk 44 ((x : Int) + 2) (by decide) (by decide), hk 44 ((x : Int) + 3) (by decide) (by decide), if_pos c1, if_pos c2, if_pos c3] at e
  unfold tailL
  exact e
theorem lc_840 (hI : Inv cn G) (hx : SX x G) : ∃ G', l_Law_law_840 x G = l_Law_law_28 (wr ((x : Int) + 7)) G' ∧ Inv (cn + 1) G' ∧ Kp G G' := by
  have c1 := sx_c hx (i := 1) (by decide)
  have c2 := sx_c hx (i := 2) (by decide)
  refine q_case (L := l_Law_law_840 x G) (fc := f_Law_setting (G 44 0 ((x : Int) + 1)) (G 44 0 ((x : Int) + 2)) G) (fm := fun G1 => f_Mod_setting2 (G 44 0 ((x : Int) + 1)) (G 44 0 ((x : Int) + 2)) G1) (nxt := fun G' => l_Law_law_28 (wr ((x : Int) + 7)) G') hI (fun s hs hS hC => ?_) (fun k G1 ef hk => ?_)
  · obtain ⟨k, v, a, b⟩ := q_setting hs hS hC (G 44 0 ((x : Int) + 1)) (G 44 0 ((x : Int) + 2))
    exact ⟨k, v, a, fun G1 _ hR hC1 _ => b G1 hR hC1⟩
  · have e := e_l_Law_law_840 (x : Int) G
    rw [sx_w hx (i := 1) (by decide), sx_w hx (i := 2) (by decide), if_pos c1, if_pos c2, ef, bI_r, hk 47 0 (by decide) (by decide), hk 44 ((x : Int) + 1) (by decide) (by decide), hk 44 ((x : Int) + 2) (by decide) (by decide), if_pos c1, if_pos c2] at e
    unfold tailL
    exact e
theorem lc_908 (hI : Inv cn G) (hx : SX x G) : ∃ G', l_Law_law_908 x G = l_Law_law_28 (wr ((x : Int) + 7)) G' ∧ Inv (cn + 1) G' ∧ Kp G G' := by
  have c1 := sx_c hx (i := 1) (by decide)
  refine q_case (L := l_Law_law_908 x G) (fc := f_Law_count (G 44 0 ((x : Int) + 1)) G) (fm := fun G1 => f_Mod_count (G 44 0 ((x : Int) + 1)) G1) (nxt := fun G' => l_Law_law_28 (wr ((x : Int) + 7)) G') hI (fun s hs hS hC => ?_) (fun k G1 ef hk => ?_)
  · obtain ⟨k, v, a, b⟩ := q_count hs hS hC (G 44 0 ((x : Int) + 1))
    exact ⟨k, v, a, fun G1 _ hR hC1 _ => b G1 hR hC1⟩
  · have e := e_l_Law_law_908 (x : Int) G
    rw [sx_w hx (i := 1) (by decide), if_pos c1, ef, bI_r, hk 47 0 (by decide) (by decide), hk 44 ((x : Int) + 1) (by decide) (by decide), if_pos c1] at e
    unfold tailL
    exact e
theorem lc_964 (hI : Inv cn G) (hx : SX x G) : ∃ G', l_Law_law_964 x G = l_Law_law_28 (wr ((x : Int) + 7)) G' ∧ Inv (cn + 1) G' ∧ Kp G G' := by
  have c1 := sx_c hx (i := 1) (by decide)
  have c2 := sx_c hx (i := 2) (by decide)
  refine q_case (L := l_Law_law_964 x G) (fc := f_Law_point (G 44 0 ((x : Int) + 1)) (G 44 0 ((x : Int) + 2)) G) (fm := fun G1 => f_Mod_point (G 44 0 ((x : Int) + 1)) (G 44 0 ((x : Int) + 2)) G1) (nxt := fun G' => l_Law_law_28 (wr ((x : Int) + 7)) G') hI (fun s hs hS hC => ?_) (fun k G1 ef hk => ?_)
  · obtain ⟨k, v, a, b⟩ := q_point hs hS hC (G 44 0 ((x : Int) + 1)) (G 44 0 ((x : Int) + 2))
    exact ⟨k, v, a, fun G1 _ hR hC1 _ => b G1 hR hC1⟩
  · have e := e_l_Law_law_964 (x : Int) G
    rw [sx_w hx (i := 1) (by decide), sx_w hx (i := 2) (by decide), if_pos c1, if_pos c2, ef, bI_r, hk 47 0 (by decide) (by decide), hk 44 ((x : Int) + 1) (by decide) (by decide), hk 44 ((x : Int) + 2) (by decide) (by decide), if_pos c1, if_pos c2] at e
    unfold tailL
    exact e
theorem lc_1032 (hI : Inv cn G) (hx : SX x G) : ∃ G', l_Law_law_1032 x G = l_Law_law_28 (wr ((x : Int) + 7)) G' ∧ Inv (cn + 1) G' ∧ Kp G G' := by
  have c1 := sx_c hx (i := 1) (by decide)
  have c2 := sx_c hx (i := 2) (by decide)
  refine q_case (L := l_Law_law_1032 x G) (fc := f_Law_vertices (G 44 0 ((x : Int) + 1)) (G 44 0 ((x : Int) + 2)) G) (fm := fun G1 => f_Mod_vertices (G 44 0 ((x : Int) + 1)) (G 44 0 ((x : Int) + 2)) G1) (nxt := fun G' => l_Law_law_28 (wr ((x : Int) + 7)) G') hI (fun s hs hS hC => ?_) (fun k G1 ef hk => ?_)
  · obtain ⟨k, v, a, b⟩ := q_vertices hs hS hC (G 44 0 ((x : Int) + 1)) (G 44 0 ((x : Int) + 2))
    exact ⟨k, v, a, fun G1 _ hR hC1 _ => b G1 hR hC1⟩
  · have e := e_l_Law_law_1032 (x : Int) G
    rw [sx_w hx (i := 1) (by decide), sx_w hx (i := 2) (by decide), if_pos c1, if_pos c2, ef, bI_r, hk 47 0 (by decide) (by decide), hk 44 ((x : Int) + 1) (by decide) (by decide), hk 44 ((x : Int) + 2) (by decide) (by decide), if_pos c1, if_pos c2] at e
    unfold tailL
    exact e
theorem lc_1208 (hI : Inv cn G) (hx : SX x G) : ∃ G', l_Law_law_1208 x G = l_Law_law_28 (wr ((x : Int) + 7)) G' ∧ Inv (cn + 1) G' ∧ Kp G G' := by
  have c1 := sx_c hx (i := 1) (by decide)
  have c2 := sx_c hx (i := 2) (by decide)
  refine q_case (L := l_Law_law_1208 x G) (fc := f_Law_lost (G 44 0 ((x : Int) + 1)) (G 44 0 ((x : Int) + 2)) G) (fm := fun G1 => f_Mod_lost (G 44 0 ((x : Int) + 1)) (G 44 0 ((x : Int) + 2)) G1) (nxt := fun G' => l_Law_law_28 (wr ((x : Int) + 7)) G') hI (fun s hs hS hC => ?_) (fun k G1 ef hk => ?_)
  · obtain ⟨k, v, a, b⟩ := q_lost hs hS hC (G 44 0 ((x : Int) + 1)) (G 44 0 ((x : Int) + 2))
    exact ⟨k, v, a, fun G1 _ hR hC1 _ => b G1 hR hC1⟩
  · have e := e_l_Law_law_1208 (x : Int) G
    rw [sx_w hx (i := 1) (by decide), sx_w hx (i := 2) (by decide), if_pos c1, if_pos c2, ef, bI_r, hk 47 0 (by decide) (by decide), hk 44 ((x : Int) + 1) (by decide) (by decide), hk 44 ((x : Int) + 2) (by decide) (by decide), if_pos c1, if_pos c2] at e
    unfold tailL
    exact e
theorem lc_1276 (hI : Inv cn G) (hx : SX x G) : ∃ G', l_Law_law_1276 x G = l_Law_law_28 (wr ((x : Int) + 7)) G' ∧ Inv (cn + 1) G' ∧ Kp G G' := by
  have c1 := sx_c hx (i := 1) (by decide)
  have c2 := sx_c hx (i := 2) (by decide)
  have c3 := sx_c hx (i := 3) (by decide)
  refine q_case (L := l_Law_law_1276 x G) (fc := f_Law_why (G 44 0 ((x : Int) + 1)) (G 44 0 ((x : Int) + 2)) (G 44 0 ((x : Int) + 3)) G) (fm := fun G1 => f_Mod_why (G 44 0 ((x : Int) + 1)) (G 44 0 ((x : Int) + 2)) (G 44 0 ((x : Int) + 3)) G1) (nxt := fun G' => l_Law_law_28 (wr ((x : Int) + 7)) G') hI (fun s hs hS hC => ?_) (fun k G1 ef hk => ?_)
  · obtain ⟨k, v, a, b⟩ := q_why hs hS hC (G 44 0 ((x : Int) + 1)) (G 44 0 ((x : Int) + 2)) (G 44 0 ((x : Int) + 3))
    exact ⟨k, v, a, fun G1 _ hR hC1 _ => b G1 hR hC1⟩
  · have e := e_l_Law_law_1276 (x : Int) G
    rw [sx_w hx (i := 1) (by decide), sx_w hx (i := 2) (by decide), sx_w hx (i := 3) (by decide), if_pos c1, if_pos c2, if_pos c3, ef, bI_r, hk 47 0 (by decide) (by decide), hk 44 ((x : Int) + 1) (by decide) (by decide), hk 44 ((x : Int) + 2) (by decide) (by decide), hk 44 ((x : Int) + 3) (by decide) (by decide), if_pos c1, if_pos c2, if_pos c3] at e
    unfold tailL
    exact e
theorem lc_1356 (hI : Inv cn G) (hx : SX x G) : ∃ G', l_Law_law_1356 x G = l_Law_law_28 (wr ((x : Int) + 7)) G' ∧ Inv (cn + 1) G' ∧ Kp G G' := by
  have c1 := sx_c hx (i := 1) (by decide)
  have c2 := sx_c hx (i := 2) (by decide)
  have c3 := sx_c hx (i := 3) (by decide)
  refine q_case (L := l_Law_law_1356 x G) (fc := f_Law_weight (G 44 0 ((x : Int) + 1)) (G 44 0 ((x : Int) + 2)) (G 44 0 ((x : Int) + 3)) G) (fm := fun G1 => f_Mod_weight (G 44 0 ((x : Int) + 1)) (G 44 0 ((x : Int) + 2)) (G 44 0 ((x : Int) + 3)) G1) (nxt := fun G' => l_Law_law_28 (wr ((x : Int) + 7)) G') hI (fun s hs hS hC => ?_) (fun k G1 ef hk => ?_)
  · obtain ⟨k, v, a, b⟩ := q_weight hs hS hC (G 44 0 ((x : Int) + 1)) (G 44 0 ((x : Int) + 2)) (G 44 0 ((x : Int) + 3))
    exact ⟨k, v, a, fun G1 _ hR hC1 _ => b G1 hR hC1⟩
  · have e := e_l_Law_law_1356 (x : Int) G
    rw [sx_w hx (i := 1) (by decide), sx_w hx (i := 2) (by decide), sx_w hx (i := 3) (by decide), if_pos c1, if_pos c2, if_pos c3, ef, bI_r, hk 47 0 (by decide) (by decide), hk 44 ((x : Int) + 1) (by decide) (by decide), hk 44 ((x : Int) + 2) (by decide) (by decide), hk 44 ((x : Int) + 3) (by decide) (by decide), if_pos c1, if_pos c2, if_pos c3] at e
    unfold tailL
    exact e
theorem lc_1436 (hI : Inv cn G) (hx : SX x G) : ∃ G', l_Law_law_1436 x G = l_Law_law_28 (wr ((x : Int) + 7)) G' ∧ Inv (cn + 1) G' ∧ Kp G G' := by
  have c1 := sx_c hx (i := 1) (by decide)
  have c2 := sx_c hx (i := 2) (by decide)
  refine q_case (L := l_Law_law_1436 x G) (fc := f_Law_removed (G 44 0 ((x : Int) + 1)) (G 44 0 ((x : Int) + 2)) G) (fm := fun G1 => f_Mod_removed (G 44 0 ((x : Int) + 1)) (G 44 0 ((x : Int) + 2)) G1) (nxt := fun G' => l_Law_law_28 (wr ((x : Int) + 7)) G') hI (fun s hs hS hC => ?_) (fun k G1 ef hk => ?_)
  · obtain ⟨k, v, a, b⟩ := q_removed hs hS hC (G 44 0 ((x : Int) + 1)) (G 44 0 ((x : Int) + 2))
    exact ⟨k, v, a, fun G1 _ hR hC1 _ => b G1 hR hC1⟩
  · have e := e_l_Law_law_1436 (x : Int) G
    rw [sx_w hx (i := 1) (by decide), sx_w hx (i := 2) (by decide), if_pos c1, if_pos c2, ef, bI_r, hk 47 0 (by decide) (by decide), hk 44 ((x : Int) + 1) (by decide) (by decide), hk 44 ((x : Int) + 2) (by decide) (by decide), if_pos c1, if_pos c2] at e
    unfold tailL
    exact e
theorem lc_1504 (hI : Inv cn G) (hx : SX x G) : ∃ G', l_Law_law_1504 x G = l_Law_law_28 (wr ((x : Int) + 7)) G' ∧ Inv (cn + 1) G' ∧ Kp G G' := by
  have c1 := sx_c hx (i := 1) (by decide)
  have c2 := sx_c hx (i := 2) (by decide)
  refine q_case (L := l_Law_law_1504 x G) (fc := f_Law_extent (G 44 0 ((x : Int) + 1)) (G 44 0 ((x : Int) + 2)) G) (fm := fun G1 => f_Mod_extent (G 44 0 ((x : Int) + 1)) (G 44 0 ((x : Int) + 2)) G1) (nxt := fun G' => l_Law_law_28 (wr ((x : Int) + 7)) G') hI (fun s hs hS hC => ?_) (fun k G1 ef hk => ?_)
  · obtain ⟨k, v, a, b⟩ := q_extent hs hS hC (G 44 0 ((x : Int) + 1)) (G 44 0 ((x : Int) + 2))
    exact ⟨k, v, a, fun G1 _ hR hC1 _ => b G1 hR hC1⟩
  · have e := e_l_Law_law_1504 (x : Int) G
    rw [sx_w hx (i := 1) (by decide), sx_w hx (i := 2) (by decide), if_pos c1, if_pos c2, ef, bI_r, hk 47 0 (by decide) (by decide), hk 44 ((x : Int) + 1) (by decide) (by decide), hk 44 ((x : Int) + 2) (by decide) (by decide), if_pos c1, if_pos c2] at e
    unfold tailL
    exact e
theorem lc_1572 (hI : Inv cn G) (hx : SX x G) : ∃ G', l_Law_law_1572 x G = l_Law_law_28 (wr ((x : Int) + 7)) G' ∧ Inv (cn + 1) G' ∧ Kp G G' := by
  have c1 := sx_c hx (i := 1) (by decide)
  refine q_case (L := l_Law_law_1572 x G) (fc := f_Law_mostSimplified (G 44 0 ((x : Int) + 1)) G) (fm := fun G1 => f_Mod_mostSimplified (G 44 0 ((x : Int) + 1)) G1) (nxt := fun G' => l_Law_law_28 (wr ((x : Int) + 7)) G') hI (fun s hs hS hC => ?_) (fun k G1 ef hk => ?_)
  · obtain ⟨k, v, a, b⟩ := q_mostSimplified hs hS hC (G 44 0 ((x : Int) + 1))
    exact ⟨k, v, a, fun G1 _ hR hC1 _ => b G1 hR hC1⟩
  · have e := e_l_Law_law_1572 (x : Int) G
    rw [sx_w hx (i := 1) (by decide), if_pos c1, ef, bI_r, hk 47 0 (by decide) (by decide), hk 44 ((x : Int) + 1) (by decide) (by decide), if_pos c1] at e
    unfold tailL
    exact e
theorem lc_1628 (hI : Inv cn G) (hx : SX x G) : ∃ G', l_Law_law_1628 x G = l_Law_law_28 (wr ((x : Int) + 7)) G' ∧ Inv (cn + 1) G' ∧ Kp G G' := by
  have c1 := sx_c hx (i := 1) (by decide)
  have c2 := sx_c hx (i := 2) (by decide)
  have c3 := sx_c hx (i := 3) (by decide)
  refine q_case (L := l_Law_law_1628 x G) (fc := f_Law_lineAt (G 44 0 ((x : Int) + 1)) (G 44 0 ((x : Int) + 2)) (G 44 0 ((x : Int) + 3)) G) (fm := fun G1 => f_Mod_lineAt (G 44 0 ((x : Int) + 1)) (G 44 0 ((x : Int) + 2)) (G 44 0 ((x : Int) + 3)) G1) (nxt := fun G' => l_Law_law_28 (wr ((x : Int) + 7)) G') hI (fun s hs hS hC => ?_) (fun k G1 ef hk => ?_)
  · obtain ⟨k, v, a, b⟩ := q_lineAt hs hS hC (G 44 0 ((x : Int) + 1)) (G 44 0 ((x : Int) + 2)) (G 44 0 ((x : Int) + 3))
    exact ⟨k, v, a, fun G1 _ hR hC1 _ => b G1 hR hC1⟩
  · have e := e_l_Law_law_1628 (x : Int) G
    rw [sx_w hx (i := 1) (by decide), sx_w hx (i := 2) (by decide), sx_w hx (i := 3) (by decide), if_pos c1, if_pos c2, if_pos c3, ef, bI_r, hk 47 0 (by decide) (by decide), hk 44 ((x : Int) + 1) (by decide) (by decide), hk 44 ((x : Int) + 2) (by decide) (by decide), hk 44 ((x : Int) + 3) (by decide) (by decide), if_pos c1, if_pos c2, if_pos c3] at e
    unfold tailL
    exact e
theorem lc_1708 (hI : Inv cn G) (hx : SX x G) : ∃ G', l_Law_law_1708 x G = l_Law_law_28 (wr ((x : Int) + 7)) G' ∧ Inv (cn + 1) G' ∧ Kp G G' := by
  have c1 := sx_c hx (i := 1) (by decide)
  have c2 := sx_c hx (i := 2) (by decide)
  have c3 := sx_c hx (i := 3) (by decide)
  refine q_case (L := l_Law_law_1708 x G) (fc := f_Law_parcelAt (G 44 0 ((x : Int) + 1)) (G 44 0 ((x : Int) + 2)) (G 44 0 ((x : Int) + 3)) G) (fm := fun G1 => f_Mod_parcelAt (G 44 0 ((x : Int) + 1)) (G 44 0 ((x : Int) + 2)) (G 44 0 ((x : Int) + 3)) G1) (nxt := fun G' => l_Law_law_28 (wr ((x : Int) + 7)) G') hI (fun s hs hS hC => ?_) (fun k G1 ef hk => ?_)
  · obtain ⟨k, v, a, b⟩ := q_parcelAt hs hS hC (G 44 0 ((x : Int) + 1)) (G 44 0 ((x : Int) + 2)) (G 44 0 ((x : Int) + 3))
    exact ⟨k, v, a, fun G1 _ hR hC1 _ => b G1 hR hC1⟩
  · have e := e_l_Law_law_1708 (x : Int) G
    rw [sx_w hx (i := 1) (by decide), sx_w hx (i := 2) (by decide), sx_w hx (i := 3) (by decide), if_pos c1, if_pos c2, if_pos c3, ef, bI_r, hk 47 0 (by decide) (by decide), hk 44 ((x : Int) + 1) (by decide) (by decide), hk 44 ((x : Int) + 2) (by decide) (by decide), hk 44 ((x : Int) + 3) (by decide) (by decide), if_pos c1, if_pos c2, if_pos c3] at e
    unfold tailL
    exact e
theorem lc_1788 (hI : Inv cn G) (hx : SX x G) : ∃ G', l_Law_law_1788 x G = l_Law_law_28 (wr ((x : Int) + 7)) G' ∧ Inv (cn + 1) G' ∧ Kp G G' := by
  have c1 := sx_c hx (i := 1) (by decide)
  have c2 := sx_c hx (i := 2) (by decide)
  refine q_case (L := l_Law_law_1788 x G) (fc := f_Law_area (G 44 0 ((x : Int) + 1)) (G 44 0 ((x : Int) + 2)) G) (fm := fun G1 => f_Mod_area (G 44 0 ((x : Int) + 1)) (G 44 0 ((x : Int) + 2)) G1) (nxt := fun G' => l_Law_law_28 (wr ((x : Int) + 7)) G') hI (fun s hs hS hC => ?_) (fun k G1 ef hk => ?_)
  · obtain ⟨k, v, a, b⟩ := q_area hs hS hC (G 44 0 ((x : Int) + 1)) (G 44 0 ((x : Int) + 2))
    exact ⟨k, v, a, fun G1 _ hR hC1 _ => b G1 hR hC1⟩
  · have e := e_l_Law_law_1788 (x : Int) G
    rw [sx_w hx (i := 1) (by decide), sx_w hx (i := 2) (by decide), if_pos c1, if_pos c2, ef, bI_r, hk 47 0 (by decide) (by decide), hk 44 ((x : Int) + 1) (by decide) (by decide), hk 44 ((x : Int) + 2) (by decide) (by decide), if_pos c1, if_pos c2] at e
    unfold tailL
    exact e
theorem lc_1856 (hI : Inv cn G) (hx : SX x G) : ∃ G', l_Law_law_1856 x G = l_Law_law_28 (wr ((x : Int) + 7)) G' ∧ Inv (cn + 1) G' ∧ Kp G G' := by
  have c1 := sx_c hx (i := 1) (by decide)
  have c2 := sx_c hx (i := 2) (by decide)
  have c3 := sx_c hx (i := 3) (by decide)
  refine q_case (L := l_Law_law_1856 x G) (fc := f_Law_border (G 44 0 ((x : Int) + 1)) (G 44 0 ((x : Int) + 2)) (G 44 0 ((x : Int) + 3)) G) (fm := fun G1 => f_Mod_border (G 44 0 ((x : Int) + 1)) (G 44 0 ((x : Int) + 2)) (G 44 0 ((x : Int) + 3)) G1) (nxt := fun G' => l_Law_law_28 (wr ((x : Int) + 7)) G') hI (fun s hs hS hC => ?_) (fun k G1 ef hk => ?_)
  · obtain ⟨k, v, a, b⟩ := q_border hs hS hC (G 44 0 ((x : Int) + 1)) (G 44 0 ((x : Int) + 2)) (G 44 0 ((x : Int) + 3))
    exact ⟨k, v, a, fun G1 _ hR hC1 _ => b G1 hR hC1⟩
  · have e := e_l_Law_law_1856 (x : Int) G
    rw [sx_w hx (i := 1) (by decide), sx_w hx (i := 2) (by decide), sx_w hx (i := 3) (by decide), if_pos c1, if_pos c2, if_pos c3, ef, bI_r, hk 47 0 (by decide) (by decide), hk 44 ((x : Int) + 1) (by decide) (by decide), hk 44 ((x : Int) + 2) (by decide) (by decide), hk 44 ((x : Int) + 3) (by decide) (by decide), if_pos c1, if_pos c2, if_pos c3] at e
    unfold tailL
    exact e
theorem lc_1936 (hI : Inv cn G) (hx : SX x G) : ∃ G', l_Law_law_1936 x G = l_Law_law_28 (wr ((x : Int) + 7)) G' ∧ Inv (cn + 1) G' ∧ Kp G G' := by
  have c1 := sx_c hx (i := 1) (by decide)
  have c2 := sx_c hx (i := 2) (by decide)
  refine q_case (L := l_Law_law_1936 x G) (fc := f_Law_neighbors (G 44 0 ((x : Int) + 1)) (G 44 0 ((x : Int) + 2)) G) (fm := fun G1 => f_Mod_neighbors (G 44 0 ((x : Int) + 1)) (G 44 0 ((x : Int) + 2)) G1) (nxt := fun G' => l_Law_law_28 (wr ((x : Int) + 7)) G') hI (fun s hs hS hC => ?_) (fun k G1 ef hk => ?_)
  · obtain ⟨k, v, a, b⟩ := q_neighbors hs hS hC (G 44 0 ((x : Int) + 1)) (G 44 0 ((x : Int) + 2))
    exact ⟨k, v, a, fun G1 _ hR hC1 _ => b G1 hR hC1⟩
  · have e := e_l_Law_law_1936 (x : Int) G
    rw [sx_w hx (i := 1) (by decide), sx_w hx (i := 2) (by decide), if_pos c1, if_pos c2, ef, bI_r, hk 47 0 (by decide) (by decide), hk 44 ((x : Int) + 1) (by decide) (by decide), hk 44 ((x : Int) + 2) (by decide) (by decide), if_pos c1, if_pos c2] at e
    unfold tailL
    exact e
theorem lc_2004 (hI : Inv cn G) (hx : SX x G) : ∃ G', l_Law_law_2004 x G = l_Law_law_28 (wr ((x : Int) + 7)) G' ∧ Inv (cn + 1) G' ∧ Kp G G' := by
  have c1 := sx_c hx (i := 1) (by decide)
  have c2 := sx_c hx (i := 2) (by decide)
  refine q_case (L := l_Law_law_2004 x G) (fc := f_Law_became (G 44 0 ((x : Int) + 1)) (G 44 0 ((x : Int) + 2)) G) (fm := fun G1 => f_Mod_became (G 44 0 ((x : Int) + 1)) (G 44 0 ((x : Int) + 2)) G1) (nxt := fun G' => l_Law_law_28 (wr ((x : Int) + 7)) G') hI (fun s hs hS hC => ?_) (fun k G1 ef hk => ?_)
  · obtain ⟨k, v, a, b⟩ := q_became hs hS hC (G 44 0 ((x : Int) + 1)) (G 44 0 ((x : Int) + 2))
    exact ⟨k, v, a, fun G1 _ hR hC1 _ => b G1 hR hC1⟩
  · have e := e_l_Law_law_2004 (x : Int) G
    rw [sx_w hx (i := 1) (by decide), sx_w hx (i := 2) (by decide), if_pos c1, if_pos c2, ef, bI_r, hk 47 0 (by decide) (by decide), hk 44 ((x : Int) + 1) (by decide) (by decide), hk 44 ((x : Int) + 2) (by decide) (by decide), if_pos c1, if_pos c2] at e
    unfold tailL
    exact e
theorem lc_2072 (hI : Inv cn G) (hx : SX x G) : ∃ G', l_Law_law_2072 x G = l_Law_law_28 (wr ((x : Int) + 7)) G' ∧ Inv (cn + 1) G' ∧ Kp G G' := by
  have c1 := sx_c hx (i := 1) (by decide)
  have c2 := sx_c hx (i := 2) (by decide)
  refine q_case (L := l_Law_law_2072 x G) (fc := f_Law_parcels (G 44 0 ((x : Int) + 1)) (G 44 0 ((x : Int) + 2)) G) (fm := fun G1 => f_Mod_parcels (G 44 0 ((x : Int) + 1)) (G 44 0 ((x : Int) + 2)) G1) (nxt := fun G' => l_Law_law_28 (wr ((x : Int) + 7)) G') hI (fun s hs hS hC => ?_) (fun k G1 ef hk => ?_)
  · obtain ⟨k, v, a, b⟩ := q_parcels hs hS hC (G 44 0 ((x : Int) + 1)) (G 44 0 ((x : Int) + 2))
    exact ⟨k, v, a, fun G1 _ hR hC1 _ => b G1 hR hC1⟩
  · have e := e_l_Law_law_2072 (x : Int) G
    rw [sx_w hx (i := 1) (by decide), sx_w hx (i := 2) (by decide), if_pos c1, if_pos c2, ef, bI_r, hk 47 0 (by decide) (by decide), hk 44 ((x : Int) + 1) (by decide) (by decide), hk 44 ((x : Int) + 2) (by decide) (by decide), if_pos c1, if_pos c2] at e
    unfold tailL
    exact e
theorem lc_2140 (hI : Inv cn G) (hx : SX x G) : ∃ G', l_Law_law_2140 x G = l_Law_law_28 (wr ((x : Int) + 7)) G' ∧ Inv (cn + 1) G' ∧ Kp G G' := by
  have c1 := sx_c hx (i := 1) (by decide)
  refine q_case (L := l_Law_law_2140 x G) (fc := f_Law_leftOver (G 44 0 ((x : Int) + 1)) G) (fm := fun G1 => f_Mod_leftOver (G 44 0 ((x : Int) + 1)) G1) (nxt := fun G' => l_Law_law_28 (wr ((x : Int) + 7)) G') hI (fun s hs hS hC => ?_) (fun k G1 ef hk => ?_)
  · obtain ⟨k, v, a, b⟩ := q_leftOver hs hS hC (G 44 0 ((x : Int) + 1))
    exact ⟨k, v, a, fun G1 _ hR hC1 _ => b G1 hR hC1⟩
  · have e := e_l_Law_law_2140 (x : Int) G
    rw [sx_w hx (i := 1) (by decide), if_pos c1, ef, bI_r, hk 47 0 (by decide) (by decide), hk 44 ((x : Int) + 1) (by decide) (by decide), if_pos c1] at e
    unfold tailL
    exact e
theorem lc_2196 (hI : Inv cn G) (hx : SX x G) : ∃ G', l_Law_law_2196 x G = l_Law_law_28 (wr ((x : Int) + 7)) G' ∧ Inv (cn + 1) G' ∧ Kp G G' := by
  have c1 := sx_c hx (i := 1) (by decide)
  have c2 := sx_c hx (i := 2) (by decide)
  refine q_case (L := l_Law_law_2196 x G) (fc := f_Law_outline (G 44 0 ((x : Int) + 1)) (G 44 0 ((x : Int) + 2)) G) (fm := fun G1 => f_Mod_outline (G 44 0 ((x : Int) + 1)) (G 44 0 ((x : Int) + 2)) G1) (nxt := fun G' => l_Law_law_28 (wr ((x : Int) + 7)) G') hI (fun s hs hS hC => ?_) (fun k G1 ef hk => ?_)
  · obtain ⟨k, v, a, b⟩ := q_outline hs hS hC (G 44 0 ((x : Int) + 1)) (G 44 0 ((x : Int) + 2))
    exact ⟨k, v, a, fun G1 _ hR hC1 _ => b G1 hR hC1⟩
  · have e := e_l_Law_law_2196 (x : Int) G
    rw [sx_w hx (i := 1) (by decide), sx_w hx (i := 2) (by decide), if_pos c1, if_pos c2, ef, bI_r, hk 47 0 (by decide) (by decide), hk 44 ((x : Int) + 1) (by decide) (by decide), hk 44 ((x : Int) + 2) (by decide) (by decide), if_pos c1, if_pos c2] at e
    unfold tailL
    exact e
theorem lc_2264 (hI : Inv cn G) (hx : SX x G) : ∃ G', l_Law_law_2264 x G = l_Law_law_28 (wr ((x : Int) + 7)) G' ∧ Inv (cn + 1) G' ∧ Kp G G' := by
  have c1 := sx_c hx (i := 1) (by decide)
  refine q_case (L := l_Law_law_2264 x G) (fc := f_Law_shown (G 44 0 ((x : Int) + 1)) G) (fm := fun G1 => f_Mod_shown (G 44 0 ((x : Int) + 1)) G1) (nxt := fun G' => l_Law_law_28 (wr ((x : Int) + 7)) G') hI (fun s hs hS hC => ?_) (fun k G1 ef hk => ?_)
  · obtain ⟨k, v, a, b⟩ := q_shown hs hS hC (G 44 0 ((x : Int) + 1))
    exact ⟨k, v, a, fun G1 _ hR hC1 _ => b G1 hR hC1⟩
  · have e := e_l_Law_law_2264 (x : Int) G
    rw [sx_w hx (i := 1) (by decide), if_pos c1, ef, bI_r, hk 47 0 (by decide) (by decide), hk 44 ((x : Int) + 1) (by decide) (by decide), if_pos c1] at e
    unfold tailL
    exact e
theorem lc_2320 (hI : Inv cn G) (hx : SX x G) : ∃ G', l_Law_law_2320 x G = l_Law_law_28 (wr ((x : Int) + 7)) G' ∧ Inv (cn + 1) G' ∧ Kp G G' := by
  have c1 := sx_c hx (i := 1) (by decide)
  have c2 := sx_c hx (i := 2) (by decide)
  refine q_case (L := l_Law_law_2320 x G) (fc := f_Law_position (G 44 0 ((x : Int) + 1)) (G 44 0 ((x : Int) + 2)) G) (fm := fun G1 => f_Mod_position (G 44 0 ((x : Int) + 1)) (G 44 0 ((x : Int) + 2)) G1) (nxt := fun G' => l_Law_law_28 (wr ((x : Int) + 7)) G') hI (fun s hs hS hC => ?_) (fun k G1 ef hk => ?_)
  · obtain ⟨k, v, a, b⟩ := q_position hs hS hC (G 44 0 ((x : Int) + 1)) (G 44 0 ((x : Int) + 2))
    exact ⟨k, v, a, fun G1 _ hR hC1 _ => b G1 hR hC1⟩
  · have e := e_l_Law_law_2320 (x : Int) G
    rw [sx_w hx (i := 1) (by decide), sx_w hx (i := 2) (by decide), if_pos c1, if_pos c2, ef, bI_r, hk 47 0 (by decide) (by decide), hk 44 ((x : Int) + 1) (by decide) (by decide), hk 44 ((x : Int) + 2) (by decide) (by decide), if_pos c1, if_pos c2] at e
    unfold tailL
    exact e
theorem lc_2388 (hI : Inv cn G) (hx : SX x G) : ∃ G', l_Law_law_2388 x G = l_Law_law_28 (wr ((x : Int) + 7)) G' ∧ Inv (cn + 1) G' ∧ Kp G G' := by
  have c1 := sx_c hx (i := 1) (by decide)
  have c2 := sx_c hx (i := 2) (by decide)
  have c3 := sx_c hx (i := 3) (by decide)
  refine q_case (L := l_Law_law_2388 x G) (fc := f_Law_refusal (G 44 0 ((x : Int) + 1)) (G 44 0 ((x : Int) + 2)) (G 44 0 ((x : Int) + 3)) G) (fm := fun G1 => f_Mod_refusal (G 44 0 ((x : Int) + 1)) (G 44 0 ((x : Int) + 2)) (G 44 0 ((x : Int) + 3)) G1) (nxt := fun G' => l_Law_law_28 (wr ((x : Int) + 7)) G') hI (fun s hs hS hC => ?_) (fun k G1 ef hk => ?_)
  · obtain ⟨k, v, a, b⟩ := q_refusal hs hS hC (G 44 0 ((x : Int) + 1)) (G 44 0 ((x : Int) + 2)) (G 44 0 ((x : Int) + 3))
    exact ⟨k, v, a, fun G1 _ hR hC1 _ => b G1 hR hC1⟩
  · have e := e_l_Law_law_2388 (x : Int) G
    rw [sx_w hx (i := 1) (by decide), sx_w hx (i := 2) (by decide), sx_w hx (i := 3) (by decide), if_pos c1, if_pos c2, if_pos c3, ef, bI_r, hk 47 0 (by decide) (by decide), hk 44 ((x : Int) + 1) (by decide) (by decide), hk 44 ((x : Int) + 2) (by decide) (by decide), hk 44 ((x : Int) + 3) (by decide) (by decide), if_pos c1, if_pos c2, if_pos c3] at e
    unfold tailL
    exact e
theorem lc_2468 (hI : Inv cn G) (hx : SX x G) : ∃ G', l_Law_law_2468 x G = l_Law_law_28 (wr ((x : Int) + 7)) G' ∧ Inv (cn + 1) G' ∧ Kp G G' := by
  have c1 := sx_c hx (i := 1) (by decide)
  refine q_case (L := l_Law_law_2468 x G) (fc := f_Law_labels (G 44 0 ((x : Int) + 1)) G) (fm := fun G1 => f_Mod_labels (G 44 0 ((x : Int) + 1)) G1) (nxt := fun G' => l_Law_law_28 (wr ((x : Int) + 7)) G') hI (fun s hs hS hC => ?_) (fun k G1 ef hk => ?_)
  · obtain ⟨k, v, a, b⟩ := q_labels hs hS hC (G 44 0 ((x : Int) + 1))
    exact ⟨k, v, a, fun G1 _ hR hC1 _ => b G1 hR hC1⟩
  · have e := e_l_Law_law_2468 (x : Int) G
    rw [sx_w hx (i := 1) (by decide), if_pos c1, ef, bI_r, hk 47 0 (by decide) (by decide), hk 44 ((x : Int) + 1) (by decide) (by decide), if_pos c1] at e
    unfold tailL
    exact e
theorem lc_2524 (hI : Inv cn G) (hx : SX x G) : ∃ G', l_Law_law_2524 x G = l_Law_law_28 (wr ((x : Int) + 7)) G' ∧ Inv (cn + 1) G' ∧ Kp G G' := by
  have c1 := sx_c hx (i := 1) (by decide)
  have c2 := sx_c hx (i := 2) (by decide)
  have c3 := sx_c hx (i := 3) (by decide)
  refine q_case (L := l_Law_law_2524 x G) (fc := f_Law_labelAt (G 44 0 ((x : Int) + 1)) (G 44 0 ((x : Int) + 2)) (G 44 0 ((x : Int) + 3)) G) (fm := fun G1 => f_Mod_labelAt (G 44 0 ((x : Int) + 1)) (G 44 0 ((x : Int) + 2)) (G 44 0 ((x : Int) + 3)) G1) (nxt := fun G' => l_Law_law_28 (wr ((x : Int) + 7)) G') hI (fun s hs hS hC => ?_) (fun k G1 ef hk => ?_)
  · obtain ⟨k, v, a, b⟩ := q_labelAt hs hS hC (G 44 0 ((x : Int) + 1)) (G 44 0 ((x : Int) + 2)) (G 44 0 ((x : Int) + 3))
    exact ⟨k, v, a, fun G1 _ hR hC1 _ => b G1 hR hC1⟩
  · have e := e_l_Law_law_2524 (x : Int) G
    rw [sx_w hx (i := 1) (by decide), sx_w hx (i := 2) (by decide), sx_w hx (i := 3) (by decide), if_pos c1, if_pos c2, if_pos c3, ef, bI_r, hk 47 0 (by decide) (by decide), hk 44 ((x : Int) + 1) (by decide) (by decide), hk 44 ((x : Int) + 2) (by decide) (by decide), hk 44 ((x : Int) + 3) (by decide) (by decide), if_pos c1, if_pos c2, if_pos c3] at e
    unfold tailL
    exact e
theorem lc_2604 (hI : Inv cn G) (hx : SX x G) : ∃ G', l_Law_law_2604 x G = l_Law_law_28 (wr ((x : Int) + 7)) G' ∧ Inv (cn + 1) G' ∧ Kp G G' := by
  have c1 := sx_c hx (i := 1) (by decide)
  refine q_case (L := l_Law_law_2604 x G) (fc := f_Law_covered (G 44 0 ((x : Int) + 1)) G) (fm := fun G1 => f_Mod_covered (G 44 0 ((x : Int) + 1)) G1) (nxt := fun G' => l_Law_law_28 (wr ((x : Int) + 7)) G') hI (fun s hs hS hC => ?_) (fun k G1 ef hk => ?_)
  · obtain ⟨k, v, a, b⟩ := q_covered hs hS hC (G 44 0 ((x : Int) + 1))
    exact ⟨k, v, a, fun G1 _ hR hC1 _ => b G1 hR hC1⟩
  · have e := e_l_Law_law_2604 (x : Int) G
    rw [sx_w hx (i := 1) (by decide), if_pos c1, ef, bI_r, hk 47 0 (by decide) (by decide), hk 44 ((x : Int) + 1) (by decide) (by decide), if_pos c1] at e
    unfold tailL
    exact e
theorem lc_2737 (hI : Inv cn G) (hx : SX x G) : ∃ G', l_Law_law_2737 x G = l_Law_law_28 (wr ((x : Int) + 7)) G' ∧ Inv (cn + 1) G' ∧ Kp G G' := by
  have c1 := sx_c hx (i := 1) (by decide)
  refine q_case (L := l_Law_law_2737 x G) (fc := f_Law_placedOn (G 44 0 ((x : Int) + 1)) G) (fm := fun G1 => f_Mod_placedOn (G 44 0 ((x : Int) + 1)) G1) (nxt := fun G' => l_Law_law_28 (wr ((x : Int) + 7)) G') hI (fun s hs hS hC => ?_) (fun k G1 ef hk => ?_)
  · obtain ⟨k, v, a, b⟩ := q_placedOn hs hS hC (G 44 0 ((x : Int) + 1))
    exact ⟨k, v, a, fun G1 _ hR hC1 _ => b G1 hR hC1⟩
  · have e := e_l_Law_law_2737 (x : Int) G
    rw [sx_w hx (i := 1) (by decide), if_pos c1, ef, bI_r, hk 47 0 (by decide) (by decide), hk 44 ((x : Int) + 1) (by decide) (by decide), if_pos c1] at e
    unfold tailL
    exact e
theorem lc_2793 (hI : Inv cn G) (hx : SX x G) : ∃ G', l_Law_law_2793 x G = l_Law_law_28 (wr ((x : Int) + 7)) G' ∧ Inv (cn + 1) G' ∧ Kp G G' := by
  have c1 := sx_c hx (i := 1) (by decide)
  refine ch_case (L := l_Law_law_2793 x G) (fc := f_Law_append (iChr (G 44 0 ((x : Int) + 1))) G) (fm := fun G1 => f_Mod_append (iChr (G 44 0 ((x : Int) + 1))) G1) (nxt := fun G' => l_Law_law_28 (wr ((x : Int) + 7)) G') hI (ch_append (iChr (G 44 0 ((x : Int) + 1)))) (fun k G1 ef hk => ?_)
  have e := e_l_Law_law_2793 (x : Int) G
  rw [sx_w hx (i := 1) (by decide), if_pos c1, ef, bI_r, hk 47 0 (by decide) (by decide), hk 44 ((x : Int) + 1) (by decide) (by decide), if_pos c1] at e
  unfold tailL
  exact e
theorem lc_2895 (hI : Inv cn G) (hx : SX x G) : ∃ G', l_Law_law_2895 x G = l_Law_law_28 (wr ((x : Int) + 7)) G' ∧ Inv (cn + 1) G' ∧ Kp G G' := by
  refine ch_case (L := l_Law_law_2895 x G) (fc := f_Law_errorPosition  G) (fm := fun G1 => f_Mod_errorPosition  G1) (nxt := fun G' => l_Law_law_28 (wr ((x : Int) + 7)) G') hI (ch_errorPosition ) (fun k G1 ef hk => ?_)
  have e := e_l_Law_law_2895 (x : Int) G
  rw [ef, bI_r] at e
  unfold tailL
  exact e
theorem lc_3019 (hI : Inv cn G) (hx : SX x G) : ∃ G', l_Law_law_3019 x G = l_Law_law_28 (wr ((x : Int) + 7)) G' ∧ Inv (cn + 1) G' ∧ Kp G G' := by
  refine ch_case (L := l_Law_law_3019 x G) (fc := f_Law_undo  G) (fm := fun G1 => f_Mod_undo  G1) (nxt := fun G' => l_Law_law_28 (wr ((x : Int) + 7)) G') hI (ch_undo ) (fun k G1 ef hk => ?_)
  have e := e_l_Law_law_3019 (x : Int) G
  rw [ef, bI_r] at e
  unfold tailL
  exact e
theorem lc_3076 (hI : Inv cn G) (hx : SX x G) : ∃ G', l_Law_law_3076 x G = l_Law_law_28 (wr ((x : Int) + 7)) G' ∧ Inv (cn + 1) G' ∧ Kp G G' := by
  refine ch_case (L := l_Law_law_3076 x G) (fc := f_Law_restore  G) (fm := fun G1 => f_Mod_restore  G1) (nxt := fun G' => l_Law_law_28 (wr ((x : Int) + 7)) G') hI (ch_restore ) (fun k G1 ef hk => ?_)
  have e := e_l_Law_law_3076 (x : Int) G
  rw [ef, bI_r] at e
  unfold tailL
  exact e
theorem lc_1100 (hI : Inv cn G) (hx : SX x G) : ∃ G', l_Law_law_1100 x G = l_Law_law_28 (wr ((x : Int) + 7)) G' ∧ Inv (cn + 1) G' ∧ Kp G G' := by
  have c1 := sx_c hx (i := 1) (by decide)
  have c2 := sx_c hx (i := 2) (by decide)
  have c3 := sx_c hx (i := 3) (by decide)
  have c4 := sx_c hx (i := 4) (by decide)
  by_cases h4 : (G 44 0 ((x : Int) + 4)) = 0
  · refine q_case (L := l_Law_law_1100 x G) (fc := f_Law_vertex (G 44 0 ((x : Int) + 1)) (G 44 0 ((x : Int) + 2)) (G 44 0 ((x : Int) + 3)) 0 G) (fm := fun G1 => f_Mod_vertex (G 44 0 ((x : Int) + 1)) (G 44 0 ((x : Int) + 2)) (G 44 0 ((x : Int) + 3)) 0 G1) (nxt := fun G' => l_Law_law_28 (wr ((x : Int) + 7)) G') hI (fun s hs hS hC => ?_) (fun k G1 ef hk => ?_)
    · obtain ⟨k, v, a, b⟩ := q_vertex hs hS hC (G 44 0 ((x : Int) + 1)) (G 44 0 ((x : Int) + 2)) (G 44 0 ((x : Int) + 3)) 0
      exact ⟨k, v, a, fun G1 _ hR hC1 _ => b G1 hR hC1⟩
    · have e := e_l_Law_law_1100 (x : Int) G
      rw [sx_w hx (i := 1) (by decide), sx_w hx (i := 2) (by decide), sx_w hx (i := 3) (by decide), sx_w hx (i := 4) (by decide), if_pos c1, if_pos c2, if_pos c3, if_pos c4, if_pos h4, ef, bI_r, hk 47 0 (by decide) (by decide), hk 44 ((x : Int) + 1) (by decide) (by decide), hk 44 ((x : Int) + 2) (by decide) (by decide), hk 44 ((x : Int) + 3) (by decide) (by decide), hk 44 ((x : Int) + 4) (by decide) (by decide), if_pos c1, if_pos c2, if_pos c3, if_pos c4, if_pos h4] at e
      unfold tailL
      exact e
  · refine q_case (L := l_Law_law_1100 x G) (fc := f_Law_vertex (G 44 0 ((x : Int) + 1)) (G 44 0 ((x : Int) + 2)) (G 44 0 ((x : Int) + 3)) 1 G) (fm := fun G1 => f_Mod_vertex (G 44 0 ((x : Int) + 1)) (G 44 0 ((x : Int) + 2)) (G 44 0 ((x : Int) + 3)) 1 G1) (nxt := fun G' => l_Law_law_28 (wr ((x : Int) + 7)) G') hI (fun s hs hS hC => ?_) (fun k G1 ef hk => ?_)
    · obtain ⟨k, v, a, b⟩ := q_vertex hs hS hC (G 44 0 ((x : Int) + 1)) (G 44 0 ((x : Int) + 2)) (G 44 0 ((x : Int) + 3)) 1
      exact ⟨k, v, a, fun G1 _ hR hC1 _ => b G1 hR hC1⟩
    · have e := e_l_Law_law_1100 (x : Int) G
      rw [sx_w hx (i := 1) (by decide), sx_w hx (i := 2) (by decide), sx_w hx (i := 3) (by decide), sx_w hx (i := 4) (by decide), if_pos c1, if_pos c2, if_pos c3, if_pos c4, if_neg h4, ef, bI_r, hk 47 0 (by decide) (by decide), hk 44 ((x : Int) + 1) (by decide) (by decide), hk 44 ((x : Int) + 2) (by decide) (by decide), hk 44 ((x : Int) + 3) (by decide) (by decide), hk 44 ((x : Int) + 4) (by decide) (by decide), if_pos c1, if_pos c2, if_pos c3, if_pos c4, if_neg h4] at e
      unfold tailL
      exact e
theorem lc_719 (hI : Inv cn G) (hx : SX x G) : ∃ G', l_Law_law_719 x G = l_Law_law_28 (wr ((x : Int) + 7)) G' ∧ Inv (cn + 1) G' ∧ Kp G G' := by
  have c1 := sx_c hx (i := 1) (by decide)
  by_cases h4 : (G 44 0 ((x : Int) + 1)) = 0
  · refine u_case (L := l_Law_law_719 x G) (fc := f_Map_setStrict 0 G) (fm := fun G1 => f_Mod_setStrict 0 G1) (nxt := fun G' => l_Law_law_28 (wr ((x : Int) + 7)) G') hI (fun s c H sv K tn tx er hS hC => ?_) (fun v G1 ef hk => ?_)
    · obtain ⟨a1, a2, a3⟩ := ch_setStrict (x := 0) (Or.inl rfl) hS hC
      exact ⟨_, _, _, _, _, _, _, _, _, a1, a2, fun G1 hR => by
        obtain ⟨G2, b1, b2, b3, b4⟩ := a3 G1 hR
        exact ⟨G2, b1, b3, b4⟩⟩
    · have e := e_l_Law_law_719 (x : Int) G
      rw [sx_w hx (i := 1) (by decide), if_pos c1, if_pos h4, ef, bI_r, hk 47 0 (by decide) (by decide), hk 44 ((x : Int) + 1) (by decide) (by decide), if_pos c1, if_pos h4] at e
      exact e
  · refine u_case (L := l_Law_law_719 x G) (fc := f_Map_setStrict 1 G) (fm := fun G1 => f_Mod_setStrict 1 G1) (nxt := fun G' => l_Law_law_28 (wr ((x : Int) + 7)) G') hI (fun s c H sv K tn tx er hS hC => ?_) (fun v G1 ef hk => ?_)
    · obtain ⟨a1, a2, a3⟩ := ch_setStrict (x := 1) (Or.inr rfl) hS hC
      exact ⟨_, _, _, _, _, _, _, _, _, a1, a2, fun G1 hR => by
        obtain ⟨G2, b1, b2, b3, b4⟩ := a3 G1 hR
        exact ⟨G2, b1, b3, b4⟩⟩
    · have e := e_l_Law_law_719 (x : Int) G
      rw [sx_w hx (i := 1) (by decide), if_pos c1, if_neg h4, ef, bI_r, hk 47 0 (by decide) (by decide), hk 44 ((x : Int) + 1) (by decide) (by decide), if_pos c1, if_neg h4] at e
      exact e
theorem lc_236 (hI : Inv cn G) (hT : Lm G) : ∃ G', l_Law_law_236 x G = l_Law_law_28 (wr ((x : Int) + 7)) G' ∧ Inv (cn + 1) G' ∧ Kp G G' := by
  refine u_case (L := l_Law_law_236 x G) (fc := f_Map_clear G) (fm := fun G1 => f_Mod_clear G1) (nxt := fun G' => l_Law_law_28 (wr ((x : Int) + 7)) G') hI (fun s c H sv K tn tx er hS hC => ?_) (fun v G1 ef hk => ?_)
  · exact ⟨_, _, _, _, _, _, _, _, _, hS.clear, g_clear hT hC, fun G1 hR => r_clear hS.1 hR⟩
  · have e := e_l_Law_law_236 (x : Int) G
    rw [ef, bI_r] at e
    exact e
theorem lc_3063 (hI : Inv cn G) : ∃ G', l_Law_law_3063 x G = l_Law_law_28 (wr ((x : Int) + 7)) G' ∧ Inv (cn + 1) G' ∧ Kp G G' := by
  refine u_case (L := l_Law_law_3063 x G) (fc := f_Map_save G) (fm := fun G1 => f_Mod_save G1) (nxt := fun G' => l_Law_law_28 (wr ((x : Int) + 7)) G') hI (fun s c H sv K tn tx er hS hC => ?_) (fun v G1 ef hk => ?_)
  · exact ⟨_, _, _, _, _, _, _, _, _, hS.save, g_save hS.1 hC, fun G1 hR => r_save hS.1 hR⟩
  · have e := e_l_Law_law_3063 (x : Int) G
    rw [ef, bI_r] at e
    exact e
theorem dBits_dInt (d : UInt64) : dBits (dInt d) = d := by
  unfold dBits dInt
  rw [Int.toNat_natCast]
  exact UInt64.ofNat_toNat
theorem lc_2660 (hI : Inv cn G) (hx : SX x G) : ∃ G', l_Law_law_2660 x G = l_Law_law_28 (wr ((x : Int) + 7)) G' ∧ Inv (cn + 1) G' ∧ Kp G G' := by
  have c1 := sx_c hx (i := 1) (by decide)
  obtain ⟨s, c, H, sv, K, tn, tx, er, hS, hC, hR, hn⟩ := hI
  obtain ⟨k, d, ⟨G1, e1, h43, hC1, hF1, h48⟩, hm⟩ := q_placedShare hS.1 hC.1 hC.2.1 (G 44 0 ((x : Int) + 1))
  have hIC1 := hC.q hC1 hF1
  have hIR1 : IR G1 s c H sv K tn tx er := hR.fr (fun t i k h1 h2 => hF1 t i k (by unfold FQ2 FQ; clear e1; omega))
  obtain ⟨G2, b, e2, h6, hb, hC2, hF2, h25⟩ := hm G1 hIR1.1 hIR1.2.1
  have hIC2 : IC G2 s c H sv K tn tx er := hIC1.fr (fun t i k ht => hF2 t i k (by unfold FRq; clear e1 e2; omega))
  have hIR2 := hIR1.q hC2 hF2 h25
  have hk := Kp.q2 hF1
  have h43b : G2 43 0 0 = G1 43 0 0 := hF2 43 0 0 (by unfold FRq; clear e1 e2; omega)
  refine ⟨G2, ?_, ⟨s, c, H, sv, K, tn, tx, er, hS, hIC2, hIR2, ?_⟩, hk.trans (Kp.rq hF2)⟩
  · have e := e_l_Law_law_2660 (x : Int) G
    rw [sx_w hx (i := 1) (by decide), if_pos c1, e1, bI_r, hk 47 0 (by decide) (by decide), hk 44 ((x : Int) + 1) (by decide) (by decide), if_pos c1, e2, bD_r, e_f_Mod_thrown, bI_r, if_pos h6] at e
    by_cases z : k = 0
    · obtain ⟨d1, d2⟩ := h43 z
      rw [if_pos z, h43b, d1, dBits_dInt, hb z, if_pos d2] at e
      exact e
    · rw [if_neg z] at e
      exact e
  · rw [hF2 48 0 0 (by unfold FRq; clear e1 e2; omega)]
    clear e1 e2
    omega
end LC
