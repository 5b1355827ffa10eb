/-! ===== changes: fields are painted ===== -/
def inRc (a b w h f : Nat) : Bool := decide ((a ≤ f % 8 ∧ f % 8 < a + w) ∧ (b ≤ f / 8 ∧ f / 8 < b + h))
def ptS (s : Nat → Int) (a b w h : Nat) (v : Int) : Nat → Int := fun k => if (200 ≤ k ∧ k < 264) ∧ inRc a b w h (k - 200) = true then v else s k
theorem ptS_ne {s : Nat → Int} {a b w h : Nat} {v : Int} {k : Nat} (hk : k < 200 ∨ 264 ≤ k) : ptS s a b w h v k = s k := by
  unfold ptS
  rw [if_neg (fun z => by omega)]
theorem ptS_f {s : Nat → Int} {a b w h : Nat} {v : Int} {f : Nat} (hf : f < 64) : mOw (ptS s a b w h v) f = if inRc a b w h f = true then v else mOw s f := by
  unfold mOw ptS
  rw [show 200 + f - 200 = f by omega]
  by_cases q : inRc a b w h f = true
  · rw [if_pos ⟨⟨by omega, by omega⟩, q⟩, if_pos q]
  · rw [if_neg (fun z => q z.2), if_neg q]
/-- one row, then the next, both sides -/
theorem paint_row {l73 : Nat → Nat → GG → RS} {l61 : Nat → GG → RS} {t : Nat} {off v : Int} {a w r : Nat} (haw : a + w ≤ 8)
    (h73s : ∀ k G, k < a + w → l73 r k G = l73 r (k + 1) (up G t 0 (off + ((8 * r + k : Nat) : Int)) v)) (h73e : ∀ G, l73 r (a + w) G = l61 (r + 1) G) (G : GG) :
    ∃ G', l73 r a G = l61 (r + 1) G' ∧ (∀ f : Nat, f < 64 → G' t 0 (off + (f : Int)) = if f / 8 = r ∧ a ≤ f % 8 ∧ f % 8 < a + w then v else G t 0 (off + (f : Int))) ∧ Fr (fun t' i => t' = t ∧ i = 0) G G' ∧ ∀ k : Int, (k < off + 8 * (r : Int) ∨ off + 8 * (r : Int) + 8 ≤ k) → G' t 0 k = G t 0 k := by
  refine loop_inv (l := fun k G1 => l73 r k G1) (I := fun k G1 => (∀ f : Nat, f < 64 → G1 t 0 (off + (f : Int)) = if f / 8 = r ∧ a ≤ f % 8 ∧ f % 8 < k then v else G t 0 (off + (f : Int))) ∧ Fr (fun t' i => t' = t ∧ i = 0) G G1 ∧ ∀ k : Int, (k < off + 8 * (r : Int) ∨ off + 8 * (r : Int) + 8 ≤ k) → G1 t 0 k = G t 0 k)
    (P := fun x => ∃ G', x = l61 (r + 1) G' ∧ (∀ f : Nat, f < 64 → G' t 0 (off + (f : Int)) = if f / 8 = r ∧ a ≤ f % 8 ∧ f % 8 < a + w then v else G t 0 (off + (f : Int))) ∧ Fr (fun t' i => t' = t ∧ i = 0) G G' ∧ ∀ k : Int, (k < off + 8 * (r : Int) ∨ off + 8 * (r : Int) + 8 ≤ k) → G' t 0 k = G t 0 k) w a G (fun k G1 hk1 hk2 hI => ?_) (fun G1 hI => ⟨G1, h73e G1, hI⟩) ⟨fun f hf => by rw [if_neg (by omega)], Fr.refl G, fun _ _ => rfl⟩
  obtain ⟨h1, h2, h3⟩ := hI
  refine ⟨_, h73s k G1 hk2, fun f hf => ?_, h2.trans (Fr.up _ _ _ ⟨rfl, rfl⟩), fun z hz => ?_⟩
  · by_cases q : f = 8 * r + k
    · rw [q, up_at, if_pos (by omega)]
    · rw [up_k (by omega), h1 f hf]
      by_cases q2 : f / 8 = r ∧ a ≤ f % 8 ∧ f % 8 < k
      · rw [if_pos q2, if_pos (by omega)]
      · rw [if_neg q2, if_neg (by omega)]
  · rw [up_k (by omega)]
    exact h3 z hz
theorem paint_all {l73 : Nat → Nat → GG → RS} {l61 : Nat → GG → RS} {t : Nat} {off v : Int} {a w b h : Nat} (haw : a + w ≤ 8) (hbh : b + h ≤ 8)
    (h73s : ∀ r k G, r < 8 → k < a + w → l73 r k G = l73 r (k + 1) (up G t 0 (off + ((8 * r + k : Nat) : Int)) v)) (h73e : ∀ r G, r < 8 → l73 r (a + w) G = l61 (r + 1) G) (h61 : ∀ r G, r < b + h → l61 r G = l73 r a G) (G : GG) :
    ∃ G', l61 b G = l61 (b + h) G' ∧ (∀ f : Nat, f < 64 → G' t 0 (off + (f : Int)) = if inRc a b w h f = true then v else G t 0 (off + (f : Int))) ∧ Fr (fun t' i => t' = t ∧ i = 0) G G' ∧ ∀ k : Int, (k < off ∨ off + 64 ≤ k) → G' t 0 k = G t 0 k := by
  refine loop_inv (l := fun r G1 => l61 r G1) (I := fun r G1 => (∀ f : Nat, f < 64 → G1 t 0 (off + (f : Int)) = if (a ≤ f % 8 ∧ f % 8 < a + w) ∧ (b ≤ f / 8 ∧ f / 8 < r) then v else G t 0 (off + (f : Int))) ∧ Fr (fun t' i => t' = t ∧ i = 0) G G1 ∧ ∀ k : Int, (k < off ∨ off + 64 ≤ k) → G1 t 0 k = G t 0 k)
    (P := fun x => ∃ G', x = l61 (b + h) G' ∧ (∀ f : Nat, f < 64 → G' t 0 (off + (f : Int)) = if inRc a b w h f = true then v else G t 0 (off + (f : Int))) ∧ Fr (fun t' i => t' = t ∧ i = 0) G G' ∧ ∀ k : Int, (k < off ∨ off + 64 ≤ k) → G' t 0 k = G t 0 k) h b G (fun r G1 hr1 hr2 hI => ?_) (fun G1 hI => ⟨G1, rfl, fun f hf => ?_, hI.2⟩) ⟨fun f hf => by rw [if_neg (by omega)], Fr.refl G, fun _ _ => rfl⟩
  · obtain ⟨h1, h2, h3⟩ := hI
    obtain ⟨G2, e2, k1, k2, k3⟩ := paint_row (l73 := l73) (l61 := l61) (t := t) (off := off) (v := v) (r := r) haw (fun k G hk => h73s r k G (by omega) hk) (fun G => h73e r G (by omega)) G1
    refine ⟨G2, (h61 r G1 hr2).trans e2, fun f hf => ?_, h2.trans k2, fun z hz => (k3 z (by omega)).trans (h3 z hz)⟩
    rw [k1 f hf, h1 f hf]
    by_cases q : f / 8 = r ∧ a ≤ f % 8 ∧ f % 8 < a + w
    · rw [if_pos q, if_pos (by omega)]
    · rw [if_neg q]
      by_cases q2 : (a ≤ f % 8 ∧ f % 8 < a + w) ∧ (b ≤ f / 8 ∧ f / 8 < r)
      · rw [if_pos q2, if_pos (by omega)]
      · rw [if_neg q2, if_neg (by omega)]
  · rw [hI.1 f hf]
    unfold inRc
    simp only [decide_eq_true_eq]
section PAINT
variable {s : Nat → Int} {G : GG}
def okPaint (x1 x2 x3 x4 x5 : Int) : Prop := isFd x1 x2 ∧ (1 ≤ x3 ∧ x3 ≤ 8 - x1) ∧ (1 ≤ x4 ∧ x4 ≤ 8 - x2) ∧ (-1 ≤ x5 ∧ x5 ≤ 15)
theorem g_paint_x {x1 x2 x3 x4 x5 : Int} (h : ¬okPaint x1 x2 x3 x4 x5) (G : GG) : f_Map_paint x1 x2 x3 x4 x5 G = rX 0 (bump G) := by
  rw [e_f_Map_paint]
  by_cases h1 : isFd x1 x2
  · have hf := h1
    unfold isFd at hf
    rw [g_fd_t h1, bI_r, if_neg i01]
    by_cases h2 : -1 ≤ x5 ∧ x5 ≤ 15
    · rw [g_within_t h2, bI_r, if_neg i01, wr_id (z := 8 - x1) (by omega) (by omega)]
      by_cases h3 : 1 ≤ x3 ∧ x3 ≤ 8 - x1
      · rw [g_within_t h3, bI_r, if_neg i01, wr_id (z := 8 - x2) (by omega) (by omega)]
        have h4 : ¬(1 ≤ x4 ∧ x4 ≤ 8 - x2) := fun z => h ⟨h1, h3, z, h2⟩
        rw [g_within_f h4, bI_r, if_pos rfl]
      · rw [g_within_f h3, bI_r, if_pos rfl]
    · rw [g_within_f h2, bI_r, if_pos rfl]
  · rw [g_fd_f h1, bI_r, if_pos rfl]
theorem r_paint_x {x1 x2 x3 x4 x5 : Int} (h : ¬okPaint x1 x2 x3 x4 x5) (G : GG) : f_Mod_paint x1 x2 x3 x4 x5 G = rI 0 (up G 25 0 6 1) := by
  rw [e_f_Mod_paint]
  have a1 : (up G 25 0 6 1) 25 0 6 = 1 := up_at _ _ _ _ _
  by_cases h1 : 0 ≤ x1 ∧ x1 ≤ 7
  · rw [r_isIn_t h1, bI_r, if_neg i01]
    by_cases h2 : 0 ≤ x2 ∧ x2 ≤ 7
    · rw [r_isIn_t h2, bI_r, if_neg i01, wr_id (z := 8 - x1) (by omega) (by omega)]
      by_cases h3 : 1 ≤ x3 ∧ x3 ≤ 8 - x1
      · rw [r_isIn_t h3, bI_r, if_neg i01, wr_id (z := 8 - x2) (by omega) (by omega)]
        by_cases h4 : 1 ≤ x4 ∧ x4 ≤ 8 - x2
        · rw [r_isIn_t h4, bI_r, if_neg i01]
          have h5 : ¬(-1 ≤ x5 ∧ x5 ≤ 15) := fun z => h ⟨⟨h1, h2⟩, h3, h4, z⟩
          rw [r_isIn_f h5, bI_r, if_pos rfl, a1, if_neg i01]
        · rw [r_isIn_f h4, bI_r, if_pos rfl, a1, if_neg i01]
      · rw [r_isIn_f h3, bI_r, if_pos rfl, a1, if_neg i01]
    · rw [r_isIn_f h2, bI_r, if_pos rfl, a1, if_neg i01]
  · rw [r_isIn_f h1, bI_r, if_pos rfl, a1, if_neg i01]
theorem ok_paint (hs : okM s) {a b w h : Nat} {v : Int} (hv : -1 ≤ v ∧ v ≤ 15) : okM (ptS s a b w h v) := by
  obtain ⟨a1, a2, a3⟩ := okA_ag (s' := ptS s a b w h v) hs (fun j hj => ptS_ne (by omega))
  obtain ⟨b1, b2⟩ := okB_ag (s' := ptS s a b w h v) hs (fun j _ hj => ptS_ne (by omega))
  refine ⟨a1, a2, a3, b1, b2, fun f hf => ?_, fun q hq => ?_, okSt_ag hs.2.2.2.2.2.2.2.1 (fun j hj _ => ptS_ne (by omega)), ?_⟩
  · rw [ptS_f hf]
    split
    · exact hv
    · exact hs.2.2.2.2.2.1 f hf
  · rw [ptS_ne (by omega)]
    exact hs.2.2.2.2.2.2.1 q hq
  · rw [ptS_ne (by omega)]
    exact hs.2.2.2.2.2.2.2.2
theorem w_give {r k : Nat} (hr : r < 8) (hk : k < 8) : wr (wr ((r : Int) * 8) + (k : Int)) = 0 + ((8 * r + k : Nat) : Int) ∧ (0 : Int) ≤ 0 + ((8 * r + k : Nat) : Int) ∧ 0 + ((8 * r + k : Nat) : Int) < 64 := by
  refine ⟨?_, by omega, by omega⟩
  rw [wr_id (z := (r : Int) * 8) (by omega) (by omega), wr_id (by omega) (by omega)]
  omega
theorem w_giveR {r k : Nat} (hr : r < 8) (hk : k < 8) : wr (wr (200 + wr (8 * (r : Int))) + (k : Int)) = 200 + ((8 * r + k : Nat) : Int) ∧ (0 : Int) ≤ 200 + ((8 * r + k : Nat) : Int) ∧ 200 + ((8 * r + k : Nat) : Int) < 296 := by
  refine ⟨?_, by omega, by omega⟩
  rw [wr_id (z := 8 * (r : Int)) (by omega) (by omega), wr_id (z := 200 + 8 * (r : Int)) (by omega) (by omega), wr_id (by omega) (by omega)]
  omega
theorem w_add {a w : Nat} (h : a + w ≤ 8) : wr ((a : Int) + (w : Int)) = ((a + w : Nat) : Int) := by
  rw [wr_id (by omega) (by omega)]
  omega
theorem g_paint {a b w h : Nat} {v : Int} (haw : a + w ≤ 8) (hbh : b + h ≤ 8) (G : GG) : ∃ G', l_Map_paint_61 a b w h v b G = bI (f_Par_areaOf 0 v G') (fun r2 G1 => rI r2 G1) ∧ (∀ f : Nat, f < 64 → G' 8 0 (f : Int) = if inRc a b w h f = true then v else G 8 0 (f : Int)) ∧ Fr (fun t' i => t' = 8 ∧ i = 0) G G' := by
  have q1 : ∀ (r k : Nat) (G2 : GG), r < 8 → k < a + w → l_Map_paint_73 a b w h v r k G2 = l_Map_paint_73 a b w h v r ((k + 1 : Nat) : Int) (up G2 8 0 (0 + ((8 * r + k : Nat) : Int)) v) := by
    intro r k G2 hr hk
    have e := e_l_Map_paint_73 a b w h v r k G2
    obtain ⟨w1, c1⟩ := w_give (r := r) (k := k) hr (by omega)
    rw [w_add haw, if_pos (by omega), e_f_Par_giveField, w1, if_pos c1, bV_r, wr_sc (show k < 8 by omega) (by decide)] at e
    exact e
  have q2 : ∀ (r : Nat) (G2 : GG), r < 8 → l_Map_paint_73 a b w h v r ((a + w : Nat) : Int) G2 = l_Map_paint_61 a b w h v ((r + 1 : Nat) : Int) G2 := by
    intro r G2 hr
    have e := e_l_Map_paint_73 a b w h v r ((a + w : Nat) : Int) G2
    rw [w_add haw, if_neg (by omega), wr_sc (show r < 8 by omega) (by decide)] at e
    exact e
  have q3 : ∀ (r : Nat) (G2 : GG), r < b + h → l_Map_paint_61 a b w h v r G2 = l_Map_paint_73 a b w h v r a G2 := by
    intro r G2 hr
    have e := e_l_Map_paint_61 a b w h v r G2
    rw [w_add hbh, if_pos (by omega)] at e
    exact e
  obtain ⟨G1, e1, h1, h2, h3⟩ := paint_all (l73 := fun r k G1 => l_Map_paint_73 a b w h v r k G1) (l61 := fun r G1 => l_Map_paint_61 a b w h v r G1) (t := 8) (off := 0) (v := v) haw hbh q1 q2 q3 G
  refine ⟨G1, e1.trans ?_, fun f hf => ?_, h2⟩
  · have e := e_l_Map_paint_61 a b w h v ((b + h : Nat) : Int) G1
    rw [w_add hbh, if_neg (by omega)] at e
    exact e
  · have h9 := h1 f hf
    rw [Int.zero_add] at h9
    exact h9
theorem r_paint {a b w h : Nat} {v : Int} (haw : a + w ≤ 8) (hbh : b + h ≤ 8) (G : GG) : ∃ G', l_Mod_paint_93 a b w h v b G = bI (f_Mod_fieldsOf v G') (fun r2 G1 => rI r2 G1) ∧ (∀ f : Nat, f < 64 → G' 26 0 (200 + (f : Int)) = if inRc a b w h f = true then v else G 26 0 (200 + (f : Int))) ∧ Fr (fun t' i => t' = 26 ∧ i = 0) G G' ∧ ∀ k : Int, (k < 200 ∨ 264 ≤ k) → G' 26 0 k = G 26 0 k := by
  have q1 : ∀ (r k : Nat) (G2 : GG), r < 8 → k < a + w → l_Mod_paint_105 a b w h v r k G2 = l_Mod_paint_105 a b w h v r ((k + 1 : Nat) : Int) (up G2 26 0 (200 + ((8 * r + k : Nat) : Int)) v) := by
    intro r k G2 hr hk
    have e := e_l_Mod_paint_105 a b w h v r k G2
    obtain ⟨w1, c1⟩ := w_giveR (r := r) (k := k) hr (by omega)
    rw [w_add haw, if_pos (by omega), w1, if_pos c1, wr_sc (show k < 8 by omega) (by decide)] at e
    exact e
  have q2 : ∀ (r : Nat) (G2 : GG), r < 8 → l_Mod_paint_105 a b w h v r ((a + w : Nat) : Int) G2 = l_Mod_paint_93 a b w h v ((r + 1 : Nat) : Int) G2 := by
    intro r G2 hr
    have e := e_l_Mod_paint_105 a b w h v r ((a + w : Nat) : Int) G2
    rw [w_add haw, if_neg (by omega), wr_sc (show r < 8 by omega) (by decide)] at e
    exact e
  have q3 : ∀ (r : Nat) (G2 : GG), r < b + h → l_Mod_paint_93 a b w h v r G2 = l_Mod_paint_105 a b w h v r a G2 := by
    intro r G2 hr
    have e := e_l_Mod_paint_93 a b w h v r G2
    rw [w_add hbh, if_pos (by omega)] at e
    exact e
  obtain ⟨G1, e1, h1, h2, h3⟩ := paint_all (l73 := fun r k G1 => l_Mod_paint_105 a b w h v r k G1) (l61 := fun r G1 => l_Mod_paint_93 a b w h v r G1) (t := 26) (off := 200) (v := v) haw hbh q1 q2 q3 G
  refine ⟨G1, e1.trans ?_, h1, h2, fun k hk => h3 k (by omega)⟩
  have e := e_l_Mod_paint_93 a b w h v ((b + h : Nat) : Int) G1
  rw [w_add hbh, if_neg (by omega)] at e
  exact e
theorem ch_paint (x1 x2 x3 x4 x5 : Int) : CHp G (f_Law_paint x1 x2 x3 x4 x5 G) (fun G1 => f_Mod_paint x1 x2 x3 x4 x5 G1) := by
  intro s c H sv K tn tx er hS hC
  have hs := hS.1
  by_cases hp : okPaint x1 x2 x3 x4 x5
  · obtain ⟨h1, h3, h4, h5⟩ := hp
    have hfd := h1
    unfold isFd at hfd
    obtain ⟨a, rfl⟩ : ∃ a : Nat, x1 = (a : Int) := ⟨x1.toNat, by omega⟩
    obtain ⟨b, rfl⟩ : ∃ b : Nat, x2 = (b : Int) := ⟨x2.toNat, by omega⟩
    obtain ⟨w, rfl⟩ : ∃ w : Nat, x3 = (w : Int) := ⟨x3.toNat, by omega⟩
    obtain ⟨h, rfl⟩ : ∃ h : Nat, x4 = (h : Int) := ⟨x4.toNat, by omega⟩
    have haw : a + w ≤ 8 := by omega
    have hbh : b + h ≤ 8 := by omega
    have hs' : okM (ptS s a b w h x5) := ok_paint hs h5
    have ec : f_Map_paint a b w h x5 G = bV (f_Map_beginChange G) fun G9 => l_Map_paint_61 a b w h x5 b G9 := by
      rw [e_f_Map_paint, g_fd_t h1, bI_r, if_neg i01, g_within_t h5, bI_r, if_neg i01, wr_id (z := 8 - (a : Int)) (by omega) (by omega), g_within_t h3, bI_r, if_neg i01, wr_id (z := 8 - (b : Int)) (by omega) (by omega), g_within_t h4, bI_r, if_neg i01]
    have er9 : ∀ G1 : GG, f_Mod_paint a b w h x5 G1 = bV (f_Mod_keeps (up G1 25 0 6 0)) fun G16 => l_Mod_paint_93 a b w h x5 b G16 := fun G1 => by
      rw [e_f_Mod_paint, r_isIn_t hfd.1, bI_r, if_neg i01, r_isIn_t hfd.2, bI_r, if_neg i01, wr_id (z := 8 - (a : Int)) (by omega) (by omega), r_isIn_t h3, bI_r, if_neg i01, wr_id (z := 8 - (b : Int)) (by omega) (by omega), r_isIn_t h4, bI_r, if_neg i01, r_isIn_t h5, bI_r, if_neg i01, up_at, if_pos rfl]
    refine ch_ok (s' := ptS s a b w h x5) (v := arO (mOw (ptS s a b w h x5)) x5) (hS.map hs') (kc_ok (r := f_Map_paint a b w h x5 G) hS hC hs' ec (fun G2 hh => ?_)) (e_f_Law_paint a b w h x5 G) (fun G1 hR => kr_ok hS.2.1 hR (er9 G1) (fun G2 hh => ?_))
    · obtain ⟨G3, e3, k1, k2⟩ := g_paint (v := x5) haw hbh G2
      have n3 : ∀ t i k, t ≠ 8 → G3 t i k = G2 t i k := fun t i k z => k2 t i k (fun y => z y.1)
      have hO : OwC G3 0 (mOw (ptS s a b w h x5)) := fun f hf => by
        rw [k1 f hf, ptS_f hf, hh.2.2.1 f hf]
      refine ⟨G3, ?_, ⟨(hh.1.ag hs.2.1 (fun j hj => ptS_ne (by omega))).fr (n3 _ _ _ (by decide)) (fun k => n3 _ _ _ (by decide)) (fun k => n3 _ _ _ (by decide)), (hh.2.1.ag hs.2.2.2.2.1 (fun j _ hj => ptS_ne (by omega))).fr (n3 _ _ _ (by decide)) (fun k => n3 _ _ _ (by decide)), hO, fun q hq => ?_, fun j hj => (n3 _ _ _ (by decide)).trans (hh.2.2.2.2.1.ag (fun j hj _ => ptS_ne (by omega)) j hj), ?_⟩, k2.mono (fun t i z => ⟨z.2, by omega, by omega⟩)⟩
      · rw [e3, g_areaOf hO, bI_r]
      · rw [n3 _ _ _ (by decide), ptS_ne (by omega)]
        exact hh.2.2.2.1 q hq
      · rw [n3 _ _ _ (by decide), ptS_ne (by omega)]
        exact hh.2.2.2.2.2
    · obtain ⟨G3, e3, k1, k2, k3⟩ := r_paint (v := x5) haw hbh G2
      have hR3 : RoR G3 26 (ptS s a b w h x5) := fun k hk => by
        by_cases q : k < 200 ∨ 264 ≤ k
        · rw [k3 _ (by omega), ptS_ne q]
          exact hh k hk
        · obtain ⟨f, rfl⟩ : ∃ f, k = 200 + f := ⟨k - 200, by omega⟩
          have h9 := k1 f (by omega)
          rw [show ((200 + f : Nat) : Int) = 200 + (f : Int) by omega, h9]
          show _ = mOw (ptS s a b w h x5) f
          rw [ptS_f (by omega), hh.ow f (by omega)]
      refine ⟨G3, ?_, hR3, k2.mono (fun t i z => z.1)⟩
      rw [e3, r_fieldsOf hR3, bI_r]
  · exact ch_fail (k := 1) (x := 0) (fcl := f_Map_paint x1 x2 x3 x4 x5 G) hS hC (g_paint_x hp G) (e_f_Law_paint x1 x2 x3 x4 x5 G) (fun _ => rfl) (by decide) (fun G1 hR => r_paint_x hp G1)
end PAINT
