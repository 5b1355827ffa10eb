/-! ===== simple changes ===== -/
def upS (s : Nat → Int) (k : Nat) (v : Int) : Nat → Int := fun j => if j = k then v else s j
theorem upS_ne {s : Nat → Int} {k j : Nat} {v : Int} (h : j ≠ k) : upS s k v j = s j := by unfold upS; rw [if_neg h]
theorem upS_at (s : Nat → Int) (k : Nat) (v : Int) : upS s k v k = v := by unfold upS; rw [if_pos rfl]
/-- a change, seen from both sides -/
def CHp (G : GG) (fc : RS) (fm : GG → RS) : Prop := ∀ s c H sv K tn tx er, IS s c H sv K tn tx er → IC G s c H sv K tn tx er → ∃ s' c' H' sv' K' tn' tx' er' k v, IS s' c' H' sv' K' tn' tx' er' ∧ (∃ G1, fc = rI k G1 ∧ (k = 0 → G1 42 0 0 = v) ∧ IC G1 s' c' H' sv' K' tn' tx' er' ∧ Fr FCl G G1 ∧ G1 48 0 0 ≤ G 48 0 0 + 1) ∧
      ∀ G1, IR G1 s c H sv K tn tx er → Kp G G1 → ∃ G2 b, fm G1 = rI b G2 ∧ G2 25 0 6 = k ∧ (k = 0 → b = v) ∧ IR G2 s' c' H' sv' K' tn' tx' er' ∧ Fr FRl G1 G2
/-- the static tables of the program -/
def Lm (G : GG) : Prop := G 45 0 0 = 500 ∧ G 45 0 1 = 20 ∧ G 45 0 2 = 9 ∧ G 46 0 0 = 8 ∧ G 46 0 1 = 1 ∧ G 46 0 2 = 1
section AG
variable {s s' : Nat → Int} {G : GG} {i : Int}
theorem ln_ag (ho : okLn (mNl s) (mSz s) (mCd s)) (ha : ∀ j : Nat, j < 127 → s' j = s j) : mNl s' = mNl s ∧ (∀ l : Nat, l < mNl s → mSz s' l = mSz s l) ∧ ∀ l : Nat, l < mNl s → ∀ k : Nat, k < mSz s l → mCd s' l k = mCd s l k := by
  have h6 := ho.1
  refine ⟨by unfold mNl; rw [ha 0 (by decide)], fun l hl => by unfold mSz; rw [ha (1 + l) (by omega)], fun l hl k hk => ?_⟩
  have hz := (ho.2 l hl).1
  unfold mCd
  rw [ha (7 + 10 * l + k) (by omega), ha (67 + 10 * l + k) (by omega)]
theorem LnC.ag (h : LnC G i (mNl s) (mSz s) (mCd s)) (ho : okLn (mNl s) (mSz s) (mCd s)) (ha : ∀ j : Nat, j < 127 → s' j = s j) : LnC G i (mNl s') (mSz s') (mCd s') := by
  obtain ⟨a1, a2, a3⟩ := ln_ag ho ha
  rw [a1]
  refine ⟨h.1, fun l hl => ⟨by rw [a2 l hl]; exact (h.2 l hl).1, fun k hk => ?_⟩⟩
  rw [a2 l hl] at hk
  rw [a3 l hl k hk]
  exact (h.2 l hl).2 k hk
theorem okA_ag (hs : okM s) (ha : ∀ j : Nat, j < 127 → s' j = s j) : 0 ≤ s' 0 ∧ okLn (mNl s') (mSz s') (mCd s') ∧ (∀ l : Nat, l < mNl s' → ∀ k : Nat, k < mSz s' l → (0 ≤ s' (7 + 10 * l + k) ∧ s' (7 + 10 * l + k) < 64) ∧ (0 ≤ s' (67 + 10 * l + k) ∧ s' (67 + 10 * l + k) < 64)) := by
  obtain ⟨h0, ho, hc, -⟩ := hs
  obtain ⟨a1, a2, a3⟩ := ln_ag ho ha
  have h6 := ho.1
  rw [a1]
  refine ⟨by rw [ha 0 (by decide)]; exact h0, ⟨ho.1, fun l hl => ?_⟩, fun l hl k hk => ?_⟩
  · obtain ⟨b1, b2, b3⟩ := ho.2 l hl
    rw [a2 l hl]
    exact ⟨b1, fun k hk => by rw [a3 l hl k hk]; exact b2 k hk, fun j k hj hk => by rw [a3 l hl k hk, a3 l hl j (by omega)]; exact b3 j k hj hk⟩
  · have hz := (ho.2 l hl).1
    rw [a2 l hl] at hk
    rw [ha (7 + 10 * l + k) (by omega), ha (67 + 10 * l + k) (by omega)]
    exact hc l hl k hk
theorem pt_ag (ho : okPt (mNp s) (mPt s)) (ha : ∀ j : Nat, 127 ≤ j → j < 200 → s' j = s j) : mNp s' = mNp s ∧ ∀ p : Nat, p < mNp s → ∀ j : Nat, j < 6 → mPt s' p j = mPt s p j := by
  have hn := ho.1
  refine ⟨by unfold mNp; rw [ha 127 (by decide) (by decide)], fun p hp j hj => ?_⟩
  unfold mPt
  rw [ha (128 + 6 * p + j) (by omega) (by omega)]
theorem PtC.ag (h : PtC G i (mNp s) (mPt s)) (ho : okPt (mNp s) (mPt s)) (ha : ∀ j : Nat, 127 ≤ j → j < 200 → s' j = s j) : PtC G i (mNp s') (mPt s') := by
  obtain ⟨a1, a2⟩ := pt_ag ho ha
  rw [a1]
  exact ⟨h.1, fun p hp j hj => by rw [a2 p hp j hj]; exact h.2 p hp j hj⟩
theorem okB_ag (hs : okM s) (ha : ∀ j : Nat, 127 ≤ j → j < 200 → s' j = s j) : 0 ≤ s' 127 ∧ okPt (mNp s') (mPt s') := by
  have ho := hs.2.2.2.2.1
  obtain ⟨a1, a2⟩ := pt_ag ho ha
  rw [a1]
  refine ⟨by rw [ha 127 (by decide) (by decide)]; exact hs.2.2.2.1, ho.1, fun p hp => ?_⟩
  rw [a2 p hp 0 (by decide), a2 p hp 1 (by decide), a2 p hp 2 (by decide), a2 p hp 3 (by decide), a2 p hp 4 (by decide), a2 p hp 5 (by decide)]
  exact ho.2 p hp
theorem OwC.ag (h : OwC G i (mOw s)) (ha : ∀ j : Nat, 200 ≤ j → j < 264 → s' j = s j) : OwC G i (mOw s') := fun f hf => by
  unfold mOw
  rw [ha (200 + f) (by omega) (by omega)]
  exact h f hf
theorem okO_ag (h : okO (mOw s)) (ha : ∀ j : Nat, 200 ≤ j → j < 264 → s' j = s j) : okO (mOw s') := fun f hf => by
  unfold mOw
  rw [ha (200 + f) (by omega) (by omega)]
  exact h f hf
theorem StC.ag (h : StC G i (mSt s)) (ha : ∀ j : Nat, 280 ≤ j → j < 295 → s' j = s j) : StC G i (mSt s') := fun j hj => by
  unfold mSt
  rw [ha (280 + j) (by omega) (by omega)]
  exact h j hj
theorem okSt_ag (h : okSt (mSt s)) (ha : ∀ j : Nat, 280 ≤ j → j < 295 → s' j = s j) : okSt (mSt s') := by
  have e : ∀ j : Nat, j < 15 → mSt s' j = mSt s j := fun j hj => by unfold mSt; rw [ha (280 + j) (by omega) (by omega)]
  refine ⟨fun L hL => ?_, by rw [e 0 (by decide)]; exact h.2.1, by rw [e 1 (by decide)]; exact h.2.2.1, by rw [e 2 (by decide)]; exact h.2.2.2⟩
  rw [e (3 * L) (by omega), e (3 * L + 1) (by omega), e (3 * L + 2) (by omega)]
  exact h.1 L hL
theorem ror_up (h : RoR G 26 s) {z : Int} {k : Nat} (hz : z = (k : Int)) (v : Int) : RoR (up G 26 0 z v) 26 (upS s k v) := fun j hj => by
  by_cases q : j = k
  · rw [q, hz, up_at, upS_at]
  · rw [up_k (by omega), upS_ne q]
    exact h j hj
variable {c : Nat} {H : Nat → Nat → Int} {sv : Int} {K : Nat → Int} {tn : Nat} {tx : Nat → Int} {er : Int}
theorem IS.map (h : IS s c H sv K tn tx er) (hs : okM s') : IS s' (pushC c) (pushH c H s) sv K tn tx er := by
  obtain ⟨a, b, d, e⟩ := h
  obtain ⟨p1, p2⟩ := push_ok a b d
  exact ⟨hs, p1, p2, e⟩
theorem IR.up6 (h : IR G s c H sv K tn tx er) (k : Int) : IR (up G 25 0 6 k) s c H sv K tn tx er := by
  obtain ⟨q1, q2, ⟨q3, q4⟩, ⟨q7, q8⟩, ⟨q9, q10⟩, q11⟩ := h
  exact ⟨q1.fr (fun k => up_t (by decide)), q2.up6 k, ⟨(up_k (by decide)).trans q3, fun j hj k hk => (up_t (by decide)).trans (q4 j hj k hk)⟩, ⟨(up_k (by decide)).trans q7, fun z => (q8 z).fr (fun k => up_t (by decide))⟩, ⟨(up_k (by decide)).trans q9, fun j hj => (up_t (by decide)).trans (q10 j hj)⟩, (up_k (by decide)).trans q11⟩
theorem ch_fail {fl fcl : RS} {fm : GG → RS} {x : Nat} {k : Int} {h9 : Nat → GG → RS} {kk : Int → GG → RS} (hS : IS s c H sv K tn tx er) (hC : IC G s c H sv K tn tx er) (ef : fcl = rX x (bump G)) (el : fl = contI fcl h9 kk) (hh : ∀ G1, h9 x G1 = rI k G1) (hk : k ≠ 0)
    (er2 : ∀ G1, IR G1 s c H sv K tn tx er → fm G1 = rI 0 (up G1 25 0 6 k)) : ∃ s' c' H' sv' K' tn' tx' er' k v, IS s' c' H' sv' K' tn' tx' er' ∧ (∃ G1, fl = rI k G1 ∧ (k = 0 → G1 42 0 0 = v) ∧ IC G1 s' c' H' sv' K' tn' tx' er' ∧ Fr FCl G G1 ∧ G1 48 0 0 ≤ G 48 0 0 + 1) ∧
      ∀ G1, IR G1 s c H sv K tn tx er → Kp G G1 → ∃ G2 b, fm G1 = rI b G2 ∧ G2 25 0 6 = k ∧ (k = 0 → b = v) ∧ IR G2 s' c' H' sv' K' tn' tx' er' ∧ Fr FRl G1 G2 := by
  refine ⟨s, c, H, sv, K, tn, tx, er, k, 0, hS, ⟨bump G, ?_, fun z => absurd z hk, hC.fr (fun t i k ht => bump_t (by omega) i k), Fr.up _ _ _ (Or.inr (Or.inr (Or.inr rfl))), by rw [bump_48]; exact Int.le_refl _⟩, fun G1 hR _ => ⟨up G1 25 0 6 k, 0, er2 G1 hR, up_at _ _ _ _ _, fun z => absurd z hk, hR.up6 k, Fr.up _ _ _ (by unfold FRl; omega)⟩⟩
  rw [el, ef, contI_x, hh]
theorem ch_ok {fl fcl : RS} {fm : GG → RS} {v : Int} {h9 : Nat → GG → RS} {s' : Nat → Int} {c' : Nat} {H' : Nat → Nat → Int} {sv' : Int} {K' : Nat → Int} {tn' : Nat} {tx' : Nat → Int} {er' : Int} (hS : IS s' c' H' sv' K' tn' tx' er') (ec : ∃ G2, fcl = rI v G2 ∧ IC G2 s' c' H' sv' K' tn' tx' er' ∧ Fr FCl G G2 ∧ G2 48 0 0 = G 48 0 0)
    (el : fl = contI fcl h9 (fun r2 G1 => rI 0 (up G1 42 0 0 r2)))
    (er2 : ∀ G1, IR G1 s c H sv K tn tx er → ∃ G2, fm G1 = rI v G2 ∧ G2 25 0 6 = 0 ∧ IR G2 s' c' H' sv' K' tn' tx' er' ∧ Fr FRl G1 G2) : ∃ s' c' H' sv' K' tn' tx' er' k v, IS s' c' H' sv' K' tn' tx' er' ∧ (∃ G1, fl = rI k G1 ∧ (k = 0 → G1 42 0 0 = v) ∧ IC G1 s' c' H' sv' K' tn' tx' er' ∧ Fr FCl G G1 ∧ G1 48 0 0 ≤ G 48 0 0 + 1) ∧
      ∀ G1, IR G1 s c H sv K tn tx er → Kp G G1 → ∃ G2 b, fm G1 = rI b G2 ∧ G2 25 0 6 = k ∧ (k = 0 → b = v) ∧ IR G2 s' c' H' sv' K' tn' tx' er' ∧ Fr FRl G1 G2 := by
  obtain ⟨G2, e2, h2, f2, n2⟩ := ec
  refine ⟨s', c', H', sv', K', tn', tx', er', 0, v, hS, ⟨up G2 42 0 0 v, ?_, fun _ => up_at _ _ _ _ _, h2.fr (fun t i k ht => up_t (by omega)), f2.trans (Fr.up _ _ _ (by unfold FCl; omega)), ?_⟩, fun G1 hR _ => ?_⟩
  · rw [el, e2, contI_r]
  · rw [up_t (by decide), n2]
    omega
  · obtain ⟨G3, e3, h6, hI, hF⟩ := er2 G1 hR
    exact ⟨G3, v, e3, h6, fun _ => rfl, hI, hF⟩
/-- the reference: a change whose guards hold: it keeps, then writes its row -/
theorem kr_ok {G1 : GG} {r : RS} {v : Int} {body : GG → RS} (hc8 : c ≤ 8) (hR : IR G1 s c H sv K tn tx er) (e : r = bV (f_Mod_keeps (up G1 25 0 6 0)) body)
    (hb : ∀ G2, RoR G2 26 s → ∃ G3, body G2 = rI v G3 ∧ RoR G3 26 s' ∧ Fr (fun t _ => t = 26) G2 G3) : ∃ G2, r = rI v G2 ∧ G2 25 0 6 = 0 ∧ IR G2 s' (pushC c) (pushH c H s) sv K tn tx er ∧ Fr FRl G1 G2 := by
  obtain ⟨G2, e2, h2, f2, g2, -, k2⟩ := ir_change hc8 (hR.up6 0)
  obtain ⟨G3, e3, h3, f3⟩ := hb G2 h2
  rw [e2, bV_r, e3] at e
  exact ⟨G3, e, (f3 25 0 6 (by decide)).trans ((g2 6 (by decide) (by decide)).trans (up_at _ _ _ _ _)), k2 G3 s' h3 f3, ((Fr.up (P := FRl) G1 6 0 (by unfold FRl; omega)).trans f2).trans (f3.mono (fun t i z => by unfold FRl; omega))⟩
/-- the class: a change whose guards hold -/
theorem kc_ok {r : RS} {v : Int} {body : GG → RS} (hS : IS s c H sv K tn tx er) (hC : IC G s c H sv K tn tx er) (hs' : okM s') (e : r = bV (f_Map_beginChange G) body)
    (hb : ∀ G2, ShC G2 0 s → ∃ G3, body G2 = rI v G3 ∧ ShC G3 0 s' ∧ Fr (fun t i => i = 0 ∧ 1 ≤ t ∧ t ≤ 12) G2 G3) : ∃ G2, r = rI v G2 ∧ IC G2 s' (pushC c) (pushH c H s) sv K tn tx er ∧ Fr FCl G G2 ∧ G2 48 0 0 = G 48 0 0 := by
  obtain ⟨G2, e2, h2, f2, n2, k2⟩ := ic_change hS hC
  obtain ⟨G3, e3, h3, f3⟩ := hb G2 h2
  rw [e2, bV_r, e3] at e
  exact ⟨G3, e, k2 G3 s' hs' h3 f3, f2.trans (f3.mono (fun t i z => by unfold FCl; omega)), (f3 48 0 0 (by omega)).trans n2⟩
theorem ch_setClass (x1 x2 : Int) : CHp G (f_Law_setClass x1 x2 G) (fun G1 => f_Mod_setClass x1 x2 G1) := by
  intro s c H sv K tn tx er hS hC
  have hs := hS.1
  by_cases h1 : 0 ≤ x1 ∧ x1 ≤ 15
  · obtain ⟨p, rfl⟩ : ∃ p : Nat, x1 = (p : Int) := ⟨x1.toNat, by omega⟩
    have pb : p < 16 := by omega
    by_cases h2 : 0 ≤ x2 ∧ x2 ≤ 3
    · have c0 : 0 ≤ (p : Int) ∧ (p : Int) < 16 := by omega
      have hs' : okM (upS s (264 + p) x2) := by
        obtain ⟨a1, a2, a3⟩ := okA_ag (s' := upS s (264 + p) x2) hs (fun j hj => upS_ne (by omega))
        obtain ⟨b1, b2⟩ := okB_ag (s' := upS s (264 + p) x2) hs (fun j _ hj => upS_ne (by omega))
        refine ⟨a1, a2, a3, b1, b2, okO_ag hs.2.2.2.2.2.1 (fun j _ hj => upS_ne (by omega)), fun q hq => ?_, okSt_ag hs.2.2.2.2.2.2.2.1 (fun j hj _ => upS_ne (by omega)), ?_⟩
        · by_cases z : q = p
          · rw [z, upS_at]; exact h2
          · rw [upS_ne (by omega)]
            exact hs.2.2.2.2.2.2.1 q hq
        · rw [upS_ne (by omega)]
          exact hs.2.2.2.2.2.2.2.2
      refine ch_ok (s' := upS s (264 + p) x2) (v := s (264 + p)) (hS.map hs') (kc_ok (r := f_Map_setClass (p : Int) x2 G) hS hC hs' (by simp only [e_f_Map_setClass, g_parcel_t h1, g_within_t h2, bV_r, bI_r, ↓reduceIte, i01]; rfl) (fun G2 hh => ?_)) (e_f_Law_setClass (p : Int) x2 G) (fun G1 hR => kr_ok hS.2.1 hR (by simp only [e_f_Mod_setClass, r_parcel_t h1, r_isIn_t h2, bI_r, ↓reduceIte, up_at, i01]; rfl) (fun G2 hh => ?_))
      · refine ⟨up G2 11 0 p x2, ?_, ⟨(hh.1.ag hs.2.1 (fun j hj => upS_ne (by omega))).fr (up_t (by decide)) (fun k => up_t (by decide)) (fun k => up_t (by decide)), (hh.2.1.ag hs.2.2.2.2.1 (fun j _ hj => upS_ne (by omega))).fr (up_t (by decide)) (fun k => up_t (by decide)), fun f hf => (up_t (by decide)).trans (hh.2.2.1.ag (fun j _ hj => upS_ne (by omega)) f hf), fun q hq => ?_, fun j hj => (up_t (by decide)).trans (hh.2.2.2.2.1.ag (fun j hj _ => upS_ne (by omega)) j hj), ?_⟩, Fr.up _ _ _ ⟨rfl, by decide⟩⟩
        · simp only [if_pos c0]
          rw [hh.2.2.2.1 p pb]
        · by_cases z : q = p
          · rw [z, up_at, upS_at]
          · rw [up_k (by omega), upS_ne (by omega)]
            exact hh.2.2.2.1 q hq
        · rw [up_t (by decide), upS_ne (by omega)]
          exact hh.2.2.2.2.2
      · have w : wr (264 + (p : Int)) = ((264 + p : Nat) : Int) := by rw [wr_id (by omega) (by omega)]; omega
        have c1 : (0 : Int) ≤ ((264 + p : Nat) : Int) ∧ ((264 + p : Nat) : Int) < 296 := by omega
        refine ⟨up G2 26 0 ((264 + p : Nat) : Int) x2, ?_, ror_up hh rfl x2, Fr.up _ _ _ rfl⟩
        rw [w]
        simp only [if_pos c1]
        rw [hh (264 + p) (by omega)]
    · exact ch_fail (k := 2) (x := 0) (fcl := f_Map_setClass (p : Int) x2 G) hS hC (by simp only [e_f_Map_setClass, g_parcel_t h1, g_within_f h2, bV_r, bI_r, ↓reduceIte]) (e_f_Law_setClass (p : Int) x2 G) (fun _ => rfl) (by decide) (fun G1 hR => by simp only [e_f_Mod_setClass, r_parcel_t h1, r_isIn_f h2, bI_r, bV_r, ↓reduceIte, up_at, i01, i02])
  · exact ch_fail (k := 1) (x := 2) (fcl := f_Map_setClass x1 x2 G) hS hC (by simp only [e_f_Map_setClass, g_parcel_f h1, bV_x]) (e_f_Law_setClass x1 x2 G) (fun _ => rfl) (by decide) (fun G1 hR => by simp only [e_f_Mod_setClass, r_parcel_f h1, bI_r, bV_r, ↓reduceIte, up_at, i01, i02])
end AG
