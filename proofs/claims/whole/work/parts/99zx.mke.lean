/-! ===== read: the class makes the entries ===== -/
section SR
variable {s : Nat → Int} {G : GG} {i : Int} {n : Nat} {V : Nat → Int}
theorem nfT : ¬ (false = true) := by decide
theorem w_pl {l n : Nat} (hl : l < 6) (hn : n ≤ 10) : wr ((l : Int) * 10) = ((10 * l : Nat) : Int) ∧ (((0 : Int) ≤ 0 ∧ (0 : Int) ≤ ((10 * l : Nat) : Int)) ∧ (0 ≤ (n : Int) ∧ (0 + (n : Int) ≤ 11 ∧ ((10 * l : Nat) : Int) + (n : Int) ≤ 60))) := by
  refine ⟨?_, by omega⟩
  rw [wr_id (by omega) (by omega)]
  omega
theorem g_putLine (hs : okM s) (h6 : mNl s < 6) (h : ShC G i s) (hV : ∀ k : Nat, k < n → G 23 0 k = V k) (hn : 2 ≤ n ∧ n ≤ 10) : ∃ G1, f_Lin_put i n G = rV G1 ∧ ShC G1 i (alS s n V) ∧ Fr (FSh i) G G1 := by
  have e := e_f_Lin_put i n G
  have h2 := h.1.1
  obtain ⟨w1, c1⟩ := w_pl h6 hn.2
  have c2 : (0 : Int) ≤ (mNl s : Int) ∧ (mNl s : Int) < 6 := by omega
  rw [h2, w1, if_pos c1, cpy_t (show (2 : Nat) ≠ 3 by decide), h2, if_pos c2, up_t (show (2 : Nat) ≠ 4 by decide), cpy_t (show (2 : Nat) ≠ 3 by decide), h2, (w_sim2 (show mNl s < 100 by omega)).1] at e
  clear w1 c1
  have f1 : Fr (FSh i) G (cpy G 23 0 0 3 i ((10 * mNl s : Nat) : Int) n) := Fr.cpy G _ _ _ _ _ ⟨rfl, by omega⟩
  have hin : ∀ k : Nat, k < n → (cpy G 23 0 0 3 i ((10 * mNl s : Nat) : Int) n) 3 i (10 * (mNl s : Int) + (k : Int)) = V k := fun k hk => by
    rw [cpy_in (by omega) (by omega), show (0 : Int) + (10 * (mNl s : Int) + (k : Int) - ((10 * mNl s : Nat) : Int)) = (k : Int) by omega]
    exact hV k hk
  have hout : ∀ z : Int, z < ((10 * mNl s : Nat) : Int) → (cpy G 23 0 0 3 i ((10 * mNl s : Nat) : Int) n) 3 i z = G 3 i z := fun z hz => cpy_out (Or.inl hz)
  have n1 : ∀ t o k, t ≠ 3 → (cpy G 23 0 0 3 i ((10 * mNl s : Nat) : Int) n) t o k = G t o k := fun t o k z => cpy_t z
  generalize cpy G 23 0 0 3 i ((10 * mNl s : Nat) : Int) n = G1 at *
  have n2 : ∀ t o k, t ≠ 2 → t ≠ 3 → t ≠ 4 → (up (up G1 4 i (mNl s : Int) n) 2 i 2 ((mNl s + 1 : Nat) : Int)) t o k = G t o k := fun t o k a b c => (up_t a).trans ((up_t c).trans (n1 t o k b))
  have hi := @al_hi s n V h6 hn.2
  refine ⟨_, e, ⟨⟨?_, fun l hl => ⟨?_, fun k hk => ?_⟩⟩, (h.2.1.ag hs.2.2.2.2.1 (fun j hj _ => hi hj)).fr (n2 _ _ _ (by decide) (by decide) (by decide)) (fun k => n2 _ _ _ (by decide) (by decide) (by decide)), fun f hf => (n2 _ _ _ (by decide) (by decide) (by decide)).trans (h.2.2.1.ag (fun j hj _ => hi (by omega)) f hf), fun q hq => ?_, fun j hj => (n2 _ _ _ (by decide) (by decide) (by decide)).trans (h.2.2.2.2.1.ag (fun j hj _ => hi (by omega)) j hj), ?_⟩, (f1.trans (Fr.up _ _ _ ⟨rfl, by omega⟩)).trans (Fr.up _ _ _ ⟨rfl, by omega⟩)⟩
  · rw [up_at, al_nl hs]
  · rw [al_nl hs] at hl
    rw [up_t (by decide), al_sz h6 hl]
    by_cases z : l = mNl s
    · rw [if_pos z, z, up_at]
    · rw [if_neg z, up_k (by omega), n1 _ _ _ (by decide)]
      exact (h.1.2 l (by omega)).1
  · rw [al_nl hs] at hl
    rw [al_sz h6 hl] at hk
    rw [up_t (by decide), up_t (by decide)]
    by_cases z : l = mNl s
    · rw [if_pos z] at hk
      rw [al_cd h6 hn.2 hl (by omega), if_pos ⟨z, hk⟩, z]
      exact hin k hk
    · rw [if_neg z] at hk
      have hz := (hs.2.1.2 l (by omega)).1
      rw [al_cd h6 hn.2 hl (by omega), if_neg (fun w => z w.1), hout _ (by omega)]
      exact (h.1.2 l (by omega)).2 k hk
  · rw [n2 _ _ _ (by decide) (by decide) (by decide), hi (by omega)]
    exact h.2.2.2.1 q hq
  · rw [n2 _ _ _ (by decide) (by decide) (by decide), hi (by decide)]
    exact h.2.2.2.2.2
/-- the class's line -/
theorem g_makeLine (hs : okM s) (h : ShC G i s) (hV : ∀ k : Nat, k < n → G 23 0 k = V k) (hc : ∀ k : Nat, k < n → isC (V k)) (hn : 2 ≤ n ∧ n ≤ 10) : ∃ G1, f_She_makeLine i n G = rI (if wrL s n V = true then 1 else if mNl s < 6 then 0 else 2) G1 ∧ ShC G1 i (if wrL s n V = true then s else if mNl s < 6 then alS s n V else s) ∧ Fr (FSh i) G G1 := by
  have ho := hs.2.1
  have e := e_f_She_makeLine i n G
  rw [g_simple hV hc hn, bI_r] at e
  unfold wrL
  cases q : (samB n V || twB n V) with
  | true =>
    rw [q] at e
    rw [Bool.true_or, if_pos rfl, if_pos rfl]
    exact ⟨G, e, h, Fr.refl G⟩
  | false =>
    rw [q] at e
    rw [Bool.false_or]
    have stp : ∀ k : Nat, k + 1 < n → l_She_makeLine_12 i n (k : Int) G = if (anyB 0 (mNl s) (mtL (mSz s) (mCd s) (V k) (V (k + 1))) || anyB 0 (mNp s) fun p => onS (V k) (V (k + 1)) (pco (mPt s) p)) = true then rI 1 G else l_She_makeLine_12 i n ((k + 1 : Nat) : Int) G := fun k hk => by
      have e := e_l_She_makeLine_12 i n (k : Int) G
      have c1 : (k : Int) < ((n - 1 : Nat) : Int) := by omega
      have c2 : 0 ≤ (k : Int) ∧ (k : Int) < 11 := by omega
      have c3 : 0 ≤ ((k + 1 : Nat) : Int) ∧ ((k + 1 : Nat) : Int) < 11 := by omega
      have k1 := hc k (by omega)
      have k2 := hc (k + 1) hk
      rw [w_sim hn, (w_sim2 (show k < 100 by omega)).1, if_pos c1, if_pos c2, if_pos c3, hV k (by omega), hV (k + 1) hk, g_isMetBy h.1 ho k1 k2, bI_r, g_anyOn h.2.1 hs.2.2.2.2.1 k1 k2, bI_r] at e
      rw [e]
      cases anyB 0 (mNl s) (mtL (mSz s) (mCd s) (V k) (V (k + 1))) with
      | true => rfl
      | false => cases (anyB 0 (mNp s) fun p => onS (V k) (V (k + 1)) (pco (mPt s) p)) <;> rfl
    have hend : ∃ G1, l_She_makeLine_12 i n ((0 + (n - 1) : Nat) : Int) G = rI (if mNl s < 6 then 0 else 2) G1 ∧ ShC G1 i (if mNl s < 6 then alS s n V else s) ∧ Fr (FSh i) G G1 := by
      have e := e_l_She_makeLine_12 i n ((0 + (n - 1) : Nat) : Int) G
      have c1 : ¬ ((0 + (n - 1) : Nat) : Int) < ((n - 1 : Nat) : Int) := by omega
      rw [w_sim hn, if_neg c1, h.1.1] at e
      by_cases c6 : mNl s < 6
      · have c7 : (mNl s : Int) < 6 := by omega
        obtain ⟨G1, e1, h1, f1⟩ := g_putLine (V := V) hs c6 h hV hn
        rw [if_pos c7, e1, bV_r] at e
        rw [if_pos c6, if_pos c6]
        exact ⟨G1, e, h1, f1⟩
      · have c7 : ¬ (mNl s : Int) < 6 := by omega
        rw [if_neg c7] at e
        rw [if_neg c6, if_neg c6]
        exact ⟨G, e, h, Fr.refl G⟩
    obtain ⟨G1, e1, h1, f1⟩ := hend
    have hl := loop_any (l := fun (k : Nat) => l_She_makeLine_12 i n (k : Int) G) (f := fun k => anyB 0 (mNl s) (mtL (mSz s) (mCd s) (V k) (V (k + 1))) || anyB 0 (mNp s) fun p => onS (V k) (V (k + 1)) (pco (mPt s) p)) (rt := rI 1 G) (rf := rI (if mNl s < 6 then 0 else 2) G1) (n - 1) 0 (fun k _ hk hf => by
      rw [stp k (by omega)]
      exact if_pos hf) (fun k _ hk hf => by
      rw [stp k (by omega)]
      exact if_neg (by rw [hf]; decide)) e1
    rw [anyB_or] at hl
    have e2 : f_She_makeLine i n G = l_She_makeLine_12 i n ((0 : Nat) : Int) G := e
    have hm : anyB 0 (n - 1) (fun k => anyB 0 (mNl s) (mtL (mSz s) (mCd s) (V k) (V (k + 1)))) = meB (mNl s) (mSz s) (mCd s) n V := rfl
    have hp : anyB 0 (n - 1) (fun k => anyB 0 (mNp s) fun p => onS (V k) (V (k + 1)) (pco (mPt s) p)) = poB (mNp s) (mPt s) n V := rfl
    rw [hm, hp] at hl
    cases q9 : (meB (mNl s) (mSz s) (mCd s) n V || poB (mNp s) (mPt s) n V) with
    | true =>
      rw [q9] at hl
      rw [if_pos rfl, if_pos rfl]
      exact ⟨G, e2.trans hl, h, Fr.refl G⟩
    | false =>
      rw [q9] at hl
      rw [if_neg nfT, if_neg nfT]
      exact ⟨G1, e2.trans hl, h1, f1⟩
theorem w_mp {x y : Int} (hx : 0 ≤ x ∧ x ≤ 63) (hy : 0 ≤ y ∧ y ≤ 63) : wr (wr (x * 64) + y) = 64 * x + y := by
  rw [wr_id (z := x * 64) (by omega) (by omega), wr_id (by omega) (by omega)]
  omega
theorem g_makePoint (hs : okM s) (h : ShC G i s) (hV : ∀ k : Nat, k < 5 → G 23 0 k = V k) (hr : inG rgP 5 V) : ∃ G1, f_She_makePoint i G = rI (if tkO s (64 * V 0 + V 1) = true then 2 else if mNp s < 12 then 0 else 2) G1 ∧ ShC G1 i (if tkO s (64 * V 0 + V 1) = true then s else if mNp s < 12 then apS s (v6 (V 0) (V 1) (V 2) (V 3) (V 4) 0) else s) ∧ Fr (FSh i) G G1 := by
  have r0 : 0 ≤ V 0 ∧ V 0 ≤ 63 := hr 0 (by decide)
  have r1 : 0 ≤ V 1 ∧ V 1 ≤ 63 := hr 1 (by decide)
  have e := e_f_She_makePoint i G
  have v0 : G 23 0 0 = V 0 := hV 0 (by decide)
  have v1 : G 23 0 1 = V 1 := hV 1 (by decide)
  have v2 : G 23 0 2 = V 2 := hV 2 (by decide)
  have v3 : G 23 0 3 = V 3 := hV 3 (by decide)
  have v4 : G 23 0 4 = V 4 := hV 4 (by decide)
  have hp : isC (64 * V 0 + V 1) := by unfold isC; omega
  rw [v0, v1, w_mp r0 r1, g_isTaken hs h hp, bI_r, v0, v1, v2, v3, v4, h.2.1.1] at e
  cases q : tkO s (64 * V 0 + V 1) with
  | true =>
    rw [q, if_neg (show ¬ b2i true = 0 by decide)] at e
    rw [if_pos rfl, if_pos rfl]
    exact ⟨G, e, h, Fr.refl G⟩
  | false =>
    rw [q, if_pos (show b2i false = 0 from rfl)] at e
    rw [if_neg nfT, if_neg nfT]
    by_cases c : mNp s < 12
    · have c1 : (mNp s : Int) < 12 := by omega
      rw [if_pos c1, g_put c h.2.1.1, bI_r] at e
      rw [if_pos c, if_pos c]
      refine ⟨_, e, sh_ap hs c h (V 0) (V 1) (V 2) (V 3) (V 4) 0, ?_⟩
      unfold up6
      exact ((((((Fr.up _ _ _ ⟨rfl, by decide⟩).trans (Fr.up _ _ _ ⟨rfl, by decide⟩)).trans (Fr.up _ _ _ ⟨rfl, by decide⟩)).trans (Fr.up _ _ _ ⟨rfl, by decide⟩)).trans (Fr.up _ _ _ ⟨rfl, by decide⟩)).trans (Fr.up _ _ _ ⟨rfl, by decide⟩)).trans (Fr.up _ _ _ ⟨rfl, by decide⟩)
    · have c1 : ¬ (mNp s : Int) < 12 := by omega
      rw [if_neg c1] at e
      rw [if_neg c, if_neg c]
      exact ⟨G, e, h, Fr.refl G⟩
theorem w_gf {x y : Int} (hx : 0 ≤ x ∧ x ≤ 7) (hy : 0 ≤ y ∧ y ≤ 7) : wr (wr (y * 8) + x) = ((8 * y.toNat + x.toNat : Nat) : Int) := by
  rw [wr_id (z := y * 8) (by omega) (by omega), wr_id (by omega) (by omega)]
  omega
theorem g_giveField (hs : okM s) (h : ShC G i s) (hr : inG rgF 3 V) : ∃ G1, f_Par_giveField i (V 0) (V 1) (V 2) G = rV G1 ∧ ShC G1 i (upS s (200 + (8 * (V 1).toNat + (V 0).toNat)) (V 2)) ∧ Fr (FSh i) G G1 := by
  have r0 : 0 ≤ V 0 ∧ V 0 ≤ 7 := hr 0 (by decide)
  have r1 : 0 ≤ V 1 ∧ V 1 ≤ 7 := hr 1 (by decide)
  have e := e_f_Par_giveField i (V 0) (V 1) (V 2) G
  have hf : 8 * (V 1).toNat + (V 0).toNat < 64 := by omega
  rw [w_gf r0 r1] at e
  clear r0 r1 hr
  generalize 8 * (V 1).toNat + (V 0).toNat = f at *
  have c1 : 0 ≤ (f : Int) ∧ (f : Int) < 64 := by clear e; omega
  rw [if_pos c1] at e
  refine ⟨_, e, ⟨(h.1.ag hs.2.1 (fun j hj => upS_ne (by omega))).fr (up_t (by decide)) (fun k => up_t (by decide)) (fun k => up_t (by decide)), (h.2.1.ag hs.2.2.2.2.1 (fun j _ hj => upS_ne (by omega))).fr (up_t (by decide)) (fun k => up_t (by decide)), fun g hg => ?_, fun q hq => ?_, fun j hj => (up_t (by decide)).trans (h.2.2.2.2.1.ag (fun j hj _ => upS_ne (by omega)) j hj), ?_⟩, Fr.up _ _ _ ⟨rfl, by omega⟩⟩
  · have q9 := h.2.2.1 g hg
    unfold mOw at q9 ⊢
    by_cases z : g = f
    · rw [z, up_at, upS_at]
    · have zn : (g : Int) ≠ (f : Int) := by omega
      have zn2 : 200 + g ≠ 200 + f := by omega
      rw [up_k zn, upS_ne zn2]
      exact q9
  · have zn : 264 + q ≠ 200 + f := by omega
    rw [up_t (by decide), upS_ne zn]
    exact h.2.2.2.1 q hq
  · have zn : 295 ≠ 200 + f := by omega
    rw [up_t (by decide), upS_ne zn]
    exact h.2.2.2.2.2
/-- an entry made -/
noncomputable def mkK (i : Int) (K : Int → GG → RS) (G : GG) : RS := if G 21 0 3 = 76 then bI (f_She_makeLine i (G 21 0 5) G) K else if G 21 0 3 = 80 then bI (f_She_makePoint i G) K else bV (f_Par_giveField i (G 23 0 0) (G 23 0 1) (G 23 0 2) G) (K 0)
theorem g_mkE {K : Int → GG → RS} {e : EN} {tn p : Nat} {tx : Nat → Int} (he : okE e) (hs : okM s) (h : ShC G i s) (hk : G 21 0 3 = e.1) (hc : ScC G tn tx p e.2.1 e.2.2) : ∃ G1, mkK i K G = K (apE s e).1 G1 ∧ ShC G1 i (apE s e).2 ∧ Fr (FSh i) G G1 := by
  obtain ⟨hT, hp, hn, hv⟩ := hc
  unfold mkK
  rw [hk, hn]
  unfold apE
  rcases he with ⟨h1, h2, h3, h4⟩ | ⟨h1, h2, h3⟩ | ⟨h1, h2, h3⟩
  · rw [if_pos h1, if_pos h1]
    obtain ⟨G1, e1, s1, f1⟩ := g_makeLine hs h hv h4 ⟨h2, h3⟩
    rw [e1, bI_r]
    refine ⟨G1, ?_, ?_, f1⟩
    · cases wrL s e.2.1 e.2.2 with
      | true => rfl
      | false =>
        rw [if_neg nfT, if_neg nfT]
        by_cases c : mNl s < 6
        · rw [if_pos c, if_pos c]
        · rw [if_neg c, if_neg c]
    · cases q : wrL s e.2.1 e.2.2 with
      | true =>
        rw [q, if_pos rfl] at s1
        exact s1
      | false =>
        rw [q, if_neg nfT] at s1
        rw [if_neg nfT]
        by_cases c : mNl s < 6
        · rw [if_pos c] at s1 ⊢
          exact s1
        · rw [if_neg c] at s1 ⊢
          exact s1
  · have n1 : ¬ e.1 = 76 := by omega
    rw [if_neg n1, if_neg n1, if_pos h1, if_pos h1]
    obtain ⟨G1, e1, s1, f1⟩ := g_makePoint hs h (fun k hk => hv k (by omega)) h3
    rw [e1, bI_r]
    refine ⟨G1, ?_, ?_, f1⟩
    · cases tkO s (64 * e.2.2 0 + e.2.2 1) with
      | true => rfl
      | false =>
        rw [if_neg nfT, if_neg nfT]
        by_cases c : mNp s < 12
        · rw [if_pos c, if_pos c]
        · rw [if_neg c, if_neg c]
    · cases q : tkO s (64 * e.2.2 0 + e.2.2 1) with
      | true =>
        rw [q, if_pos rfl] at s1
        exact s1
      | false =>
        rw [q, if_neg nfT] at s1
        rw [if_neg nfT]
        by_cases c : mNp s < 12
        · rw [if_pos c] at s1 ⊢
          exact s1
        · rw [if_neg c] at s1 ⊢
          exact s1
  · have n1 : ¬ e.1 = 76 := by omega
    have n2 : ¬ e.1 = 80 := by omega
    rw [if_neg n1, if_neg n1, if_neg n2, if_neg n2]
    obtain ⟨G1, e1, s1, f1⟩ := g_giveField (V := e.2.2) hs h h3
    have v0 : G 23 0 0 = e.2.2 0 := hv 0 (by omega)
    have v1 : G 23 0 1 = e.2.2 1 := hv 1 (by omega)
    have v2 : G 23 0 2 = e.2.2 2 := hv 2 (by omega)
    rw [v0, v1, v2, e1, bV_r]
    exact ⟨G1, rfl, s1, f1⟩
end SR
/-! the loop over the entries -/
def FMk (t : Nat) (o : Int) : Prop := FSc t o ∨ FSh 1 t o
theorem g_mkAll {tn : Nat} {tx : Nat → Int} (ht : tn ≤ 60) (hx : ∀ j : Nat, j < tn → 32 ≤ tx j ∧ tx j ≤ 126) (c : Nat) (hc : c ≤ 60) : ∀ (m a x : Nat) (s : Nat → Int) (G : GG), TxC G tn tx → G 21 0 2 = (a : Int) → a < tn → (pA tx tn m a).1 = 1 → x + (pA tx tn m a).2.2.length = c → okM s → ShC G 1 s →
    ∃ G1, l_She_makeEntries_10 1 c 0 x G = rI (apA s (pA tx tn m a).2.2).1 G1 ∧ ShC G1 1 (apA s (pA tx tn m a).2.2).2 ∧ Fr FMk G G1
  | 0, a, x, s, G, h1, h2, ha, hp, hx9, hs, hS => absurd (show (0 : Int) = 1 from hp) (by decide)
  | m + 1, a, x, s, G, h1, h2, ha, hp, hx9, hs, hS => by
    obtain ⟨u1, u2, u3, u4⟩ := pE_sp (tx := tx) (Nat.le_of_lt ha)
    obtain ⟨G1, e1, hF, hT, hpl, hn, h01, hsc⟩ := st_entry ht h1 h2 (Nat.le_of_lt ha) hx
    unfold pA at hp hx9 ⊢
    by_cases c0 : (pE tx tn a).1 = 0
    · rw [if_pos c0] at hp
      exact absurd (show (0 : Int) = 1 from hp) (by decide)
    · rw [if_neg c0] at hp hx9 ⊢
      have k1 := u1.resolve_left c0
      have he := (u4 k1).2
      obtain ⟨w1, w2, w3⟩ := hsc k1
      have hS1 : ShC G1 1 s := hS.fr (fun t k ht => hF t 1 k (by unfold FSc; omega))
      generalize hE : ((tx a, (pE tx tn a).2.2) : EN) = E at he hp hx9 ⊢
      have hE1 : G1 21 0 3 = E.1 := by rw [← hE]; exact w2
      have hE2 : ScC G1 tn tx (pE tx tn a).2.1 E.2.1 E.2.2 := by rw [← hE]; exact w1
      obtain ⟨G2, e2, s2, f2⟩ := g_mkE (K := fun r G3 => l_She_makeEntries_10 1 c r (wr ((x : Int) + 1)) G3) he hs hS1 hE1 hE2
      have hF2 : Fr FMk G G2 := (hF.mono (fun t o z => Or.inl z)).trans (f2.mono (fun t o z => Or.inr z))
      have hlen : x < c := by
        rw [← hx9]
        by_cases c3 : (pE tx tn a).2.1 < tn
        · rw [if_pos c3]
          show x < x + (_ + 1)
          omega
        · rw [if_neg c3]
          show x < x + 1
          omega
      have e := e_l_She_makeEntries_10 1 (c : Int) 0 (x : Int) G
      have d1 : (x : Int) < (c : Int) := by omega
      rw [if_pos d1, if_pos rfl, e1, bI_r] at e
      have e3 : l_She_makeEntries_10 1 c 0 x G = l_She_makeEntries_10 1 c (apE s E).1 (wr ((x : Int) + 1)) G2 := e.trans e2
      rw [(w_sim2 (show x < 100 by omega)).1] at e3
      by_cases c9 : (apE s E).1 = 0
      · have hs2 : okM (apE s E).2 := apE_ok hs he
        by_cases c3 : (pE tx tn a).2.1 < tn
        · rw [if_pos c3] at hp hx9 ⊢
          have hT2 : TxC G2 tn tx := ⟨(f2 21 0 1 (by unfold FSh; omega)).trans hT.1, fun j hj => (f2 22 0 j (by unfold FSh; omega)).trans (hT.2 j hj)⟩
          have hx8 : x + 1 + (pA tx tn m (pE tx tn a).2.1).2.2.length = c := by
            rw [← hx9]
            show _ = x + (_ + 1)
            omega
          obtain ⟨G3, e4, s4, f4⟩ := g_mkAll ht hx c hc m (pE tx tn a).2.1 (x + 1) (apE s E).2 G2 hT2 ((f2 21 0 2 (by unfold FSh; omega)).trans hpl) c3 hp hx8 hs2 s2
          rw [c9, e4] at e3
          refine ⟨G3, ?_, ?_, hF2.trans f4⟩
          · rw [e3]
            show _ = rI (if (apE s E).1 = 0 then apA (apE s E).2 (pA tx tn m (pE tx tn a).2.1).2.2 else ((apE s E).1, (apE s E).2)).1 G3
            rw [if_pos c9]
          · show ShC G3 1 (if (apE s E).1 = 0 then apA (apE s E).2 (pA tx tn m (pE tx tn a).2.1).2.2 else ((apE s E).1, (apE s E).2)).2
            rw [if_pos c9]
            exact s4
        · rw [if_neg c3] at hx9 ⊢
          have hx8 : x + 1 = c := hx9
          have e5 := e_l_She_makeEntries_10 1 (c : Int) 0 ((x + 1 : Nat) : Int) G2
          have d2 : ¬ ((x + 1 : Nat) : Int) < (c : Int) := by omega
          rw [if_neg d2] at e5
          rw [c9, e5] at e3
          have hap : apA s [E] = (0, (apE s E).2) := by
            show (if (apE s E).1 = 0 then (0, (apE s E).2) else ((apE s E).1, (apE s E).2)) = _
            rw [if_pos c9]
          rw [hap]
          exact ⟨G2, e3, s2, hF2⟩
      · have e5 := e_l_She_makeEntries_10 1 (c : Int) (apE s E).1 ((x + 1 : Nat) : Int) G2
        have e6 : l_She_makeEntries_10 1 (c : Int) (apE s E).1 ((x + 1 : Nat) : Int) G2 = rI (apE s E).1 G2 := by
          rw [e5]
          by_cases d2 : ((x + 1 : Nat) : Int) < (c : Int)
          · rw [if_pos d2, if_neg c9]
          · rw [if_neg d2]
        have hap : ∀ l : List EN, apA s (E :: l) = ((apE s E).1, (apE s E).2) := fun l => by
          show (if (apE s E).1 = 0 then apA (apE s E).2 l else ((apE s E).1, (apE s E).2)) = _
          rw [if_neg c9]
        rw [e6] at e3
        by_cases c3 : (pE tx tn a).2.1 < tn
        · rw [if_pos c3]
          show ∃ G1, _ = rI (apA s (E :: (pA tx tn m (pE tx tn a).2.1).2.2)).1 G1 ∧ ShC G1 1 (apA s (E :: (pA tx tn m (pE tx tn a).2.1).2.2)).2 ∧ _
          rw [hap]
          exact ⟨G2, e3, s2, hF2⟩
        · rw [if_neg c3]
          show ∃ G1, _ = rI (apA s [E]).1 G1 ∧ ShC G1 1 (apA s [E]).2 ∧ _
          rw [hap]
          exact ⟨G2, e3, s2, hF2⟩
