/-! ===== changes: a point is added ===== -/
def v6 (a b c d e f : Int) : Nat → Int := fun q => if q = 0 then a else if q = 1 then b else if q = 2 then c else if q = 3 then d else if q = 4 then e else f
def apS (s : Nat → Int) (v : Nat → Int) : Nat → Int := fun j => if j = 127 then s 127 + 1 else if 128 + 6 * mNp s ≤ j ∧ j < 134 + 6 * mNp s then v (j - (128 + 6 * mNp s)) else s j
def up6 (G : GG) (t : Nat) (i K a b c d e f : Int) : GG := up (up (up (up (up (up G t i K a) t i (K + 1) b) t i (K + 2) c) t i (K + 3) d) t i (K + 4) e) t i (K + 5) f
theorem up6_t {G : GG} {t t' : Nat} {i K a b c d e f i' k' : Int} (h : t' ≠ t) : up6 G t i K a b c d e f t' i' k' = G t' i' k' := by
  unfold up6
  rw [up_t h, up_t h, up_t h, up_t h, up_t h, up_t h]
theorem up6_o {G : GG} {t : Nat} {i K a b c d e f k' : Int} (h : k' < K ∨ K + 6 ≤ k') : up6 G t i K a b c d e f t i k' = G t i k' := by
  unfold up6
  rw [up_k (by omega), up_k (by omega), up_k (by omega), up_k (by omega), up_k (by omega), up_k (by omega)]
theorem up6_v {G : GG} {t : Nat} {i K a b c d e f : Int} {q : Nat} (h : q < 6) : up6 G t i K a b c d e f t i (K + (q : Int)) = v6 a b c d e f q := by
  unfold up6
  rcases q with _ | _ | _ | _ | _ | _ | q
  · rw [up_k (by omega), up_k (by omega), up_k (by omega), up_k (by omega), up_k (by omega), show K + ((0 : Nat) : Int) = K by omega, up_at]; rfl
  · rw [up_k (by omega), up_k (by omega), up_k (by omega), up_k (by omega), show K + ((0 + 1 : Nat) : Int) = K + 1 by omega, up_at]; rfl
  · rw [up_k (by omega), up_k (by omega), up_k (by omega), show K + ((0 + 1 + 1 : Nat) : Int) = K + 2 by omega, up_at]; rfl
  · rw [up_k (by omega), up_k (by omega), show K + ((0 + 1 + 1 + 1 : Nat) : Int) = K + 3 by omega, up_at]; rfl
  · rw [up_k (by omega), show K + ((0 + 1 + 1 + 1 + 1 : Nat) : Int) = K + 4 by omega, up_at]; rfl
  · rw [show K + ((0 + 1 + 1 + 1 + 1 + 1 : Nat) : Int) = K + 5 by omega, up_at]; rfl
  · omega
section ADDP
variable {s : Nat → Int} {G : GG} {i : Int} {v : Nat → Int}
theorem apS_ne {j : Nat} (hn : mNp s < 12) (hj : j < 127 ∨ 200 ≤ j) : apS s v j = s j := by
  unfold apS
  rw [if_neg (by omega), if_neg (by omega)]
theorem ap_np (hs : okM s) : mNp (apS s v) = mNp s + 1 := by
  have h := mNp_c hs
  have e : apS s v 127 = s 127 + 1 := if_pos rfl
  show (apS s v 127).toNat = _
  rw [e, h]
  omega
theorem ap_pt {q j : Nat} (hj : j < 6) (hq : q < mNp s + 1) : mPt (apS s v) q j = if q = mNp s then v j else mPt s q j := by
  unfold mPt apS
  by_cases z : q = mNp s
  · rw [if_pos z, if_neg (by omega), if_pos (by omega), show 128 + 6 * q + j - (128 + 6 * mNp s) = j by omega]
  · rw [if_neg z, if_neg (by omega), if_neg (by omega)]
def okV6 (v : Nat → Int) : Prop := (0 ≤ v 0 ∧ v 0 < 64) ∧ (0 ≤ v 1 ∧ v 1 < 64) ∧ (0 ≤ v 2 ∧ v 2 ≤ 9) ∧ (2 ≤ v 3 ∧ v 3 ≤ 12) ∧ (1 ≤ v 4 ∧ v 4 ≤ 4) ∧ (0 ≤ v 5 ∧ v 5 ≤ 3)
theorem ok_ap (hs : okM s) (hn : mNp s < 12) (hv : okV6 v) : okM (apS s v) := by
  have ho := hs.2.2.2.2.1
  obtain ⟨a1, a2, a3⟩ := okA_ag (s' := apS s v) hs (fun j hj => apS_ne hn (by omega))
  have e : apS s v 127 = s 127 + 1 := if_pos rfl
  have h127 := hs.2.2.2.1
  refine ⟨a1, a2, a3, by rw [e]; omega, ⟨by rw [ap_np hs]; omega, fun q hq => ?_⟩, okO_ag hs.2.2.2.2.2.1 (fun j hj _ => apS_ne hn (by omega)), fun q hq => ?_, okSt_ag hs.2.2.2.2.2.2.2.1 (fun j hj _ => apS_ne hn (by omega)), ?_⟩
  · rw [ap_np hs] at hq
    rw [ap_pt (by decide) hq, ap_pt (by decide) hq, ap_pt (by decide) hq, ap_pt (by decide) hq, ap_pt (by decide) hq, ap_pt (by decide) hq]
    by_cases z : q = mNp s
    · simp only [if_pos z]
      exact hv
    · simp only [if_neg z]
      exact ho.2 q (by omega)
  · rw [apS_ne hn (by omega)]
    exact hs.2.2.2.2.2.2.1 q hq
  · rw [apS_ne hn (by omega)]
    exact hs.2.2.2.2.2.2.2.2
theorem w_put {n : Nat} (h : n < 12) : wr ((n : Int) * 6) = 6 * (n : Int) ∧ wr (6 * (n : Int) + 0) = 6 * (n : Int) ∧ wr (6 * (n : Int) + 1) = 6 * (n : Int) + 1 ∧ wr (6 * (n : Int) + 2) = 6 * (n : Int) + 2 ∧ wr (6 * (n : Int) + 3) = 6 * (n : Int) + 3 ∧ wr (6 * (n : Int) + 4) = 6 * (n : Int) + 4 ∧ wr (6 * (n : Int) + 5) = 6 * (n : Int) + 5 ∧ wr ((n : Int) + 1) = ((n + 1 : Nat) : Int) ∧ wr (((n + 1 : Nat) : Int) - 1) = (n : Int) := by
  refine ⟨?_, ?_, wr_id (by omega) (by omega), wr_id (by omega) (by omega), wr_id (by omega) (by omega), wr_id (by omega) (by omega), wr_id (by omega) (by omega), ?_, ?_⟩
  · rw [wr_id (by omega) (by omega)]; omega
  · rw [wr_id (by omega) (by omega)]; omega
  · rw [wr_id (by omega) (by omega)]; omega
  · rw [wr_id (by omega) (by omega)]; omega
theorem c_put {n : Nat} (h : n < 12) : ((0 : Int) ≤ 6 * (n : Int) ∧ 6 * (n : Int) < 72) ∧ ((0 : Int) ≤ 6 * (n : Int) + 1 ∧ 6 * (n : Int) + 1 < 72) ∧ ((0 : Int) ≤ 6 * (n : Int) + 2 ∧ 6 * (n : Int) + 2 < 72) ∧ ((0 : Int) ≤ 6 * (n : Int) + 3 ∧ 6 * (n : Int) + 3 < 72) ∧ ((0 : Int) ≤ 6 * (n : Int) + 4 ∧ 6 * (n : Int) + 4 < 72) ∧ ((0 : Int) ≤ 6 * (n : Int) + 5 ∧ 6 * (n : Int) + 5 < 72) := by omega
theorem g_put {n : Nat} (hn : n < 12) (h : G 5 i 1 = (n : Int)) (a b c d e f : Int) : f_Poi_put i a b c d e f G = rI (n : Int) (up (up6 G 6 i (6 * (n : Int)) a b c d e f) 5 i 1 ((n + 1 : Nat) : Int)) := by
  obtain ⟨w, w0, w1, w2, w3, w4, w5, w6, w7⟩ := w_put hn
  obtain ⟨c0, c1, c2, c3, c4, c5⟩ := c_put hn
  have e9 := e_f_Poi_put i a b c d e f G
  rw [h, w, w0, w1, w2, w3, w4, w5, if_pos c0, if_pos c1, if_pos c2, if_pos c3, if_pos c4, if_pos c5] at e9
  simp only [up_t (show (5 : Nat) ≠ 6 by decide), h, w6, up_at, w7] at e9
  exact e9
theorem sh_ap (hs : okM s) (hn : mNp s < 12) (h : ShC G i s) (a b c d e f : Int) : ShC (up (up6 G 6 i (6 * (mNp s : Int)) a b c d e f) 5 i 1 ((mNp s + 1 : Nat) : Int)) i (apS s (v6 a b c d e f)) := by
  have n1 : ∀ t i' k, t ≠ 5 → t ≠ 6 → (up (up6 G 6 i (6 * (mNp s : Int)) a b c d e f) 5 i 1 ((mNp s + 1 : Nat) : Int)) t i' k = G t i' k := fun t i' k z1 z2 => by rw [up_t z1, up6_t z2]
  refine ⟨(h.1.ag hs.2.1 (fun j hj => apS_ne hn (by omega))).fr (n1 _ _ _ (by decide) (by decide)) (fun k => n1 _ _ _ (by decide) (by decide)) (fun k => n1 _ _ _ (by decide) (by decide)), ⟨by rw [up_at, ap_np hs], fun q hq j hj => ?_⟩, fun f hf => (n1 _ _ _ (by decide) (by decide)).trans (h.2.2.1.ag (fun j hj _ => apS_ne hn (by omega)) f hf), fun q hq => ?_, fun j hj => (n1 _ _ _ (by decide) (by decide)).trans (h.2.2.2.2.1.ag (fun j hj _ => apS_ne hn (by omega)) j hj), ?_⟩
  · rw [ap_np hs] at hq
    rw [ap_pt hj hq, up_t (by decide)]
    by_cases z : q = mNp s
    · rw [if_pos z, z, up6_v hj]
    · rw [if_neg z, up6_o (by omega)]
      exact h.2.1.2 q (by omega) j hj
  · rw [n1 _ _ _ (by decide) (by decide), apS_ne hn (by omega)]
    exact h.2.2.2.1 q hq
  · rw [n1 _ _ _ (by decide) (by decide), apS_ne hn (by omega)]
    exact h.2.2.2.2.2
theorem w_putR {n : Nat} (h : n < 12) : wr (6 * (n : Int)) = 6 * (n : Int) ∧ wr (128 + 6 * (n : Int)) = 128 + 6 * (n : Int) ∧ wr (128 + 6 * (n : Int) + 1) = 128 + 6 * (n : Int) + 1 ∧ wr (128 + 6 * (n : Int) + 2) = 128 + 6 * (n : Int) + 2 ∧ wr (128 + 6 * (n : Int) + 3) = 128 + 6 * (n : Int) + 3 ∧ wr (128 + 6 * (n : Int) + 4) = 128 + 6 * (n : Int) + 4 ∧ wr (128 + 6 * (n : Int) + 5) = 128 + 6 * (n : Int) + 5 ∧ wr ((n : Int) + 1) = ((n + 1 : Nat) : Int) := by
  refine ⟨wr_id (by omega) (by omega), wr_id (by omega) (by omega), wr_id (by omega) (by omega), wr_id (by omega) (by omega), wr_id (by omega) (by omega), wr_id (by omega) (by omega), wr_id (by omega) (by omega), ?_⟩
  rw [wr_id (by omega) (by omega)]; omega
theorem c_putR {n : Nat} (h : n < 12) : ((0 : Int) ≤ 128 + 6 * (n : Int) ∧ 128 + 6 * (n : Int) < 296) ∧ ((0 : Int) ≤ 128 + 6 * (n : Int) + 1 ∧ 128 + 6 * (n : Int) + 1 < 296) ∧ ((0 : Int) ≤ 128 + 6 * (n : Int) + 2 ∧ 128 + 6 * (n : Int) + 2 < 296) ∧ ((0 : Int) ≤ 128 + 6 * (n : Int) + 3 ∧ 128 + 6 * (n : Int) + 3 < 296) ∧ ((0 : Int) ≤ 128 + 6 * (n : Int) + 4 ∧ 128 + 6 * (n : Int) + 4 < 296) ∧ ((0 : Int) ≤ 128 + 6 * (n : Int) + 5 ∧ 128 + 6 * (n : Int) + 5 < 296) := by omega
theorem r_putRaw {n : Nat} (hn : n < 12) (h : G 26 0 127 = (n : Int)) (a b c d e f : Int) : f_Mod_addsPoint a b c d e f G = rV (up (up6 G 26 0 (128 + 6 * (n : Int)) a b c d e f) 26 0 127 ((n + 1 : Nat) : Int)) := by
  obtain ⟨w, w0, w1, w2, w3, w4, w5, w6⟩ := w_putR hn
  obtain ⟨c0, c1, c2, c3, c4, c5⟩ := c_putR hn
  have h6 : up6 G 26 0 (128 + 6 * (n : Int)) a b c d e f 26 0 127 = (n : Int) := (up6_o (Or.inl (by clear w w0 w1 w2 w3 w4 w5 w6 h; omega))).trans h
  have e9 := e_f_Mod_addsPoint a b c d e f G
  rw [h, w, w0, w1, w2, w3, w4, w5, if_pos c0, if_pos c1, if_pos c2, if_pos c3, if_pos c4, if_pos c5] at e9
  refine e9.trans ?_
  show rV (up (up6 G 26 0 (128 + 6 * (n : Int)) a b c d e f) 26 0 127 (wr (up6 G 26 0 (128 + 6 * (n : Int)) a b c d e f 26 0 127 + 1))) = _
  rw [h6, w6]
theorem r_put (hs : okM s) (hn : mNp s < 12) (h : RoR G 26 s) (a b c d e f : Int) : ∃ G', f_Mod_addsPoint a b c d e f G = rV G' ∧ RoR G' 26 (apS s (v6 a b c d e f)) ∧ Fr (fun t i => t = 26 ∧ i = 0) G G' := by
  have hc := mNp_c hs
  refine ⟨_, r_putRaw hn (h.np hs) a b c d e f, fun j hj => ?_, ?_⟩
  · unfold apS
    by_cases q1 : j = 127
    · rw [if_pos q1, q1, hc]
      exact up_at _ _ _ _ _
    · rw [if_neg q1, up_k (by omega)]
      by_cases q2 : 128 + 6 * mNp s ≤ j ∧ j < 134 + 6 * mNp s
      · rw [if_pos q2]
        have h9 := up6_v (G := G) (t := 26) (i := 0) (K := 128 + 6 * (mNp s : Int)) (a := a) (b := b) (c := c) (d := d) (e := e) (f := f) (q := j - (128 + 6 * mNp s)) (by omega)
        rw [show 128 + 6 * (mNp s : Int) + ((j - (128 + 6 * mNp s) : Nat) : Int) = (j : Int) by omega] at h9
        exact h9
      · rw [if_neg q2, up6_o (by omega)]
        exact h j hj
  · unfold up6
    exact ((((((Fr.up _ _ _ ⟨rfl, rfl⟩).trans (Fr.up _ _ _ ⟨rfl, rfl⟩)).trans (Fr.up _ _ _ ⟨rfl, rfl⟩)).trans (Fr.up _ _ _ ⟨rfl, rfl⟩)).trans (Fr.up _ _ _ ⟨rfl, rfl⟩)).trans (Fr.up _ _ _ ⟨rfl, rfl⟩)).trans (Fr.up _ _ _ ⟨rfl, rfl⟩)
/-- whether a place is taken -/
def atO (np : Nat) (pt : Nat → Nat → Int) (p : Int) : Bool := anyB 0 np fun q => decide (pco pt q = p)
def tkO (s : Nat → Int) (p : Int) : Bool := atO (mNp s) (mPt s) p || anyB 0 (mNl s) (ovL (mSz s) (mCd s) p)
theorem fir_any {f : Nat → Bool} {n : Nat} : firO 0 n f = -1 ↔ anyB 0 n f = false := by
  rcases firO_spec (f := f) n 0 with ⟨h1, h2⟩ | ⟨k, h1, h2, h3, h4, h5⟩
  · exact ⟨fun _ => anyB_false.mpr h2, fun _ => h1⟩
  · refine ⟨fun z => by omega, fun z => ?_⟩
    have := anyB_false.mp z k h1 h2
    rw [h3] at this
    cases this
theorem g_isAnyAt {np : Nat} {pt : Nat → Nat → Int} (hP : PtC G i np pt) (ho : okPt np pt) (p : Int) : f_Poi_isAnyAt i p G = rI (b2i (atO np pt p)) G := by
  have hn := ho.1
  rw [e_f_Poi_isAnyAt]
  have stp : ∀ k : Nat, k < np → l_Poi_isAnyAt_2 i p k G = if pco pt k = p then rI 1 G else l_Poi_isAnyAt_2 i p ((k + 1 : Nat) : Int) G := fun k hk => by
    have e := e_l_Poi_isAnyAt_2 i p k G
    rw [hP.1, if_pos (by omega), g_codeOf hP ho hk, bI_r, wr_sc (show k < 12 by omega) (by decide)] at e
    exact e
  have h := loop_any (l := fun (k : Nat) => l_Poi_isAnyAt_2 i p k G) (f := fun q => decide (pco pt q = p)) (rf := rI 0 G) (rt := rI 1 G) np 0 (fun k _ hk hf => by rw [stp k (by omega), if_pos (of_decide_eq_true hf)]) (fun k _ hk hf => by rw [stp k (by omega), if_neg (of_decide_eq_false hf)]) (by
    have e := e_l_Poi_isAnyAt_2 i p ((0 + np : Nat) : Int) G
    rw [hP.1, if_neg (by omega)] at e
    exact e)
  refine h.trans ?_
  unfold atO
  cases anyB 0 np (fun q => decide (pco pt q = p)) <;> rfl
theorem g_isTaken (hs : okM s) (h : ShC G i s) {p : Int} (hp : isC p) : f_She_isTaken i p G = rI (b2i (tkO s p)) G := by
  rw [e_f_She_isTaken, g_isAnyAt h.2.1 hs.2.2.2.2.1, bI_r]
  unfold tkO
  cases atO (mNp s) (mPt s) p with
  | true => rfl
  | false =>
    rw [if_pos (show b2i false = 0 from rfl), g_lineOver h.1 hs.2.1 hp, bI_r]
    have hf := fir_any (f := ovL (mSz s) (mCd s) p) (n := mNl s)
    cases ha : anyB 0 (mNl s) (ovL (mSz s) (mCd s) p) with
    | true =>
      rw [if_neg (fun z => by rw [hf.mp z] at ha; cases ha)]
      rfl
    | false =>
      rw [if_pos (hf.mpr ha)]
      rfl
end ADDP
