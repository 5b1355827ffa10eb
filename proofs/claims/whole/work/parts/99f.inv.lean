/-! ===== the map as one row of 296 ints; what is worked out from it ===== -/
def mNl (s : Nat → Int) : Nat := (s 0).toNat
def mSz (s : Nat → Int) : Nat → Nat := fun l => (s (1 + l)).toNat
def mCd (s : Nat → Int) : Nat → Nat → Int := fun l k => 64 * s (7 + 10 * l + k) + s (67 + 10 * l + k)
def mNp (s : Nat → Int) : Nat := (s 127).toNat
def mPt (s : Nat → Int) : Nat → Nat → Int := fun p j => s (128 + 6 * p + j)
def mOw (s : Nat → Int) : Nat → Int := fun f => s (200 + f)
def mKd (s : Nat → Int) : Int → Int := fun p => s (264 + p.toNat)
def mSt (s : Nat → Int) : Nat → Int := fun j => s (280 + j)
def okM (s : Nat → Int) : Prop := 0 ≤ s 0 ∧ okLn (mNl s) (mSz s) (mCd s) ∧ (∀ l : Nat, l < mNl s → ∀ k : Nat, k < mSz s l → (0 ≤ s (7 + 10 * l + k) ∧ s (7 + 10 * l + k) < 64) ∧ (0 ≤ s (67 + 10 * l + k) ∧ s (67 + 10 * l + k) < 64)) ∧ 0 ≤ s 127 ∧ okPt (mNp s) (mPt s) ∧ okO (mOw s) ∧ (∀ p : Nat, p < 16 → 0 ≤ s (264 + p) ∧ s (264 + p) ≤ 3) ∧ okSt (mSt s) ∧ (s 295 = 0 ∨ s 295 = 1)
def lvM (s : Nat → Int) : Nat → LV := lvV (mNl s) (mSz s) (mCd s) (mNp s) (mPt s) (mSt s)
def owM (s : Nat → Int) : Nat → Nat → Int := ownLv (mKd s) (s 295) (mSt s) (mOw s)
def bcM (s : Nat → Int) : Nat → Nat → Int := bcLv (mKd s) (s 295) (mSt s) (mOw s)
def lrM (s : Nat → Int) (L : Nat) : Int := mSt s (3 * L + 2)
def PLm (s : Nat → Int) (L : Nat) (pl : Nat → Int) : Prop := PLk (mNp s) (mPt s) (lrM s L) (mNl s) (lvM s L).1 (cdM (mCd s) (lvM s L).2) (fun q => shO (mPt s) (lrM s L) q = true) pl
noncomputable def plM (s : Nat → Int) (L : Nat) : Nat → Int := Classical.epsilon (PLm s L)
section INV
variable {s : Nat → Int} {G G' : GG}
theorem plM_of {L : Nat} {pl : Nat → Int} (hs : okM s) (h : PLm s L pl) : PLm s L (plM s L) ∧ ∀ q : Nat, q < mNp s → pl q = plM s L q := by
  have h1 : PLm s L (plM s L) := Classical.epsilon_spec ⟨pl, h⟩
  refine ⟨h1, fun q hq => PLk_uniq hs.2.2.2.2.1 h h1 200 q hq ?_⟩
  have h2 := hs.2.2.2.2.1.1
  have h3 := (hs.2.2.2.2.1.2 q hq).2.2.1
  unfold kyO
  omega
theorem plM_ok {L : Nat} (h : PLm s L (plM s L)) : okPl (mNp s) (mPt s) (lrM s L) (plM s L) := PLk.ok h (fun q hq z => z)
theorem mNl_c (hs : okM s) : s 0 = (mNl s : Int) := by unfold mNl; have := hs.1; omega
theorem mNp_c (hs : okM s) : s 127 = (mNp s : Int) := by unfold mNp; have := hs.2.2.2.1; omega
theorem mSz_c (hs : okM s) {l : Nat} (hl : l < mNl s) : s (1 + l) = (mSz s l : Int) := by
  have h := (hs.2.1.2 l hl).1
  unfold mSz at h ⊢
  omega
/-- a sheet holds the map s -/
def ShC (G : GG) (i : Int) (s : Nat → Int) : Prop := LnC G i (mNl s) (mSz s) (mCd s) ∧ PtC G i (mNp s) (mPt s) ∧ OwC G i (mOw s) ∧ (∀ p : Nat, p < 16 → G 11 i p = s (264 + p)) ∧ StC G i (mSt s) ∧ G 1 i 5 = s 295
/-- a row of the reference holds the map s -/
def RoR (G : GG) (t : Nat) (s : Nat → Int) : Prop := ∀ k : Nat, k < 296 → G t 0 k = s k
def PaR (G : GG) (j : Nat) (s : Nat → Int) : Prop := ∀ k : Nat, k < 296 → G 29 0 (296 * (j : Int) + k) = s k
theorem RoR.at {t : Nat} (h : RoR G t s) {z : Int} (k : Nat) (hk : k < 296) (hz : z = (k : Int)) : G t 0 z = s k := by rw [hz]; exact h k hk
theorem RoR.nl (h : RoR G 26 s) (hs : okM s) : G 26 0 0 = (mNl s : Int) := (h 0 (by decide)).trans (mNl_c hs)
theorem RoR.np (h : RoR G 26 s) (hs : okM s) : G 26 0 127 = (mNp s : Int) := (h 127 (by decide)).trans (mNp_c hs)
theorem RoR.ln (h : RoR G 26 s) (hs : okM s) : LnS G (mNl s) (mSz s) (mCd s) := by
  refine ⟨h.nl hs, fun l hl => ⟨(h.at (1 + l) ?_ (by omega)).trans (mSz_c hs hl), fun k hk => ?_⟩⟩
  · have := hs.2.1.1
    omega
  · have h6 := hs.2.1.1
    have h1 := (hs.2.1.2 l hl).1
    have h2 := hs.2.2.1 l hl k hk
    have e1 : G 26 0 (7 + 10 * (l : Int) + (k : Int)) = s (7 + 10 * l + k) := h.at (7 + 10 * l + k) (by omega) (by omega)
    have e2 : G 26 0 (67 + 10 * (l : Int) + (k : Int)) = s (67 + 10 * l + k) := h.at (67 + 10 * l + k) (by omega) (by omega)
    rw [e1, e2]
    unfold mCd
    omega
theorem RoR.pt (h : RoR G 26 s) (hs : okM s) : PtR G (mNp s) (mPt s) := by
  refine ⟨h.np hs, fun p hp j hj => ?_⟩
  have h6 := hs.2.2.2.2.1.1
  exact h.at (128 + 6 * p + j) (by omega) (by omega)
theorem RoR.st (h : RoR G 26 s) : StR G (mSt s) := fun j hj => h.at (280 + j) (by omega) (by omega)
theorem RoR.kd (h : RoR G 26 s) : KdR G (mKd s) := fun p hp => by
  unfold mKd
  rw [Int.toNat_natCast]
  exact h.at (264 + p) (by omega) (by omega)
theorem ShC.kd (h : ShC G 0 s) : KdC G (mKd s) := fun p hp => by
  unfold mKd
  rw [Int.toNat_natCast]
  exact h.2.2.2.1 p hp
theorem RoR.ow (h : RoR G 26 s) : ∀ f : Nat, f < 64 → G 26 0 (200 + (f : Int)) = mOw s f := fun f hf => h.at (200 + f) (by omega) (by omega)
theorem RoR.fr {t : Nat} (h : RoR G t s) (h1 : ∀ k, G' t 0 k = G t 0 k) : RoR G' t s := fun k hk => (h1 _).trans (h k hk)
theorem ShC.fr {i : Int} (h : ShC G i s) (h1 : ∀ t k, (1 ≤ t ∧ t ≤ 8) ∨ t = 11 ∨ t = 12 → G' t i k = G t i k) : ShC G' i s :=
  ⟨h.1.fr (h1 2 _ (by omega)) (fun k => h1 3 k (by omega)) (fun k => h1 4 k (by omega)), h.2.1.fr (h1 5 _ (by omega)) (fun k => h1 6 k (by omega)), fun f hf => (h1 8 _ (by omega)).trans (h.2.2.1 f hf), fun p hp => (h1 11 _ (by omega)).trans (h.2.2.2.1 p hp), fun j hj => (h1 12 _ (by omega)).trans (h.2.2.2.2.1 j hj), (h1 1 5 (by omega)).trans h.2.2.2.2.2⟩
/-- what a question may write: made levels, scratch rows, answers -/
def FQ (t : Nat) (i : Int) : Prop := (11 ≤ i ∧ (t = 2 ∨ t = 3 ∨ t = 4 ∨ t = 8)) ∨ t = 9 ∨ t = 10 ∨ t = 15 ∨ t = 19 ∨ t = 20 ∨ t = 24
theorem ShC.q {i : Int} (h : ShC G i s) (hi : i < 11) (hF : Fr FQ G G') : ShC G' i s := h.fr (fun t k ht => hF t i k (by unfold FQ; omega))
/-- the made levels are right -/
def CC (G : GG) (s : Nat → Int) : Prop := ∃ m : Nat, CLn G (mNl s) (mCd s) (lvM s) m ∧ (∃ m2 : Nat, CPa G (owM s) m2) ∧ ∃ b : Nat, G 15 0 6 = (b : Int) ∧ b < 4096 ∧ ∀ L : Nat, L < 5 → b.testBit L = true → L < m ∧ PlC G L (mNp s) (plM s L) ∧ PLm s L (plM s L) ∧ G 19 L 3 = lrM s L
theorem CLn.fr {nl : Nat} {cd0 : Nat → Nat → Int} {Ls : Nat → LV} {m : Nat} (h : CLn G nl cd0 Ls m) (h1 : G' 15 0 4 = G 15 0 4) (h2 : ∀ t i k, t = 2 ∨ t = 3 ∨ t = 4 → G' t i k = G t i k) : CLn G' nl cd0 Ls m :=
  ⟨h1.trans h.1, h.2.1, h.2.2.1, fun L hL => (h.2.2.2 L hL).fr (h2 2 _ _ (by omega)) (fun k => h2 3 _ k (by omega)) (fun k => h2 4 _ k (by omega))⟩
theorem CPa.fr {ow : Nat → Nat → Int} {m : Nat} (h : CPa G ow m) (h1 : G' 15 0 5 = G 15 0 5) (h2 : ∀ i k, G' 8 i k = G 8 i k) : CPa G' ow m :=
  ⟨h1.trans h.1, h.2.1, h.2.2.1, fun L hL f hf => (h2 _ _).trans (h.2.2.2 L hL f hf)⟩
theorem CC.fr (h : CC G s) (h1 : ∀ t i k, t = 2 ∨ t = 3 ∨ t = 4 ∨ t = 8 ∨ t = 15 ∨ t = 19 ∨ t = 20 → G' t i k = G t i k) : CC G' s := by
  obtain ⟨m, h2, ⟨m2, h3⟩, b, h4, h5, h6⟩ := h
  refine ⟨m, h2.fr (h1 _ _ _ (by omega)) (fun t i k ht => h1 _ _ _ (by omega)), ⟨m2, h3.fr (h1 _ _ _ (by omega)) (fun i k => h1 _ _ _ (by omega))⟩, b, (h1 _ _ _ (by omega)).trans h4, h5, fun L hL hb => ?_⟩
  obtain ⟨q1, q2, q3, q4⟩ := h6 L hL hb
  exact ⟨q1, fun q hq => (h1 _ _ _ (by omega)).trans (q2 q hq), q3, (h1 _ _ _ (by omega)).trans q4⟩
/-- levels below n are known to the reference -/
def RKn (G : GG) (s : Nat → Int) (n : Nat) : Prop := ∀ M : Nat, M < n → RLv G M (mNl s) (lvM s M) ∧ OwR G M (owM s M) ∧ BcR G M (bcM s M) ∧ PlR G M (mNp s) (plM s M) ∧ PLm s M (plM s M)
theorem RKn.fr {n : Nat} (h : RKn G s n) (h1 : ∀ t k, t = 34 ∨ t = 35 ∨ t = 36 ∨ t = 37 ∨ t = 38 → G' t 0 k = G t 0 k) : RKn G' s n := fun M hM => by
  obtain ⟨q1, q2, q3, q4, q5⟩ := h M hM
  exact ⟨q1.fr (fun k => h1 _ _ (by omega)) (fun k => h1 _ _ (by omega)), fun f hf => (h1 _ _ (by omega)).trans (q2 f hf), fun p hp => (h1 _ _ (by omega)).trans (q3 p hp), fun q hq => (h1 _ _ (by omega)).trans (q4 q hq), q5⟩
def RC (G : GG) (s : Nat → Int) : Prop := G 25 0 11 = 0 ∨ RKn G s 5
end INV
