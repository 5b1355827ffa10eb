/-! ===== the share of labels that are placed ===== -/
theorem bUshr_nat {m k : Nat} (hm : m < 2147483648) (hk : k < 31) : bUshr (m : Int) (k : Int) = ((m / 2 ^ k : Nat) : Int) := by
  have key : ((List.range 31).all fun j => decide ((((Int32.ofInt (j : Int)).toUInt32 &&& Int32.toUInt32 31).toBitVec % 32).toNat = j)) = true := by decide +kernel
  have e := of_decide_eq_true (List.all_eq_true.mp key k (List.mem_range.mpr hk))
  have h1 : m / 2 ^ k ≤ m := Nat.div_le_self _ _
  have e2 : BitVec.ofNat 32 m >>> k = BitVec.ofNat 32 (m / 2 ^ k) := by
    apply BitVec.eq_of_toNat_eq
    rw [BitVec.toNat_ushiftRight, BitVec.toNat_ofNat, BitVec.toNat_ofNat, Nat.mod_eq_of_lt (by omega), Nat.mod_eq_of_lt (by omega), Nat.shiftRight_eq_div_pow]
  show ((Int32.ofInt (m : Int)).toUInt32 >>> ((Int32.ofInt (k : Int)).toUInt32 &&& Int32.toUInt32 31)).toBitVec.toInt = _
  rw [UInt32.toBitVec_shiftRight, BitVec.ushiftRight_eq', e]
  show ((Int32.ofInt (m : Int)).toBitVec >>> k).toInt = _
  rw [i32_nat, e2, bv_int (by omega)]
def pc1 (x : Nat) : Nat := x - (x / 2 &&& 1431655765)
def pc2 (x : Nat) : Nat := (x &&& 858993459) + (x / 4 &&& 858993459)
def pc3 (x : Nat) : Nat := (x + x / 16) &&& 252645135
def pc4 (x : Nat) : Nat := x + x / 256
def pc5 (x : Nat) : Nat := (x + x / 65536) &&& 63
def popN (x : Nat) : Nat := pc5 (pc4 (pc3 (pc2 (pc1 x))))
theorem p1_e {x : Nat} (h : x < 1000000) : wr ((x : Int) - bAnd (bUshr (x : Int) 1) 1431655765) = (pc1 x : Int) ∧ pc1 x ≤ x := by
  have a : bUshr (x : Int) 1 = ((x / 2 : Nat) : Int) := bUshr_nat (k := 1) (by omega) (by decide)
  have b : bAnd ((x / 2 : Nat) : Int) 1431655765 = ((x / 2 &&& 1431655765 : Nat) : Int) := bAnd_nat (n := 1431655765) (by omega) (by decide)
  have c : x / 2 &&& 1431655765 ≤ x / 2 := Nat.and_le_left
  rw [a, b]
  unfold pc1
  generalize x / 2 &&& 1431655765 = z at c ⊢
  rw [wr_id (by omega) (by omega)]
  omega
theorem p2_e {x : Nat} (h : x < 1000000) : wr (bAnd (x : Int) 858993459 + bAnd (bUshr (x : Int) 2) 858993459) = (pc2 x : Int) ∧ pc2 x ≤ 2 * x := by
  have a : bUshr (x : Int) 2 = ((x / 4 : Nat) : Int) := bUshr_nat (k := 2) (by omega) (by decide)
  have b : bAnd ((x / 4 : Nat) : Int) 858993459 = ((x / 4 &&& 858993459 : Nat) : Int) := bAnd_nat (n := 858993459) (by omega) (by decide)
  have b2 : bAnd (x : Int) 858993459 = ((x &&& 858993459 : Nat) : Int) := bAnd_nat (n := 858993459) (by omega) (by decide)
  have c : x / 4 &&& 858993459 ≤ x / 4 := Nat.and_le_left
  have c2 : x &&& 858993459 ≤ x := Nat.and_le_left
  rw [a, b, b2]
  unfold pc2
  generalize x / 4 &&& 858993459 = z at c ⊢
  generalize x &&& 858993459 = y at c2 ⊢
  rw [wr_id (by omega) (by omega)]
  omega
theorem p3_e {x : Nat} (h : x < 10000000) : bAnd (wr ((x : Int) + bUshr (x : Int) 4)) 252645135 = (pc3 x : Int) ∧ pc3 x ≤ 2 * x := by
  have a : bUshr (x : Int) 4 = ((x / 16 : Nat) : Int) := bUshr_nat (k := 4) (by omega) (by decide)
  have w : wr ((x : Int) + ((x / 16 : Nat) : Int)) = ((x + x / 16 : Nat) : Int) := by rw [wr_id (by omega) (by omega)]; omega
  have b : bAnd ((x + x / 16 : Nat) : Int) 252645135 = ((x + x / 16 &&& 252645135 : Nat) : Int) := bAnd_nat (n := 252645135) (by omega) (by decide)
  have c : x + x / 16 &&& 252645135 ≤ x + x / 16 := Nat.and_le_left
  rw [a, w, b]
  unfold pc3
  exact ⟨rfl, by omega⟩
theorem p4_e {x : Nat} (h : x < 100000000) : wr ((x : Int) + bUshr (x : Int) 8) = (pc4 x : Int) ∧ pc4 x ≤ 2 * x := by
  have a : bUshr (x : Int) 8 = ((x / 256 : Nat) : Int) := bUshr_nat (k := 8) (by omega) (by decide)
  rw [a]
  unfold pc4
  rw [wr_id (by omega) (by omega)]
  omega
theorem p5_e {x : Nat} (h : x < 100000000) : bAnd (wr ((x : Int) + bUshr (x : Int) 16)) 63 = (pc5 x : Int) := by
  have a : bUshr (x : Int) 16 = ((x / 65536 : Nat) : Int) := bUshr_nat (k := 16) (by omega) (by decide)
  have w : wr ((x : Int) + ((x / 65536 : Nat) : Int)) = ((x + x / 65536 : Nat) : Int) := by rw [wr_id (by omega) (by omega)]; omega
  have b : bAnd ((x + x / 65536 : Nat) : Int) 63 = ((x + x / 65536 &&& 63 : Nat) : Int) := bAnd_nat (n := 63) (by omega) (by decide)
  rw [a, w, b]
  rfl
theorem g_bitCount {x : Nat} (h : x < 4096) (G : GG) : f_Itg_bitCount x G = rI (popN x) G := by
  have h1 := p1_e (x := x) (by omega)
  have h2 := p2_e (x := pc1 x) (by omega)
  have h3 := p3_e (x := pc2 (pc1 x)) (by omega)
  have h4 := p4_e (x := pc3 (pc2 (pc1 x))) (by omega)
  have h5 := p5_e (x := pc4 (pc3 (pc2 (pc1 x)))) (by omega)
  rw [e_f_Itg_bitCount, h1.1, h2.1, h3.1, h4.1, h5]
  rfl
def bitsO : Nat → Nat → Option Nat
  | 0, _ => none
  | f + 1, m => bif Nat.beq m 0 then some 0 else (bitsO f (m &&& (m - 1))).map (· + 1)
def bitsK (m : Nat) : Bool := match bitsO 13 m with
  | some c => Nat.beq c (popN m) && (Nat.ble c 12 && (Nat.beq c 0 == Nat.beq m 0))
  | none => false
theorem bk_0 : ((List.range 512).all fun n => bitsK (n + 0)) = true := by decide +kernel
theorem bk_1 : ((List.range 512).all fun n => bitsK (n + 512)) = true := by decide +kernel
theorem bk_2 : ((List.range 512).all fun n => bitsK (n + 1024)) = true := by decide +kernel
theorem bk_3 : ((List.range 512).all fun n => bitsK (n + 1536)) = true := by decide +kernel
theorem bk_4 : ((List.range 512).all fun n => bitsK (n + 2048)) = true := by decide +kernel
theorem bk_5 : ((List.range 512).all fun n => bitsK (n + 2560)) = true := by decide +kernel
theorem bk_6 : ((List.range 512).all fun n => bitsK (n + 3072)) = true := by decide +kernel
theorem bk_7 : ((List.range 512).all fun n => bitsK (n + 3584)) = true := by decide +kernel
theorem bk_at {a : Nat} (h : ((List.range 512).all fun n => bitsK (n + a)) = true) {m : Nat} (h1 : a ≤ m) (h2 : m < a + 512) : bitsK m = true := by
  have h3 := List.all_eq_true.mp h (m - a) (List.mem_range.mpr (by omega))
  rw [show m - a + a = m by omega] at h3
  exact h3
theorem bk_all {m : Nat} (h : m < 4096) : bitsK m = true := by
  by_cases c4 : m < 2048
  · by_cases c2 : m < 1024
    · by_cases c1 : m < 512
      · exact bk_at bk_0 (by omega) (by omega)
      · exact bk_at bk_1 (by omega) (by omega)
    · by_cases c1 : m < 1536
      · exact bk_at bk_2 (by omega) (by omega)
      · exact bk_at bk_3 (by omega) (by omega)
  · by_cases c2 : m < 3072
    · by_cases c1 : m < 2560
      · exact bk_at bk_4 (by omega) (by omega)
      · exact bk_at bk_5 (by omega) (by omega)
    · by_cases c1 : m < 3584
      · exact bk_at bk_6 (by omega) (by omega)
      · exact bk_at bk_7 (by omega) (by omega)
theorem bits_of {m : Nat} (h : m < 4096) : bitsO 13 m = some (popN m) ∧ popN m ≤ 12 ∧ (popN m = 0 ↔ m = 0) := by
  have h1 := bk_all h
  unfold bitsK at h1
  cases hb : bitsO 13 m with
  | none =>
    rw [hb] at h1
    cases h1
  | some c =>
    rw [hb] at h1
    simp only [Bool.and_eq_true, beq_iff_eq] at h1
    obtain ⟨h2, h3, h4⟩ := h1
    have h2 := Nat.eq_of_beq_eq_true h2
    subst h2
    refine ⟨rfl, Nat.le_of_ble_eq_true h3, ?_⟩
    constructor
    · intro z
      rw [z] at h4
      exact Nat.eq_of_beq_eq_true h4.symm
    · intro z
      rw [z] at h4 ⊢
      rfl
theorem r_bits {G : GG} : ∀ (f m n c : Nat), bitsO f m = some c → m < 4096 → n + f ≤ 100 → l_Mod_bits_4 n m G = rI ((n + c : Nat) : Int) G
  | 0, m, n, c, h, hm, hn => by cases h
  | f + 1, m, n, c, h, hm, hn => by
    have e := e_l_Mod_bits_4 n m G
    by_cases q : m = 0
    · rw [if_pos (by omega)] at e
      rw [q] at h
      have hc : c = 0 := (Option.some.inj h).symm
      rw [hc]
      exact e
    · have h2 : (bif Nat.beq m 0 then some 0 else (bitsO f (m &&& (m - 1))).map (· + 1)) = some c := h
      have h3 : Nat.beq m 0 = false := by
        cases hq : Nat.beq m 0 with
        | false => rfl
        | true => exact absurd (Nat.eq_of_beq_eq_true hq) q
      rw [h3] at h2
      have h2 : (bitsO f (m &&& (m - 1))).map (· + 1) = some c := h2
      have hle : m &&& (m - 1) ≤ m := Nat.and_le_left
      have a1 : wr ((m : Int) - 1) = ((m - 1 : Nat) : Int) := by rw [wr_id (by omega) (by omega)]; omega
      have a2 : bAnd (m : Int) ((m - 1 : Nat) : Int) = ((m &&& (m - 1) : Nat) : Int) := bAnd_nat (by omega) (by omega)
      cases hb : bitsO f (m &&& (m - 1)) with
      | none =>
        rw [hb] at h2
        cases h2
      | some c2 =>
        rw [hb] at h2
        have hc : c2 + 1 = c := Option.some.inj h2
        rw [if_neg (by omega), a1, a2, wr_sc (show n < 100 by omega) (by decide), r_bits f _ (n + 1) c2 hb (by omega) (by omega)] at e
        rw [e, ← hc, show n + 1 + c2 = n + (c2 + 1) by omega]
theorem r_bitsAll {m : Nat} (h : m < 4096) (G : GG) : f_Mod_bits m G = rI (popN m) G := by
  have h1 := r_bits (G := G) 13 m 0 (popN m) (bits_of h).1 h (by decide)
  rw [Nat.zero_add] at h1
  rw [e_f_Mod_bits]
  exact h1
/-- the shares that there are -/
def shK (c n : Nat) : Bool := decide (FP.ddiv (dOf (c : Int)) (dOf (n : Int)) &&& 0x7fffffffffffffff ≤ 0x7ff0000000000000) && decide (dCmp (FP.ddiv (dOf (c : Int)) (dOf (n : Int))) (FP.ddiv (dOf (c : Int)) (dOf (n : Int))) .l = 0)
theorem sh_all : ((List.range 13).all fun c => (List.range 12).all fun n => shK c (n + 1)) = true := by decide +kernel
theorem sh_ok {c n : Nat} (hc : c ≤ 12) (hn : 1 ≤ n ∧ n ≤ 12) : (FP.ddiv (dOf (c : Int)) (dOf (n : Int)) &&& 0x7fffffffffffffff ≤ 0x7ff0000000000000) ∧ dCmp (FP.ddiv (dOf (c : Int)) (dOf (n : Int))) (FP.ddiv (dOf (c : Int)) (dOf (n : Int))) .l = 0 := by
  have h1 := List.all_eq_true.mp sh_all c (List.mem_range.mpr (by omega))
  have h2 := List.all_eq_true.mp h1 (n - 1) (List.mem_range.mpr (by omega))
  rw [show n - 1 + 1 = n by omega] at h2
  unfold shK at h2
  rw [Bool.and_eq_true] at h2
  exact ⟨of_decide_eq_true h2.1, of_decide_eq_true h2.2⟩
section SHARE
variable {s : Nat → Int} {G : GG}
theorem q_placedShare (hs : okM s) (hS : ShC G 0 s) (hC : CC G s) (x1 : Int) : ∃ (k : Int) (d : UInt64), (∃ G', f_Law_placedShare x1 G = rI k G' ∧ (k = 0 → G' 43 0 0 = dInt d ∧ dCmp d d .l = 0) ∧ CC G' s ∧ Fr FQ2 G G' ∧ G' 48 0 0 ≤ G 48 0 0 + 1) ∧
    ∀ G1, RoR G1 26 s → RC G1 s → ∃ G' b, f_Mod_placedShare x1 G1 = rD b G' ∧ G' 25 0 6 = k ∧ (k = 0 → b = d) ∧ RC G' s ∧ Fr FRq G1 G' ∧ ∀ z : Int, z ≠ 6 → z ≠ 11 → z ≠ 25 → G' 25 0 z = G1 25 0 z := by
  have hn := hs.2.2.2.2.1.1
  by_cases h1 : 0 ≤ x1 ∧ x1 ≤ 4
  · obtain ⟨L, rfl⟩ : ∃ L : Nat, x1 = (L : Int) := ⟨x1.toNat, by omega⟩
    have Lb : L < 5 := by omega
    have hsw : swO s L < 4096 := setO_lt (B := 12) (mNp s) 0 0 (by omega) (by decide)
    obtain ⟨b1, b2, b3⟩ := bits_of hsw
    have eS : f_Map_shown (L : Int) G = rI (swO s L) G := by
      rw [e_f_Map_shown, g_level_t h1]
      exact g_shown hs hS Lb
    have e := e_f_Map_placedShare (L : Int) G
    rw [g_level_t h1] at e
    simp only [bV_r] at e
    rw [eS] at e
    simp only [bI_r] at e
    rw [g_bitCount hsw] at e
    simp only [bI_r] at e
    by_cases h2 : swO s L = 0
    · have h3 : popN (swO s L) = 0 := b3.mpr h2
      rw [if_pos (by omega)] at e
      refine ⟨2, 0, ⟨bump G, ?_, fun z => absurd z (by decide), hC.fr (fun t i k ht => bump_t (by omega) i k), Fr.up _ _ _ (Or.inr (Or.inr (Or.inr rfl))), ?_⟩, fun G1 hR1 hC1 => ⟨up G1 25 0 6 2, FP.dconst0, ?_, up_at _ _ _ _ _, fun z => absurd z (by decide), hC1.up6 2, Fr.up _ _ _ (Or.inl rfl), fun z h6 _ _ => up_k h6⟩⟩
      · rw [e_f_Law_placedShare, e]
        rfl
      · rw [bump_48]
        exact Int.le_refl _
      · have h4 : ((swO s L : Nat) : Int) = 0 := by omega
        simp only [e_f_Mod_placedShare, r_level_t h1, r_shown hs hR1 Lb, h4, bI_r, ↓reduceIte, up_at, i01, i02, i03]
    · have h3 : ¬(popN (swO s L) = 0) := fun z => h2 (b3.mp z)
      have h4 : ¬(((swO s L : Nat) : Int) = 0) := by omega
      have hcn := sumB_bd (f := fun q => if plM s L q = -1 then 0 else 1) (m := 1) (mNp s) 0 (fun k _ _ => by split <;> omega)
      obtain ⟨c, hc⟩ : ∃ c : Nat, (0 + sumB 0 (mNp s) fun q => if plM s L q = -1 then 0 else 1) = (c : Int) := ⟨(sumB 0 (mNp s) fun q => if plM s L q = -1 then 0 else 1).toNat, by omega⟩
      have hc12 : c ≤ 12 := by omega
      obtain ⟨s1, s2⟩ := sh_ok (c := c) (n := popN (swO s L)) hc12 ⟨by omega, b2⟩
      rw [if_neg (by omega)] at e
      obtain ⟨G2, e2, hP2, hm2, -, hL2, hC2, hF2⟩ := c_labels hs hS hC Lb
      have hS2 := hS.q (by decide) hF2
      rw [e2, bR_r, g_countPlaced hn hS2.2.1.1 hP2, hc] at e
      simp only [bI_r] at e
      rw [if_pos s1] at e
      refine ⟨0, FP.ddiv (dOf (c : Int)) (dOf (popN (swO s L) : Int)), ⟨up G2 43 0 0 (dInt (FP.ddiv (dOf (c : Int)) (dOf (popN (swO s L) : Int)))), ?_, fun _ => ⟨up_at _ _ _ _ _, s2⟩, hC2.fr (fun t i k ht => up_t (by omega)), (hF2.mono (fun t i z => Or.inl z)).trans (Fr.up _ _ _ (Or.inr (Or.inr (Or.inl rfl)))), ?_⟩, fun G1 hR1 hC1 => ?_⟩
      · rw [e_f_Law_placedShare, e]
        rfl
      · rw [up_t (by decide), hF2 48 0 0 (by unfold FQ; omega)]
        omega
      · obtain ⟨G3, e3, hC3, hR3, hF3, h25⟩ := r_placed (G := up G1 25 0 6 0) hs (hR1.fr (fun k => up_t (by decide))) (hC1.up6 0) Lb
        rw [hc] at e3
        have e4 := e_f_Mod_placedShare (L : Int) G1
        simp only [r_level_t h1, r_shown hs hR1 Lb, if_neg h4, bI_r, ↓reduceIte, up_at, i01] at e4
        rw [e3] at e4
        simp only [bI_r] at e4
        rw [r_shown hs hR3 Lb] at e4
        simp only [bI_r] at e4
        rw [r_bitsAll hsw] at e4
        simp only [bI_r] at e4
        rw [if_pos s1] at e4
        exact ⟨G3, _, e4, (h25 6 (by decide)).trans (up_at _ _ _ _ _), fun _ => rfl, hC3, (Fr.up (P := FRq) G1 6 0 (Or.inl rfl)).trans (hF3.mono (fun t i z => by unfold FWk at z; unfold FRq; omega)), fun z h6 h11 _ => (h25 z h11).trans (up_k h6)⟩
  · refine ⟨1, 0, ⟨bump G, ?_, fun z => absurd z (by decide), hC.fr (fun t i k ht => bump_t (by omega) i k), Fr.up _ _ _ (Or.inr (Or.inr (Or.inr rfl))), ?_⟩, fun G1 hR1 hC1 => ⟨up G1 25 0 6 1, FP.dconst0, ?_, up_at _ _ _ _ _, fun z => absurd z (by decide), hC1.up6 1, Fr.up _ _ _ (Or.inl rfl), fun z h6 _ _ => up_k h6⟩⟩
    · rw [e_f_Law_placedShare, e_f_Map_placedShare, g_level_f h1]
      rfl
    · rw [bump_48]
      exact Int.le_refl _
    · simp only [e_f_Mod_placedShare, r_level_f h1, bI_r, ↓reduceIte, up_at, i01]
end SHARE
