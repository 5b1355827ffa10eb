/-! ===== read: a line that is one too many; a line added ===== -/
section SE9
variable {s : Nat → Int} {G : GG} {n M : Nat} {V : Nat → Int}
theorem jg_all {np : Nat} {pt : Nat → Nat → Int} {sz : Nat → Nat} {cd : Nat → Nat → Int} : anyB 0 6 (fun l => jgB np pt 6 sz cd l n V) = ((samB n V || twB n V) || (meB 6 sz cd n V || poB np pt n V)) := by
  unfold jgB
  cases hA : (samB n V || twB n V) with
  | true => rfl
  | false =>
    cases hP : poB np pt n V with
    | true =>
      rw [Bool.or_true]
      exact anyB_true.mpr ⟨0, Nat.le_refl 0, by decide, by rw [Bool.or_true]; rfl⟩
    | false =>
      rw [Bool.or_false, Bool.false_or]
      have h1 : (anyB 0 6 fun l => false || (anyB 0 6 (moO sz cd l n V) || false)) = anyB 0 6 fun l => anyB 0 6 (moO sz cd l n V) := anyB_congr 6 0 (fun l _ _ => by rw [Bool.or_false, Bool.false_or])
      rw [h1]
      have h2 : meB 6 sz cd n V = anyB 0 6 fun o => anyB 0 (n - 1) fun i => anyB 0 (sz o - 1) fun k => mtS (V i) (V (i + 1)) (cd o k) (cd o (k + 1)) := anyB_swap
      rw [h2]
      have h3 : (anyB 0 6 fun l => anyB 0 6 (moO sz cd l n V)) = true ↔ (anyB 0 6 fun o => anyB 0 (n - 1) fun i => anyB 0 (sz o - 1) fun k => mtS (V i) (V (i + 1)) (cd o k) (cd o (k + 1))) = true := by
        rw [anyB_true, anyB_true]
        constructor
        · rintro ⟨l, a1, a2, a3⟩
          obtain ⟨o, b1, b2, b3⟩ := anyB_true.mp a3
          unfold moO at b3
          rw [Bool.and_eq_true] at b3
          exact ⟨o, b1, b2, b3.2⟩
        · rintro ⟨o, b1, b2, b3⟩
          refine ⟨if o = 0 then 1 else 0, Nat.zero_le _, ?_, anyB_true.mpr ⟨o, b1, b2, ?_⟩⟩
          · by_cases c : o = 0
            · rw [if_pos c]
              decide
            · rw [if_neg c]
              decide
          · unfold moO
            rw [Bool.and_eq_true]
            refine ⟨decide_eq_true ?_, b3⟩
            by_cases c : o = 0
            · rw [if_pos c]
              omega
            · rw [if_neg c]
              exact c
      exact Bool.eq_iff_iff.mpr h3
theorem r_sev (hs : okM s) (h6 : mNl s = 6) (hn : 2 ≤ n ∧ n ≤ 10) (hV : ∀ k : Nat, k < n → isC (V k)) (hM : M + 2 + 2 * n ≤ 240) : ∀ (d l : Nat) (G : GG), l + d = 6 → RoR G 26 s → G 40 0 (M : Int) = (n : Int) → CdE G M n V →
    ∃ G1, l_Mod_seventh_4 M 3 l G = rI (if anyB l d (fun l => jgB (mNp s) (mPt s) 6 (mSz s) (mCd s) l n V) = true then 2 else 3) G1 ∧ Fr FT G G1
  | 0, l, G, hl, hR, hk, hc => by
    have e := e_l_Mod_seventh_4 M 3 (l : Int) G
    have c1 : ¬ (l : Int) < 6 := by omega
    rw [if_neg c1] at e
    exact ⟨G, e, Fr.refl G⟩
  | d + 1, l, G, hl, hR, hk, hc => by
    have e := e_l_Mod_seventh_4 M 3 (l : Int) G
    have hl6 : l < 6 := by omega
    have c1 : (l : Int) < 6 := by omega
    have c2 : 0 ≤ (M : Int) ∧ (M : Int) < 240 := by omega
    have c3 : 0 ≤ (l : Int) ∧ (l : Int) < 6 := by omega
    obtain ⟨G1, e1, hL, hF1⟩ := r_takesMap hs hR
    have n40 : ∀ z, G1 40 0 z = G 40 0 z := fun z => hF1 40 0 z (by unfold FT; omega)
    rw [if_pos c1, if_pos rfl, e1, bV_r, if_pos c2, if_pos c3, n40, hk] at e
    obtain ⟨G2, e2, hI⟩ := row_seventh (G := up G1 30 0 (l : Int) n) hl6 hn.2 hM (hc.fr (fun z => (up_t (by decide)).trans (n40 z)))
    have hF2 : Fr FT G G2 := (hF1.trans (Fr.up _ _ _ ⟨Or.inl rfl, rfl⟩)).trans (hI.2.1.mono (fun t i z => ⟨Or.inr z.1, z.2⟩))
    have hR2 : RoR G2 26 s := hR.fr (fun z => hF2 26 0 z (by unfold FT; omega))
    have hrow := hI.row hl6 hn.2 (up_at _ _ _ _ _) hV
    have hoth : ∀ o : Nat, o < 6 → o ≠ l → RowQ G2 o (mSz s o) (mCd s o) ∧ (2 ≤ mSz s o ∧ mSz s o ≤ 10) ∧ ∀ k : Nat, k + 1 < mSz s o → mCd s o k ≠ mCd s o (k + 1) := fun o ho hne => by
      have ho2 : o < mNl s := by omega
      obtain ⟨a1, a2, a3⟩ := hs.2.1.2 o ho2
      refine ⟨hI.oth hne a1.2 ⟨(up_k (by omega)).trans (hL.2 o ho2).1, fun k hk => ?_⟩, a1, fun k hk => a3 k (k + 1) (Nat.lt_succ_self k) hk⟩
      obtain ⟨b1, b2, b3, b4, b5⟩ := (hL.2 o ho2).2 k hk
      exact ⟨b1, b2, b3, (up_t (by decide)).trans b4, (up_t (by decide)).trans b5⟩
    have e3 := e_l_Mod_seventh_38 M l n (n : Int) G2
    have c7 : ¬ (n : Int) < (n : Int) := by omega
    rw [if_neg c7, w_at1 (by omega)] at e3
    have hj := r_judge (many := 6) (NO := fun G3 => l_Mod_seventh_4 M 2 ((l + 1 : Nat) : Int) G3) (YES := fun G7 => l_Mod_seventh_4 M 3 ((l + 1 : Nat) : Int) G7) hrow hl6 hn (Nat.le_refl 6) hoth (hR2.pt hs) hs.2.2.2.2.1
    have e4 := e.trans (e2.trans (e3.trans hj))
    rw [e4]
    have hbe : anyB l (d + 1) (fun l => jgB (mNp s) (mPt s) 6 (mSz s) (mCd s) l n V) = (jgB (mNp s) (mPt s) 6 (mSz s) (mCd s) l n V || anyB (l + 1) d (fun l => jgB (mNp s) (mPt s) 6 (mSz s) (mCd s) l n V)) := rfl
    rw [hbe]
    cases q : jgB (mNp s) (mPt s) 6 (mSz s) (mCd s) l n V with
    | true =>
      have e5 := e_l_Mod_seventh_4 M 2 ((l + 1 : Nat) : Int) G2
      refine ⟨G2, ?_, hF2⟩
      rw [if_pos rfl, Bool.true_or, if_pos rfl, e5]
      by_cases c : ((l + 1 : Nat) : Int) < 6
      · rw [if_pos c, if_neg (by decide)]
      · rw [if_neg c]
    | false =>
      rw [if_neg nfT, Bool.false_or]
      obtain ⟨G3, e6, hF3⟩ := r_sev hs h6 hn hV hM d (l + 1) G2 (by omega) hR2 ((hF2 40 0 _ (by unfold FT; omega)).trans hk) (hc.fr (fun z => hF2 40 0 z (by unfold FT; omega)))
      exact ⟨G3, e6, hF2.trans hF3⟩
theorem r_addsLine (hs : okM s) (hR : RoR G 26 s) (hn : 2 ≤ n ∧ n ≤ 10) (hV : ∀ k : Nat, k < n → isC (V k)) (hM : M + 2 + 2 * n ≤ 240) (hk : G 40 0 (M : Int) = (n : Int)) (hc : CdE G M n V) :
    ∃ G1, f_Mod_addsLine M G = rI (if wrL s n V = true then 2 else if mNl s < 6 then 0 else 3) G1 ∧ RoR G1 26 (if wrL s n V = true then s else if mNl s < 6 then alS s n V else s) ∧ Fr FAl G G1 := by
  have e := e_f_Mod_addsLine M G
  have c2 : 0 ≤ (M : Int) ∧ (M : Int) < 240 := by omega
  obtain ⟨G1, e1, hL, hF1⟩ := r_takesMap hs hR
  have hFA : Fr FAl G G1 := hF1.mono (fun t i z => by unfold FT at z; unfold FAl; omega)
  have n40 : ∀ z, G1 40 0 z = G 40 0 z := fun z => hF1 40 0 z (by unfold FT; omega)
  have hR1 : RoR G1 26 s := hR.fr (fun z => hF1 26 0 z (by unfold FT; omega))
  have hN : G 26 0 0 = (mNl s : Int) := hR.nl hs
  have h6 := hs.2.1.1
  rw [if_pos c2, e1, bV_r, hN] at e
  by_cases c : mNl s < 6
  · have c1 : ¬ (mNl s : Int) = 6 := by omega
    have w : wr ((mNl s : Int) - 0) = (mNl s : Int) := w_m0 (by omega)
    obtain ⟨G2, e2, hR2, hF2⟩ := r_fits (V := V) hs hR1 hL c hn hV hM (hc.fr n40)
    rw [if_neg c1, w, hk, e2, bI_r] at e
    rw [if_pos c, if_pos c]
    exact ⟨G2, e, hR2, hFA.trans hF2⟩
  · have c1 : (mNl s : Int) = 6 := by omega
    have c9 : mNl s = 6 := by omega
    obtain ⟨G2, e2, hF2⟩ := r_sev (V := V) hs c9 hn hV hM 6 0 G1 rfl hR1 ((n40 _).trans hk) (hc.fr n40)
    have e7 : f_Mod_seventh M G1 = l_Mod_seventh_4 M 3 0 G1 := e_f_Mod_seventh M G1
    have e8 : l_Mod_seventh_4 M 3 0 G1 = l_Mod_seventh_4 M 3 ((0 : Nat) : Int) G1 := rfl
    have hw : anyB 0 6 (fun l => jgB (mNp s) (mPt s) 6 (mSz s) (mCd s) l n V) = wrL s n V := by
      rw [jg_all]
      unfold wrL
      rw [c9]
    rw [if_pos c1, e7, e8, e2, bI_r, hw] at e
    rw [if_neg c, if_neg c]
    have hsS : (if wrL s n V = true then s else s) = s := by
      cases wrL s n V <;> rfl
    rw [hsS]
    exact ⟨G2, e, hR1.fr (fun z => hF2 26 0 z (by unfold FT; omega)), hFA.trans (hF2.mono (fun t i z => by unfold FT at z; unfold FAl; omega))⟩
end SE9
