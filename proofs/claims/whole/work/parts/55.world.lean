/-! ===== the world: the cells of the small machine as the kit's lists ===== -/
abbrev i32 (x : Int) : Int32 := Int32.ofInt x
def inR (x : Int) : Prop := -2147483648 ≤ x ∧ x < 2147483648
def inJ (x : Int) : Prop := -9223372036854775808 ≤ x ∧ x < 9223372036854775808
theorem i32_toInt {x : Int} (h : inR x) : (i32 x).toInt = x := Int32.toInt_ofInt_of_le h.1 h.2
theorem i32_inj {x y : Int} (hx : inR x) (hy : inR y) (h : i32 x = i32 y) : x = y := by rw [← i32_toInt hx, ← i32_toInt hy, h]
theorem i32_of (x : Int32) : i32 x.toInt = x := Int32.ofInt_toInt x
theorem inR_toInt (x : Int32) : inR x.toInt := ⟨Int32.le_toInt x, Int32.toInt_lt x⟩
theorem i32_lt {x y : Int} (hx : inR x) (hy : inR y) : i32 x < i32 y ↔ x < y := by rw [Int32.lt_iff_toInt_lt, i32_toInt hx, i32_toInt hy]
theorem i32_le {x y : Int} (hx : inR x) (hy : inR y) : i32 x ≤ i32 y ↔ x ≤ y := by rw [Int32.le_iff_toInt_le, i32_toInt hx, i32_toInt hy]
theorem wr_inR (z : Int) : inR (wr z) := by unfold wr inR; omega
theorem wr_eq (z : Int) : ∃ k : Int, wr z = z + k * 4294967296 := ⟨-((z + 2147483648) / 4294967296), by unfold wr; have := Int.emod_add_mul_ediv (z + 2147483648) 4294967296; omega⟩
theorem i32_wr (z : Int) : i32 (wr z) = i32 z := by
  obtain ⟨k, hk⟩ := wr_eq z
  apply Int32.toBitVec_inj.mp
  rw [hk]
  simp only [i32, Int32.toBitVec_ofInt]
  apply BitVec.eq_of_toInt_eq
  simp only [BitVec.toInt_ofInt]
  exact Int.add_mul_bmod_self_right ..
theorem i32_clamp {x : Int} (h0 : 0 ≤ x) (h : inR x) : (i32 x).toNatClampNeg = x.toNat := by
  show (i32 x).toInt.toNat = x.toNat
  rw [i32_toInt h]
theorem vp_in_i32 {x n : Int} (h : inR x) : vp_in (i32 x) n.toNat ↔ 0 ≤ x ∧ x < n := by
  rw [vp_in_iff, i32_toInt h]; omega
abbrev i64 (x : Int) : Int64 := Int64.ofInt x
def cv (ad : Nat → Int → Nat) (v : AV) : Value := match v with
  | .inl x => .int (i32 x)
  | .inr (.inl (t, i)) => .ref (ad t i)
  | .inr (.inr (.inl x)) => .long (i64 x)
  | .inr (.inr (.inr x)) => .double x
theorem cv_cat (ad : Nat → Int → Nat) (v : AV) : (cv ad v).category = avc v := by
  match v with
  | .inl x => rfl
  | .inr (.inl (t, i)) => rfl
  | .inr (.inr (.inl x)) => rfl
  | .inr (.inr (.inr x)) => rfl
theorem cv_wsum (ad : Nat → Int → Nat) : ∀ st : List AV, ((st.map (cv ad)).map fun v => v.category).sum = wsum st
  | [] => rfl
  | v :: l => by simp only [List.map_cons, List.sum_cons, wsum, cv_cat, cv_wsum ad l]
/-- the cells that are there: all of them, or those that a part of the world is made of -/
abbrev CS : Type := List (Nat × Int)
noncomputable def alc (t : Nat) : Int := aln (fun _ _ _ => 0) t
/-- closed: what a cell refers to is there -/
def Clo (cs : CS) : Prop := (∀ t i, (t, i) ∈ cs → Cell_ t i) ∧ (∀ t i (k : Nat), (t, i) ∈ cs → (t, k) ∈ tgL → tgt t (k : Int) i ∈ cs) ∧ ∀ t i j, (t, i) ∈ cs → akd t = 5 → 0 ≤ j → j < alc t → elt t i j ∈ cs
/-- a reference that the small machine may hold -/
def Ref_ (cs : CS) (t : Nat) (i : Int) : Prop := (t, i) ∈ cs ∨ (44 ≤ t ∧ t < 47 ∧ i = 0)
def okV (cs : CS) (v : AV) : Prop := match v with
  | .inl x => inR x
  | .inr (.inl (t, i)) => Ref_ cs t i
  | .inr (.inr (.inl x)) => inJ x
  | .inr (.inr (.inr _)) => True
def okS (cs : CS) (st : List AV) : Prop := ∀ v ∈ st, okV cs v
def okL (cs : CS) (ls : Lcs) : Prop := ∀ j v, lget ls j = some v → okV cs v
/-- the ints of the cells are ints -/
def okG (G : GG) : Prop := ∀ t i k, (t = 42 → inJ (G t i k)) ∧ (t ≠ 42 → t ≠ 43 → t ≠ 48 → inR (G t i k))
noncomputable def cells_ : List (Nat × Int) := (List.range 44).flatMap fun t => (List.range (cnt t).toNat).map fun (i : Nat) => (t, (i : Int))
theorem mem_cells {t : Nat} {i : Int} : (t, i) ∈ cells_ ↔ Cell_ t i := by
  unfold cells_ Cell_
  simp only [List.mem_flatMap, List.mem_map, List.mem_range, Prod.mk.injEq]
  constructor
  · rintro ⟨a, ha, b, hb, rfl, rfl⟩
    exact ⟨ha, by omega, by omega⟩
  · rintro ⟨h1, h2, h3⟩
    exact ⟨t, h1, i.toNat, by omega, rfl, by omega⟩
/-- where the type of an array stands among the types -/
noncomputable def kA (t : Nat) : Nat := match akd t with
  | 1 => 0
  | 2 => 1
  | 3 => 2
  | 4 => 3
  | _ => bif Nat.beq t 14 then 4 else bif Nat.beq t 16 then 5 else bif Nat.beq t 17 then 6 else 7
def tys_ (cA : Nat → ClassId) : List (ClassId × FieldType) := [(cA 0, .int), (cA 1, .char), (cA 2, .long), (cA 3, .double), (cA 4, .object "MapGeneralizer$Sheet"), (cA 5, .object "MapGeneralizer$Lines"), (cA 6, .object "MapGeneralizer$Parcels"), (cA 7, .object "MapGeneralizer$Labels")]
/-- what a field holds -/
noncomputable def fvl (ad : Nat → Int → Nat) (g : Int → Int) (t : Nat) (i : Int) (k : Nat) : Value := bif Nat.beq (ftk t k) 3 then .ref (ad (tgt t (k : Int) i).1 (tgt t (k : Int) i).2) else .int (i32 (g (k : Int)))
noncomputable def wA (ad : Nat → Int → Nat) (g : Int → Int) (t : Nat) (i : Int) : (Nat → Int32) ⊕ (Nat → Int64) ⊕ (Nat → UInt32) ⊕ (Nat → UInt64) ⊕ (Nat → Option Nat) := match akd t with
  | 3 => .inr (.inl fun j => i64 (g (j : Int)))
  | 4 => .inr (.inr (.inr (.inl fun j => dBits (g (j : Int)))))
  | 5 => .inr (.inr (.inr (.inr fun j => some (ad (elt t i (j : Int)).1 (elt t i (j : Int)).2))))
  | _ => .inl fun j => i32 (g (j : Int))
noncomputable def wE (ad : Nat → Int → Nat) (cA : Nat → ClassId) (g : Int → Int) (t : Nat) (i : Int) : va_E := match akd t with
  | 0 => .inr (cix t, (List.range (Nf t)).map fun k => fvl ad g t i k)
  | _ => .inl (cA (kA t), (alc t).toNat, wA ad g t i)
noncomputable def Wl (cs : CS) (ad : Nat → Int → Nat) (cA : Nat → ClassId) (G : GG) : va_W := cs.map fun c => (ad c.1 c.2, wE ad cA (G c.1 c.2) c.1 c.2)
theorem Wl_at {cs : CS} (ad : Nat → Int → Nat) (cA : Nat → ClassId) {t : Nat} {i : Int} (h : (t, i) ∈ cs) : ∃ p : Nat, cs[p]? = some (t, i) ∧ ∀ G : GG, (Wl cs ad cA G)[p]? = some (ad t i, wE ad cA (G t i) t i) := by
  obtain ⟨p, hp⟩ := List.getElem?_of_mem h
  exact ⟨p, hp, fun G => by unfold Wl; rw [List.getElem?_map, hp]; rfl⟩
theorem Wl_set {cs : CS} (hcs : ∀ t i, (t, i) ∈ cs → Cell_ t i) {ad : Nat → Int → Nat} {cA : Nat → ClassId} {A : Nat → Prop} {G G' : GG} {t : Nat} {i : Int} {p : Nat} (hD : va_D A (Wl cs ad cA G)) (hp : cs[p]? = some (t, i)) (hG : ∀ t' i', (t', i') ≠ (t, i) → t' < 44 → ∀ k, G' t' i' k = G t' i' k) :
    (Wl cs ad cA G).set p (ad t i, wE ad cA (G' t i) t i) = Wl cs ad cA G' := by
  have at' : ∀ (G : GG) (q : Nat), (Wl cs ad cA G)[q]? = (cs[q]?).map fun c => (ad c.1 c.2, wE ad cA (G c.1 c.2) c.1 c.2) := fun G q => by unfold Wl; rw [List.getElem?_map]
  have hl : p < (Wl cs ad cA G).length := (List.getElem?_eq_some_iff.mp (show (Wl cs ad cA G)[p]? = some _ by rw [at', hp]; rfl)).1
  refine List.ext_getElem? fun q => ?_
  by_cases hq : q = p
  · subst hq
    rw [List.getElem?_set_self hl, at', hp]
    rfl
  · rw [List.getElem?_set_ne (Ne.symm hq), at', at']
    cases hc : cs[q]? with
    | none => rfl
    | some c =>
      obtain ⟨t', i'⟩ := c
      have hne : (t', i') ≠ (t, i) := by
        intro he
        refine hq (hD.1 q p _ _ (by rw [at', hc]; rfl) (by rw [at', hp]; rfl) ?_)
        rw [show t' = t from congrArg Prod.fst he, show i' = i from congrArg Prod.snd he]
      have hlt : t' < 44 := (hcs _ _ (List.mem_of_getElem? hc)).1
      have hg : G' t' i' = G t' i' := funext fun k => hG t' i' hne hlt k
      simp only [Option.map_some, hg]
theorem va_D_Wl {cs : CS} {ad : Nat → Int → Nat} {cA : Nat → ClassId} {A : Nat → Prop} {G : GG} (G' : GG) (h : va_D A (Wl cs ad cA G)) : va_D A (Wl cs ad cA G') := by
  have at' : ∀ (G : GG) (q : Nat), (Wl cs ad cA G)[q]? = (cs[q]?).map fun c => (ad c.1 c.2, wE ad cA (G c.1 c.2) c.1 c.2) := fun G q => by unfold Wl; rw [List.getElem?_map]
  have key : ∀ (q : Nat) (x : Nat × va_E), (Wl cs ad cA G')[q]? = some x → ∃ y, (Wl cs ad cA G)[q]? = some y ∧ y.1 = x.1 := by
    intro q x hx
    rw [at'] at hx ⊢
    cases hc : cs[q]? with
    | none => rw [hc] at hx; cases hx
    | some c => rw [hc] at hx; cases hx; exact ⟨_, rfl, rfl⟩
  refine ⟨fun i j x y hi hj hxy => ?_, fun k q hk => ?_⟩
  · obtain ⟨x0, h1, h2⟩ := key i x hi
    obtain ⟨y0, h3, h4⟩ := key j y hj
    exact h.1 i j x0 y0 h1 h3 (h2.trans (hxy.trans h4.symm))
  · obtain ⟨q0, h1, h2⟩ := key k q hk
    rw [← h2]; exact h.2 k q0 h1
theorem up_same (G : GG) (t : Nat) (i k v : Int) : up G t i k v t i k = v := by simp [up]
theorem up_ne {G : GG} {t : Nat} {i k v : Int} {t' : Nat} {i' : Int} (h : (t', i') ≠ (t, i)) (k' : Int) : up G t i k v t' i' k' = G t' i' k' := by
  unfold up
  split
  · rename_i q
    exact absurd (by rw [q.1, q.2.1]) h
  · rfl
theorem cpy_ne {G : GG} {ts : Nat} {is sp : Int} {td : Nat} {id dp n : Int} {t' : Nat} {i' : Int} (h : (t', i') ≠ (td, id)) (k' : Int) : cpy G ts is sp td id dp n t' i' k' = G t' i' k' := by
  unfold cpy
  split
  · rename_i q
    exact absurd (by rw [q.1, q.2.1]) h
  · rfl
theorem upd_i32 (g : Int → Int) {j v : Int} (hj : 0 ≤ j) : upd (fun q : Nat => i32 (g (q : Int))) j.toNat (i32 v) = fun q : Nat => i32 (if (q : Int) = j then v else g (q : Int)) := by
  funext q
  unfold upd
  by_cases h : (q : Int) = j
  · rw [if_pos (by omega), if_pos h]
  · rw [if_neg (by omega), if_neg h]
