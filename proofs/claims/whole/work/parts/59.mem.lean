/-! ===== the cells ===== -/
theorem objs_lt : ∀ t ∈ objs, t < 44 ∧ akd t = 0 ∧ t ≠ 42 ∧ t ≠ 43 ∧ t ≠ 48 := by decide +kernel
theorem akd_c1 : ∀ t, t < 44 → akd t ≤ 5 ∧ (akd t = 3 → t = 42) ∧ (akd t = 4 → t = 43) := by decide +kernel
theorem akd_c2 : ∀ t, t < 44 → (akd t = 0 → t ∈ objs) ∧ (akd t ≠ 3 → t ≠ 42) ∧ (akd t ≠ 4 → t ≠ 43) := by decide +kernel
theorem akd_c3 : ∀ t, t < 44 → (akd t = 5 → t = 14 ∨ t = 16 ∨ t = 17 ∨ t = 18) := by decide +kernel
theorem akd_c4 : ∀ t, t < 44 → 0 ≤ alc t ∧ alc t < 2147483648 := by decide +kernel
theorem akd_cells (t : Nat) (h : t < 44) : akd t ≤ 5 ∧ (akd t = 3 → t = 42) ∧ (akd t = 4 → t = 43) ∧ (akd t = 0 → t ∈ objs) ∧ (akd t ≠ 3 → t ≠ 42) ∧ (akd t ≠ 4 → t ≠ 43) ∧ (akd t = 5 → t = 14 ∨ t = 16 ∨ t = 17 ∨ t = 18) ∧ 0 ≤ alc t ∧ alc t < 2147483648 :=
  ⟨(akd_c1 t h).1, (akd_c1 t h).2.1, (akd_c1 t h).2.2, (akd_c2 t h).1, (akd_c2 t h).2.1, (akd_c2 t h).2.2, akd_c3 t h, akd_c4 t h⟩
theorem akd_ro : ∀ t, 44 ≤ t → t < 47 → akd t = 1 := by
  intro t h1 h2
  have : t = 44 ∨ t = 45 ∨ t = 46 := by omega
  rcases this with rfl | rfl | rfl <;> rfl
theorem aln_ro (G : GG) : aln G 44 = G 47 0 0 ∧ aln G 45 = 3 ∧ aln G 46 = 3 := ⟨rfl, rfl, rfl⟩
theorem awr_lt {t : Nat} (h : awr t = true) : t < 44 := Nat.blt_eq.mp h
theorem Ref_.cell {cs : CS} {t : Nat} {i : Int} (h : Ref_ cs t i) (ht : t < 44) : (t, i) ∈ cs := by
  rcases h with h | ⟨h, -⟩
  · exact h
  · omega
theorem wE_obj {ad : Nat → Int → Nat} {cA : Nat → ClassId} {g : Int → Int} {t : Nat} {i : Int} (h : akd t = 0) : wE ad cA g t i = .inr (cix t, (List.range (Nf t)).map fun k => fvl ad g t i k) := by unfold wE; rw [h]; rfl
theorem wE_int {ad : Nat → Int → Nat} {cA : Nat → ClassId} {g : Int → Int} {t : Nat} {i : Int} (h : akd t = 1) : wE ad cA g t i = .inl (cA 0, (alc t).toNat, .inl fun j => i32 (g (j : Int))) := by unfold wE kA wA; rw [h]; rfl
theorem wE_chr {ad : Nat → Int → Nat} {cA : Nat → ClassId} {g : Int → Int} {t : Nat} {i : Int} (h : akd t = 2) : wE ad cA g t i = .inl (cA 1, (alc t).toNat, .inl fun j => i32 (g (j : Int))) := by unfold wE kA wA; rw [h]; rfl
theorem wE_lng {ad : Nat → Int → Nat} {cA : Nat → ClassId} {g : Int → Int} {t : Nat} {i : Int} (h : akd t = 3) : wE ad cA g t i = .inl (cA 2, (alc t).toNat, .inr (.inl fun j => i64 (g (j : Int)))) := by unfold wE kA wA; rw [h]; rfl
theorem wE_dbl {ad : Nat → Int → Nat} {cA : Nat → ClassId} {g : Int → Int} {t : Nat} {i : Int} (h : akd t = 4) : wE ad cA g t i = .inl (cA 3, (alc t).toNat, .inr (.inr (.inr (.inl fun j => dBits (g (j : Int)))))) := by unfold wE kA wA; rw [h]; rfl
theorem wE_ref {ad : Nat → Int → Nat} {cA : Nat → ClassId} {g : Int → Int} {t : Nat} {i : Int} (h : akd t = 5) : wE ad cA g t i = .inl (cA (kA t), (alc t).toNat, .inr (.inr (.inr (.inr fun j => some (ad (elt t i (j : Int)).1 (elt t i (j : Int)).2))))) := by unfold wE wA; rw [h]; rfl
theorem tys_ref (cA : Nat → ClassId) {t : Nat} (ht : t < 44) (h : akd t = 5) : ∃ C, (tys_ cA)[kA t]? = some (cA (kA t), .object C) := by
  rcases (akd_cells t ht).2.2.2.2.2.2.1 h with rfl | rfl | rfl | rfl <;> exact ⟨_, rfl⟩
theorem tys_any (cA : Nat → ClassId) {t : Nat} (ht : t < 44) (h : 1 ≤ akd t) : ∃ ty, (tys_ cA)[kA t]? = some (cA (kA t), ty) := by
  obtain ⟨h5, -⟩ := akd_cells t ht
  have : akd t = 1 ∨ akd t = 2 ∨ akd t = 3 ∨ akd t = 4 ∨ akd t = 5 := by omega
  rcases this with q | q | q | q | q
  · unfold kA; rw [q]; exact ⟨_, rfl⟩
  · unfold kA; rw [q]; exact ⟨_, rfl⟩
  · unfold kA; rw [q]; exact ⟨_, rfl⟩
  · unfold kA; rw [q]; exact ⟨_, rfl⟩
  · obtain ⟨C, hC⟩ := tys_ref cA ht q
    exact ⟨_, hC⟩
theorem wE_arr {ad : Nat → Int → Nat} {cA : Nat → ClassId} {g : Int → Int} {t : Nat} {i : Int} (h : 1 ≤ akd t) : ∃ x, wE ad cA g t i = .inl (cA (kA t), (alc t).toNat, x) := by
  unfold wE
  split
  · omega
  · exact ⟨_, rfl⟩
/-- the lengths of the world's arrays don't depend on the store -/
theorem aln_c (G : GG) : ∀ t, t < 44 → aln G t = alc t := by
  have h : ∀ t ∈ List.range 44, aln G t = alc t := by
    show ∀ t ∈ [0, 1, 2, 3, 4, 5, 6, 7, 8, 9, 10, 11, 12, 13, 14, 15, 16, 17, 18, 19, 20, 21, 22, 23, 24, 25, 26, 27, 28, 29, 30, 31, 32, 33, 34, 35, 36, 37, 38, 39, 40, 41, 42, 43], aln G t = alc t
    intro t ht
    simp only [List.mem_cons, List.not_mem_nil, or_false] at ht
    rcases ht with rfl | rfl | rfl | rfl | rfl | rfl | rfl | rfl | rfl | rfl | rfl | rfl | rfl | rfl | rfl | rfl | rfl | rfl | rfl | rfl | rfl | rfl | rfl | rfl | rfl | rfl | rfl | rfl | rfl | rfl | rfl | rfl | rfl | rfl | rfl | rfl | rfl | rfl | rfl | rfl | rfl | rfl | rfl | rfl <;> rfl
  exact fun t ht => h t (List.mem_range.mpr ht)
theorem okG_up {G : GG} {t : Nat} {i k v : Int} (h : okG G) (h1 : t = 42 → inJ v) (h2 : t ≠ 42 → t ≠ 43 → t ≠ 48 → inR v) : okG (up G t i k v) := by
  intro t' i' k'
  unfold up
  split
  · rename_i q
    rw [q.1]
    exact ⟨h1, h2⟩
  · exact h t' i' k'
theorem okG_cpy {G : GG} {ts : Nat} {is sp : Int} {td : Nat} {id dp n : Int} (h : okG G) (hs : akd ts = 1) (hd : akd td = 1) : okG (cpy G ts is sp td id dp n) := by
  intro t' i' k'
  unfold cpy
  split
  · rename_i q
    rw [q.1]
    have hs1 : ts ≠ 42 := fun e => by rw [e] at hs; exact absurd hs (by decide +kernel)
    have hs2 : ts ≠ 43 := fun e => by rw [e] at hs; exact absurd hs (by decide +kernel)
    have hs3 : ts ≠ 48 := fun e => by rw [e] at hs; exact absurd hs (by decide +kernel)
    have hd1 : td ≠ 42 := fun e => by rw [e] at hd; exact absurd hd (by decide +kernel)
    exact ⟨fun e => absurd e hd1, fun _ _ _ => (h ts is _).2 hs1 hs2 hs3⟩
  · exact h t' i' k'
theorem RoE_up (G : GG) {t : Nat} (i k v : Int) (h : t < 44) : RoE G (up G t i k v) := by
  refine ⟨fun q => up_ne ?_ _, fun q => up_ne ?_ _, fun q => up_ne ?_ _, up_ne ?_ _⟩ <;> (intro e; have := congrArg Prod.fst e; simp only at this; omega)
theorem RoE_cpy (G : GG) (ts : Nat) (is sp : Int) {td : Nat} (id dp n : Int) (h : td < 44) : RoE G (cpy G ts is sp td id dp n) := by
  refine ⟨fun q => cpy_ne ?_ _, fun q => cpy_ne ?_ _, fun q => cpy_ne ?_ _, cpy_ne ?_ _⟩ <;> (intro e; have := congrArg Prod.fst e; simp only at this; omega)
theorem cnt_up (G : GG) {t : Nat} (i k v : Int) (h : t < 44) : up G t i k v 48 0 0 = G 48 0 0 := up_ne (fun e => by have := congrArg Prod.fst e; simp only at this; omega) _
theorem cnt_cpy (G : GG) (ts : Nat) (is sp : Int) {td : Nat} (id dp n : Int) (h : td < 44) : cpy G ts is sp td id dp n 48 0 0 = G 48 0 0 := cpy_ne (fun e => by have := congrArg Prod.fst e; simp only at this; omega) _
theorem St_up {cs : CS} {s : State} {D : va_G} {ad : Nat → Int → Nat} {cA : Nat → ClassId} {base : Nat} {c0 : Int} {R : Room} {G : GG} {H H1 : Heap} {locs locs1 : List Loc} {t : Nat} {i k v : Int} (h : St cs s D ad cA base c0 R G H locs) (ht : t < 44) (h1 : t = 42 → inJ v) (h2 : t ≠ 42 → t ≠ 43 → t ≠ 48 → inR v)
    (hP : va_P D cls_ (Wl cs ad cA (up G t i k v)) H1) (hS : va_S (Ab base) s.heap H1 locs1) : St cs s D ad cA base c0 R (up G t i k v) H1 locs1 := by
  have e : cst c0 (up G t i k v) = cst c0 G := by unfold cst; rw [cnt_up G i k v ht]
  exact ⟨hP, hS, okG_up h.2.2.1 h1 h2, h.2.2.2.1.eq (RoE_up G i k v ht), by rw [cnt_up G i k v ht]; exact h.2.2.2.2.1, by rw [e]; exact h.2.2.2.2.2.1, by rw [e]; exact h.2.2.2.2.2.2⟩
theorem cst_up (c0 : Int) (G : GG) {t : Nat} (i k v : Int) (ht : t < 44) : cst c0 (up G t i k v) = cst c0 G := by unfold cst; rw [cnt_up G i k v ht]
theorem cst_cpy (c0 : Int) (G : GG) (ts : Nat) (is sp : Int) {td : Nat} (id dp n : Int) (h : td < 44) : cst c0 (cpy G ts is sp td id dp n) = cst c0 G := by unfold cst; rw [cnt_cpy G ts is sp id dp n h]
theorem range_get {α : Type} (f : Nat → α) {n k : Nat} (h : k < n) : ((List.range n).map f)[k]? = some (f k) := by simp [List.getElem?_range h]
/-- a field of ints put -/
theorem fields_up (ad : Nat → Int → Nat) (G : GG) {t : Nat} (i v : Int) {k : Nat} (hk : Nat.beq (ftk t k) 3 = false) (n : Nat) :
    ((List.range n).map fun q => fvl ad (G t i) t i q).set k (.int (i32 v)) = (List.range n).map fun q => fvl ad (up G t i (k : Int) v t i) t i q := by
  refine List.ext_getElem? fun q => ?_
  by_cases hq : q < n
  · by_cases hqk : q = k
    · subst hqk
      rw [List.getElem?_set_self (by simpa using hq), range_get _ hq]
      unfold fvl
      rw [hk, up_same]
      rfl
    · rw [List.getElem?_set_ne (Ne.symm hqk), range_get _ hq, range_get _ hq]
      have e : up G t i (k : Int) v t i (q : Int) = G t i (q : Int) := by
        unfold up
        rw [if_neg]
        rintro ⟨-, -, h⟩
        omega
      unfold fvl
      rw [e]
  · have h1 : ((List.range n).map fun q => fvl ad (G t i) t i q).length ≤ q := by simp; omega
    have h2 : ((List.range n).map fun q => fvl ad (up G t i (k : Int) v t i) t i q).length ≤ q := by simp; omega
    rw [List.getElem?_eq_none (by simpa using h1), List.getElem?_eq_none h2]
theorem up_fun (G : GG) (t : Nat) (i j v : Int) : (fun q : Int => up G t i j v t i q) = fun q => if q = j then v else G t i q := by
  funext q
  unfold up
  by_cases h : q = j
  · rw [if_pos ⟨rfl, rfl, h⟩, if_pos h]
  · rw [if_neg (fun z => h z.2.2), if_neg h]
