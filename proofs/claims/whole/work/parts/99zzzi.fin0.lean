/-! ===== the world behind the constructors ===== -/
def adF (ad0 : Nat → Int → Nat) (q : Nat) (v0 v1 v2 vl vm : List Nat) (vh : Nat → List Nat) (qh ah ql qs s1 s2 tx ou od : Nat) : Nat → Int → Nat := fun t i =>
  if 44 ≤ t then ad0 t i
  else if 25 ≤ t then (if t = 42 then ou else if t = 43 then od else vm.getD (t - 25) 0)
  else if 19 ≤ t then (if t = 19 then vl.getD (3 + 9 * i.toNat) 0 else if t = 20 then vl.getD (4 + 9 * i.toNat) 0 else if t = 21 then qs else if t = 22 then s1 else if t = 23 then s2 else tx)
  else if 13 ≤ t then (if t = 13 then qh else if t = 14 then ah else if t = 15 then ql else vl.getD (t - 16) 0)
  else if t = 0 then q
  else if i = 0 then v0.getD (t - 1) 0
  else if i = 1 then v1.getD (t - 1) 0
  else if i = 2 then v2.getD (t - 1) 0
  else if i ≤ 10 then (vh (i - 3).toNat).getD (t - 1) 0
  else if t ≤ 4 then vl.getD (9 * (i - 11).toNat + t + 3) 0
  else vl.getD (9 * (i - 11).toNat + t + 1) 0
noncomputable def Gfin (g : GG) : GG := fun t i k =>
  if 44 ≤ t then g t i k
  else if 25 ≤ t then (if t ≤ 41 then GMo g t i k else 0)
  else if t = 0 then (if k = 8 then -1 else 0)
  else if t ≤ 12 then (if 0 ≤ i ∧ i ≤ 10 then GSh g i t i k else 0)
  else if t = 15 then (if k = 4 then 1 else if k = 5 then 1 else 0)
  else 0
def csHi : CS := [(13, 0), (14, 0)] ++ csS 3 ++ csS 4 ++ csS 5 ++ csS 6 ++ csS 7 ++ csS 8 ++ csS 9 ++ csS 10
def csLv : CS := [(15, 0), (16, 0), (17, 0), (18, 0), (19, 0), (20, 0), (2, 11), (3, 11), (4, 11), (7, 11), (8, 11), (9, 11), (10, 11), (19, 1), (20, 1), (2, 12), (3, 12), (4, 12), (7, 12), (8, 12), (9, 12), (10, 12), (19, 2), (20, 2), (2, 13), (3, 13), (4, 13), (7, 13), (8, 13), (9, 13), (10, 13), (19, 3), (20, 3), (2, 14), (3, 14), (4, 14), (7, 14), (8, 14), (9, 14), (10, 14), (19, 4), (20, 4)]
def csScr : CS := [(21, 0), (22, 0), (23, 0)]
def csMap : CS := [(0, 0)] ++ csS 0 ++ csS 1 ++ csS 2 ++ csHi ++ csLv ++ csScr ++ [(24, 0)]
def csAll : CS := csMap ++ csM ++ [(42, 0)] ++ [(43, 0)]
set_option maxRecDepth 100000 in
theorem clo_All : Clo csAll := clo_of (by decide +kernel)
theorem okG_sh {g : GG} (hT : Lm g) (hg : okG g) {i : Nat} (hi : i < 11) : okG (GSh g (i : Int)) := by
  obtain ⟨n, hn⟩ := run_sx (sh_reset hT (i : Int)).1
  exact (sx_p (clo_S i hi) n y_She_reset (by decide) _ _ 0 _ [] _ hn (ent_ok (z := y_She_reset) (a := [.inr (.inl (1, (i : Int)))]) (fun v hv => by rw [List.mem_singleton.mp hv]; exact Or.inl List.mem_cons_self)) (fun v hv => absurd hv List.not_mem_nil) (okG_gz hg)).1
theorem okG_mo {g : GG} (hg : okG g) : okG (GMo g) := by
  obtain ⟨G1, e1, -⟩ := mo_begins g
  obtain ⟨n, hn⟩ := run_sx e1
  exact (sx_p clo_M n y_Mod_begins (by decide) _ _ 0 _ [] _ hn (ent_ok (z := y_Mod_begins) (a := [.inr (.inl (25, 0))]) (fun v hv => by rw [List.mem_singleton.mp hv]; exact Or.inl List.mem_cons_self)) (fun v hv => absurd hv List.not_mem_nil) (okG_mz hg)).1
theorem ok_small {t : Nat} {x : Int} (h : -1 ≤ x ∧ x ≤ 1) : (t = 42 → inJ x) ∧ (t ≠ 42 → t ≠ 43 → t ≠ 48 → inR x) := ⟨fun _ => by unfold inJ; omega, fun _ _ _ => by unfold inR; omega⟩
theorem okG_fin {g : GG} (hT : Lm g) (hg : okG g) : okG (Gfin g) := fun t i k => by
  unfold Gfin
  by_cases c1 : 44 ≤ t
  · rw [if_pos c1]
    exact hg t i k
  rw [if_neg c1]
  by_cases c2 : 25 ≤ t
  · rw [if_pos c2]
    by_cases c3 : t ≤ 41
    · rw [if_pos c3]
      exact okG_mo hg t i k
    · rw [if_neg c3]
      exact ok_small (by decide)
  rw [if_neg c2]
  by_cases c4 : t = 0
  · rw [if_pos c4]
    refine ok_small ?_
    split <;> decide
  rw [if_neg c4]
  by_cases c5 : t ≤ 12
  · rw [if_pos c5]
    by_cases c6 : 0 ≤ i ∧ i ≤ 10
    · rw [if_pos c6]
      have h := okG_sh hT hg (i := i.toNat) (by omega) t i k
      rw [show ((i.toNat : Nat) : Int) = i by omega] at h
      exact h
    · rw [if_neg c6]
      exact ok_small (by decide)
  rw [if_neg c5]
  by_cases c7 : t = 15
  · rw [if_pos c7]
    refine ok_small ?_
    split
    · decide
    · split <;> decide
  · rw [if_neg c7]
    exact ok_small (by decide)
theorem roe_fin (g : GG) : RoE g (Gfin g) := ⟨fun _ => rfl, fun _ => rfl, fun _ => rfl, rfl⟩
theorem fin_sh (g : GG) {t : Nat} {i : Int} (ht : 1 ≤ t ∧ t ≤ 12) (hi : 0 ≤ i ∧ i ≤ 10) (k : Int) : Gfin g t i k = GSh g i t i k := by
  unfold Gfin
  rw [if_neg (by omega), if_neg (by omega), if_neg (by omega), if_pos ht.2, if_pos hi]
theorem fin_mo (g : GG) {t : Nat} (ht : 25 ≤ t ∧ t ≤ 41) (i k : Int) : Gfin g t i k = GMo g t i k := by
  unfold Gfin
  rw [if_neg (by omega), if_pos ht.1, if_pos ht.2]
/-! parts of a world -/
theorem va_P.lft {D : va_G} {w w1 : va_W} {H : Heap} (h : va_P D cls_ (w ++ w1) H) : va_P D cls_ w H := fun k x hx => h k x (by rw [List.getElem?_append_left (List.getElem?_eq_some_iff.mp hx).1]; exact hx)
theorem va_P.rgt {D : va_G} {w w1 : va_W} {H : Heap} (h : va_P D cls_ (w ++ w1) H) : va_P D cls_ w1 H := fun k x hx => h (w.length + k) x (by rw [List.getElem?_append_right (by omega), Nat.add_sub_cancel_left]; exact hx)
theorem va_P.hd {D : va_G} {x : Nat × va_E} {w : va_W} {H : Heap} (h : va_P D cls_ (x :: w) H) : va_P D cls_ [x] H := va_P.one (h 0 x rfl)
theorem va_P.tl {D : va_G} {x : Nat × va_E} {w : va_W} {H : Heap} (h : va_P D cls_ (x :: w) H) : va_P D cls_ w H := fun k y hy => h (k + 1) y hy
theorem Wl_app (cs cs1 : CS) (ad : Nat → Int → Nat) (cA : Nat → ClassId) (G : GG) : Wl (cs ++ cs1) ad cA G = Wl cs ad cA G ++ Wl cs1 ad cA G := List.map_append
theorem va_P.wapp {D : va_G} {cs cs1 : CS} {ad : Nat → Int → Nat} {cA : Nat → ClassId} {G : GG} {H : Heap} (h : va_P D cls_ (Wl cs ad cA G) H) (h1 : va_P D cls_ (Wl cs1 ad cA G) H) : va_P D cls_ (Wl (cs ++ cs1) ad cA G) H := by
  rw [Wl_app]
  exact va_P.app h h1
theorem Wl_cong {cs : CS} {ad ad' : Nat → Int → Nat} {cA : Nat → ClassId} {G G' : GG} (h : ∀ c ∈ cs, (ad c.1 c.2, wE ad cA (G c.1 c.2) c.1 c.2) = (ad' c.1 c.2, wE ad' cA (G' c.1 c.2) c.1 c.2)) : Wl cs ad cA G = Wl cs ad' cA G' := List.map_congr_left h
theorem Wl_fst (cs : CS) (ad : Nat → Int → Nat) (cA : Nat → ClassId) (G : GG) : (Wl cs ad cA G).map Prod.fst = cs.map fun c => ad c.1 c.2 := by
  unfold Wl
  rw [List.map_map]
  rfl
theorem va_D.fst {A : Nat → Prop} {w w' : va_W} (h : w.map Prod.fst = w'.map Prod.fst) (hD : va_D A w) : va_D A w' := by
  have at' : ∀ (k : Nat) (x : Nat × va_E), w'[k]? = some x → ∃ y, w[k]? = some y ∧ y.1 = x.1 := fun k x hx => by
    have h1 : (w'.map Prod.fst)[k]? = some x.1 := by rw [List.getElem?_map, hx]; rfl
    rw [← h, List.getElem?_map] at h1
    cases hw : w[k]? with
    | none => rw [hw] at h1; cases h1
    | some y => rw [hw] at h1; exact ⟨y, rfl, Option.some.inj h1⟩
  refine ⟨fun i j p q hp hq hpq => ?_, fun k q hq => ?_⟩
  · obtain ⟨p0, a1, a2⟩ := at' i p hp
    obtain ⟨q0, b1, b2⟩ := at' j q hq
    exact hD.1 i j p0 q0 a1 b1 (a2.trans (hpq.trans b2.symm))
  · obtain ⟨y, a1, a2⟩ := at' k q hq
    rw [← a2]
    exact hD.2 k y a1
