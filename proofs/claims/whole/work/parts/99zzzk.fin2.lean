/-! ===== the map as a part of the world ===== -/
theorem wf_his {ad0 : Nat → Int → Nat} {cA : Nat → ClassId} {g : GG} {q qh ah ql qs s1 s2 tx ou od : Nat} {v0 v1 v2 vl vm : List Nat} {vh : Nat → List Nat} {D : va_G} {H : Heap} (hP : va_P D cls_ (wHis cA ad0 g qh ah vh) H) : va_P D cls_ (Wl csHi (adF ad0 q v0 v1 v2 vl vm vh qh ah ql qs s1 s2 tx ou od) cA (Gfin g)) H := by
  unfold wHis at hP
  have hA := hP.arr (k := 1) (f' := fun j => some ((adF ad0 q v0 v1 v2 vl vm vh qh ah ql qs s1 s2 tx ou od) (elt 14 0 (j : Int)).1 (elt 14 0 (j : Int)).2)) rfl (fun j hj => by
    match j, hj with
    | 0, _ => rfl
    | 1, _ => rfl
    | 2, _ => rfl
    | 3, _ => rfl
    | 4, _ => rfl
    | 5, _ => rfl
    | 6, _ => rfl
    | 7, _ => rfl
    | k + 8, hj => omega)
  have h0 : va_P D cls_ (Wl [(13, 0), (14, 0)] (adF ad0 q v0 v1 v2 vl vm vh qh ah ql qs s1 s2 tx ou od) cA (Gfin g)) H := fun k x hx => hA k x (by
    match k, hx with
    | 0, hx => exact hx
    | 1, hx => exact hx
    | k + 2, hx => cases hx)
  have hP := hP.tl
  have p10 := hP.rgt
  have hP := hP.lft
  have p9 := hP.rgt
  have hP := hP.lft
  have p8 := hP.rgt
  have hP := hP.lft
  have p7 := hP.rgt
  have hP := hP.lft
  have p6 := hP.rgt
  have hP := hP.lft
  have p5 := hP.rgt
  have hP := hP.lft
  have p4 := hP.rgt
  have hP := hP.lft
  have p3 := hP.rgt
  have hP := hP.lft
  rw [wf_S3 (q := q) (qh := qh) (ah := ah) (ql := ql) (qs := qs) (s1 := s1) (s2 := s2) (tx := tx) (ou := ou) (od := od) (v0 := v0) (v1 := v1) (v2 := v2) (vl := vl) (vm := vm) (vh := vh)] at p3
  rw [wf_S4 (q := q) (qh := qh) (ah := ah) (ql := ql) (qs := qs) (s1 := s1) (s2 := s2) (tx := tx) (ou := ou) (od := od) (v0 := v0) (v1 := v1) (v2 := v2) (vl := vl) (vm := vm) (vh := vh)] at p4
  rw [wf_S5 (q := q) (qh := qh) (ah := ah) (ql := ql) (qs := qs) (s1 := s1) (s2 := s2) (tx := tx) (ou := ou) (od := od) (v0 := v0) (v1 := v1) (v2 := v2) (vl := vl) (vm := vm) (vh := vh)] at p5
  rw [wf_S6 (q := q) (qh := qh) (ah := ah) (ql := ql) (qs := qs) (s1 := s1) (s2 := s2) (tx := tx) (ou := ou) (od := od) (v0 := v0) (v1 := v1) (v2 := v2) (vl := vl) (vm := vm) (vh := vh)] at p6
  rw [wf_S7 (q := q) (qh := qh) (ah := ah) (ql := ql) (qs := qs) (s1 := s1) (s2 := s2) (tx := tx) (ou := ou) (od := od) (v0 := v0) (v1 := v1) (v2 := v2) (vl := vl) (vm := vm) (vh := vh)] at p7
  rw [wf_S8 (q := q) (qh := qh) (ah := ah) (ql := ql) (qs := qs) (s1 := s1) (s2 := s2) (tx := tx) (ou := ou) (od := od) (v0 := v0) (v1 := v1) (v2 := v2) (vl := vl) (vm := vm) (vh := vh)] at p8
  rw [wf_S9 (q := q) (qh := qh) (ah := ah) (ql := ql) (qs := qs) (s1 := s1) (s2 := s2) (tx := tx) (ou := ou) (od := od) (v0 := v0) (v1 := v1) (v2 := v2) (vl := vl) (vm := vm) (vh := vh)] at p9
  rw [wf_S10 (q := q) (qh := qh) (ah := ah) (ql := ql) (qs := qs) (s1 := s1) (s2 := s2) (tx := tx) (ou := ou) (od := od) (v0 := v0) (v1 := v1) (v2 := v2) (vl := vl) (vm := vm) (vh := vh)] at p10
  exact (((((((h0.wapp p3).wapp p4).wapp p5).wapp p6).wapp p7).wapp p8).wapp p9).wapp p10
set_option maxRecDepth 20000 in
theorem wf_lev {ad0 : Nat → Int → Nat} {cA : Nat → ClassId} {g : GG} {q qh ah ql qs s1 s2 tx ou od : Nat} {v0 v1 v2 vl vm : List Nat} {vh : Nat → List Nat} {D : va_G} {H : Heap} (hP : va_P D cls_ (wLev cA v0 ql vl) H) : va_P D cls_ (Wl csLv (adF ad0 q v0 v1 v2 vl vm vh qh ah ql qs s1 s2 tx ou od) cA (Gfin g)) H := by
  unfold wLev at hP
  have hP := hP.arr (k := 1) (f' := fun j => some ((adF ad0 q v0 v1 v2 vl vm vh qh ah ql qs s1 s2 tx ou od) (elt 16 0 (j : Int)).1 (elt 16 0 (j : Int)).2)) rfl (fun j hj => by
    match j, hj with
    | 0, _ => rfl
    | 1, _ => rfl
    | 2, _ => rfl
    | 3, _ => rfl
    | 4, _ => rfl
    | k + 5, hj => omega)
  have hP := hP.arr (k := 2) (f' := fun j => some ((adF ad0 q v0 v1 v2 vl vm vh qh ah ql qs s1 s2 tx ou od) (elt 17 0 (j : Int)).1 (elt 17 0 (j : Int)).2)) rfl (fun j hj => by
    match j, hj with
    | 0, _ => rfl
    | 1, _ => rfl
    | 2, _ => rfl
    | 3, _ => rfl
    | 4, _ => rfl
    | k + 5, hj => omega)
  have hP := hP.arr (k := 3) (f' := fun j => some ((adF ad0 q v0 v1 v2 vl vm vh qh ah ql qs s1 s2 tx ou od) (elt 18 0 (j : Int)).1 (elt 18 0 (j : Int)).2)) rfl (fun j hj => by
    match j, hj with
    | 0, _ => rfl
    | 1, _ => rfl
    | 2, _ => rfl
    | 3, _ => rfl
    | 4, _ => rfl
    | k + 5, hj => omega)
  exact hP
set_option maxRecDepth 20000 in
theorem wf_map {ad0 : Nat → Int → Nat} {cA : Nat → ClassId} {g : GG} {q qh ah ql qs s1 s2 tx ou od : Nat} {v0 v1 v2 vl vm : List Nat} {vh : Nat → List Nat} {D : va_G} {H : Heap} (hP : va_P D cls_ (wMap cA ad0 g q v0 v1 v2 vl vh qh ah ql qs s1 s2 tx) H) : va_P D cls_ (Wl csMap (adF ad0 q v0 v1 v2 vl vm vh qh ah ql qs s1 s2 tx ou od) cA (Gfin g)) H := by
  unfold wMap at hP
  have h0 : va_P D cls_ (Wl [(0, 0)] (adF ad0 q v0 v1 v2 vl vm vh qh ah ql qs s1 s2 tx ou od) cA (Gfin g)) H := hP.hd
  have hP := hP.tl
  have h8 : va_P D cls_ (Wl [(24, 0)] (adF ad0 q v0 v1 v2 vl vm vh qh ah ql qs s1 s2 tx ou od) cA (Gfin g)) H := hP.rgt
  have hP := hP.lft
  have h7 : va_P D cls_ (Wl csScr (adF ad0 q v0 v1 v2 vl vm vh qh ah ql qs s1 s2 tx ou od) cA (Gfin g)) H := hP.rgt
  have hP := hP.lft
  have h6 := wf_lev (ad0 := ad0) (g := g) (q := q) (qh := qh) (ah := ah) (qs := qs) (s1 := s1) (s2 := s2) (tx := tx) (ou := ou) (od := od) (v1 := v1) (v2 := v2) (vm := vm) (vh := vh) hP.rgt
  have hP := hP.lft
  have h5 := wf_his (q := q) (ql := ql) (qs := qs) (s1 := s1) (s2 := s2) (tx := tx) (ou := ou) (od := od) (v0 := v0) (v1 := v1) (v2 := v2) (vl := vl) (vm := vm) hP.rgt
  have hP := hP.lft
  have h3 := hP.rgt
  have hP := hP.lft
  have h2 := hP.rgt
  have hP := hP.lft
  have h1 := hP.rgt
  rw [wf_S0 (q := q) (qh := qh) (ah := ah) (ql := ql) (qs := qs) (s1 := s1) (s2 := s2) (tx := tx) (ou := ou) (od := od) (v0 := v0) (v1 := v1) (v2 := v2) (vl := vl) (vm := vm) (vh := vh)] at h1
  rw [wf_S1 (q := q) (qh := qh) (ah := ah) (ql := ql) (qs := qs) (s1 := s1) (s2 := s2) (tx := tx) (ou := ou) (od := od) (v0 := v0) (v1 := v1) (v2 := v2) (vl := vl) (vm := vm) (vh := vh)] at h2
  rw [wf_S2 (q := q) (qh := qh) (ah := ah) (ql := ql) (qs := qs) (s1 := s1) (s2 := s2) (tx := tx) (ou := ou) (od := od) (v0 := v0) (v1 := v1) (v2 := v2) (vl := vl) (vm := vm) (vh := vh)] at h3
  exact ((((((h0.wapp h1).wapp h2).wapp h3).wapp h5).wapp h6).wapp h7).wapp h8
set_option maxRecDepth 20000 in
theorem wf_D {ad0 : Nat → Int → Nat} {cA : Nat → ClassId} {g : GG} {q qh ah ql qs s1 s2 tx ou od : Nat} {v0 v1 v2 vl vm : List Nat} {vh : Nat → List Nat} {A : Nat → Prop} {eo ed : va_E} (hD : va_D A ([] ++ wMap cA ad0 g q v0 v1 v2 vl vh qh ah ql qs s1 s2 tx ++ Wl csM (adL ad0 25 vm) cA (GMo g) ++ [(ou, eo)] ++ [(od, ed)])) : va_D A (Wl csAll (adF ad0 q v0 v1 v2 vl vm vh qh ah ql qs s1 s2 tx ou od) cA (Gfin g)) := by
  refine va_D.fst ?_ hD
  rw [Wl_fst]
  simp only [wMap, wHis, wLev, csAll, csMap, csHi, csLv, csScr, csS, csM, List.map_append, List.map_cons, List.map_nil, Wl_fst, List.nil_append]
  rfl
