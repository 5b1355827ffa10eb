/-! ===== what a method answers, without a count of steps: run ===== -/
def Ev (P : Nat → Prop) : Prop := ∃ n0 : Nat, ∀ n : Nat, n0 ≤ n → P n
theorem Ev.const {P : Prop} (h : P) : Ev fun _ => P := ⟨0, fun _ _ => h⟩
theorem Ev.and {P Q : Nat → Prop} (h1 : Ev P) (h2 : Ev Q) : Ev fun n => P n ∧ Q n := by
  obtain ⟨a, ha⟩ := h1
  obtain ⟨b, hb⟩ := h2
  exact ⟨a + b, fun n hn => ⟨ha n (by omega), hb n (by omega)⟩⟩
theorem Ev.mono {P Q : Nat → Prop} (h1 : Ev P) (h : ∀ n, P n → Q n) : Ev Q := by
  obtain ⟨a, ha⟩ := h1
  exact ⟨a, fun n hn => h n (ha n hn)⟩
section CASES
theorem sst_c (ls : Lcs) (j : Nat) (v : AV) : (Nat.blt j ls.length = true ∧ ok1 ls j = true ∧ ∀ k, sst ls j v k = k (lset ls j (some v))) ∨ ∀ k, sst ls j v k = none := by
  unfold sst
  cases h1 : Nat.blt j ls.length <;> cases h2 : ok1 ls j <;> simp
theorem sst2_c (ls : Lcs) (j : Nat) (v : AV) : (Nat.blt (j + 1) ls.length = true ∧ ok1 ls j = true ∧ ∀ k, sst2 ls j v k = k (lset (lset ls j (some v)) (j + 1) none)) ∨ ∀ k, sst2 ls j v k = none := by
  unfold sst2
  cases h1 : Nat.blt (j + 1) ls.length <;> cases h2 : ok1 ls j <;> simp
theorem sLd_c (ls : Lcs) (j : Nat) : (∃ x, lget ls j = some (.inl x) ∧ ∀ k, sLd ls j k = k x) ∨ ∀ k, sLd ls j k = none := by
  unfold sLd
  split
  · exact Or.inl ⟨_, by assumption, fun _ => rfl⟩
  · exact Or.inr fun _ => rfl
theorem sLdR_c (ls : Lcs) (j : Nat) : (∃ t i, lget ls j = some (.inr (.inl (t, i))) ∧ ∀ k, sLdR ls j k = k t i) ∨ ∀ k, sLdR ls j k = none := by
  unfold sLdR
  split
  · exact Or.inl ⟨_, _, by assumption, fun _ => rfl⟩
  · exact Or.inr fun _ => rfl
theorem sLdD_c (ls : Lcs) (j : Nat) : (∃ x, lget ls j = some (.inr (.inr (.inr x))) ∧ ∀ k, sLdD ls j k = k x) ∨ ∀ k, sLdD ls j k = none := by
  unfold sLdD
  split
  · exact Or.inl ⟨_, by assumption, fun _ => rfl⟩
  · exact Or.inr fun _ => rfl
theorem p1_c (st : List AV) : (∃ x s, st = .inl x :: s ∧ ∀ k, p1 st k = k x s) ∨ ∀ k, p1 st k = none := by
  unfold p1
  split
  · exact Or.inl ⟨_, _, rfl, fun _ => rfl⟩
  · exact Or.inr fun _ => rfl
theorem p2_c (st : List AV) : (∃ x y s, st = .inl y :: .inl x :: s ∧ ∀ k, p2 st k = k x y s) ∨ ∀ k, p2 st k = none := by
  unfold p2
  split
  · exact Or.inl ⟨_, _, _, rfl, fun _ => rfl⟩
  · exact Or.inr fun _ => rfl
theorem pR_c (st : List AV) : (∃ t i s, st = .inr (.inl (t, i)) :: s ∧ ∀ k, pR st k = k t i s) ∨ ∀ k, pR st k = none := by
  unfold pR
  split
  · exact Or.inl ⟨_, _, _, rfl, fun _ => rfl⟩
  · exact Or.inr fun _ => rfl
theorem pRI_c (st : List AV) : (∃ t i j s, st = .inl j :: .inr (.inl (t, i)) :: s ∧ ∀ k, pRI st k = k t i j s) ∨ ∀ k, pRI st k = none := by
  unfold pRI
  split
  · exact Or.inl ⟨_, _, _, _, rfl, fun _ => rfl⟩
  · exact Or.inr fun _ => rfl
theorem pRV_c (st : List AV) : (∃ t i j s, st = .inl j :: .inr (.inl (t, i)) :: s ∧ ∀ k, pRV st k = k t i j s) ∨ ∀ k, pRV st k = none := by
  unfold pRV
  split
  · exact Or.inl ⟨_, _, _, _, rfl, fun _ => rfl⟩
  · exact Or.inr fun _ => rfl
theorem pRIV_c (st : List AV) : (∃ t i j x s, st = .inl x :: .inl j :: .inr (.inl (t, i)) :: s ∧ ∀ k, pRIV st k = k t i j x s) ∨ ∀ k, pRIV st k = none := by
  unfold pRIV
  split
  · exact Or.inl ⟨_, _, _, _, _, rfl, fun _ => rfl⟩
  · exact Or.inr fun _ => rfl
theorem pRIJ_c (st : List AV) : (∃ t i j x s, st = .inr (.inr (.inl x)) :: .inl j :: .inr (.inl (t, i)) :: s ∧ ∀ k, pRIJ st k = k t i j x s) ∨ ∀ k, pRIJ st k = none := by
  unfold pRIJ
  split
  · exact Or.inl ⟨_, _, _, _, _, rfl, fun _ => rfl⟩
  · exact Or.inr fun _ => rfl
theorem pRID_c (st : List AV) : (∃ t i j x s, st = .inr (.inr (.inr x)) :: .inl j :: .inr (.inl (t, i)) :: s ∧ ∀ k, pRID st k = k t i j x s) ∨ ∀ k, pRID st k = none := by
  unfold pRID
  split
  · exact Or.inl ⟨_, _, _, _, _, rfl, fun _ => rfl⟩
  · exact Or.inr fun _ => rfl
theorem pD_c (st : List AV) : (∃ x s, st = .inr (.inr (.inr x)) :: s ∧ ∀ k, pD st k = k x s) ∨ ∀ k, pD st k = none := by
  unfold pD
  split
  · exact Or.inl ⟨_, _, rfl, fun _ => rfl⟩
  · exact Or.inr fun _ => rfl
theorem pD2_c (st : List AV) : (∃ x y s, st = .inr (.inr (.inr y)) :: .inr (.inr (.inr x)) :: s ∧ ∀ k, pD2 st k = k x y s) ∨ ∀ k, pD2 st k = none := by
  unfold pD2
  split
  · exact Or.inl ⟨_, _, _, rfl, fun _ => rfl⟩
  · exact Or.inr fun _ => rfl
theorem pJ2_c (st : List AV) : (∃ x y s, st = .inr (.inr (.inl y)) :: .inr (.inr (.inl x)) :: s ∧ ∀ k, pJ2 st k = k x y s) ∨ ∀ k, pJ2 st k = none := by
  unfold pJ2
  split
  · exact Or.inl ⟨_, _, _, rfl, fun _ => rfl⟩
  · exact Or.inr fun _ => rfl
theorem pCpy_c (st : List AV) : (∃ ts is sp td id dp n s, st = .inl n :: .inl dp :: .inr (.inl (td, id)) :: .inl sp :: .inr (.inl (ts, is)) :: s ∧ ∀ k, pCpy st k = k ts is sp td id dp n s) ∨ ∀ k, pCpy st k = none := by
  unfold pCpy
  split
  · exact Or.inl ⟨_, _, _, _, _, _, _, _, rfl, fun _ => rfl⟩
  · exact Or.inr fun _ => rfl
theorem jmp_c (pc : Nat) (off : Int) : (∃ t : Nat, (pc : Int) + off = (t : Int) ∧ ∀ k, jmp pc off k = k t) ∨ ∀ k, jmp pc off k = none := by
  unfold jmp
  split
  · rename_i t h
    exact Or.inl ⟨t, h, fun _ => rfl⟩
  · exact Or.inr fun _ => rfl
theorem br_cc (c : Jvm.ClassFile.Cond) (x y : Int) : (∀ a b, br c x y a b = a) ∨ ∀ a b, br c x y a b = b := by
  cases c <;> unfold br <;> by_cases h : x = y <;> by_cases h1 : x < y <;> by_cases h2 : y < x <;> simp [h, h1, h2]
end CASES
/-- N is what Nn comes to -/
def Lim (N : Nat → Lcs → List AV → GG → RS) (Nn : Nat → Nat → Lcs → List AV → GG → RS) : Prop := ∀ pc ls st G r, N pc ls st G = some r → Ev fun n => Nn n pc ls st G = some r
def LimF (F : Nat → List AV → GG → RS) (Fn : Nat → Nat → List AV → GG → RS) : Prop := ∀ z a G r, F z a G = some r → Ev fun n => Fn n z a G = some r
theorem tsel_ev {k : Int → RS} {kn : Nat → Int → RS} {d : RS} {dn : Nat → RS} {r : RV × GG} (hk : ∀ o, k o = some r → Ev fun n => kn n o = some r) (hd : d = some r → Ev fun n => dn n = some r) :
    ∀ (l : List Int) (c x : Int), tsel l c x k d = some r → Ev fun n => tsel l c x (kn n) (dn n) = some r
  | [], c, x, h => hd h
  | o :: l, c, x, h => by
    unfold tsel at h ⊢
    by_cases hx : x = c
    · simp only [hx, if_true] at h ⊢
      exact hk o h
    · simp only [hx, if_false] at h ⊢
      exact tsel_ev hk hd l (c + 1) x h
theorem hsel_ev {k : Nat → RS} {kn : Nat → Nat → RS} {d : RS} {dn : Nat → RS} {r : RV × GG} (hk : ∀ o, k o = some r → Ev fun n => kn n o = some r) (hd : d = some r → Ev fun n => dn n = some r) :
    ∀ (l : List (Nat × Nat)) (e : Nat), hsel l e k d = some r → Ev fun n => hsel l e (kn n) (dn n) = some r
  | [], e, h => hd h
  | (c, o) :: l, e, h => by
    unfold hsel at h ⊢
    by_cases hx : e = c
    · simp only [hx, if_true] at h ⊢
      exact hk o h
    · simp only [hx, if_false] at h ⊢
      exact hsel_ev hk hd l e h
theorem catchAt_c (y hp : Nat) (ls : Lcs) : (∃ j len, (cd y hp = some (.astore j, len) ∨ ∃ jj : Fin 4, j = jj.val ∧ cd y hp = some (.astore_n jj, len)) ∧ Nat.blt j ls.length = true ∧ ok1 ls j = true ∧ ∀ N G, catchAt N y hp ls G = N (hp + len) (lset ls j none) [] G) ∨ ∀ N G, catchAt N y hp ls G = none := by
  unfold catchAt
  split
  · rename_i j len hc
    cases h1 : Nat.blt j.val ls.length <;> cases h2 : ok1 ls j.val
    · exact Or.inr fun _ _ => rfl
    · exact Or.inr fun _ _ => rfl
    · exact Or.inr fun _ _ => rfl
    · exact Or.inl ⟨j.val, len, Or.inr ⟨j, rfl, hc⟩, h1, h2, fun _ _ => rfl⟩
  · rename_i j len hc
    cases h1 : Nat.blt j ls.length <;> cases h2 : ok1 ls j
    · exact Or.inr fun _ _ => rfl
    · exact Or.inr fun _ _ => rfl
    · exact Or.inr fun _ _ => rfl
    · exact Or.inl ⟨j, len, Or.inl hc, h1, h2, fun _ _ => rfl⟩
  · exact Or.inr fun _ _ => rfl
theorem catchAt_ev {N Nn} (hN : Lim N Nn) {y hp : Nat} {ls : Lcs} {G : GG} {r : RV × GG} (h : catchAt N y hp ls G = some r) : Ev fun n => catchAt (Nn n) y hp ls G = some r := by
  rcases catchAt_c y hp ls with ⟨j, len, -, -, -, hk⟩ | hk
  · simp only [hk] at h ⊢
    exact hN _ _ _ _ _ h
  · rw [hk] at h; cases h
theorem contV_ev {r0 : RS} {r0n : Nat → RS} {h : Nat → GG → RS} {hn : Nat → Nat → GG → RS} {k : GG → RS} {kn : Nat → GG → RS} {r : RV × GG} (h0 : ∀ q, r0 = some q → Ev fun n => r0n n = some q)
    (hh : ∀ e G, h e G = some r → Ev fun n => hn n e G = some r) (hk : ∀ G, k G = some r → Ev fun n => kn n G = some r) (hc : contV r0 h k = some r) : Ev fun n => contV (r0n n) (hn n) (kn n) = some r := by
  unfold contV at hc
  split at hc
  · exact ((h0 _ rfl).and (hk _ hc)).mono fun n q => by simp only [contV, q.1, q.2]
  · exact ((h0 _ rfl).and (hh _ _ hc)).mono fun n q => by simp only [contV, q.1, q.2]
  · cases hc
theorem contI_ev {r0 : RS} {r0n : Nat → RS} {h : Nat → GG → RS} {hn : Nat → Nat → GG → RS} {k : Int → GG → RS} {kn : Nat → Int → GG → RS} {r : RV × GG} (h0 : ∀ q, r0 = some q → Ev fun n => r0n n = some q)
    (hh : ∀ e G, h e G = some r → Ev fun n => hn n e G = some r) (hk : ∀ x G, k x G = some r → Ev fun n => kn n x G = some r) (hc : contI r0 h k = some r) : Ev fun n => contI (r0n n) (hn n) (kn n) = some r := by
  unfold contI at hc
  split at hc
  · exact ((h0 _ rfl).and (hk _ _ hc)).mono fun n q => by simp only [contI, q.1, q.2]
  · exact ((h0 _ rfl).and (hh _ _ hc)).mono fun n q => by simp only [contI, q.1, q.2]
  · cases hc
theorem contD_ev {r0 : RS} {r0n : Nat → RS} {h : Nat → GG → RS} {hn : Nat → Nat → GG → RS} {k : UInt64 → GG → RS} {kn : Nat → UInt64 → GG → RS} {r : RV × GG} (h0 : ∀ q, r0 = some q → Ev fun n => r0n n = some q)
    (hh : ∀ e G, h e G = some r → Ev fun n => hn n e G = some r) (hk : ∀ x G, k x G = some r → Ev fun n => kn n x G = some r) (hc : contD r0 h k = some r) : Ev fun n => contD (r0n n) (hn n) (kn n) = some r := by
  unfold contD at hc
  split at hc
  · exact ((h0 _ rfl).and (hk _ _ hc)).mono fun n q => by simp only [contD, q.1, q.2]
  · exact ((h0 _ rfl).and (hh _ _ hc)).mono fun n q => by simp only [contD, q.1, q.2]
  · cases hc
theorem contR_ev {t : Nat} {r0 : RS} {r0n : Nat → RS} {h : Nat → GG → RS} {hn : Nat → Nat → GG → RS} {k : Int → GG → RS} {kn : Nat → Int → GG → RS} {r : RV × GG} (h0 : ∀ q, r0 = some q → Ev fun n => r0n n = some q)
    (hh : ∀ e G, h e G = some r → Ev fun n => hn n e G = some r) (hk : ∀ x G, k x G = some r → Ev fun n => kn n x G = some r) (hc : contR t r0 h k = some r) : Ev fun n => contR t (r0n n) (hn n) (kn n) = some r := by
  unfold contR at hc
  split at hc
  · split at hc
    · rename_i ht
      exact ((h0 _ rfl).and (hk _ _ hc)).mono fun n q => by simp only [contR, q.1, q.2, ht, if_true]
    · cases hc
  · exact ((h0 _ rfl).and (hh _ _ hc)).mono fun n q => by simp only [contR, q.1, q.2]
  · cases hc
theorem sCall_ev {N Nn F Fn} (hN : Lim N Nn) (hF : LimF F Fn) {y pc z : Nat} {v : Bool} {ls : Lcs} {st : List AV} {G : GG} {r : RV × GG} (h : sCall N F y pc z v ls st G = some r) : Ev fun n => sCall (Nn n) (Fn n) y pc z v ls st G = some r := by
  have hx : ∀ e G', hsel (hAt y pc) e (fun hp => catchAt N y hp ls G') (some (.inr e, G')) = some r → Ev fun n => hsel (hAt y pc) e (fun hp => catchAt (Nn n) y hp ls G') (some (.inr e, G')) = some r :=
    fun e G' h => hsel_ev (fun _ h => catchAt_ev hN h) (fun h => Ev.const h) _ _ h
  unfold sCall at h ⊢
  generalize mt z = q at h ⊢
  obtain ⟨ac, rk, rt, ht⟩ := q
  dsimp only at h ⊢
  generalize (Nat.blt ht (mt y).2.2.2 && Nat.ble ac st.length && Nat.beq (wsum (st.take ac)) ac && Nat.ble (wsum (st.drop ac)) 8 && (!v || recvOk rt (st.take ac).reverse)) = b at h ⊢
  cases b
  · cases h
  · match rk, h with
    | 0, h => exact contV_ev (fun q h => hF _ _ _ _ h) hx (fun G h => hN _ _ _ _ _ h) h
    | 1, h => exact contI_ev (fun q h => hF _ _ _ _ h) hx (fun x G h => hN _ _ _ _ _ h) h
    | 2, h => exact contD_ev (fun q h => hF _ _ _ _ h) hx (fun x G h => hN _ _ _ _ _ h) h
    | t + 3, h => exact contR_ev (fun q h => hF _ _ _ _ h) hx (fun x G h => hN _ _ _ _ _ h) h
