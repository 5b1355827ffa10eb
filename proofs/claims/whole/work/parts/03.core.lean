/-! ===== the small machine: what a method answers, as a function of ints; its tables are part 02 ===== -/
def up (G : GG) (t : Nat) (i k v : Int) : GG := fun t' i' k' => if t' = t ∧ i' = i ∧ k' = k then v else G t' i' k'
def cpy (G : GG) (ts : Nat) (is sp : Int) (td : Nat) (id dp n : Int) : GG := fun t i k => if t = td ∧ i = id ∧ dp ≤ k ∧ k < dp + n then G ts is (sp + (k - dp)) else G t i k
def bump (G : GG) : GG := up G tCNT 0 0 (G tCNT 0 0 + 1)
def wr (z : Int) : Int := (z + 2147483648) % 4294967296 - 2147483648
def mMin (x y : Int) : Int := if y < x then y else x
def mMax (x y : Int) : Int := if x < y then y else x
def mAbs (x : Int) : Int := if 0 ≤ x then x else wr (0 - x)
def bAnd (x y : Int) : Int := (Int32.ofInt x &&& Int32.ofInt y).toInt
def bOr (x y : Int) : Int := (Int32.ofInt x ||| Int32.ofInt y).toInt
def bShl (x y : Int) : Int := (Int32.ofInt x <<< (Int32.ofInt y &&& 31)).toInt
def bShr (x y : Int) : Int := (Int32.ofInt x >>> (Int32.ofInt y &&& 31)).toInt
def bUshr (x y : Int) : Int := ((Int32.ofInt x).toUInt32 >>> ((Int32.ofInt y).toUInt32 &&& Int32.toUInt32 31)).toInt32.toInt
def iDiv (x y : Int) : Int := (Int32.ofInt x / Int32.ofInt y).toInt
def iRem (x y : Int) : Int := (Int32.ofInt x - Int32.ofInt x / Int32.ofInt y * Int32.ofInt y).toInt
def iChr (x : Int) : Int := ((Int32.ofInt x).toUInt32 % 65536).toInt32.toInt
def jCmp (x y : Int) : Int := if x < y then -1 else if x = y then 0 else 1
def dCmp (x y : UInt64) (op : CmpOp) : Int := (Op.cmpValue (FP.dcmp x y) op).toInt
def dOf (x : Int) : UInt64 := FP.i2d (Int32.ofInt x)
def dBits (x : Int) : UInt64 := UInt64.ofNat x.toNat
def dInt (x : UInt64) : Int := (x.toNat : Int)
def lget : Lcs → Nat → Option AV
  | [], _ => none
  | v :: _, 0 => v
  | _ :: l, n + 1 => lget l n
def lset : Lcs → Nat → Option AV → Lcs
  | [], _, _ => []
  | _ :: l, 0, w => w :: l
  | v :: l, n + 1, w => v :: lset l n w
def msk : List Bool → Lcs → Lcs
  | b :: m, v :: l => (bif b then v else none) :: msk m l
  | _, _ => []
def avc (v : AV) : Nat := match v with
  | .inl _ => 1
  | .inr (.inl _) => 1
  | .inr (.inr _) => 2
def wsum : List AV → Nat
  | [] => 0
  | v :: l => avc v + wsum l
def ok1 (ls : Lcs) (j : Nat) : Bool := match j with
  | 0 => true
  | k + 1 => match lget ls k with
    | none => true
    | some v => Nat.beq (avc v) 1
def sst (ls : Lcs) (j : Nat) (v : AV) (k : Lcs → RS) : RS := bif Nat.blt j ls.length && ok1 ls j then k (lset ls j (some v)) else none
def sst2 (ls : Lcs) (j : Nat) (v : AV) (k : Lcs → RS) : RS := bif Nat.blt (j + 1) ls.length && ok1 ls j then k (lset (lset ls j (some v)) (j + 1) none) else none
def sLd (ls : Lcs) (j : Nat) (k : Int → RS) : RS := match lget ls j with
  | some (.inl x) => k x
  | _ => none
def sLdR (ls : Lcs) (j : Nat) (k : Nat → Int → RS) : RS := match lget ls j with
  | some (.inr (.inl (t, i))) => k t i
  | _ => none
def sLdD (ls : Lcs) (j : Nat) (k : UInt64 → RS) : RS := match lget ls j with
  | some (.inr (.inr (.inr x))) => k x
  | _ => none
def p1 (st : List AV) (k : Int → List AV → RS) : RS := match st with
  | .inl x :: st => k x st
  | _ => none
def p2 (st : List AV) (k : Int → Int → List AV → RS) : RS := match st with
  | .inl y :: .inl x :: st => k x y st
  | _ => none
def pR (st : List AV) (k : Nat → Int → List AV → RS) : RS := match st with
  | .inr (.inl (t, i)) :: st => k t i st
  | _ => none
def pRI (st : List AV) (k : Nat → Int → Int → List AV → RS) : RS := match st with
  | .inl j :: .inr (.inl (t, i)) :: st => k t i j st
  | _ => none
def pRV (st : List AV) (k : Nat → Int → Int → List AV → RS) : RS := match st with
  | .inl x :: .inr (.inl (t, i)) :: st => k t i x st
  | _ => none
def pRIV (st : List AV) (k : Nat → Int → Int → Int → List AV → RS) : RS := match st with
  | .inl x :: .inl j :: .inr (.inl (t, i)) :: st => k t i j x st
  | _ => none
def pRIJ (st : List AV) (k : Nat → Int → Int → Int → List AV → RS) : RS := match st with
  | .inr (.inr (.inl x)) :: .inl j :: .inr (.inl (t, i)) :: st => k t i j x st
  | _ => none
def pRID (st : List AV) (k : Nat → Int → Int → UInt64 → List AV → RS) : RS := match st with
  | .inr (.inr (.inr x)) :: .inl j :: .inr (.inl (t, i)) :: st => k t i j x st
  | _ => none
def pD (st : List AV) (k : UInt64 → List AV → RS) : RS := match st with
  | .inr (.inr (.inr x)) :: st => k x st
  | _ => none
def pD2 (st : List AV) (k : UInt64 → UInt64 → List AV → RS) : RS := match st with
  | .inr (.inr (.inr y)) :: .inr (.inr (.inr x)) :: st => k x y st
  | _ => none
def pJ2 (st : List AV) (k : Int → Int → List AV → RS) : RS := match st with
  | .inr (.inr (.inl y)) :: .inr (.inr (.inl x)) :: st => k x y st
  | _ => none
def pCpy (st : List AV) (k : Nat → Int → Int → Nat → Int → Int → Int → List AV → RS) : RS := match st with
  | .inl n :: .inl dp :: .inr (.inl (td, id)) :: .inl sp :: .inr (.inl (ts, is)) :: st => k ts is sp td id dp n st
  | _ => none
def br (c : Jvm.ClassFile.Cond) (x y : Int) (a b : RS) : RS := match c with
  | .eq => if x = y then a else b
  | .ne => if x = y then b else a
  | .lt => if x < y then a else b
  | .ge => if x < y then b else a
  | .gt => if y < x then a else b
  | .le => if y < x then b else a
def jmp (pc : Nat) (off : Int) (k : Nat → RS) : RS := match (pc : Int) + off with
  | .ofNat t => k t
  | .negSucc _ => none
def tsel : List Int → Int → Int → (Int → RS) → RS → RS
  | [], _, _, _, d => d
  | o :: l, c, x, k, d => if x = c then k o else tsel l (c + 1) x k d
def hsel : List (Nat × Nat) → Nat → (Nat → RS) → RS → RS
  | [], _, _, d => d
  | (c, h) :: l, e, k, d => if e = c then k h else hsel l e k d
def contV (r : RS) (h : Nat → GG → RS) (k : GG → RS) : RS := match r with
  | some (.inl none, G) => k G
  | some (.inr e, G) => h e G
  | _ => none
def contI (r : RS) (h : Nat → GG → RS) (k : Int → GG → RS) : RS := match r with
  | some (.inl (some (.inl x)), G) => k x G
  | some (.inr e, G) => h e G
  | _ => none
def contR (t : Nat) (r : RS) (h : Nat → GG → RS) (k : Int → GG → RS) : RS := match r with
  | some (.inl (some (.inr (.inl (t', i)))), G) => if t' = t then k i G else none
  | some (.inr e, G) => h e G
  | _ => none
def contD (r : RS) (h : Nat → GG → RS) (k : UInt64 → GG → RS) : RS := match r with
  | some (.inl (some (.inr (.inr (.inr x)))), G) => k x G
  | some (.inr e, G) => h e G
  | _ => none
abbrev thru : Nat → GG → RS := fun e G => some (.inr e, G)
def bV (r : RS) (k : GG → RS) : RS := contV r thru k
def bI (r : RS) (k : Int → GG → RS) : RS := contI r thru k
def bR (t : Nat) (r : RS) (k : Int → GG → RS) : RS := contR t r thru k
def bD (r : RS) (k : UInt64 → GG → RS) : RS := contD r thru k
abbrev rI (x : Int) (G : GG) : RS := some (.inl (some (.inl x)), G)
abbrev rV (G : GG) : RS := some (.inl none, G)
abbrev rR (t : Nat) (i : Int) (G : GG) : RS := some (.inl (some (.inr (.inl (t, i)))), G)
abbrev rD (x : UInt64) (G : GG) : RS := some (.inl (some (.inr (.inr (.inr x)))), G)
abbrev rX (e : Nat) (G : GG) : RS := some (.inr e, G)
/-- the handlers of y that cover pc: exception, place -/
noncomputable def hAt (y pc : Nat) : List (Nat × Nat) := (hnd y).filterMap fun q => bif Nat.ble q.1 pc && Nat.blt pc q.2.1 then some (q.2.2.2, q.2.2.1) else none
/-- at a handler the exception is put away at once -/
noncomputable def catchAt (N : Nat → Lcs → List AV → GG → RS) (y hp : Nat) (ls : Lcs) (G : GG) : RS := match cd y hp with
  | some (.astore_n j, len) => bif Nat.blt j.val ls.length && ok1 ls j.val then N (hp + len) (lset ls j.val none) [] G else none
  | some (.astore j, len) => bif Nat.blt j ls.length && ok1 ls j then N (hp + len) (lset ls j none) [] G else none
  | _ => none
def recvOk (rt : Nat) (a : List AV) : Bool := match a with
  | .inr (.inl (t, _)) :: _ => Nat.beq t rt
  | _ => false
noncomputable def sCall (N : Nat → Lcs → List AV → GG → RS) (F : Nat → List AV → GG → RS) (y pc z : Nat) (virt : Bool) (ls : Lcs) (st : List AV) (G : GG) : RS := match mt z with
  | (ac, rk, rt, h) =>
    bif Nat.blt h (mt y).2.2.2 && Nat.ble ac st.length && Nat.beq (wsum (st.take ac)) ac && Nat.ble (wsum (st.drop ac)) 8 && (!virt || recvOk rt (st.take ac).reverse) then
      match rk with
      | 0 => contV (F z (st.take ac).reverse G) (fun e G' => hsel (hAt y pc) e (fun hp => catchAt N y hp ls G') (some (.inr e, G'))) (fun G' => N (pc + 3) ls (st.drop ac) G')
      | 1 => contI (F z (st.take ac).reverse G) (fun e G' => hsel (hAt y pc) e (fun hp => catchAt N y hp ls G') (some (.inr e, G'))) (fun x G' => N (pc + 3) ls (.inl x :: st.drop ac) G')
      | 2 => contD (F z (st.take ac).reverse G) (fun e G' => hsel (hAt y pc) e (fun hp => catchAt N y hp ls G') (some (.inr e, G'))) (fun x G' => N (pc + 3) ls (.inr (.inr (.inr x)) :: st.drop ac) G')
      | t + 3 => contR t (F z (st.take ac).reverse G) (fun e G' => hsel (hAt y pc) e (fun hp => catchAt N y hp ls G') (some (.inr e, G'))) (fun i G' => N (pc + 3) ls (.inr (.inl (t, i)) :: st.drop ac) G')
    else none
noncomputable def sStep (N : Nat → Lcs → List AV → GG → RS) (F : Nat → List AV → GG → RS) (y pc : Nat) (ls : Lcs) (st : List AV) (G : GG) : RS := match cd y pc with
  | none => none
  | some (ins, len) => match ins with
    | .iconst v => N (pc + len) ls (.inl v :: st) G
    | .bipush v => N (pc + len) ls (.inl v :: st) G
    | .sipush v => N (pc + len) ls (.inl v :: st) G
    | .ldc k => match kon (own y) k with
      | some v => N (pc + len) ls (.inl v :: st) G
      | none => none
    | .ldc_w k => match kon (own y) k with
      | some v => N (pc + len) ls (.inl v :: st) G
      | none => none
    | .iload j => sLd ls j fun x => N (pc + len) ls (.inl x :: st) G
    | .iload_n j => sLd ls j.val fun x => N (pc + len) ls (.inl x :: st) G
    | .aload j => sLdR ls j fun t i => N (pc + len) ls (.inr (.inl (t, i)) :: st) G
    | .aload_n j => sLdR ls j.val fun t i => N (pc + len) ls (.inr (.inl (t, i)) :: st) G
    | .dload j => sLdD ls j fun x => N (pc + len) ls (.inr (.inr (.inr x)) :: st) G
    | .istore j => p1 st fun x st => sst ls j (.inl x) fun ls => N (pc + len) ls st G
    | .istore_n j => p1 st fun x st => sst ls j.val (.inl x) fun ls => N (pc + len) ls st G
    | .astore j => pR st fun t i st => sst ls j (.inr (.inl (t, i))) fun ls => N (pc + len) ls st G
    | .astore_n j => pR st fun t i st => sst ls j.val (.inr (.inl (t, i))) fun ls => N (pc + len) ls st G
    | .dstore j => pD st fun x st => sst2 ls j (.inr (.inr (.inr x))) fun ls => N (pc + len) ls st G
    | .iinc j v => sLd ls j fun x => sst ls j (.inl (wr (x + v))) fun ls => N (pc + len) ls st G
    | .iadd => p2 st fun x y st => N (pc + len) ls (.inl (wr (x + y)) :: st) G
    | .isub => p2 st fun x y st => N (pc + len) ls (.inl (wr (x - y)) :: st) G
    | .imul => p2 st fun x y st => N (pc + len) ls (.inl (wr (x * y)) :: st) G
    | .iand => p2 st fun x y st => N (pc + len) ls (.inl (bAnd x y) :: st) G
    | .ior => p2 st fun x y st => N (pc + len) ls (.inl (bOr x y) :: st) G
    | .ishl => p2 st fun x y st => N (pc + len) ls (.inl (bShl x y) :: st) G
    | .ishr => p2 st fun x y st => N (pc + len) ls (.inl (bShr x y) :: st) G
    | .iushr => p2 st fun x y st => N (pc + len) ls (.inl (bUshr x y) :: st) G
    | .idiv => p2 st fun x y st => if y = 0 then none else N (pc + len) ls (.inl (iDiv x y) :: st) G
    | .irem => p2 st fun x y st => if y = 0 then none else N (pc + len) ls (.inl (iRem x y) :: st) G
    | .ineg => p1 st fun x st => N (pc + len) ls (.inl (wr (-x)) :: st) G
    | .i2c => p1 st fun x st => N (pc + len) ls (.inl (iChr x) :: st) G
    | .i2l => p1 st fun x st => N (pc + len) ls (.inr (.inr (.inl x)) :: st) G
    | .i2d => p1 st fun x st => N (pc + len) ls (.inr (.inr (.inr (dOf x))) :: st) G
    | .ddiv => pD2 st fun x y st => if FP.ddiv x y &&& 0x7fffffffffffffff ≤ 0x7ff0000000000000 then N (pc + len) ls (.inr (.inr (.inr (FP.ddiv x y))) :: st) G else none
    | .dconst d => bif Nat.beq d.val 0 then N (pc + len) ls (.inr (.inr (.inr FP.dconst0)) :: st) G else none
    | .dcmp op => pD2 st fun x y st => N (pc + len) ls (.inl (dCmp x y op) :: st) G
    | .lcmp => pJ2 st fun x y st => N (pc + len) ls (.inl (jCmp x y) :: st) G
    | .dup => match st with
      | .inl x :: st => N (pc + len) ls (.inl x :: .inl x :: st) G
      | .inr (.inl q) :: st => N (pc + len) ls (.inr (.inl q) :: .inr (.inl q) :: st) G
      | _ => none
    | .dup2 => pRI st fun t i j st => N (pc + len) ls (.inl j :: .inr (.inl (t, i)) :: .inl j :: .inr (.inl (t, i)) :: st) G
    | .pop => match st with
      | .inl _ :: st => N (pc + len) ls st G
      | .inr (.inl _) :: st => N (pc + len) ls st G
      | _ => none
    | .ifCond c off => p1 st fun x st => jmp pc off fun t => br c x 0 (N t ls st G) (N (pc + len) ls st G)
    | .if_icmp c off => p2 st fun x y st => jmp pc off fun t => br c x y (N t ls st G) (N (pc + len) ls st G)
    | .goto off => jmp pc off fun t => N t ls st G
    | .tableswitch d lo _ offs => p1 st fun x st => tsel offs.toList lo x (fun o => jmp pc o fun t => N t ls st G) (jmp pc d fun t => N t ls st G)
    | .getfield k => pR st fun t i st => match fld (own y) k with
      | some (t', sl, f) => bif Nat.beq t t' then (bif Nat.beq f 3 then N (pc + len) ls (.inr (.inl (tgt t sl i)) :: st) G else N (pc + len) ls (.inl (G t i sl) :: st) G) else none
      | none => none
    | .putfield k => pRV st fun t i x st => match fld (own y) k with
      | some (t', sl, f) => bif Nat.beq t t' then (match f with
        | 0 => N (pc + len) ls st (up G t i sl x)
        | 1 => if 0 ≤ x ∧ x ≤ 1 then N (pc + len) ls st (up G t i sl x) else none
        | 2 => if 0 ≤ x ∧ x < 65536 then N (pc + len) ls st (up G t i sl x) else none
        | _ => none) else none
      | none => none
    | .getstatic k => match gst (own y) k with
      | some t => N (pc + len) ls (.inr (.inl (t, 0)) :: st) G
      | none => none
    | .iaload => pRI st fun t i j st => bif Nat.beq (akd t) 1 then (if 0 ≤ j ∧ j < aln G t then N (pc + len) ls (.inl (G t i j) :: st) G else none) else none
    | .caload => pRI st fun t i j st => bif Nat.beq (akd t) 2 then (if 0 ≤ j ∧ j < aln G t then N (pc + len) ls (.inl (G t i j) :: st) G else none) else none
    | .aaload => pRI st fun t i j st => bif Nat.beq (akd t) 5 then (if 0 ≤ j ∧ j < aln G t then N (pc + len) ls (.inr (.inl (elt t i j)) :: st) G else none) else none
    | .laload => pRI st fun t i j st => bif Nat.beq (akd t) 3 then (if 0 ≤ j ∧ j < aln G t then N (pc + len) ls (.inr (.inr (.inl (G t i j))) :: st) G else none) else none
    | .daload => pRI st fun t i j st => bif Nat.beq (akd t) 4 then (if 0 ≤ j ∧ j < aln G t then N (pc + len) ls (.inr (.inr (.inr (dBits (G t i j)))) :: st) G else none) else none
    | .iastore => pRIV st fun t i j x st => bif Nat.beq (akd t) 1 && awr t then (if 0 ≤ j ∧ j < aln G t then N (pc + len) ls st (up G t i j x) else none) else none
    | .castore => pRIV st fun t i j x st => bif Nat.beq (akd t) 2 then (if 0 ≤ j ∧ j < aln G t then (if 0 ≤ x ∧ x < 65536 then N (pc + len) ls st (up G t i j x) else none) else none) else none
    | .lastore => pRIJ st fun t i j x st => bif Nat.beq (akd t) 3 then (if 0 ≤ j ∧ j < aln G t then N (pc + len) ls st (up G t i j x) else none) else none
    | .dastore => pRID st fun t i j x st => bif Nat.beq (akd t) 4 then (if 0 ≤ j ∧ j < aln G t then N (pc + len) ls st (up G t i j (dInt x)) else none) else none
    | .arraylength => pR st fun t _ st => bif Nat.ble 1 (akd t) then N (pc + len) ls (.inl (aln G t) :: st) G else none
    | .invokevirtual k => match mth (own y) k with
      | some (z, 1) => sCall N F y pc z true ls st G
      | _ => none
    | .invokestatic k => match mth (own y) k with
      | some (z, 0) => sCall N F y pc z false ls st G
      | some (_, 2) => pCpy st fun ts is sp td id dp n st => bif Nat.beq (akd ts) 1 && (Nat.beq (akd td) 1 && (awr ts && (awr td && Nat.ble (wsum st) 8))) then
          (if (0 ≤ sp ∧ 0 ≤ dp) ∧ (0 ≤ n ∧ (sp + n ≤ aln G ts ∧ dp + n ≤ aln G td)) then N (pc + 3) ls st (cpy G ts is sp td id dp n) else none) else none
      | some (_, 3) => p2 st fun x y st => bif Nat.ble (wsum st) 8 then N (pc + 3) ls (.inl (mMin x y) :: st) G else none
      | some (_, 4) => p2 st fun x y st => bif Nat.ble (wsum st) 8 then N (pc + 3) ls (.inl (mMax x y) :: st) G else none
      | some (_, 5) => p1 st fun x st => bif Nat.ble (wsum st) 8 then N (pc + 3) ls (.inl (mAbs x) :: st) G else none
      | _ => none
    | .new _ => match st with
      | [] => match thr y pc with
        | some e => some (.inr e, bump G)
        | none => none
      | _ => none
    | .ireturn => match st with
      | [.inl x] => bif zrt y then (if 0 ≤ x ∧ x ≤ 1 then some (.inl (some (.inl x)), G) else none) else some (.inl (some (.inl x)), G)
      | _ => none
    | .areturn => match st with
      | [.inr (.inl q)] => some (.inl (some (.inr (.inl q))), G)
      | _ => none
    | .dreturn => match st with
      | [.inr (.inr (.inr x))] => some (.inl (some (.inr (.inr (.inr x)))), G)
      | _ => none
    | .return_ => match st with
      | [] => some (.inl none, G)
      | _ => none
    | _ => none
noncomputable def cutN (K : Nat → Lcs → List AV → GG → RS) (N : Nat → Lcs → List AV → GG → RS) (y : Nat) : Nat → Lcs → List AV → GG → RS := fun pc ls st G => match cu y pc with
  | some m => K pc (msk m ls) st G
  | none => N pc ls st G
noncomputable def sT (K : Nat → Lcs → List AV → GG → RS) (F : Nat → List AV → GG → RS) (y : Nat) : Nat → Nat → Lcs → List AV → GG → RS
  | 0 => fun _ _ _ _ => none
  | k + 1 => fun pc ls st G => sStep (cutN K (sT K F y k) y) F y pc ls st G
noncomputable def ent (y : Nat) (a : List AV) : Lcs := a.map some ++ List.replicate (mlc y - a.length) none
noncomputable def sx : Nat → Nat → Nat → Lcs → List AV → GG → RS
  | 0 => fun _ _ _ _ _ => none
  | n + 1 => fun y pc ls st G => sT (fun pc ls st G => sx n y pc ls st G) (fun z a G => sx n z 0 (ent z a) [] G) y 1000 pc ls st G
