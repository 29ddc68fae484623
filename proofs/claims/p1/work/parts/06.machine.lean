/-! THE SMALL MACHINE WHOLE. Y: the tables that a program reads off the class files (the code of method k; what an index of its pool means). -/
abbrev mj_Yc : Type := (Nat → Nat → Option Instr) × (Nat → Nat) × (Nat → Option FieldType) × (Nat → Bool)
abbrev mj_Yf : Type := (Nat → Nat → Nat → Option (Nat × FieldType × Bool)) × (Nat → Nat → Option (Nat × Nat × List Value)) × (Nat → Nat → Option String) × (Nat → Nat → Option Value) × (Nat → Nat → Option Nat) × (Nat → String → Bool)
abbrev mj_Yi : Type := (Nat → Nat → Option (Nat × Nat)) × (Nat → Nat → Option Nat) × (Nat → Nat → Nat → Option Nat) × (Nat → Nat → Option Nat) × (Nat → Nat → Nat → Option Nat) × (Nat → Nat → Option Nat) × (Nat → Nat → Option (Nat × Nat))
abbrev mj_Y : Type := mj_Yc × mj_Yf × mj_Yi
abbrev mj_Y.code (Y : mj_Y) : Nat → Nat → Option Instr := Y.1.1
abbrev mj_Y.nL (Y : mj_Y) : Nat → Nat := Y.1.2.1
abbrev mj_Y.rt (Y : mj_Y) : Nat → Option FieldType := Y.1.2.2.1
abbrev mj_Y.nh (Y : mj_Y) : Nat → Bool := Y.1.2.2.2
/-- the place of a field among its object's, its type, whether the method may write it -/
abbrev mj_Y.fl (Y : mj_Y) : Nat → Nat → Nat → Option (Nat × FieldType × Bool) := Y.2.1.1
/-- a class that is made: its number, its slots, its fields at first -/
abbrev mj_Y.nw (Y : mj_Y) : Nat → Nat → Option (Nat × Nat × List Value) := Y.2.1.2.1
abbrev mj_Y.an (Y : mj_Y) : Nat → Nat → Option String := Y.2.1.2.2.1
/-- a number of the pool -/
abbrev mj_Y.ck (Y : mj_Y) : Nat → Nat → Option Value := Y.2.1.2.2.2.1
/-- a constant reference or a static: its number -/
abbrev mj_Y.sc (Y : mj_Y) : Nat → Nat → Option Nat := Y.2.1.2.2.2.2.1
abbrev mj_Y.ca (Y : mj_Y) : Nat → String → Bool := Y.2.1.2.2.2.2.2
/-- a call whose callee the index tells: the callee, its parameters -/
abbrev mj_Y.cs (Y : mj_Y) : Nat → Nat → Option (Nat × Nat) := Y.2.2.1
/-- a call whose callee the object's class tells: parameters; callee -/
abbrev mj_Y.na (Y : mj_Y) : Nat → Nat → Option Nat := Y.2.2.2.1
abbrev mj_Y.cv (Y : mj_Y) : Nat → Nat → Nat → Option Nat := Y.2.2.2.2.1
/-- a call that is one step here: its number -/
abbrev mj_Y.pr (Y : mj_Y) : Nat → Nat → Option Nat := Y.2.2.2.2.2.1
/-- where an object of a class, thrown by the call at pc, is caught -/
abbrev mj_Y.hd (Y : mj_Y) : Nat → Nat → Nat → Option Nat := Y.2.2.2.2.2.2.1
/-- an exception that is made and thrown there: its class -/
abbrev mj_Y.ex (Y : mj_Y) : Nat → Nat → Option Nat := Y.2.2.2.2.2.2.2.1
/-- a constructor's call, or one of a super's method -/
abbrev mj_Y.cp (Y : mj_Y) : Nat → Nat → Option (Nat × Nat) := Y.2.2.2.2.2.2.2.2
abbrev mj_T : Type := (Nat × mj_L × List Value × mj_H) ⊕ ((Nat × List Value × Nat × mj_L × List Value) ⊕ (mj_O × mj_H))
abbrev mj_X : Type := Nat → Option (FieldType × List Value)
def mj_cpy (xs ys : List Value) (sp dp n : Nat) : List Value := (List.range ys.length).map (fun k => if dp ≤ k ∧ k < dp + n then xs.getD (sp + (k - dp)) .null else ys.getD k .null)
def mj_go (pc : Nat) (l : mj_L) (st : List Value) (h : mj_H) : Option mj_T := some (.inl (pc, l, st, h))
def mj_ald (xt : mj_X) (ok : FieldType → Bool) (pc : Nat) (l : mj_L) (st : List Value) (h : mj_H) : Option mj_T := match st with
  | .int j :: .ref a :: r => match mj_arr xt h a with
    | some (ty, xs) => if ok ty = true ∧ ¬ j < 0 then (xs[j.toNatClampNeg]?).bind (fun v => mj_go (pc + 1) l (v :: r) h) else none
    | none => none
  | _ => none
def mj_ast (ok : FieldType → Bool) (pc : Nat) (l : mj_L) (st : List Value) (h : mj_H) : Option mj_T := match st with
  | .int x :: .int j :: .ref a :: r => match h.1 a with
    | some (.inl (ty, xs)) => if ok ty = true ∧ ¬ j < 0 ∧ j.toNatClampNeg < xs.length then mj_go (pc + 1) l r (mj_put h a (.inl (ty, xs.set j.toNatClampNeg (narrow ty (.int x))))) else none
    | _ => none
  | _ => none
def mj_lst (pc : Nat) (l : mj_L) (st : List Value) (h : mj_H) : Option mj_T := match st with
  | .long x :: .int j :: .ref a :: r => match h.1 a with
    | some (.inl (.long, xs)) => if ¬ j < 0 ∧ j.toNatClampNeg < xs.length then mj_go (pc + 1) l r (mj_put h a (.inl (.long, xs.set j.toNatClampNeg (.long x)))) else none
    | _ => none
  | _ => none
def mj_rst (Y : mj_Y) (pc : Nat) (l : mj_L) (st : List Value) (h : mj_H) : Option mj_T := match st with
  | .ref v :: .int j :: .ref a :: r => match h.1 a, h.1 v with
    | some (.inl (.object C, xs)), some (.inr (ci, _)) => if Y.ca ci C = true ∧ ¬ j < 0 ∧ j.toNatClampNeg < xs.length then mj_go (pc + 1) l r (mj_put h a (.inl (.object C, xs.set j.toNatClampNeg (.ref v)))) else none
    | _, _ => none
  | _ => none
def mj_gf (Y : mj_Y) (k pc idx : Nat) (l : mj_L) (st : List Value) (h : mj_H) : Option mj_T := match st with
  | .ref a :: r => match h.1 a with
    | some (.inr (ci, fs)) => match Y.fl k idx ci with
      | some q => (fs[q.1]?).bind (fun v => mj_go (pc + 3) l (v :: r) h)
      | none => none
    | _ => none
  | _ => none
def mj_pf (Y : mj_Y) (k pc idx : Nat) (l : mj_L) (st : List Value) (h : mj_H) : Option mj_T := match st with
  | v :: .ref a :: r => match h.1 a with
    | some (.inr (ci, fs)) => match Y.fl k idx ci with
      | some q => if q.2.2 = true ∧ narrow q.2.1 v = v ∧ fits q.2.1 v = true then mj_go (pc + 3) l r (mj_put h a (.inr (ci, fs.set q.1 v))) else none
      | none => none
    | _ => none
  | _ => none
def mj_nwo (Y : mj_Y) (k pc idx : Nat) (l : mj_L) (st : List Value) (h : mj_H) : Option mj_T := match Y.nw k idx with
  | some q => mj_go (pc + 3) l (.ref h.2.1 :: st) (mj_new h q.2.1 (.inr (q.1, q.2.2)))
  | none => none
def mj_nwa (at0 : ArrayType) (pc : Nat) (l : mj_L) (st : List Value) (h : mj_H) : Option mj_T := match st with
  | .int n :: r => if ¬ n < 0 ∧ n.toNatClampNeg * 8 ≤ 536870912 then mj_go (pc + 2) l (.ref h.2.1 :: r) (mj_new h n.toNatClampNeg (.inl (newarray.typeOf at0, List.replicate n.toNatClampNeg (defaultValue (newarray.typeOf at0))))) else none
  | _ => none
def mj_nwq (Y : mj_Y) (k pc idx : Nat) (l : mj_L) (st : List Value) (h : mj_H) : Option mj_T := match st, Y.an k idx with
  | .int n :: r, some C => if ¬ n < 0 ∧ n.toNatClampNeg * 8 ≤ 536870912 then mj_go (pc + 3) l (.ref h.2.1 :: r) (mj_new h n.toNatClampNeg (.inl (.object C, List.replicate n.toNatClampNeg .null))) else none
  | _, _ => none
def mj_wt (st : List Value) : Nat := (st.map (fun v => v.category)).sum
def mj_cal (Y : mj_Y) (k2 n pc : Nat) (l : mj_L) (st : List Value) : Option mj_T :=
  if n ≤ st.length ∧ mj_wt (st.drop n) + Y.nL k2 + 11 ≤ 64 ∧ (lg_sl (st.take n).reverse).length ≤ Y.nL k2 then some (.inr (.inl (k2, (st.take n).reverse, pc + 3, l, st.drop n))) else none
/-- System.arraycopy, of numbers -/
def mj_acp (pc : Nat) (l : mj_L) (st : List Value) (h : mj_H) : Option mj_T := match st with
  | .int n :: .int dp :: .ref b :: .int sp :: .ref a :: r => match h.1 a, h.1 b with
    | some (.inl (ty, xs)), some (.inl (tz, ys)) => if ty = tz ∧ refKind ty = false ∧ ¬ sp < 0 ∧ ¬ dp < 0 ∧ ¬ n < 0 ∧ sp.toNatClampNeg + n.toNatClampNeg ≤ xs.length ∧ dp.toNatClampNeg + n.toNatClampNeg ≤ ys.length ∧ (xs.all (fun v => fits ty v)) = true ∧ mj_wt r ≤ 20 then mj_go (pc + 3) l r (mj_put h b (.inl (ty, mj_cpy xs ys sp.toNatClampNeg dp.toNatClampNeg n.toNatClampNeg))) else none
    | _, _ => none
  | _ => none
/-- an array of arrays of longs -/
def mj_mul (h : mj_H) (n k : Nat) : mj_H := (fun q => if q = h.2.1 then some (.inl (.array .long, (List.range n).map (fun i => .ref (h.2.1 + 1 + i)))) else if h.2.1 < q ∧ q ≤ h.2.1 + n then some (.inl (.long, List.replicate k (.long 0))) else h.1 q, h.2.1 + 1 + n, h.2.2 + n + n * k)
def mj_mna (pc : Nat) (l : mj_L) (st : List Value) (h : mj_H) : Option mj_T := match st with
  | .int k :: .int n :: r => if ¬ n < 0 ∧ ¬ k < 0 ∧ n.toNatClampNeg * 4 ≤ 536870912 ∧ k.toNatClampNeg * 8 ≤ 536870912 then mj_go (pc + 4) l (.ref h.2.1 :: r) (mj_mul h n.toNatClampNeg k.toNatClampNeg) else none
  | _ => none
def mj_clt : Nat → Option FieldType
  | 7 => some .int
  | 8 => some .long
  | 9 => some .byte
  | _ => none
/-- an array's clone, of numbers -/
def mj_cln (n pc : Nat) (l : mj_L) (st : List Value) (h : mj_H) : Option mj_T := match st with
  | .ref a :: r => match h.1 a with
    | some (.inl (ty, xs)) => if mj_clt n = some ty ∧ (xs.all (fun v => fits ty v)) = true ∧ mj_wt r ≤ 20 then mj_go (pc + 3) l (.ref h.2.1 :: r) (mj_new h xs.length (.inl (ty, xs))) else none
    | _ => none
  | _ => none
def mj_ctt : Nat → Option FieldType
  | 3 => some .int
  | 4 => some .long
  | 5 => some .byte
  | _ => none
def mj_ccs (Y : mj_Y) (k pc idx : Nat) (l : mj_L) (st : List Value) (h : mj_H) : Option mj_T := match st with
  | .ref a :: r => match h.1 a, Y.pr k idx with
    | some (.inl (ty, _)), some n => if mj_ctt n = some ty then mj_go (pc + 3) l (.ref a :: r) h else none
    | _, _ => none
  | _ => none
def mj_s (Y : mj_Y) (xt : mj_X) (ct : Nat → Value) (k pc : Nat) (l : mj_L) (st : List Value) (h : mj_H) : Option mj_T := match Y.code k pc with
  | none => none
  | some i => match i with
    | .getfield idx => mj_gf Y k pc idx l st h
    | .putfield idx => mj_pf Y k pc idx l st h
    | .iaload => mj_ald xt (fun ty => decide (ty = .int)) pc l st h
    | .laload => mj_ald xt (fun ty => decide (ty = .long)) pc l st h
    | .baload => mj_ald xt (fun ty => decide (ty = .byte ∨ ty = .boolean)) pc l st h
    | .caload => mj_ald xt (fun ty => decide (ty = .char)) pc l st h
    | .aaload => mj_ald xt (fun ty => ty.isReference) pc l st h
    | .iastore => mj_ast (fun ty => decide (ty = .int)) pc l st h
    | .bastore => mj_ast (fun ty => decide (ty = .byte ∨ ty = .boolean)) pc l st h
    | .castore => mj_ast (fun ty => decide (ty = .char)) pc l st h
    | .lastore => mj_lst pc l st h
    | .aastore => mj_rst Y pc l st h
    | .arraylength => match st with
      | .ref a :: r => match mj_arr xt h a with
        | some (_, xs) => mj_go (pc + 1) l (.int (Int32.ofNat xs.length) :: r) h
        | none => none
      | _ => none
    | .new idx => match Y.ex k idx with
      | some ci => if Y.nh k = true ∧ mj_wt st ≤ 20 then some (.inr (.inr (.inr h.2.1, mj_new h 6 (.inr (ci, []))))) else none
      | none => mj_nwo Y k pc idx l st h
    | .newarray at0 => mj_nwa at0 pc l st h
    | .anewarray idx => mj_nwq Y k pc idx l st h
    | .ldc idx => match Y.ck k idx with
      | some (.int v) => mj_go (pc + 2) l (.int v :: st) h
      | _ => match Y.sc k (idx + 65536) with
        | some n => mj_go (pc + 2) l (ct n :: st) h
        | none => none
    | .ldc2_w idx => match Y.ck k idx with
      | some (.long v) => mj_go (pc + 3) l (.long v :: st) h
      | _ => none
    | .getstatic idx => match Y.sc k idx with
      | some n => mj_go (pc + 3) l (ct n :: st) h
      | none => none
    | .invokestatic idx => match Y.pr k idx with
      | some 0 => mj_acp pc l st h
      | some _ => none
      | none => match Y.cs k idx with
        | some q => mj_cal Y q.1 q.2 pc l st
        | none => none
    | .invokespecial idx => match Y.pr k idx with
      | some 1 => match st with
        | .ref _ :: r => if mj_wt r ≤ 20 then mj_go (pc + 3) l r h else none
        | _ => none
      | some _ => none
      | none => match Y.cp k idx with
        | some q => match st.drop q.2 with
          | .ref a :: _ => match h.1 a with
            | some (.inr _) => mj_cal Y q.1 (q.2 + 1) pc l st
            | _ => none
          | _ => none
        | none => none
    | .invokevirtual idx => match Y.na k idx with
      | some n => match st.drop n with
        | .ref a :: _ => match h.1 a with
          | some (.inr (ci, _)) => match Y.cv k idx ci with
            | some k2 => mj_cal Y k2 (n + 1) pc l st
            | none => none
          | _ => none
        | _ => none
      | none => match Y.pr k idx with
        | some n => mj_cln n pc l st h
        | none => none
    | .ireturn => match st, Y.rt k with
      | [.int v], some ty => if narrow ty (.int v) = .int v then some (.inr (.inr (.inl (some (.int v)), h))) else none
      | _, _ => none
    | .lreturn => match st, Y.rt k with
      | [.long v], some .long => some (.inr (.inr (.inl (some (.long v)), h)))
      | _, _ => none
    | .areturn => match st, Y.rt k with
      | [.ref v], some ty => if ty.isReference = true then some (.inr (.inr (.inl (some (.ref v)), h))) else none
      | [.null], some ty => if ty.isReference = true then some (.inr (.inr (.inl (some .null), h))) else none
      | _, _ => none
    | .return_ => match st, Y.rt k with
      | [], none => some (.inr (.inr (.inl none, h)))
      | _, _ => none
    | .athrow => match st with
      | .ref a :: _ => if Y.nh k = true then some (.inr (.inr (.inr a, h))) else none
      | _ => none
    | .multianewarray idx dims => if Y.pr k idx = some 6 ∧ dims = 2 then mj_mna pc l st h else none
    | .checkcast idx => mj_ccs Y k pc idx l st h
    | i => (mj_p (Y.nL k) pc i l st).bind (fun q => mj_go q.1 q.2.1 q.2.2 h)
/-- f steps at most, calls d deep at most -/
def mj_x (Y : mj_Y) (xt : mj_X) (ct : Nat → Value) : Nat → Nat → Nat → Nat → mj_L → List Value → mj_H → Option (mj_O × mj_H)
  | 0, _, _, _, _, _, _ => none
  | f + 1, d, k, pc, l, st, h => match mj_s Y xt ct k pc l st h with
    | none => none
    | some (.inl q) => mj_x Y xt ct f d k q.1 q.2.1 q.2.2.1 q.2.2.2
    | some (.inr (.inl q)) => match d with
      | 0 => none
      | d' + 1 => match mj_x Y xt ct f d' q.1 0 (lv_args 0 q.2.1) [] h with
        | none => none
        | some (.inl v, h') => mj_x Y xt ct f (d' + 1) k q.2.2.1 q.2.2.2.1 (v.toList ++ q.2.2.2.2) h'
        | some (.inr a, h') => match Y.nh k with
          | true => some (.inr a, h')
          | false => match h'.1 a with
            | some (.inr (ci, _)) => match Y.hd k pc ci with
              | some hpc => mj_x Y xt ct f (d' + 1) k hpc q.2.2.2.1 [.ref a] h'
              | none => none
            | _ => none
    | some (.inr (.inr o)) => some o
