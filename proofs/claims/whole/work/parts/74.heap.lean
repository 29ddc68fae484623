/-! THE CLASS'S METHODS AS FUNCTIONS ON THE HEAP: what is read and written, each an Option (none: the machine would not go on) -/
abbrev rv (o : Option Nat) : Value := match o with
  | none => .null
  | some a => .ref a
theorem rv_cat (o : Option Nat) : (rv o).category = 1 := by cases o <;> rfl
theorem rv_fo (C : String) (o : Option Nat) : narrow (.object C) (rv o) = rv o ∧ fits (.object C) (rv o) = true := by cases o <;> exact ⟨rfl, rfl⟩
theorem rv_fa (t : FieldType) (o : Option Nat) : narrow (.array t) (rv o) = rv o ∧ fits (.array t) (rv o) = true := by cases o <;> exact ⟨rfl, rfl⟩
def gF (h : mj_H) (a c n : Nat) : Option Value := match h.1 a with
  | some (.inr (c', fs)) => if c' = c then fs[n]? else none
  | _ => none
def vtI : Value → Option Int32
  | .int v => some v
  | _ => none
def vtL : Value → Option Int64
  | .long v => some v
  | _ => none
def vtA : Value → Option Nat
  | .ref v => some v
  | _ => none
def vtO : Value → Option (Option Nat)
  | .ref v => some (some v)
  | .null => some none
  | _ => none
def gI (h : mj_H) (a c n : Nat) : Option Int32 := (gF h a c n).bind vtI
def gL (h : mj_H) (a c n : Nat) : Option Int64 := (gF h a c n).bind vtL
def gA (h : mj_H) (a c n : Nat) : Option Nat := (gF h a c n).bind vtA
def gR (h : mj_H) (a c n : Nat) : Option (Option Nat) := (gF h a c n).bind vtO
/-- the number of an object's class -/
def gC (h : mj_H) (a : Nat) : Option Nat := match h.1 a with
  | some (.inr (c, _)) => some c
  | _ => none
/-- the factor of an expression: its place by its class -/
def gFp (h : mj_H) (a : Nat) (tb : Nat → Option Nat) : Option Int64 := match h.1 a with
  | some (.inr (c, fs)) => (tb c).bind fun n => (fs[n]?).bind vtL
  | _ => none
def uF (h : mj_H) (a c n : Nat) (v : Value) : Option mj_H := match h.1 a with
  | some (.inr (c', fs)) => if c' = c then some (mj_put h a (.inr (c, fs.set n v))) else none
  | _ => none
def uFp (h : mj_H) (a : Nat) (tb : Nat → Option Nat) (v : Int64) : Option mj_H := match h.1 a with
  | some (.inr (c, fs)) => (tb c).map fun n => mj_put h a (.inr (c, fs.set n (.long v)))
  | _ => none
def aV (xt : mj_X) (h : mj_H) (ok : FieldType → Bool) (a : Nat) (i : Int32) : Option Value := match mj_arr xt h a with
  | some (ty, xs) => if ok ty = true ∧ 0 ≤ i.toInt then xs[i.toInt.toNat]? else none
  | none => none
def kI (ty : FieldType) : Bool := decide (ty = .int)
def kL (ty : FieldType) : Bool := decide (ty = .long)
def kB (ty : FieldType) : Bool := decide (ty = .byte ∨ ty = .boolean)
def kC (ty : FieldType) : Bool := decide (ty = .char)
def kA (ty : FieldType) : Bool := ty.isReference
def aI (xt : mj_X) (h : mj_H) (a : Nat) (i : Int32) : Option Int32 := (aV xt h kI a i).bind vtI
def aL (xt : mj_X) (h : mj_H) (a : Nat) (i : Int32) : Option Int64 := (aV xt h kL a i).bind vtL
def aB (xt : mj_X) (h : mj_H) (a : Nat) (i : Int32) : Option Int32 := (aV xt h kB a i).bind vtI
def aC (xt : mj_X) (h : mj_H) (a : Nat) (i : Int32) : Option Int32 := (aV xt h kC a i).bind vtI
def aA (xt : mj_X) (h : mj_H) (a : Nat) (i : Int32) : Option Nat := (aV xt h kA a i).bind vtA
def sN (ty : FieldType) (h : mj_H) (a : Nat) (i x : Int32) : Option mj_H := match h.1 a with
  | some (.inl (ty', xs)) => if ty' = ty ∧ 0 ≤ i.toInt ∧ i.toInt.toNat < xs.length then some (mj_put h a (.inl (ty, xs.set i.toInt.toNat (narrow ty (.int x))))) else none
  | _ => none
def sL (h : mj_H) (a : Nat) (i : Int32) (x : Int64) : Option mj_H := match h.1 a with
  | some (.inl (ty', xs)) => if ty' = .long ∧ 0 ≤ i.toInt ∧ i.toInt.toNat < xs.length then some (mj_put h a (.inl (.long, xs.set i.toInt.toNat (.long x)))) else none
  | _ => none
def aN (xt : mj_X) (h : mj_H) (a : Nat) : Option Int32 := (mj_arr xt h a).map fun q => Int32.ofNat q.2.length
def nO (h : mj_H) (c sz : Nat) (ds : List Value) : Option (Nat × mj_H) := some (h.2.1, mj_new h sz (.inr (c, ds)))
def nA (h : mj_H) (ty : FieldType) (n : Int32) : Option (Nat × mj_H) := if ¬ n < 0 ∧ n.toNatClampNeg * 8 ≤ 536870912 then some (h.2.1, mj_new h n.toNatClampNeg (.inl (ty, List.replicate n.toNatClampNeg (defaultValue ty)))) else none
def cY (h : mj_H) (a : Nat) (sp : Int32) (b : Nat) (dp n : Int32) : Option mj_H := match h.1 a, h.1 b with
  | some (.inl (ty, xs)), some (.inl (tz, ys)) => if ty = tz ∧ refKind ty = false ∧ ¬ sp < 0 ∧ ¬ dp < 0 ∧ ¬ n < 0 ∧ sp.toNatClampNeg + n.toNatClampNeg ≤ xs.length ∧ dp.toNatClampNeg + n.toNatClampNeg ≤ ys.length ∧ (xs.all (fun v => fits ty v)) = true then some (mj_put h b (.inl (ty, mj_cpy xs ys sp.toNatClampNeg dp.toNatClampNeg n.toNatClampNeg))) else none
  | _, _ => none
def cLn (n : Nat) (h : mj_H) (a : Nat) : Option (Nat × mj_H) := match h.1 a with
  | some (.inl (ty, xs)) => if mj_clt n = some ty ∧ (xs.all (fun v => fits ty v)) = true then some (h.2.1, mj_new h xs.length (.inl (ty, xs))) else none
  | _ => none
def cKc (n : Nat) (h : mj_H) (a : Nat) : Option Unit := match h.1 a with
  | some (.inl (ty, _)) => if mj_ctt n = some ty then some () else none
  | _ => none
/-- how a method that may throw ends -/
def tT {α : Type} (f : α → Option Value) (x : α ⊕ Nat) : mj_O := match x with
  | .inl v => .inl (f v)
  | .inr a => .inr a
abbrev vI (v : Int32) : Option Value := some (.int v)
abbrev vL (v : Int64) : Option Value := some (.long v)
abbrev vA (v : Nat) : Option Value := some (.ref v)
abbrev vO (v : Option Nat) : Option Value := some (rv v)
abbrev vU (_ : Unit) : Option Value := none
/-- behind a call that may throw -/
def tc {α β γ : Type} (inj : (β ⊕ Nat) × mj_H → γ) (p : (α ⊕ Nat) × mj_H) (f : α → Option γ) : Option γ := match p.1 with
  | .inl v => f v
  | .inr x => some (inj (.inr x, p.2))
theorem t_tc {α β γ : Type} {G : Prop} {inj : (β ⊕ Nat) × mj_H → γ} {p : (α ⊕ Nat) × mj_H} {f : α → Option γ} {o : γ} (e : tc inj p f = some o) (h1 : ∀ v, p.1 = .inl v → f v = some o → G) (h2 : ∀ x, p.1 = .inr x → some (inj (.inr x, p.2)) = some o → G) : G := by
  unfold tc at e
  split at e
  · rename_i v hv
    exact h1 v hv e
  · rename_i x hx
    exact h2 x hx e
theorem t_no {α : Type} {G : Prop} {q : α} (h : (none : Option α) = some q) : G := by cases h
theorem gF_ok {h : mj_H} {a c n : Nat} {v : Value} (e : gF h a c n = some v) : ∃ fs, h.1 a = some (.inr (c, fs)) ∧ fs[n]? = some v := by
  unfold gF at e
  split at e
  · rename_i c' fs hh
    split at e
    · rename_i hc
      subst hc
      exact ⟨fs, hh, e⟩
    · cases e
  · cases e
theorem vtI_ok {x : Option Value} {v : Int32} (e : x.bind vtI = some v) : x = some (.int v) := by
  obtain ⟨y, rfl, e2⟩ := Option.bind_eq_some_iff.mp e
  cases y <;> cases e2
  rfl
theorem vtL_ok {x : Option Value} {v : Int64} (e : x.bind vtL = some v) : x = some (.long v) := by
  obtain ⟨y, rfl, e2⟩ := Option.bind_eq_some_iff.mp e
  cases y <;> cases e2
  rfl
theorem vtA_ok {x : Option Value} {v : Nat} (e : x.bind vtA = some v) : x = some (.ref v) := by
  obtain ⟨y, rfl, e2⟩ := Option.bind_eq_some_iff.mp e
  cases y <;> cases e2
  rfl
theorem vtO_ok {x : Option Value} {v : Option Nat} (e : x.bind vtO = some v) : x = some (rv v) := by
  obtain ⟨y, rfl, e2⟩ := Option.bind_eq_some_iff.mp e
  cases y <;> cases e2 <;> rfl
section CRR
variable {xt : mj_X} {ct : Nat → Value} {d k pc pc' : Nat} {l : mj_L} {st : List Value} {h h' : mj_H} {r : mj_O × mj_H}
theorem c_gI {a c n idx : Nat} {ty : FieldType} {w : Bool} {v : Int32} (hc : mj_Y.code kY k pc = some (.getfield idx) ∧ mj_Y.fl kY k idx c = some (n, ty, w) ∧ pc' = pc + 3) (e : gI h a c n = some v) (hr : mj_Run kY xt ct d k pc' l (.int v :: st) h r) : mj_Run kY xt ct d k pc l (.ref a :: st) h r := by
  obtain ⟨fs, h1, h2⟩ := gF_ok (vtI_ok e)
  exact r_getf hc h1 h2 hr
theorem c_gL {a c n idx : Nat} {ty : FieldType} {w : Bool} {v : Int64} (hc : mj_Y.code kY k pc = some (.getfield idx) ∧ mj_Y.fl kY k idx c = some (n, ty, w) ∧ pc' = pc + 3) (e : gL h a c n = some v) (hr : mj_Run kY xt ct d k pc' l (.long v :: st) h r) : mj_Run kY xt ct d k pc l (.ref a :: st) h r := by
  obtain ⟨fs, h1, h2⟩ := gF_ok (vtL_ok e)
  exact r_getf hc h1 h2 hr
theorem c_gA {a c n idx : Nat} {ty : FieldType} {w : Bool} {v : Nat} (hc : mj_Y.code kY k pc = some (.getfield idx) ∧ mj_Y.fl kY k idx c = some (n, ty, w) ∧ pc' = pc + 3) (e : gA h a c n = some v) (hr : mj_Run kY xt ct d k pc' l (.ref v :: st) h r) : mj_Run kY xt ct d k pc l (.ref a :: st) h r := by
  obtain ⟨fs, h1, h2⟩ := gF_ok (vtA_ok e)
  exact r_getf hc h1 h2 hr
theorem c_gR {a c n idx : Nat} {ty : FieldType} {w : Bool} {v : Option Nat} (hc : mj_Y.code kY k pc = some (.getfield idx) ∧ mj_Y.fl kY k idx c = some (n, ty, w) ∧ pc' = pc + 3) (e : gR h a c n = some v) (hr : mj_Run kY xt ct d k pc' l (rv v :: st) h r) : mj_Run kY xt ct d k pc l (.ref a :: st) h r := by
  obtain ⟨fs, h1, h2⟩ := gF_ok (vtO_ok e)
  exact r_getf hc h1 h2 hr
theorem c_gFp {a idx : Nat} {ty : FieldType} {w : Bool} {tb : Nat → Option Nat} {v : Int64} (hc : mj_Y.code kY k pc = some (.getfield idx) ∧ pc' = pc + 3) (ht : ∀ c n, tb c = some n → mj_Y.fl kY k idx c = some (n, ty, w)) (e : gFp h a tb = some v) (hr : mj_Run kY xt ct d k pc' l (.long v :: st) h r) : mj_Run kY xt ct d k pc l (.ref a :: st) h r := by
  unfold gFp at e
  split at e
  · rename_i c fs hh
    obtain ⟨n, e1, e2⟩ := Option.bind_eq_some_iff.mp e
    exact r_getf ⟨hc.1, ht c n e1, hc.2⟩ hh (vtL_ok e2) hr
  · cases e
theorem c_uF {a c n idx : Nat} {ty : FieldType} {v : Value} (hc : mj_Y.code kY k pc = some (.putfield idx) ∧ mj_Y.fl kY k idx c = some (n, ty, true) ∧ pc' = pc + 3) (hv : narrow ty v = v ∧ fits ty v = true) (e : uF h a c n v = some h') (hr : mj_Run kY xt ct d k pc' l st h' r) : mj_Run kY xt ct d k pc l (v :: .ref a :: st) h r := by
  unfold uF at e
  split at e
  · rename_i c' fs hh
    split at e
    · rename_i hcc
      subst hcc
      cases e
      exact r_putf hc hh hv hr
    · cases e
  · cases e
theorem c_uFp {a idx : Nat} {tb : Nat → Option Nat} {v : Int64} (hc : mj_Y.code kY k pc = some (.putfield idx) ∧ pc' = pc + 3) (ht : ∀ c n, tb c = some n → mj_Y.fl kY k idx c = some (n, .long, true)) (e : uFp h a tb v = some h') (hr : mj_Run kY xt ct d k pc' l st h' r) : mj_Run kY xt ct d k pc l (.long v :: .ref a :: st) h r := by
  unfold uFp at e
  split at e
  · rename_i c fs hh
    obtain ⟨n, e1, rfl⟩ := Option.map_eq_some_iff.mp e
    exact r_putf ⟨hc.1, ht c n e1, hc.2⟩ hh ⟨rfl, rfl⟩ hr
  · cases e
theorem c_ald {i : Instr} {ok : FieldType → Bool} {a : Nat} {j : Int32} {v : Value} (hi : ∀ l st h, mj_s kY xt ct k pc l st h = mj_ald xt ok pc l st h) (hp : pc' = pc + 1) (e : aV xt h ok a j = some v) (hr : mj_Run kY xt ct d k pc' l (v :: st) h r) : mj_Run kY xt ct d k pc l (.int j :: .ref a :: st) h r := by
  subst hp
  refine mj_Run_go (q := (pc + 1, l, v :: st, h)) ?_ hr
  rw [hi]
  unfold aV at e
  unfold mj_ald
  dsimp only
  split at e
  · rename_i ty xs hh
    rw [hh]
    dsimp only
    split at e
    · rename_i hc
      rw [if_pos ⟨hc.1, (by rw [Int32.lt_iff_toInt_lt]; exact Int.not_lt.mpr hc.2)⟩, show j.toNatClampNeg = j.toInt.toNat from rfl, e]
      rfl
    · cases e
  · cases e
theorem c_aI {a : Nat} {j v : Int32} (hc : mj_Y.code kY k pc = some .iaload ∧ pc' = pc + 1) (e : aI xt h a j = some v) (hr : mj_Run kY xt ct d k pc' l (.int v :: st) h r) : mj_Run kY xt ct d k pc l (.int j :: .ref a :: st) h r := c_ald (i := .iaload) (ok := kI) (fun l st h => by unfold mj_s; rw [hc.1]; rfl) hc.2 (vtI_ok e) hr
theorem c_aL {a : Nat} {j : Int32} {v : Int64} (hc : mj_Y.code kY k pc = some .laload ∧ pc' = pc + 1) (e : aL xt h a j = some v) (hr : mj_Run kY xt ct d k pc' l (.long v :: st) h r) : mj_Run kY xt ct d k pc l (.int j :: .ref a :: st) h r := c_ald (i := .laload) (ok := kL) (fun l st h => by unfold mj_s; rw [hc.1]; rfl) hc.2 (vtL_ok e) hr
theorem c_aB {a : Nat} {j v : Int32} (hc : mj_Y.code kY k pc = some .baload ∧ pc' = pc + 1) (e : aB xt h a j = some v) (hr : mj_Run kY xt ct d k pc' l (.int v :: st) h r) : mj_Run kY xt ct d k pc l (.int j :: .ref a :: st) h r := c_ald (i := .baload) (ok := kB) (fun l st h => by unfold mj_s; rw [hc.1]; rfl) hc.2 (vtI_ok e) hr
theorem c_aC {a : Nat} {j v : Int32} (hc : mj_Y.code kY k pc = some .caload ∧ pc' = pc + 1) (e : aC xt h a j = some v) (hr : mj_Run kY xt ct d k pc' l (.int v :: st) h r) : mj_Run kY xt ct d k pc l (.int j :: .ref a :: st) h r := c_ald (i := .caload) (ok := kC) (fun l st h => by unfold mj_s; rw [hc.1]; rfl) hc.2 (vtI_ok e) hr
theorem c_aA {a v : Nat} {j : Int32} (hc : mj_Y.code kY k pc = some .aaload ∧ pc' = pc + 1) (e : aA xt h a j = some v) (hr : mj_Run kY xt ct d k pc' l (.ref v :: st) h r) : mj_Run kY xt ct d k pc l (.int j :: .ref a :: st) h r := c_ald (i := .aaload) (ok := kA) (fun l st h => by unfold mj_s; rw [hc.1]; rfl) hc.2 (vtA_ok e) hr
theorem sN_ok {ty : FieldType} {a : Nat} {i x : Int32} (e : sN ty h a i x = some h') : ∃ xs, h.1 a = some (.inl (ty, xs)) ∧ 0 ≤ i.toInt ∧ i.toInt.toNat < xs.length ∧ h' = mj_put h a (.inl (ty, xs.set i.toInt.toNat (narrow ty (.int x)))) := by
  unfold sN at e
  split at e
  · rename_i ty' xs hh
    split at e
    · rename_i hc
      obtain ⟨rfl, h1, h2⟩ := hc
      cases e
      exact ⟨xs, hh, h1, h2, rfl⟩
    · cases e
  · cases e
theorem c_sI {a : Nat} {i x : Int32} (hc : mj_Y.code kY k pc = some .iastore ∧ pc' = pc + 1) (e : sN .int h a i x = some h') (hr : mj_Run kY xt ct d k pc' l st h' r) : mj_Run kY xt ct d k pc l (.int x :: .int i :: .ref a :: st) h r := by
  obtain ⟨xs, h1, h2, h3, rfl⟩ := sN_ok e
  exact r_iast hc h1 h2 h3 rfl hr
theorem c_sB {a : Nat} {i x : Int32} (hc : mj_Y.code kY k pc = some .bastore ∧ pc' = pc + 1) (e : sN .byte h a i x = some h') (hr : mj_Run kY xt ct d k pc' l st h' r) : mj_Run kY xt ct d k pc l (.int x :: .int i :: .ref a :: st) h r := by
  obtain ⟨xs, h1, h2, h3, rfl⟩ := sN_ok e
  exact r_bast hc h1 h2 h3 rfl hr
theorem c_sC {a : Nat} {i x : Int32} (hc : mj_Y.code kY k pc = some .castore ∧ pc' = pc + 1) (e : sN .char h a i x = some h') (hr : mj_Run kY xt ct d k pc' l st h' r) : mj_Run kY xt ct d k pc l (.int x :: .int i :: .ref a :: st) h r := by
  obtain ⟨xs, h1, h2, h3, rfl⟩ := sN_ok e
  exact r_cast hc h1 h2 h3 rfl hr
theorem c_sL {a : Nat} {i : Int32} {x : Int64} (hc : mj_Y.code kY k pc = some .lastore ∧ pc' = pc + 1) (e : sL h a i x = some h') (hr : mj_Run kY xt ct d k pc' l st h' r) : mj_Run kY xt ct d k pc l (.long x :: .int i :: .ref a :: st) h r := by
  unfold sL at e
  split at e
  · rename_i ty' xs hh
    split at e
    · rename_i hcc
      obtain ⟨rfl, h1, h2⟩ := hcc
      cases e
      exact r_last hc hh h1 h2 hr
    · cases e
  · cases e
theorem c_len {a : Nat} {n : Int32} (hc : mj_Y.code kY k pc = some .arraylength ∧ pc' = pc + 1) (e : aN xt h a = some n) (hr : mj_Run kY xt ct d k pc' l (.int n :: st) h r) : mj_Run kY xt ct d k pc l (.ref a :: st) h r := by
  obtain ⟨hc, rfl⟩ := hc
  obtain ⟨q, e1, rfl⟩ := Option.map_eq_some_iff.mp e
  refine mj_Run_go (q := (pc + 1, l, .int (Int32.ofNat q.2.length) :: st, h)) ?_ hr
  unfold mj_s
  rw [hc]
  dsimp only
  rw [e1]
  rfl
theorem c_new {idx c sz : Nat} {ds : List Value} {p : Nat × mj_H} (hc : mj_Y.code kY k pc = some (.new idx) ∧ mj_Y.ex kY k idx = none ∧ mj_Y.nw kY k idx = some (c, sz, ds) ∧ pc' = pc + 3) (e : nO h c sz ds = some p) (hr : mj_Run kY xt ct d k pc' l (.ref p.1 :: st) p.2 r) : mj_Run kY xt ct d k pc l st h r := by
  obtain ⟨hc, h1, h2, rfl⟩ := hc
  cases e
  refine mj_Run_go (q := (pc + 3, l, .ref h.2.1 :: st, mj_new h sz (.inr (c, ds)))) ?_ hr
  unfold mj_s
  rw [hc]
  dsimp only
  rw [h1]
  dsimp only
  unfold mj_nwo
  rw [h2]
  rfl
theorem c_nA {at0 : ArrayType} {ty : FieldType} {n : Int32} {p : Nat × mj_H} (hc : mj_Y.code kY k pc = some (.newarray at0) ∧ newarray.typeOf at0 = ty ∧ pc' = pc + 2) (e : nA h ty n = some p) (hr : mj_Run kY xt ct d k pc' l (.ref p.1 :: st) p.2 r) : mj_Run kY xt ct d k pc l (.int n :: st) h r := by
  obtain ⟨hc, rfl, rfl⟩ := hc
  unfold nA at e
  split at e
  · rename_i hn
    cases e
    refine mj_Run_go (q := (pc + 2, l, .ref h.2.1 :: st, mj_new h n.toNatClampNeg (.inl (newarray.typeOf at0, List.replicate n.toNatClampNeg (defaultValue (newarray.typeOf at0)))))) ?_ hr
    unfold mj_s
    rw [hc]
    dsimp only
    unfold mj_nwa
    dsimp only
    rw [if_pos hn]
    rfl
  · cases e
theorem c_thr {idx ci : Nat} (hc : mj_Y.code kY k pc = some (.new idx) ∧ mj_Y.ex kY k idx = some ci ∧ mj_Y.nh kY k = true) (hw : mj_wt st ≤ 20) : mj_Run kY xt ct d k pc l st h (.inr h.2.1, mj_new h 6 (.inr (ci, []))) := by
  obtain ⟨hc, h1, h2⟩ := hc
  refine mj_Run_end ?_
  unfold mj_s
  rw [hc]
  dsimp only
  rw [h1]
  dsimp only
  rw [if_pos ⟨h2, hw⟩]
theorem c_cpy {idx a b : Nat} {sp dp n : Int32} (hc : mj_Y.code kY k pc = some (.invokestatic idx) ∧ mj_Y.pr kY k idx = some 0 ∧ pc' = pc + 3) (hw : mj_wt st ≤ 20) (e : cY h a sp b dp n = some h') (hr : mj_Run kY xt ct d k pc' l st h' r) : mj_Run kY xt ct d k pc l (.int n :: .int dp :: .ref b :: .int sp :: .ref a :: st) h r := by
  obtain ⟨hc, h1, rfl⟩ := hc
  unfold cY at e
  split at e
  · rename_i ty xs tz ys hx hy
    split at e
    · rename_i hcc
      obtain ⟨q1, q2, q3, q4, q5, q6, q7, q8⟩ := hcc
      cases e
      refine mj_Run_go (q := (pc + 3, l, st, _)) ?_ hr
      unfold mj_s
      rw [hc]
      dsimp only
      rw [h1]
      unfold mj_acp
      dsimp only
      rw [hx, hy]
      dsimp only
      rw [if_pos ⟨q1, q2, q3, q4, q5, q6, q7, q8, hw⟩]
      rfl
    · cases e
  · cases e
theorem c_cln {idx n a : Nat} {p : Nat × mj_H} (hc : mj_Y.code kY k pc = some (.invokevirtual idx) ∧ mj_Y.na kY k idx = none ∧ mj_Y.pr kY k idx = some n ∧ pc' = pc + 3) (hw : mj_wt st ≤ 20) (e : cLn n h a = some p) (hr : mj_Run kY xt ct d k pc' l (.ref p.1 :: st) p.2 r) : mj_Run kY xt ct d k pc l (.ref a :: st) h r := by
  obtain ⟨hc, h1, h2, rfl⟩ := hc
  unfold cLn at e
  split at e
  · rename_i ty xs hx
    split at e
    · rename_i hcc
      cases e
      refine mj_Run_go (q := (pc + 3, l, .ref h.2.1 :: st, _)) ?_ hr
      unfold mj_s
      rw [hc]
      dsimp only
      rw [h1]
      dsimp only
      rw [h2]
      dsimp only
      unfold mj_cln
      dsimp only
      rw [hx]
      dsimp only
      rw [if_pos ⟨hcc.1, hcc.2, hw⟩]
      rfl
    · cases e
  · cases e
theorem c_cck {idx n a : Nat} {u : Unit} (hc : mj_Y.code kY k pc = some (.checkcast idx) ∧ mj_Y.pr kY k idx = some n ∧ pc' = pc + 3) (e : cKc n h a = some u) (hr : mj_Run kY xt ct d k pc' l (.ref a :: st) h r) : mj_Run kY xt ct d k pc l (.ref a :: st) h r := by
  obtain ⟨hc, h1, rfl⟩ := hc
  unfold cKc at e
  split at e
  · rename_i ty xs hx
    split at e
    · rename_i hcc
      refine mj_Run_go (q := (pc + 3, l, .ref a :: st, h)) ?_ hr
      unfold mj_s
      rw [hc]
      dsimp only
      unfold mj_ccs
      dsimp only
      rw [hx, h1]
      dsimp only
      rw [if_pos hcc]
      rfl
    · cases e
  · cases e
theorem c_obj {idx a : Nat} (hc : mj_Y.code kY k pc = some (.invokespecial idx) ∧ mj_Y.pr kY k idx = some 1 ∧ pc' = pc + 3) (hw : mj_wt st ≤ 20) (hr : mj_Run kY xt ct d k pc' l st h r) : mj_Run kY xt ct d k pc l (.ref a :: st) h r := by
  obtain ⟨hc, h1, rfl⟩ := hc
  refine mj_Run_go (q := (pc + 3, l, st, h)) ?_ hr
  unfold mj_s
  rw [hc]
  dsimp only
  rw [h1]
  rw [if_pos hw]
  rfl
theorem c_alv {m : Nat} {o : Option Nat} (hl : mj_ld l m = some (rv o)) {n : Nat} (hc : mj_Y.code kY k pc = some (.aload n) ∧ n = m ∧ pc' = pc + 2) (hr : mj_Run kY xt ct d k pc' l (rv o :: st) h r) : mj_Run kY xt ct d k pc l st h r := by
  cases o with
  | none => exact r_aload0 hc hl hr
  | some a => exact r_aload hc hl hr
theorem c_alvn {m : Nat} {o : Option Nat} (hl : mj_ld l m = some (rv o)) {n : Fin 4} (hc : mj_Y.code kY k pc = some (.aload_n n) ∧ (n : Nat) = m ∧ pc' = pc + 1) (hr : mj_Run kY xt ct d k pc' l (rv o :: st) h r) : mj_Run kY xt ct d k pc l st h r := by
  cases o with
  | none => exact r_aload0n hc hl hr
  | some a => exact r_aloadn hc hl hr
theorem c_asv {m : Nat} {o : Option Nat} {n : Nat} (hc : mj_Y.code kY k pc = some (.astore n) ∧ n = m ∧ m < mj_Y.nL kY k ∧ pc' = pc + 2) (hr : mj_Run kY xt ct d k pc' (mj_st1 l m (rv o)) st h r) : mj_Run kY xt ct d k pc l (rv o :: st) h r := by
  cases o with
  | none => exact r_astore0 hc hr
  | some a => exact r_astore hc hr
theorem c_asvn {m : Nat} {o : Option Nat} {n : Fin 4} (hc : mj_Y.code kY k pc = some (.astore_n n) ∧ (n : Nat) = m ∧ m < mj_Y.nL kY k ∧ pc' = pc + 1) (hr : mj_Run kY xt ct d k pc' (mj_st1 l m (rv o)) st h r) : mj_Run kY xt ct d k pc l (rv o :: st) h r := by
  cases o with
  | none => exact r_astore0n hc hr
  | some a => exact r_astoren hc hr
/-- a reference that may be null -/
theorem c_nul {off : Int} {t : Nat} {o : Option Nat} (hc : mj_Y.code kY k pc = some (.ifnull off) ∧ mj_tg pc off = some t ∧ pc' = pc + 3) (hb : o.isNone = true) (hr : mj_Run kY xt ct d k t l st h r) : mj_Run kY xt ct d k pc l (rv o :: st) h r := by
  cases o with
  | none => exact r_ifnullT (a := 0) hc hr
  | some a => cases hb
theorem c_nuf {off : Int} {t : Nat} {o : Option Nat} (hc : mj_Y.code kY k pc = some (.ifnull off) ∧ mj_tg pc off = some t ∧ pc' = pc + 3) (hb : o.isNone = false) (hr : mj_Run kY xt ct d k pc' l st h r) : mj_Run kY xt ct d k pc l (rv o :: st) h r := by
  cases o with
  | none => cases hb
  | some a => exact r_ifnullF (a := a) hc hr
theorem c_nnl {off : Int} {t : Nat} {o : Option Nat} (hc : mj_Y.code kY k pc = some (.ifnonnull off) ∧ mj_tg pc off = some t ∧ pc' = pc + 3) (hb : o.isNone = false) (hr : mj_Run kY xt ct d k t l st h r) : mj_Run kY xt ct d k pc l (rv o :: st) h r := by
  cases o with
  | none => cases hb
  | some a => exact r_ifnonT (a := a) hc hr
theorem c_nnf {off : Int} {t : Nat} {o : Option Nat} (hc : mj_Y.code kY k pc = some (.ifnonnull off) ∧ mj_tg pc off = some t ∧ pc' = pc + 3) (hb : o.isNone = true) (hr : mj_Run kY xt ct d k pc' l st h r) : mj_Run kY xt ct d k pc l (rv o :: st) h r := by
  cases o with
  | none => exact r_ifnonF (a := 0) hc hr
  | some a => cases hb
theorem c_arv {o : Option Nat} {ty : FieldType} (hc : mj_Y.code kY k pc = some .areturn ∧ mj_Y.rt kY k = some ty ∧ ty.isReference = true) : mj_Run kY xt ct d k pc l [rv o] h (.inl (some (rv o)), h) := by
  cases o with
  | some a => exact r_aret hc
  | none =>
    obtain ⟨hc, ht, hv⟩ := hc
    refine mj_Run_end ?_
    unfold mj_s
    rw [hc]
    dsimp only
    rw [ht]
    dsimp only
    rw [if_pos hv]
/-- the steps that begin a call -/
theorem s_cs {k2 n m idx : Nat} {as st' : List Value} (hc : mj_Y.code kY k pc = some (.invokestatic idx) ∧ mj_Y.pr kY k idx = none ∧ mj_Y.cs kY k idx = some (k2, n) ∧ mj_Y.nL kY k2 = m ∧ pc' = pc + 3) (hq : n ≤ st.length ∧ mj_wt (st.drop n) + m + 11 ≤ 64 ∧ (lg_sl (st.take n).reverse).length ≤ m) (has : (st.take n).reverse = as) (hst : st.drop n = st') : mj_s kY xt ct k pc l st h = some (.inr (.inl (k2, as, pc', l, st'))) := by
  obtain ⟨hc, h1, h3, h4, rfl⟩ := hc
  subst has
  subst hst
  unfold mj_s
  rw [hc]
  dsimp only
  rw [h1]
  dsimp only
  rw [h3]
  dsimp only
  unfold mj_cal
  rw [h4]
  exact if_pos hq
theorem s_cp {k2 n m idx a c : Nat} {as st' rest : List Value} (hc : mj_Y.code kY k pc = some (.invokespecial idx) ∧ mj_Y.pr kY k idx = none ∧ mj_Y.cp kY k idx = some (k2, n) ∧ mj_Y.nL kY k2 = m ∧ pc' = pc + 3) (hs : st.drop n = .ref a :: rest) (ha : gC h a = some c) (hq : n + 1 ≤ st.length ∧ mj_wt (st.drop (n + 1)) + m + 11 ≤ 64 ∧ (lg_sl (st.take (n + 1)).reverse).length ≤ m) (has : (st.take (n + 1)).reverse = as) (hst : st.drop (n + 1) = st') : mj_s kY xt ct k pc l st h = some (.inr (.inl (k2, as, pc', l, st'))) := by
  obtain ⟨hc, h1, h3, h4, rfl⟩ := hc
  subst has
  subst hst
  unfold gC at ha
  split at ha
  · rename_i c' fs hh
    unfold mj_s
    rw [hc]
    dsimp only
    rw [h1]
    dsimp only
    rw [h3]
    dsimp only
    rw [hs]
    dsimp only
    rw [hh]
    dsimp only
    unfold mj_cal
    rw [h4]
    exact if_pos hq
  · cases ha
theorem s_cv {k2 n m idx a c : Nat} {as st' rest : List Value} (hc : mj_Y.code kY k pc = some (.invokevirtual idx) ∧ mj_Y.na kY k idx = some n ∧ mj_Y.cv kY k idx c = some k2 ∧ mj_Y.nL kY k2 = m ∧ pc' = pc + 3) (hs : st.drop n = .ref a :: rest) (ha : gC h a = some c) (hq : n + 1 ≤ st.length ∧ mj_wt (st.drop (n + 1)) + m + 11 ≤ 64 ∧ (lg_sl (st.take (n + 1)).reverse).length ≤ m) (has : (st.take (n + 1)).reverse = as) (hst : st.drop (n + 1) = st') : mj_s kY xt ct k pc l st h = some (.inr (.inl (k2, as, pc', l, st'))) := by
  obtain ⟨hc, h1, h3, h4, rfl⟩ := hc
  subst has
  subst hst
  unfold gC at ha
  split at ha
  · rename_i c' fs hh
    cases ha
    unfold mj_s
    rw [hc]
    dsimp only
    rw [h1]
    dsimp only
    rw [hs]
    dsimp only
    rw [hh]
    dsimp only
    rw [h3]
    dsimp only
    unfold mj_cal
    rw [h4]
    exact if_pos hq
  · cases ha
theorem c_cal {k2 d2 : Nat} {as st' st2 : List Value} {v : Option Value} {h2 : mj_H} (hs : mj_s kY xt ct k pc l st h = some (.inr (.inl (k2, as, pc', l, st')))) (he : mj_Ev kY xt ct d2 k2 as h (.inl v, h2)) (hd : d2 < d) (hst : v.toList ++ st' = st2) (hr : mj_Run kY xt ct d k pc' l st2 h2 r) : mj_Run kY xt ct d k pc l st h r := by
  subst hst
  exact mj_Run_call hs he hd hr
theorem c_calT {α : Type} {f : α → Option Value} {k2 d2 : Nat} {as st' st2 : List Value} {v : α} {p : (α ⊕ Nat) × mj_H} (hs : mj_s kY xt ct k pc l st h = some (.inr (.inl (k2, as, pc', l, st')))) (he : mj_Ev kY xt ct d2 k2 as h (tT f p.1, p.2)) (hp : p.1 = .inl v) (hd : d2 < d) (hst : (f v).toList ++ st' = st2) (hr : mj_Run kY xt ct d k pc' l st2 p.2 r) : mj_Run kY xt ct d k pc l st h r := by
  rw [hp] at he
  exact c_cal hs he hd hst hr
theorem c_thrT {α : Type} {f : α → Option Value} {k2 d2 x : Nat} {as st' : List Value} {p : (α ⊕ Nat) × mj_H} (hs : mj_s kY xt ct k pc l st h = some (.inr (.inl (k2, as, pc', l, st')))) (he : mj_Ev kY xt ct d2 k2 as h (tT f p.1, p.2)) (hp : p.1 = .inr x) (hd : d2 < d) (hn : mj_Y.nh kY k = true) : mj_Run kY xt ct d k pc l st h (.inr x, p.2) := by
  rw [hp] at he
  exact mj_Run_thrown hs he hd hn
end CRR
