/-! THE SMALL MACHINE WITH SYMBOLS: float n is an int that is known by its number alone, double n a long; T: what operations on them give; C: how conditions on them come out -/
abbrev ms_T : Type := List (Nat × Value × Value × Value)
abbrev ms_C : Type := List (Nat × Value × Value × Bool)
def ms_lk (T : ms_T) (n : Nat) (x y : Value) : Option Value := (T.find? (fun e => (e.1 == n) && (decide (e.2.1 = x) && decide (e.2.2.1 = y)))).map (fun e => e.2.2.2)
def ms_cd (C : ms_C) (n : Nat) (x y : Value) : Option Bool := (C.find? (fun e => (e.1 == n) && (decide (e.2.1 = x) && decide (e.2.2.1 = y)))).map (fun e => e.2.2.2)
def ms_ii : Nat → Option Instr
  | 1 => some .iadd
  | 2 => some .isub
  | 3 => some .imul
  | 4 => some .iand
  | 5 => some .ior
  | 6 => some .ixor
  | 7 => some .ishl
  | 8 => some .ishr
  | 9 => some .iushr
  | _ => none
def ms_jj : Nat → Option Instr
  | 21 => some .ladd
  | 22 => some .lsub
  | 23 => some .lmul
  | 24 => some .land
  | 25 => some .lor
  | _ => none
/-- what an operation gives -/
def ms_den (n : Nat) (x y : Value) : Option Value := match ms_ii n, ms_jj n with
  | some i, _ => match x, y with
    | .int a, .int b => (mj_ii i a b).map .int
    | _, _ => none
  | _, some j => match x, y with
    | .long a, .long b => (mj_jj j a b).map .long
    | _, _ => none
  | _, _ => match n, x, y with
    | 31, .long a, .int b => some (.long (a <<< (b.toInt64 &&& 63)))
    | 32, .long a, .int b => some (.long (a >>> (b.toInt64 &&& 63)))
    | 41, .int a, _ => some (.long a.toInt64)
    | 42, .long a, _ => some (.int a.toInt32)
    | 43, .int a, _ => some (.int a.toInt8.toInt32)
    | 44, .int a, _ => some (.int (a.toUInt32 % 65536).toInt32)
    | 45, .long a, .long b => some (.int (lg_cmp a b))
    | 51, .int a, _ => some (narrow .byte (.int a))
    | _, _, _ => none
def ms_cn : ClassFile.Cond → Nat
  | .eq => 0
  | .ne => 1
  | .lt => 2
  | .ge => 3
  | .gt => 4
  | .le => 5
def ms_cc : Nat → Option ClassFile.Cond
  | 0 => some .eq
  | 1 => some .ne
  | 2 => some .lt
  | 3 => some .ge
  | 4 => some .gt
  | 5 => some .le
  | _ => none
theorem ms_ccn (c : ClassFile.Cond) : ms_cc (ms_cn c) = some c := by cases c <;> rfl
/-- how a condition comes out: n below 10: of two ints; from 10 on: of one and 0 -/
def ms_cden (n : Nat) (x y : Value) : Option Bool := match ms_cc n, x, y with
  | some c, .int a, .int b => some (mj_c2 c a b)
  | none, .int a, _ => (ms_cc (n - 10)).map (fun c => mj_c1 c a)
  | _, _, _ => none
def ms_pI (pc : Nat) (l : mj_L) (k : Nat) (st : List Value) : Option (Nat × mj_L × List Value) := match mj_ld l k with
  | some (.float x) => some (pc, l, .float x :: st)
  | _ => none
def ms_pJ (pc : Nat) (l : mj_L) (k : Nat) (st : List Value) : Option (Nat × mj_L × List Value) := match mj_ld l k with
  | some (.double x) => some (pc, l, .double x :: st)
  | _ => none
def ms_sI (nL pc : Nat) (l : mj_L) (k : Nat) (st : List Value) : Option (Nat × mj_L × List Value) := match st with
  | .float x :: r => if k < nL then some (pc, mj_st1 l k (.float x), r) else none
  | _ => none
def ms_sJ (nL pc : Nat) (l : mj_L) (k : Nat) (st : List Value) : Option (Nat × mj_L × List Value) := match st with
  | .double x :: r => if k + 1 < nL then some (pc, mj_st2 l k (.double x), r) else none
  | _ => none
def ms_o2 (T : ms_T) (n pc : Nat) (l : mj_L) (st : List Value) : Option (Nat × mj_L × List Value) := match st with
  | y :: x :: r => (ms_lk T n x y).map (fun v => (pc + 1, l, v :: r))
  | _ => none
def ms_o1 (T : ms_T) (n pc : Nat) (l : mj_L) (st : List Value) : Option (Nat × mj_L × List Value) := match st with
  | x :: r => (ms_lk T n x .null).map (fun v => (pc + 1, l, v :: r))
  | _ => none
def ms_p (T : ms_T) (C : ms_C) (nL pc : Nat) (i : Instr) (l : mj_L) (st : List Value) : Option (Nat × mj_L × List Value) := match i with
  | .iload_n k => ms_pI (pc + 1) l k st
  | .iload k => ms_pI (pc + 2) l k st
  | .lload_n k => ms_pJ (pc + 1) l k st
  | .lload k => ms_pJ (pc + 2) l k st
  | .istore_n k => ms_sI nL (pc + 1) l k st
  | .istore k => ms_sI nL (pc + 2) l k st
  | .lstore_n k => ms_sJ nL (pc + 1) l k st
  | .lstore k => ms_sJ nL (pc + 2) l k st
  | .iadd => ms_o2 T 1 pc l st
  | .isub => ms_o2 T 2 pc l st
  | .imul => ms_o2 T 3 pc l st
  | .iand => ms_o2 T 4 pc l st
  | .ior => ms_o2 T 5 pc l st
  | .ixor => ms_o2 T 6 pc l st
  | .ishl => ms_o2 T 7 pc l st
  | .ishr => ms_o2 T 8 pc l st
  | .iushr => ms_o2 T 9 pc l st
  | .ladd => ms_o2 T 21 pc l st
  | .lsub => ms_o2 T 22 pc l st
  | .lmul => ms_o2 T 23 pc l st
  | .land => ms_o2 T 24 pc l st
  | .lor => ms_o2 T 25 pc l st
  | .lshl => ms_o2 T 31 pc l st
  | .lshr => ms_o2 T 32 pc l st
  | .lcmp => ms_o2 T 45 pc l st
  | .i2l => ms_o1 T 41 pc l st
  | .l2i => ms_o1 T 42 pc l st
  | .i2b => ms_o1 T 43 pc l st
  | .i2c => ms_o1 T 44 pc l st
  | .ifCond cnd off => match st with
    | x :: r => (ms_cd C (10 + ms_cn cnd) x .null).bind (fun b => mj_br pc b off l r)
    | _ => none
  | .if_icmp cnd off => match st with
    | y :: x :: r => (ms_cd C (ms_cn cnd) x y).bind (fun b => mj_br pc b off l r)
    | _ => none
  | _ => none
def ms_ty : Value → Option FieldType
  | .float _ => some .int
  | .double _ => some .long
  | _ => none
/-- a step that the machine without symbols does not do -/
def ms_f (T : ms_T) (C : ms_C) (Y : mj_Y) (k pc : Nat) (l : mj_L) (st : List Value) (h : mj_H) : Option mj_T := match Y.code k pc with
  | none => none
  | some i => match i with
    | .putfield idx => match st with
      | v :: .ref a :: r => match h.1 a with
        | some (.inr (ci, fs)) => match Y.fl k idx ci with
          | some q => if q.2.2 = true ∧ ms_ty v = some q.2.1 then mj_go (pc + 3) l r (mj_put h a (.inr (ci, fs.set q.1 v))) else none
          | none => none
        | _ => none
      | _ => none
    | .iastore => match st with
      | v :: .int j :: .ref a :: r => match h.1 a with
        | some (.inl (.int, xs)) => if ms_ty v = some .int ∧ ¬ j < 0 ∧ j.toNatClampNeg < xs.length then mj_go (pc + 1) l r (mj_put h a (.inl (.int, xs.set j.toNatClampNeg v))) else none
        | _ => none
      | _ => none
    | .lastore => match st with
      | v :: .int j :: .ref a :: r => match h.1 a with
        | some (.inl (.long, xs)) => if ms_ty v = some .long ∧ ¬ j < 0 ∧ j.toNatClampNeg < xs.length then mj_go (pc + 1) l r (mj_put h a (.inl (.long, xs.set j.toNatClampNeg v))) else none
        | _ => none
      | _ => none
    | .bastore => match st with
      | v :: .int j :: .ref a :: r => match h.1 a, ms_lk T 51 v .null with
        | some (.inl (.byte, xs)), some w => if ¬ j < 0 ∧ j.toNatClampNeg < xs.length then mj_go (pc + 1) l r (mj_put h a (.inl (.byte, xs.set j.toNatClampNeg w))) else none
        | _, _ => none
      | _ => none
    | .ireturn => match st, Y.rt k with
      | [.float v], some .int => some (.inr (.inr (.inl (some (.float v)), h)))
      | _, _ => none
    | .lreturn => match st, Y.rt k with
      | [.double v], some .long => some (.inr (.inr (.inl (some (.double v)), h)))
      | _, _ => none
    | i => (ms_p T C (Y.nL k) pc i l st).bind (fun q => mj_go q.1 q.2.1 q.2.2 h)
def ms_s (T : ms_T) (C : ms_C) (Y : mj_Y) (xt : mj_X) (ct : Nat → Value) (k pc : Nat) (l : mj_L) (st : List Value) (h : mj_H) : Option mj_T := match mj_s Y xt ct k pc l st h with
  | some t => some t
  | none => ms_f T C Y k pc l st h
def ms_x (T : ms_T) (C : ms_C) (Y : mj_Y) (xt : mj_X) (ct : Nat → Value) : Nat → Nat → Nat → Nat → mj_L → List Value → mj_H → Option (mj_O × mj_H)
  | 0, _, _, _, _, _, _ => none
  | f + 1, d, k, pc, l, st, h => match ms_s T C Y xt ct k pc l st h with
    | none => none
    | some (.inl q) => ms_x T C Y xt ct f d k q.1 q.2.1 q.2.2.1 q.2.2.2
    | some (.inr (.inl q)) => match d with
      | 0 => none
      | d' + 1 => match ms_x T C Y xt ct f d' q.1 0 (lv_args 0 q.2.1) [] h with
        | none => none
        | some (.inl v, h') => ms_x T C Y xt ct f (d' + 1) k q.2.2.1 q.2.2.2.1 (v.toList ++ q.2.2.2.2) h'
        | some (.inr a, h') => match Y.nh k with
          | true => some (.inr a, h')
          | false => match h'.1 a with
            | some (.inr (ci, _)) => match Y.hd k pc ci with
              | some hpc => ms_x T C Y xt ct f (d' + 1) k hpc q.2.2.2.1 [.ref a] h'
              | none => none
            | _ => none
    | some (.inr (.inr o)) => some o
section MSY
variable {b B : Nat} {ri : Nat → Int32} {rj : Nat → Int64} {T : ms_T} {C : ms_C}
def ms_okT (b B : Nat) (ri : Nat → Int32) (rj : Nat → Int64) (T : ms_T) : Prop := ∀ e ∈ T, ms_den e.1 (me_v b B ri rj e.2.1) (me_v b B ri rj e.2.2.1) = some (me_v b B ri rj e.2.2.2)
def ms_okC (b B : Nat) (ri : Nat → Int32) (rj : Nat → Int64) (C : ms_C) : Prop := ∀ e ∈ C, ms_cden e.1 (me_v b B ri rj e.2.1) (me_v b B ri rj e.2.2.1) = some e.2.2.2
theorem ms_lk_ok (hT : ms_okT b B ri rj T) {n : Nat} {x y v : Value} (h : ms_lk T n x y = some v) : ms_den n (me_v b B ri rj x) (me_v b B ri rj y) = some (me_v b B ri rj v) := by
  unfold ms_lk at h
  obtain ⟨e, he, rfl⟩ := Option.map_eq_some_iff.mp h
  have h1 := List.find?_some he
  simp only [Bool.and_eq_true, beq_iff_eq, decide_eq_true_eq] at h1
  obtain ⟨rfl, rfl, rfl⟩ := h1
  exact hT e (List.mem_of_find?_eq_some he)
theorem ms_cd_ok (hC : ms_okC b B ri rj C) {n : Nat} {x y : Value} {v : Bool} (h : ms_cd C n x y = some v) : ms_cden n (me_v b B ri rj x) (me_v b B ri rj y) = some v := by
  unfold ms_cd at h
  obtain ⟨e, he, rfl⟩ := Option.map_eq_some_iff.mp h
  have h1 := List.find?_some he
  simp only [Bool.and_eq_true, beq_iff_eq, decide_eq_true_eq] at h1
  obtain ⟨rfl, rfl, rfl⟩ := h1
  exact hC e (List.mem_of_find?_eq_some he)
theorem ms_den_i {n : Nat} {i : Instr} {x y v : Value} (hi : ms_ii n = some i) (h : ms_den n x y = some v) : ∃ a c z, x = .int a ∧ y = .int c ∧ mj_ii i a c = some z ∧ v = .int z := by
  unfold ms_den at h
  rw [hi] at h
  cases x <;> cases y <;> first | (cases h; done) | skip
  rename_i a c
  obtain ⟨z, hz, rfl⟩ := Option.map_eq_some_iff.mp h
  exact ⟨a, c, z, rfl, rfl, hz, rfl⟩
theorem ms_den_j {n : Nat} {i : Instr} {x y v : Value} (hn : ms_ii n = none) (hi : ms_jj n = some i) (h : ms_den n x y = some v) : ∃ a c z, x = .long a ∧ y = .long c ∧ mj_jj i a c = some z ∧ v = .long z := by
  unfold ms_den at h
  rw [hn, hi] at h
  cases x <;> cases y <;> first | (cases h; done) | skip
  rename_i a c
  obtain ⟨z, hz, rfl⟩ := Option.map_eq_some_iff.mp h
  exact ⟨a, c, z, rfl, rfl, hz, rfl⟩
theorem ms_o2i (hT : ms_okT b B ri rj T) {n pc : Nat} {i : Instr} {l : mj_L} {st : List Value} {q : Nat × mj_L × List Value} (hi : ms_ii n = some i) (h : ms_o2 T n pc l st = some q) : mj_oi pc i (me_l b B ri rj l) (me_s b B ri rj st) = some (me_q b B ri rj q) := by
  unfold ms_o2 at h
  split at h
  · rename_i y x r
    obtain ⟨v, hv, rfl⟩ := Option.map_eq_some_iff.mp h
    obtain ⟨a, c, z, e1, e2, e3, e4⟩ := ms_den_i hi (ms_lk_ok hT hv)
    show mj_oi pc i (me_l b B ri rj l) (me_v b B ri rj y :: me_v b B ri rj x :: me_s b B ri rj r) = some (pc + 1, me_l b B ri rj l, me_v b B ri rj v :: me_s b B ri rj r)
    rw [e1, e2, e4]
    simp only [mj_oi, e3, Option.map_some]
  · cases h
theorem ms_o2j (hT : ms_okT b B ri rj T) {n pc : Nat} {i : Instr} {l : mj_L} {st : List Value} {q : Nat × mj_L × List Value} (hn : ms_ii n = none) (hi : ms_jj n = some i) (h : ms_o2 T n pc l st = some q) : mj_oj pc i (me_l b B ri rj l) (me_s b B ri rj st) = some (me_q b B ri rj q) := by
  unfold ms_o2 at h
  split at h
  · rename_i y x r
    obtain ⟨v, hv, rfl⟩ := Option.map_eq_some_iff.mp h
    obtain ⟨a, c, z, e1, e2, e3, e4⟩ := ms_den_j hn hi (ms_lk_ok hT hv)
    show mj_oj pc i (me_l b B ri rj l) (me_v b B ri rj y :: me_v b B ri rj x :: me_s b B ri rj r) = some (pc + 1, me_l b B ri rj l, me_v b B ri rj v :: me_s b B ri rj r)
    rw [e1, e2, e4]
    simp only [mj_oj, e3, Option.map_some]
  · cases h
/-- the other operations -/
theorem ms_den_o {n : Nat} {x y v : Value} (h1 : ms_ii n = none) (h2 : ms_jj n = none) (h : ms_den n x y = some v) :
    (n = 31 ∧ ∃ a c, x = .long a ∧ y = .int c ∧ v = .long (a <<< (c.toInt64 &&& 63))) ∨ (n = 32 ∧ ∃ a c, x = .long a ∧ y = .int c ∧ v = .long (a >>> (c.toInt64 &&& 63))) ∨ (n = 41 ∧ ∃ a, x = .int a ∧ v = .long a.toInt64) ∨ (n = 42 ∧ ∃ a, x = .long a ∧ v = .int a.toInt32) ∨ (n = 43 ∧ ∃ a, x = .int a ∧ v = .int a.toInt8.toInt32) ∨ (n = 44 ∧ ∃ a, x = .int a ∧ v = .int (a.toUInt32 % 65536).toInt32) ∨ (n = 45 ∧ ∃ a c, x = .long a ∧ y = .long c ∧ v = .int (lg_cmp a c)) ∨ (n = 51 ∧ ∃ a, x = .int a ∧ v = narrow .byte (.int a)) := by
  unfold ms_den at h
  rw [h1, h2] at h
  dsimp only at h
  split at h
  all_goals first | (cases h; done) | (cases h; simp; done)
theorem ms_two {T : ms_T} {n pc : Nat} {l : mj_L} {st : List Value} {q : Nat × mj_L × List Value} (h : ms_o2 T n pc l st = some q) : ∃ y x r v, st = y :: x :: r ∧ ms_lk T n x y = some v ∧ q = (pc + 1, l, v :: r) := by
  unfold ms_o2 at h
  split at h
  · obtain ⟨v, hv, rfl⟩ := Option.map_eq_some_iff.mp h
    exact ⟨_, _, _, v, rfl, hv, rfl⟩
  · cases h
theorem ms_one {T : ms_T} {n pc : Nat} {l : mj_L} {st : List Value} {q : Nat × mj_L × List Value} (h : ms_o1 T n pc l st = some q) : ∃ x r v, st = x :: r ∧ ms_lk T n x .null = some v ∧ q = (pc + 1, l, v :: r) := by
  unfold ms_o1 at h
  split at h
  · obtain ⟨v, hv, rfl⟩ := Option.map_eq_some_iff.mp h
    exact ⟨_, _, v, rfl, hv, rfl⟩
  · cases h
theorem ms_p_ok (hT : ms_okT b B ri rj T) (hC : ms_okC b B ri rj C) {nL pc : Nat} {i : Instr} {l : mj_L} {st : List Value} {q : Nat × mj_L × List Value} (h : ms_p T C nL pc i l st = some q) : mj_p nL pc i (me_l b B ri rj l) (me_s b B ri rj st) = some (me_q b B ri rj q) := by
  have lI : ∀ pc k, ms_pI pc l k st = some q → mj_pI pc (me_l b B ri rj l) k (me_s b B ri rj st) = some (me_q b B ri rj q) := by
    intro pc k h
    unfold ms_pI at h
    unfold mj_pI
    rw [me_ld]
    split at h
    · rename_i x hx
      cases h
      rw [hx]
      rfl
    · cases h
  have lJ : ∀ pc k, ms_pJ pc l k st = some q → mj_pJ pc (me_l b B ri rj l) k (me_s b B ri rj st) = some (me_q b B ri rj q) := by
    intro pc k h
    unfold ms_pJ at h
    unfold mj_pJ
    rw [me_ld]
    split at h
    · rename_i x hx
      cases h
      rw [hx]
      rfl
    · cases h
  have sI : ∀ pc k, ms_sI nL pc l k st = some q → mj_sI nL pc (me_l b B ri rj l) k (me_s b B ri rj st) = some (me_q b B ri rj q) := by
    intro pc k h
    unfold ms_sI at h
    split at h
    · rename_i x r _
      split at h
      · rename_i hk
        cases h
        show (if k < nL then some (pc, mj_st1 (me_l b B ri rj l) k (me_v b B ri rj (.float x)), me_s b B ri rj r) else none) = _
        rw [if_pos hk, me_st1]
        rfl
      · cases h
    · cases h
  have sJ : ∀ pc k, ms_sJ nL pc l k st = some q → mj_sJ nL pc (me_l b B ri rj l) k (me_s b B ri rj st) = some (me_q b B ri rj q) := by
    intro pc k h
    unfold ms_sJ at h
    split at h
    · rename_i x r _
      split at h
      · rename_i hk
        cases h
        show (if k + 1 < nL then some (pc, mj_st2 (me_l b B ri rj l) k (me_v b B ri rj (.double x)), me_s b B ri rj r) else none) = _
        rw [if_pos hk, me_st2]
        rfl
      · cases h
    · cases h
  unfold ms_p at h
  split at h
  all_goals first
    | (cases h; done)
    | exact lI _ _ h
    | exact lJ _ _ h
    | exact sI _ _ h
    | exact sJ _ _ h
    | exact ms_o2i hT rfl h
    | exact ms_o2j hT rfl rfl h
    | skip
  · obtain ⟨y, x, r, v, rfl, hv, rfl⟩ := ms_two h
    have hd := ms_den_o rfl rfl (ms_lk_ok hT hv)
    simp only [Nat.reduceEqDiff, false_and, or_false, false_or, true_and] at hd
    obtain ⟨a, c, e1, e2, e3⟩ := hd
    show mj_p nL pc .lshl (me_l b B ri rj l) (me_v b B ri rj y :: me_v b B ri rj x :: me_s b B ri rj r) = some (pc + 1, me_l b B ri rj l, me_v b B ri rj v :: me_s b B ri rj r)
    rw [e1, e2, e3]
    rfl
  · obtain ⟨y, x, r, v, rfl, hv, rfl⟩ := ms_two h
    have hd := ms_den_o rfl rfl (ms_lk_ok hT hv)
    simp only [Nat.reduceEqDiff, false_and, or_false, false_or, true_and] at hd
    obtain ⟨a, c, e1, e2, e3⟩ := hd
    show mj_p nL pc .lshr (me_l b B ri rj l) (me_v b B ri rj y :: me_v b B ri rj x :: me_s b B ri rj r) = some (pc + 1, me_l b B ri rj l, me_v b B ri rj v :: me_s b B ri rj r)
    rw [e1, e2, e3]
    rfl
  · obtain ⟨y, x, r, v, rfl, hv, rfl⟩ := ms_two h
    have hd := ms_den_o rfl rfl (ms_lk_ok hT hv)
    simp only [Nat.reduceEqDiff, false_and, or_false, false_or, true_and] at hd
    obtain ⟨a, c, e1, e2, e3⟩ := hd
    show mj_p nL pc .lcmp (me_l b B ri rj l) (me_v b B ri rj y :: me_v b B ri rj x :: me_s b B ri rj r) = some (pc + 1, me_l b B ri rj l, me_v b B ri rj v :: me_s b B ri rj r)
    rw [e1, e2, e3]
    rfl
  · obtain ⟨x, r, v, rfl, hv, rfl⟩ := ms_one h
    have hd := ms_den_o rfl rfl (ms_lk_ok hT hv)
    simp only [Nat.reduceEqDiff, false_and, or_false, false_or, true_and] at hd
    obtain ⟨a, e1, e3⟩ := hd
    show mj_p nL pc .i2l (me_l b B ri rj l) (me_v b B ri rj x :: me_s b B ri rj r) = some (pc + 1, me_l b B ri rj l, me_v b B ri rj v :: me_s b B ri rj r)
    rw [e1, e3]
    rfl
  · obtain ⟨x, r, v, rfl, hv, rfl⟩ := ms_one h
    have hd := ms_den_o rfl rfl (ms_lk_ok hT hv)
    simp only [Nat.reduceEqDiff, false_and, or_false, false_or, true_and] at hd
    obtain ⟨a, e1, e3⟩ := hd
    show mj_p nL pc .l2i (me_l b B ri rj l) (me_v b B ri rj x :: me_s b B ri rj r) = some (pc + 1, me_l b B ri rj l, me_v b B ri rj v :: me_s b B ri rj r)
    rw [e1, e3]
    rfl
  · obtain ⟨x, r, v, rfl, hv, rfl⟩ := ms_one h
    have hd := ms_den_o rfl rfl (ms_lk_ok hT hv)
    simp only [Nat.reduceEqDiff, false_and, or_false, false_or, true_and] at hd
    obtain ⟨a, e1, e3⟩ := hd
    show mj_p nL pc .i2b (me_l b B ri rj l) (me_v b B ri rj x :: me_s b B ri rj r) = some (pc + 1, me_l b B ri rj l, me_v b B ri rj v :: me_s b B ri rj r)
    rw [e1, e3]
    rfl
  · obtain ⟨x, r, v, rfl, hv, rfl⟩ := ms_one h
    have hd := ms_den_o rfl rfl (ms_lk_ok hT hv)
    simp only [Nat.reduceEqDiff, false_and, or_false, false_or, true_and] at hd
    obtain ⟨a, e1, e3⟩ := hd
    show mj_p nL pc .i2c (me_l b B ri rj l) (me_v b B ri rj x :: me_s b B ri rj r) = some (pc + 1, me_l b B ri rj l, me_v b B ri rj v :: me_s b B ri rj r)
    rw [e1, e3]
    rfl
  · rename_i cnd off
    split at h
    · rename_i x r
      obtain ⟨bb, hb, h2⟩ := Option.bind_eq_some_iff.mp h
      have hd := ms_cd_ok hC hb
      have hn : ms_cc (10 + ms_cn cnd) = none := by cases cnd <;> rfl
      unfold ms_cden at hd
      rw [hn, Nat.add_sub_cancel_left, ms_ccn] at hd
      cases hx : me_v b B ri rj x with
      | int a =>
        rw [hx] at hd
        have hd' : some (mj_c1 cnd a) = some bb := hd
        cases hd'
        show mj_p nL pc (.ifCond cnd off) (me_l b B ri rj l) (me_v b B ri rj x :: me_s b B ri rj r) = _
        rw [hx]
        exact me_br h2
      | _ => rw [hx] at hd; cases hd
    · cases h
  · rename_i cnd off
    split at h
    · rename_i y x r
      obtain ⟨bb, hb, h2⟩ := Option.bind_eq_some_iff.mp h
      have hd := ms_cd_ok hC hb
      unfold ms_cden at hd
      rw [ms_ccn] at hd
      cases hx : me_v b B ri rj x with
      | int a =>
        cases hy : me_v b B ri rj y with
        | int c =>
          rw [hx, hy] at hd
          have hd' : some (mj_c2 cnd a c) = some bb := hd
          cases hd'
          show mj_p nL pc (.if_icmp cnd off) (me_l b B ri rj l) (me_v b B ri rj y :: me_v b B ri rj x :: me_s b B ri rj r) = _
          rw [hx, hy]
          exact me_br h2
        | _ => rw [hx, hy] at hd; cases hd
      | _ => rw [hx] at hd; cases hd
    · cases h
end MSY
