/-! RULES: an instruction each, of runs (mj_Run) over a heap of which what is needed is known; a hypothesis hc is a row of part 71 on: the instruction, and the place behind it -/
def r_np (i : Instr) : Bool := match i with
  | .getfield _ | .putfield _ | .iaload | .laload | .baload | .caload | .aaload | .iastore | .bastore | .castore | .lastore | .aastore | .arraylength | .new _ | .newarray _ | .anewarray _ | .ldc _ | .ldc2_w _ | .getstatic _ | .invokestatic _ | .invokespecial _ | .invokevirtual _ | .ireturn | .lreturn | .areturn | .return_ | .athrow | .multianewarray _ _ | .checkcast _ => false
  | _ => true
section RUL
variable {Y : mj_Y} {xt : mj_X} {ct : Nat → Value} {d k pc pc' : Nat} {l : mj_L} {st : List Value} {h : mj_H} {r : mj_O × mj_H}
set_option maxHeartbeats 4000000 in
theorem r_pl {i : Instr} {q : Nat × mj_L × List Value} (hc : Y.code k pc = some i) (hn : r_np i = true) (hp : mj_p (Y.nL k) pc i l st = some q) (hr : mj_Run Y xt ct d k q.1 q.2.1 q.2.2 h r) : mj_Run Y xt ct d k pc l st h r := by
  refine mj_Run_go (q := (q.1, q.2.1, q.2.2, h)) ?_ hr
  unfold mj_s
  rw [hc]
  cases i <;> first | (cases hn; done) | (dsimp only; rw [hp]; rfl)
theorem r_iconst {n : Int} {v : Int32} (hc : Y.code k pc = some (.iconst n) ∧ Int32.ofInt n = v ∧ pc' = pc + 1) (hr : mj_Run Y xt ct d k pc' l (.int v :: st) h r) : mj_Run Y xt ct d k pc l st h r := by
  obtain ⟨hc, rfl, rfl⟩ := hc
  exact r_pl hc rfl rfl hr
theorem r_bipush {n : Int} {v : Int32} (hc : Y.code k pc = some (.bipush n) ∧ (Int8.ofInt n).toInt32 = v ∧ pc' = pc + 2) (hr : mj_Run Y xt ct d k pc' l (.int v :: st) h r) : mj_Run Y xt ct d k pc l st h r := by
  obtain ⟨hc, rfl, rfl⟩ := hc
  exact r_pl hc rfl rfl hr
theorem r_sipush {n : Int} {v : Int32} (hc : Y.code k pc = some (.sipush n) ∧ (Int16.ofInt n).toInt32 = v ∧ pc' = pc + 3) (hr : mj_Run Y xt ct d k pc' l (.int v :: st) h r) : mj_Run Y xt ct d k pc l st h r := by
  obtain ⟨hc, rfl, rfl⟩ := hc
  exact r_pl hc rfl rfl hr
theorem r_lconst {n : Fin 2} {v : Int64} (hc : Y.code k pc = some (.lconst n) ∧ Int64.ofNat (n : Nat) = v ∧ pc' = pc + 1) (hr : mj_Run Y xt ct d k pc' l (.long v :: st) h r) : mj_Run Y xt ct d k pc l st h r := by
  obtain ⟨hc, rfl, rfl⟩ := hc
  exact r_pl hc rfl rfl hr
theorem r_null (hc : Y.code k pc = some .aconst_null ∧ pc' = pc + 1) (hr : mj_Run Y xt ct d k pc' l (.null :: st) h r) : mj_Run Y xt ct d k pc l st h r := by
  obtain ⟨hc, rfl⟩ := hc
  exact r_pl hc rfl rfl hr
theorem r_ldc {idx : Nat} {v : Int32} (hc : Y.code k pc = some (.ldc idx) ∧ Y.ck k idx = some (.int v) ∧ pc' = pc + 2) (hr : mj_Run Y xt ct d k pc' l (.int v :: st) h r) : mj_Run Y xt ct d k pc l st h r := by
  obtain ⟨hc, hv, rfl⟩ := hc
  refine mj_Run_go (q := (pc + 2, l, .int v :: st, h)) ?_ hr
  unfold mj_s
  rw [hc]
  dsimp only
  rw [hv]
  rfl
theorem r_ldc2 {idx : Nat} {v : Int64} (hc : Y.code k pc = some (.ldc2_w idx) ∧ Y.ck k idx = some (.long v) ∧ pc' = pc + 3) (hr : mj_Run Y xt ct d k pc' l (.long v :: st) h r) : mj_Run Y xt ct d k pc l st h r := by
  obtain ⟨hc, hv, rfl⟩ := hc
  refine mj_Run_go (q := (pc + 3, l, .long v :: st, h)) ?_ hr
  unfold mj_s
  rw [hc]
  dsimp only
  rw [hv]
  rfl
theorem r_gets {idx n : Nat} (hc : Y.code k pc = some (.getstatic idx) ∧ Y.sc k idx = some n ∧ pc' = pc + 3) (hr : mj_Run Y xt ct d k pc' l (ct n :: st) h r) : mj_Run Y xt ct d k pc l st h r := by
  obtain ⟨hc, hv, rfl⟩ := hc
  refine mj_Run_go (q := (pc + 3, l, ct n :: st, h)) ?_ hr
  unfold mj_s
  rw [hc]
  dsimp only
  rw [hv]
  rfl
theorem r_iload {n : Nat} {m : Nat} {x : Int32} (hc : Y.code k pc = some (.iload n) ∧ n = m ∧ pc' = pc + 2) (hl : mj_ld l m = some (.int x)) (hr : mj_Run Y xt ct d k pc' l (.int x :: st) h r) : mj_Run Y xt ct d k pc l st h r := by
  obtain ⟨hc, rfl, rfl⟩ := hc
  exact r_pl hc rfl (q := (pc + 2, l, .int x :: st)) (by show mj_pI (pc + 2) l n st = _; unfold mj_pI; rw [hl]) hr
theorem r_iloadn {n : Fin 4} {m : Nat} {x : Int32} (hc : Y.code k pc = some (.iload_n n) ∧ (n : Nat) = m ∧ pc' = pc + 1) (hl : mj_ld l m = some (.int x)) (hr : mj_Run Y xt ct d k pc' l (.int x :: st) h r) : mj_Run Y xt ct d k pc l st h r := by
  obtain ⟨hc, rfl, rfl⟩ := hc
  exact r_pl hc rfl (q := (pc + 1, l, .int x :: st)) (by show mj_pI (pc + 1) l n st = _; unfold mj_pI; rw [hl]) hr
theorem r_lload {n : Nat} {m : Nat} {x : Int64} (hc : Y.code k pc = some (.lload n) ∧ n = m ∧ pc' = pc + 2) (hl : mj_ld l m = some (.long x)) (hr : mj_Run Y xt ct d k pc' l (.long x :: st) h r) : mj_Run Y xt ct d k pc l st h r := by
  obtain ⟨hc, rfl, rfl⟩ := hc
  exact r_pl hc rfl (q := (pc + 2, l, .long x :: st)) (by show mj_pJ (pc + 2) l n st = _; unfold mj_pJ; rw [hl]) hr
theorem r_lloadn {n : Fin 4} {m : Nat} {x : Int64} (hc : Y.code k pc = some (.lload_n n) ∧ (n : Nat) = m ∧ pc' = pc + 1) (hl : mj_ld l m = some (.long x)) (hr : mj_Run Y xt ct d k pc' l (.long x :: st) h r) : mj_Run Y xt ct d k pc l st h r := by
  obtain ⟨hc, rfl, rfl⟩ := hc
  exact r_pl hc rfl (q := (pc + 1, l, .long x :: st)) (by show mj_pJ (pc + 1) l n st = _; unfold mj_pJ; rw [hl]) hr
theorem r_aload {n : Nat} {m : Nat} {x : Nat} (hc : Y.code k pc = some (.aload n) ∧ n = m ∧ pc' = pc + 2) (hl : mj_ld l m = some (.ref x)) (hr : mj_Run Y xt ct d k pc' l (.ref x :: st) h r) : mj_Run Y xt ct d k pc l st h r := by
  obtain ⟨hc, rfl, rfl⟩ := hc
  exact r_pl hc rfl (q := (pc + 2, l, .ref x :: st)) (by show mj_pA (pc + 2) l n st = _; unfold mj_pA; rw [hl]) hr
theorem r_aloadn {n : Fin 4} {m : Nat} {x : Nat} (hc : Y.code k pc = some (.aload_n n) ∧ (n : Nat) = m ∧ pc' = pc + 1) (hl : mj_ld l m = some (.ref x)) (hr : mj_Run Y xt ct d k pc' l (.ref x :: st) h r) : mj_Run Y xt ct d k pc l st h r := by
  obtain ⟨hc, rfl, rfl⟩ := hc
  exact r_pl hc rfl (q := (pc + 1, l, .ref x :: st)) (by show mj_pA (pc + 1) l n st = _; unfold mj_pA; rw [hl]) hr
theorem r_aload0 {n : Nat} {m : Nat}  (hc : Y.code k pc = some (.aload n) ∧ n = m ∧ pc' = pc + 2) (hl : mj_ld l m = some (.null)) (hr : mj_Run Y xt ct d k pc' l (.null :: st) h r) : mj_Run Y xt ct d k pc l st h r := by
  obtain ⟨hc, rfl, rfl⟩ := hc
  exact r_pl hc rfl (q := (pc + 2, l, .null :: st)) (by show mj_pA (pc + 2) l n st = _; unfold mj_pA; rw [hl]) hr
theorem r_aload0n {n : Fin 4} {m : Nat}  (hc : Y.code k pc = some (.aload_n n) ∧ (n : Nat) = m ∧ pc' = pc + 1) (hl : mj_ld l m = some (.null)) (hr : mj_Run Y xt ct d k pc' l (.null :: st) h r) : mj_Run Y xt ct d k pc l st h r := by
  obtain ⟨hc, rfl, rfl⟩ := hc
  exact r_pl hc rfl (q := (pc + 1, l, .null :: st)) (by show mj_pA (pc + 1) l n st = _; unfold mj_pA; rw [hl]) hr
theorem r_istore {n : Nat} {m : Nat} {x : Int32} (hc : Y.code k pc = some (.istore n) ∧ n = m ∧ m < Y.nL k ∧ pc' = pc + 2) (hr : mj_Run Y xt ct d k pc' (mj_st1 l m (.int x)) st h r) : mj_Run Y xt ct d k pc l (.int x :: st) h r := by
  obtain ⟨hc, rfl, hn, rfl⟩ := hc
  exact r_pl hc rfl (q := (pc + 2, mj_st1 l n (.int x), st)) (by show (if _ then _ else none) = _; rw [if_pos hn]) hr
theorem r_istoren {n : Fin 4} {m : Nat} {x : Int32} (hc : Y.code k pc = some (.istore_n n) ∧ (n : Nat) = m ∧ m < Y.nL k ∧ pc' = pc + 1) (hr : mj_Run Y xt ct d k pc' (mj_st1 l m (.int x)) st h r) : mj_Run Y xt ct d k pc l (.int x :: st) h r := by
  obtain ⟨hc, rfl, hn, rfl⟩ := hc
  exact r_pl hc rfl (q := (pc + 1, mj_st1 l n (.int x), st)) (by show (if _ then _ else none) = _; rw [if_pos hn]) hr
theorem r_lstore {n : Nat} {m : Nat} {x : Int64} (hc : Y.code k pc = some (.lstore n) ∧ n = m ∧ m + 1 < Y.nL k ∧ pc' = pc + 2) (hr : mj_Run Y xt ct d k pc' (mj_st2 l m (.long x)) st h r) : mj_Run Y xt ct d k pc l (.long x :: st) h r := by
  obtain ⟨hc, rfl, hn, rfl⟩ := hc
  exact r_pl hc rfl (q := (pc + 2, mj_st2 l n (.long x), st)) (by show (if _ then _ else none) = _; rw [if_pos hn]) hr
theorem r_lstoren {n : Fin 4} {m : Nat} {x : Int64} (hc : Y.code k pc = some (.lstore_n n) ∧ (n : Nat) = m ∧ m + 1 < Y.nL k ∧ pc' = pc + 1) (hr : mj_Run Y xt ct d k pc' (mj_st2 l m (.long x)) st h r) : mj_Run Y xt ct d k pc l (.long x :: st) h r := by
  obtain ⟨hc, rfl, hn, rfl⟩ := hc
  exact r_pl hc rfl (q := (pc + 1, mj_st2 l n (.long x), st)) (by show (if _ then _ else none) = _; rw [if_pos hn]) hr
theorem r_astore {n : Nat} {m : Nat} {x : Nat} (hc : Y.code k pc = some (.astore n) ∧ n = m ∧ m < Y.nL k ∧ pc' = pc + 2) (hr : mj_Run Y xt ct d k pc' (mj_st1 l m (.ref x)) st h r) : mj_Run Y xt ct d k pc l (.ref x :: st) h r := by
  obtain ⟨hc, rfl, hn, rfl⟩ := hc
  exact r_pl hc rfl (q := (pc + 2, mj_st1 l n (.ref x), st)) (by show (if _ then _ else none) = _; rw [if_pos hn]) hr
theorem r_astoren {n : Fin 4} {m : Nat} {x : Nat} (hc : Y.code k pc = some (.astore_n n) ∧ (n : Nat) = m ∧ m < Y.nL k ∧ pc' = pc + 1) (hr : mj_Run Y xt ct d k pc' (mj_st1 l m (.ref x)) st h r) : mj_Run Y xt ct d k pc l (.ref x :: st) h r := by
  obtain ⟨hc, rfl, hn, rfl⟩ := hc
  exact r_pl hc rfl (q := (pc + 1, mj_st1 l n (.ref x), st)) (by show (if _ then _ else none) = _; rw [if_pos hn]) hr
theorem r_astore0 {n : Nat} {m : Nat}  (hc : Y.code k pc = some (.astore n) ∧ n = m ∧ m < Y.nL k ∧ pc' = pc + 2) (hr : mj_Run Y xt ct d k pc' (mj_st1 l m (.null)) st h r) : mj_Run Y xt ct d k pc l (.null :: st) h r := by
  obtain ⟨hc, rfl, hn, rfl⟩ := hc
  exact r_pl hc rfl (q := (pc + 2, mj_st1 l n (.null), st)) (by show (if _ then _ else none) = _; rw [if_pos hn]) hr
theorem r_astore0n {n : Fin 4} {m : Nat}  (hc : Y.code k pc = some (.astore_n n) ∧ (n : Nat) = m ∧ m < Y.nL k ∧ pc' = pc + 1) (hr : mj_Run Y xt ct d k pc' (mj_st1 l m (.null)) st h r) : mj_Run Y xt ct d k pc l (.null :: st) h r := by
  obtain ⟨hc, rfl, hn, rfl⟩ := hc
  exact r_pl hc rfl (q := (pc + 1, mj_st1 l n (.null), st)) (by show (if _ then _ else none) = _; rw [if_pos hn]) hr
theorem r_iinc {n : Nat} {z : Int} {x y : Int32} (hc : Y.code k pc = some (.iinc n z) ∧ n < Y.nL k ∧ Int32.ofInt z = y ∧ pc' = pc + 3) (hv : mj_ld l n = some (.int x)) (hr : mj_Run Y xt ct d k pc' (mj_st1 l n (.int (x + y))) st h r) : mj_Run Y xt ct d k pc l st h r := by
  obtain ⟨hc, hn, rfl, rfl⟩ := hc
  refine r_pl hc rfl (q := (pc + 3, mj_st1 l n (.int (x + Int32.ofInt z)), st)) ?_ hr
  show (match mj_ld l n with
    | some (.int x) => if n < Y.nL k then some (pc + 3, mj_st1 l n (.int (x + Int32.ofInt z)), st) else none
    | _ => none) = _
  rw [hv]
  exact if_pos hn
theorem r_iadd {x y z : Int32} (hc : Y.code k pc = some (.iadd) ∧ pc' = pc + 1) (hz : x + y = z) (hr : mj_Run Y xt ct d k pc' l (.int z :: st) h r) : mj_Run Y xt ct d k pc l (.int y :: .int x :: st) h r := by
  obtain ⟨hc, rfl⟩ := hc
  exact r_pl hc rfl (q := (pc + 1, l, .int z :: st)) (by subst hz; rfl) hr
theorem r_isub {x y z : Int32} (hc : Y.code k pc = some (.isub) ∧ pc' = pc + 1) (hz : x - y = z) (hr : mj_Run Y xt ct d k pc' l (.int z :: st) h r) : mj_Run Y xt ct d k pc l (.int y :: .int x :: st) h r := by
  obtain ⟨hc, rfl⟩ := hc
  exact r_pl hc rfl (q := (pc + 1, l, .int z :: st)) (by subst hz; rfl) hr
theorem r_imul {x y z : Int32} (hc : Y.code k pc = some (.imul) ∧ pc' = pc + 1) (hz : x * y = z) (hr : mj_Run Y xt ct d k pc' l (.int z :: st) h r) : mj_Run Y xt ct d k pc l (.int y :: .int x :: st) h r := by
  obtain ⟨hc, rfl⟩ := hc
  exact r_pl hc rfl (q := (pc + 1, l, .int z :: st)) (by subst hz; rfl) hr
theorem r_iand {x y z : Int32} (hc : Y.code k pc = some (.iand) ∧ pc' = pc + 1) (hz : x &&& y = z) (hr : mj_Run Y xt ct d k pc' l (.int z :: st) h r) : mj_Run Y xt ct d k pc l (.int y :: .int x :: st) h r := by
  obtain ⟨hc, rfl⟩ := hc
  exact r_pl hc rfl (q := (pc + 1, l, .int z :: st)) (by subst hz; rfl) hr
theorem r_ior {x y z : Int32} (hc : Y.code k pc = some (.ior) ∧ pc' = pc + 1) (hz : x ||| y = z) (hr : mj_Run Y xt ct d k pc' l (.int z :: st) h r) : mj_Run Y xt ct d k pc l (.int y :: .int x :: st) h r := by
  obtain ⟨hc, rfl⟩ := hc
  exact r_pl hc rfl (q := (pc + 1, l, .int z :: st)) (by subst hz; rfl) hr
theorem r_ixor {x y z : Int32} (hc : Y.code k pc = some (.ixor) ∧ pc' = pc + 1) (hz : x ^^^ y = z) (hr : mj_Run Y xt ct d k pc' l (.int z :: st) h r) : mj_Run Y xt ct d k pc l (.int y :: .int x :: st) h r := by
  obtain ⟨hc, rfl⟩ := hc
  exact r_pl hc rfl (q := (pc + 1, l, .int z :: st)) (by subst hz; rfl) hr
theorem r_ishl {x y z : Int32} (hc : Y.code k pc = some (.ishl) ∧ pc' = pc + 1) (hz : x <<< (y &&& 31) = z) (hr : mj_Run Y xt ct d k pc' l (.int z :: st) h r) : mj_Run Y xt ct d k pc l (.int y :: .int x :: st) h r := by
  obtain ⟨hc, rfl⟩ := hc
  exact r_pl hc rfl (q := (pc + 1, l, .int z :: st)) (by subst hz; rfl) hr
theorem r_ishr {x y z : Int32} (hc : Y.code k pc = some (.ishr) ∧ pc' = pc + 1) (hz : x >>> (y &&& 31) = z) (hr : mj_Run Y xt ct d k pc' l (.int z :: st) h r) : mj_Run Y xt ct d k pc l (.int y :: .int x :: st) h r := by
  obtain ⟨hc, rfl⟩ := hc
  exact r_pl hc rfl (q := (pc + 1, l, .int z :: st)) (by subst hz; rfl) hr
theorem r_iushr {x y z : Int32} (hc : Y.code k pc = some (.iushr) ∧ pc' = pc + 1) (hz : (x.toUInt32 >>> (y.toUInt32 &&& Int32.toUInt32 31)).toInt32 = z) (hr : mj_Run Y xt ct d k pc' l (.int z :: st) h r) : mj_Run Y xt ct d k pc l (.int y :: .int x :: st) h r := by
  obtain ⟨hc, rfl⟩ := hc
  exact r_pl hc rfl (q := (pc + 1, l, .int z :: st)) (by subst hz; rfl) hr
theorem r_idiv {x y z : Int32} (hc : Y.code k pc = some (.idiv) ∧ pc' = pc + 1) (hy : y ≠ 0) (hz : x / y = z) (hr : mj_Run Y xt ct d k pc' l (.int z :: st) h r) : mj_Run Y xt ct d k pc l (.int y :: .int x :: st) h r := by
  obtain ⟨hc, rfl⟩ := hc
  exact r_pl hc rfl (q := (pc + 1, l, .int z :: st)) (by subst hz; show ((if y = 0 then none else some (x / y)) : Option Int32).map _ = _; rw [if_neg hy]; rfl) hr
theorem r_irem {x y z : Int32} (hc : Y.code k pc = some (.irem) ∧ pc' = pc + 1) (hy : y ≠ 0) (hz : x - x / y * y = z) (hr : mj_Run Y xt ct d k pc' l (.int z :: st) h r) : mj_Run Y xt ct d k pc l (.int y :: .int x :: st) h r := by
  obtain ⟨hc, rfl⟩ := hc
  exact r_pl hc rfl (q := (pc + 1, l, .int z :: st)) (by subst hz; show ((if y = 0 then none else some (x - x / y * y)) : Option Int32).map _ = _; rw [if_neg hy]; rfl) hr
theorem r_ladd {x y z : Int64} (hc : Y.code k pc = some (.ladd) ∧ pc' = pc + 1) (hz : x + y = z) (hr : mj_Run Y xt ct d k pc' l (.long z :: st) h r) : mj_Run Y xt ct d k pc l (.long y :: .long x :: st) h r := by
  obtain ⟨hc, rfl⟩ := hc
  exact r_pl hc rfl (q := (pc + 1, l, .long z :: st)) (by subst hz; rfl) hr
theorem r_lsub {x y z : Int64} (hc : Y.code k pc = some (.lsub) ∧ pc' = pc + 1) (hz : x - y = z) (hr : mj_Run Y xt ct d k pc' l (.long z :: st) h r) : mj_Run Y xt ct d k pc l (.long y :: .long x :: st) h r := by
  obtain ⟨hc, rfl⟩ := hc
  exact r_pl hc rfl (q := (pc + 1, l, .long z :: st)) (by subst hz; rfl) hr
theorem r_lmul {x y z : Int64} (hc : Y.code k pc = some (.lmul) ∧ pc' = pc + 1) (hz : x * y = z) (hr : mj_Run Y xt ct d k pc' l (.long z :: st) h r) : mj_Run Y xt ct d k pc l (.long y :: .long x :: st) h r := by
  obtain ⟨hc, rfl⟩ := hc
  exact r_pl hc rfl (q := (pc + 1, l, .long z :: st)) (by subst hz; rfl) hr
theorem r_land {x y z : Int64} (hc : Y.code k pc = some (.land) ∧ pc' = pc + 1) (hz : x &&& y = z) (hr : mj_Run Y xt ct d k pc' l (.long z :: st) h r) : mj_Run Y xt ct d k pc l (.long y :: .long x :: st) h r := by
  obtain ⟨hc, rfl⟩ := hc
  exact r_pl hc rfl (q := (pc + 1, l, .long z :: st)) (by subst hz; rfl) hr
theorem r_lor {x y z : Int64} (hc : Y.code k pc = some (.lor) ∧ pc' = pc + 1) (hz : x ||| y = z) (hr : mj_Run Y xt ct d k pc' l (.long z :: st) h r) : mj_Run Y xt ct d k pc l (.long y :: .long x :: st) h r := by
  obtain ⟨hc, rfl⟩ := hc
  exact r_pl hc rfl (q := (pc + 1, l, .long z :: st)) (by subst hz; rfl) hr
theorem r_lxor {x y z : Int64} (hc : Y.code k pc = some (.lxor) ∧ pc' = pc + 1) (hz : x ^^^ y = z) (hr : mj_Run Y xt ct d k pc' l (.long z :: st) h r) : mj_Run Y xt ct d k pc l (.long y :: .long x :: st) h r := by
  obtain ⟨hc, rfl⟩ := hc
  exact r_pl hc rfl (q := (pc + 1, l, .long z :: st)) (by subst hz; rfl) hr
theorem r_ldiv {x y z : Int64} (hc : Y.code k pc = some (.ldiv) ∧ pc' = pc + 1) (hy : y ≠ 0) (hz : x / y = z) (hr : mj_Run Y xt ct d k pc' l (.long z :: st) h r) : mj_Run Y xt ct d k pc l (.long y :: .long x :: st) h r := by
  obtain ⟨hc, rfl⟩ := hc
  exact r_pl hc rfl (q := (pc + 1, l, .long z :: st)) (by subst hz; show ((if y = 0 then none else some (x / y)) : Option Int64).map _ = _; rw [if_neg hy]; rfl) hr
theorem r_lrem {x y z : Int64} (hc : Y.code k pc = some (.lrem) ∧ pc' = pc + 1) (hy : y ≠ 0) (hz : x - x / y * y = z) (hr : mj_Run Y xt ct d k pc' l (.long z :: st) h r) : mj_Run Y xt ct d k pc l (.long y :: .long x :: st) h r := by
  obtain ⟨hc, rfl⟩ := hc
  exact r_pl hc rfl (q := (pc + 1, l, .long z :: st)) (by subst hz; show ((if y = 0 then none else some (x - x / y * y)) : Option Int64).map _ = _; rw [if_neg hy]; rfl) hr
theorem r_lshl {x z : Int64} {y : Int32} (hc : Y.code k pc = some (.lshl) ∧ pc' = pc + 1) (hz : x <<< (y.toInt64 &&& 63) = z) (hr : mj_Run Y xt ct d k pc' l (.long z :: st) h r) : mj_Run Y xt ct d k pc l (.int y :: .long x :: st) h r := by
  obtain ⟨hc, rfl⟩ := hc
  exact r_pl hc rfl (q := (pc + 1, l, .long z :: st)) (by subst hz; rfl) hr
theorem r_lshr {x z : Int64} {y : Int32} (hc : Y.code k pc = some (.lshr) ∧ pc' = pc + 1) (hz : x >>> (y.toInt64 &&& 63) = z) (hr : mj_Run Y xt ct d k pc' l (.long z :: st) h r) : mj_Run Y xt ct d k pc l (.int y :: .long x :: st) h r := by
  obtain ⟨hc, rfl⟩ := hc
  exact r_pl hc rfl (q := (pc + 1, l, .long z :: st)) (by subst hz; rfl) hr
theorem r_ineg {x z : Int32} (hc : Y.code k pc = some (.ineg) ∧ pc' = pc + 1) (hz : -x = z) (hr : mj_Run Y xt ct d k pc' l (.int z :: st) h r) : mj_Run Y xt ct d k pc l (.int x :: st) h r := by
  obtain ⟨hc, rfl⟩ := hc
  exact r_pl hc rfl (q := (pc + 1, l, .int z :: st)) (by subst hz; rfl) hr
theorem r_lneg {x z : Int64} (hc : Y.code k pc = some (.lneg) ∧ pc' = pc + 1) (hz : -x = z) (hr : mj_Run Y xt ct d k pc' l (.long z :: st) h r) : mj_Run Y xt ct d k pc l (.long x :: st) h r := by
  obtain ⟨hc, rfl⟩ := hc
  exact r_pl hc rfl (q := (pc + 1, l, .long z :: st)) (by subst hz; rfl) hr
theorem r_i2l {x : Int32} {z : Int64} (hc : Y.code k pc = some (.i2l) ∧ pc' = pc + 1) (hz : x.toInt64 = z) (hr : mj_Run Y xt ct d k pc' l (.long z :: st) h r) : mj_Run Y xt ct d k pc l (.int x :: st) h r := by
  obtain ⟨hc, rfl⟩ := hc
  exact r_pl hc rfl (q := (pc + 1, l, .long z :: st)) (by subst hz; rfl) hr
theorem r_l2i {x : Int64} {z : Int32} (hc : Y.code k pc = some (.l2i) ∧ pc' = pc + 1) (hz : x.toInt32 = z) (hr : mj_Run Y xt ct d k pc' l (.int z :: st) h r) : mj_Run Y xt ct d k pc l (.long x :: st) h r := by
  obtain ⟨hc, rfl⟩ := hc
  exact r_pl hc rfl (q := (pc + 1, l, .int z :: st)) (by subst hz; rfl) hr
theorem r_i2b {x z : Int32} (hc : Y.code k pc = some (.i2b) ∧ pc' = pc + 1) (hz : x.toInt8.toInt32 = z) (hr : mj_Run Y xt ct d k pc' l (.int z :: st) h r) : mj_Run Y xt ct d k pc l (.int x :: st) h r := by
  obtain ⟨hc, rfl⟩ := hc
  exact r_pl hc rfl (q := (pc + 1, l, .int z :: st)) (by subst hz; rfl) hr
theorem r_i2c {x z : Int32} (hc : Y.code k pc = some (.i2c) ∧ pc' = pc + 1) (hz : (x.toUInt32 % 65536).toInt32 = z) (hr : mj_Run Y xt ct d k pc' l (.int z :: st) h r) : mj_Run Y xt ct d k pc l (.int x :: st) h r := by
  obtain ⟨hc, rfl⟩ := hc
  exact r_pl hc rfl (q := (pc + 1, l, .int z :: st)) (by subst hz; rfl) hr
theorem r_lcmp {x y : Int64} {z : Int32} (hc : Y.code k pc = some (.lcmp) ∧ pc' = pc + 1) (hz : lg_cmp x y = z) (hr : mj_Run Y xt ct d k pc' l (.int z :: st) h r) : mj_Run Y xt ct d k pc l (.long y :: .long x :: st) h r := by
  obtain ⟨hc, rfl⟩ := hc
  exact r_pl hc rfl (q := (pc + 1, l, .int z :: st)) (by subst hz; rfl) hr
theorem r_pop {v : Value} (hc : Y.code k pc = some (.pop) ∧ pc' = pc + 1) (hv : v.category = 1) (hr : mj_Run Y xt ct d k pc' l (st) h r) : mj_Run Y xt ct d k pc l (v :: st) h r := by
  obtain ⟨hc, rfl⟩ := hc
  exact r_pl hc rfl (q := (pc + 1, l, st)) (by show (if _ then _ else none) = _; rw [if_pos hv]) hr
theorem r_dup {v : Value} (hc : Y.code k pc = some (.dup) ∧ pc' = pc + 1) (hv : v.category = 1) (hr : mj_Run Y xt ct d k pc' l (v :: v :: st) h r) : mj_Run Y xt ct d k pc l (v :: st) h r := by
  obtain ⟨hc, rfl⟩ := hc
  exact r_pl hc rfl (q := (pc + 1, l, v :: v :: st)) (by show (if _ then _ else none) = _; rw [if_pos hv]) hr
theorem r_dupx1 {v w : Value} (hc : Y.code k pc = some (.dup_x1) ∧ pc' = pc + 1) (hv : v.category = 1 ∧ w.category = 1) (hr : mj_Run Y xt ct d k pc' l (v :: w :: v :: st) h r) : mj_Run Y xt ct d k pc l (v :: w :: st) h r := by
  obtain ⟨hc, rfl⟩ := hc
  exact r_pl hc rfl (q := (pc + 1, l, v :: w :: v :: st)) (by show (if _ then _ else none) = _; rw [if_pos hv]) hr
theorem r_dupx2 {v w u : Value} (hc : Y.code k pc = some (.dup_x2) ∧ pc' = pc + 1) (hv : v.category = 1 ∧ w.category = 1 ∧ u.category = 1) (hr : mj_Run Y xt ct d k pc' l (v :: w :: u :: v :: st) h r) : mj_Run Y xt ct d k pc l (v :: w :: u :: st) h r := by
  obtain ⟨hc, rfl⟩ := hc
  exact r_pl hc rfl (q := (pc + 1, l, v :: w :: u :: v :: st)) (by show (if _ then _ else none) = _; rw [if_pos hv]) hr
theorem r_dup2l {x : Int64} (hc : Y.code k pc = some (.dup2) ∧ pc' = pc + 1)  (hr : mj_Run Y xt ct d k pc' l (.long x :: .long x :: st) h r) : mj_Run Y xt ct d k pc l (.long x :: st) h r := by
  obtain ⟨hc, rfl⟩ := hc
  exact r_pl hc rfl (q := (pc + 1, l, .long x :: .long x :: st)) (by rfl) hr
theorem r_dup2i {x y : Int32} (hc : Y.code k pc = some (.dup2) ∧ pc' = pc + 1)  (hr : mj_Run Y xt ct d k pc' l (.int x :: .int y :: .int x :: .int y :: st) h r) : mj_Run Y xt ct d k pc l (.int x :: .int y :: st) h r := by
  obtain ⟨hc, rfl⟩ := hc
  exact r_pl hc rfl (q := (pc + 1, l, .int x :: .int y :: .int x :: .int y :: st)) (by rfl) hr
theorem r_dup2ia {x : Int32} {a : Nat} (hc : Y.code k pc = some (.dup2) ∧ pc' = pc + 1)  (hr : mj_Run Y xt ct d k pc' l (.int x :: .ref a :: .int x :: .ref a :: st) h r) : mj_Run Y xt ct d k pc l (.int x :: .ref a :: st) h r := by
  obtain ⟨hc, rfl⟩ := hc
  exact r_pl hc rfl (q := (pc + 1, l, .int x :: .ref a :: .int x :: .ref a :: st)) (by rfl) hr
theorem r_dup2x1 {x : Int64} {w : Value} (hc : Y.code k pc = some (.dup2_x1) ∧ pc' = pc + 1) (hv : w.category = 1) (hr : mj_Run Y xt ct d k pc' l (.long x :: w :: .long x :: st) h r) : mj_Run Y xt ct d k pc l (.long x :: w :: st) h r := by
  obtain ⟨hc, rfl⟩ := hc
  exact r_pl hc rfl (q := (pc + 1, l, .long x :: w :: .long x :: st)) (by show (if _ then _ else none) = _; rw [if_pos hv]) hr
theorem r_dup2x2 {x : Int64} {w u : Value} (hc : Y.code k pc = some (.dup2_x2) ∧ pc' = pc + 1) (hv : w.category = 1 ∧ u.category = 1) (hr : mj_Run Y xt ct d k pc' l (.long x :: w :: u :: .long x :: st) h r) : mj_Run Y xt ct d k pc l (.long x :: w :: u :: st) h r := by
  obtain ⟨hc, rfl⟩ := hc
  exact r_pl hc rfl (q := (pc + 1, l, .long x :: w :: u :: .long x :: st)) (by show (if _ then _ else none) = _; rw [if_pos hv]) hr
theorem r_ifT {cnd : ClassFile.Cond} {x : Int32} {off : Int} {t : Nat} (hc : Y.code k pc = some (.ifCond cnd off) ∧ mj_tg pc off = some t ∧ pc' = pc + 3) (hb : mj_c1 cnd x = true) (hr : mj_Run Y xt ct d k t l st h r) : mj_Run Y xt ct d k pc l (.int x :: st) h r := by
  obtain ⟨hc, ht, rfl⟩ := hc
  refine r_pl hc rfl (q := (t, l, st)) ?_ hr
  show mj_br pc (mj_c1 cnd x) off l st = _
  unfold mj_br
  rw [ht, hb]
  rfl
theorem r_ifF {cnd : ClassFile.Cond} {x : Int32} {off : Int} {t : Nat} (hc : Y.code k pc = some (.ifCond cnd off) ∧ mj_tg pc off = some t ∧ pc' = pc + 3) (hb : mj_c1 cnd x = false) (hr : mj_Run Y xt ct d k pc' l st h r) : mj_Run Y xt ct d k pc l (.int x :: st) h r := by
  obtain ⟨hc, ht, rfl⟩ := hc
  refine r_pl hc rfl (q := (pc + 3, l, st)) ?_ hr
  show mj_br pc (mj_c1 cnd x) off l st = _
  unfold mj_br
  rw [ht, hb]
  rfl
theorem r_icmpT {cnd : ClassFile.Cond} {x y : Int32} {off : Int} {t : Nat} (hc : Y.code k pc = some (.if_icmp cnd off) ∧ mj_tg pc off = some t ∧ pc' = pc + 3) (hb : mj_c2 cnd x y = true) (hr : mj_Run Y xt ct d k t l st h r) : mj_Run Y xt ct d k pc l (.int y :: .int x :: st) h r := by
  obtain ⟨hc, ht, rfl⟩ := hc
  refine r_pl hc rfl (q := (t, l, st)) ?_ hr
  show mj_br pc (mj_c2 cnd x y) off l st = _
  unfold mj_br
  rw [ht, hb]
  rfl
theorem r_icmpF {cnd : ClassFile.Cond} {x y : Int32} {off : Int} {t : Nat} (hc : Y.code k pc = some (.if_icmp cnd off) ∧ mj_tg pc off = some t ∧ pc' = pc + 3) (hb : mj_c2 cnd x y = false) (hr : mj_Run Y xt ct d k pc' l st h r) : mj_Run Y xt ct d k pc l (.int y :: .int x :: st) h r := by
  obtain ⟨hc, ht, rfl⟩ := hc
  refine r_pl hc rfl (q := (pc + 3, l, st)) ?_ hr
  show mj_br pc (mj_c2 cnd x y) off l st = _
  unfold mj_br
  rw [ht, hb]
  rfl
theorem r_ifnullT {a : Nat} {off : Int} {t : Nat} (hc : Y.code k pc = some (.ifnull off) ∧ mj_tg pc off = some t ∧ pc' = pc + 3) (hr : mj_Run Y xt ct d k t l st h r) : mj_Run Y xt ct d k pc l (.null :: st) h r := by
  obtain ⟨hc, ht, rfl⟩ := hc
  refine r_pl hc rfl (q := (t, l, st)) ?_ hr
  show mj_br pc true off l st = _
  unfold mj_br
  rw [ht]
  rfl
theorem r_ifnullF {a : Nat} {off : Int} {t : Nat} (hc : Y.code k pc = some (.ifnull off) ∧ mj_tg pc off = some t ∧ pc' = pc + 3) (hr : mj_Run Y xt ct d k pc' l st h r) : mj_Run Y xt ct d k pc l (.ref a :: st) h r := by
  obtain ⟨hc, ht, rfl⟩ := hc
  refine r_pl hc rfl (q := (pc + 3, l, st)) ?_ hr
  show mj_br pc false off l st = _
  unfold mj_br
  rw [ht]
  rfl
theorem r_ifnonT {a : Nat} {off : Int} {t : Nat} (hc : Y.code k pc = some (.ifnonnull off) ∧ mj_tg pc off = some t ∧ pc' = pc + 3) (hr : mj_Run Y xt ct d k t l st h r) : mj_Run Y xt ct d k pc l (.ref a :: st) h r := by
  obtain ⟨hc, ht, rfl⟩ := hc
  refine r_pl hc rfl (q := (t, l, st)) ?_ hr
  show mj_br pc true off l st = _
  unfold mj_br
  rw [ht]
  rfl
theorem r_ifnonF {a : Nat} {off : Int} {t : Nat} (hc : Y.code k pc = some (.ifnonnull off) ∧ mj_tg pc off = some t ∧ pc' = pc + 3) (hr : mj_Run Y xt ct d k pc' l st h r) : mj_Run Y xt ct d k pc l (.null :: st) h r := by
  obtain ⟨hc, ht, rfl⟩ := hc
  refine r_pl hc rfl (q := (pc + 3, l, st)) ?_ hr
  show mj_br pc false off l st = _
  unfold mj_br
  rw [ht]
  rfl
theorem r_goto {off : Int} {t : Nat} (hc : Y.code k pc = some (.goto off) ∧ mj_tg pc off = some t) (hr : mj_Run Y xt ct d k t l st h r) : mj_Run Y xt ct d k pc l st h r := by
  obtain ⟨hc, ht⟩ := hc
  refine r_pl hc rfl (q := (t, l, st)) ?_ hr
  show (mj_tg pc off).map _ = _
  rw [ht]
  rfl
/-- a switch at a number that is known -/
theorem r_sw {i : Instr} {x : Int32} {t : Nat} (hc : Y.code k pc = some i ∧ r_np i = true ∧ ∀ (l : mj_L) (st : List Value), mj_p (Y.nL k) pc i l (.int x :: st) = some (t, l, st)) (hr : mj_Run Y xt ct d k t l st h r) : mj_Run Y xt ct d k pc l (.int x :: st) h r := by
  obtain ⟨hc, hn, hp⟩ := hc
  exact r_pl hc hn (hp l st) hr
theorem r_getf {a ci n idx : Nat} {ty : FieldType} {w : Bool} {fs : List Value} {v : Value} (hc : Y.code k pc = some (.getfield idx) ∧ Y.fl k idx ci = some (n, ty, w) ∧ pc' = pc + 3) (ha : h.1 a = some (.inr (ci, fs))) (hv : fs[n]? = some v) (hr : mj_Run Y xt ct d k pc' l (v :: st) h r) : mj_Run Y xt ct d k pc l (.ref a :: st) h r := by
  obtain ⟨hc, hf, rfl⟩ := hc
  refine mj_Run_go (q := (pc + 3, l, v :: st, h)) ?_ hr
  unfold mj_s
  rw [hc]
  dsimp only
  unfold mj_gf
  dsimp only
  rw [ha]
  dsimp only
  rw [hf]
  dsimp only
  rw [hv]
  rfl
theorem r_putf {a ci n idx : Nat} {ty : FieldType} {fs : List Value} {v : Value} (hc : Y.code k pc = some (.putfield idx) ∧ Y.fl k idx ci = some (n, ty, true) ∧ pc' = pc + 3) (ha : h.1 a = some (.inr (ci, fs))) (hv : narrow ty v = v ∧ fits ty v = true) (hr : mj_Run Y xt ct d k pc' l st (mj_put h a (.inr (ci, fs.set n v))) r) : mj_Run Y xt ct d k pc l (v :: .ref a :: st) h r := by
  obtain ⟨hc, hf, rfl⟩ := hc
  refine mj_Run_go (q := (pc + 3, l, st, mj_put h a (.inr (ci, fs.set n v)))) ?_ hr
  unfold mj_s
  rw [hc]
  dsimp only
  unfold mj_pf
  dsimp only
  rw [ha]
  dsimp only
  rw [hf]
  dsimp only
  rw [if_pos ⟨rfl, hv⟩]
  rfl
theorem r_iald {a : Nat} {j : Int32} {xs : List Value} {v : Value} (hc : Y.code k pc = some (.iaload) ∧ pc' = pc + 1) (ha : h.1 a = some (.inl (.int, xs))) (hj : 0 ≤ j.toInt) (hv : xs[j.toInt.toNat]? = some v) (hr : mj_Run Y xt ct d k pc' l (v :: st) h r) : mj_Run Y xt ct d k pc l (.int j :: .ref a :: st) h r := by
  obtain ⟨hc, rfl⟩ := hc
  refine mj_Run_go (q := (pc + 1, l, v :: st, h)) ?_ hr
  unfold mj_s
  rw [hc]
  dsimp only
  unfold mj_ald mj_arr
  dsimp only
  rw [ha]
  dsimp only
  rw [if_pos ⟨(by decide), (by rw [Int32.lt_iff_toInt_lt]; exact Int.not_lt.mpr hj)⟩, show j.toNatClampNeg = j.toInt.toNat from rfl, hv]
  rfl
theorem r_lald {a : Nat} {j : Int32} {xs : List Value} {v : Value} (hc : Y.code k pc = some (.laload) ∧ pc' = pc + 1) (ha : h.1 a = some (.inl (.long, xs))) (hj : 0 ≤ j.toInt) (hv : xs[j.toInt.toNat]? = some v) (hr : mj_Run Y xt ct d k pc' l (v :: st) h r) : mj_Run Y xt ct d k pc l (.int j :: .ref a :: st) h r := by
  obtain ⟨hc, rfl⟩ := hc
  refine mj_Run_go (q := (pc + 1, l, v :: st, h)) ?_ hr
  unfold mj_s
  rw [hc]
  dsimp only
  unfold mj_ald mj_arr
  dsimp only
  rw [ha]
  dsimp only
  rw [if_pos ⟨(by decide), (by rw [Int32.lt_iff_toInt_lt]; exact Int.not_lt.mpr hj)⟩, show j.toNatClampNeg = j.toInt.toNat from rfl, hv]
  rfl
theorem r_bald {a : Nat} {j : Int32} {xs : List Value} {v : Value} (hc : Y.code k pc = some (.baload) ∧ pc' = pc + 1) (ha : h.1 a = some (.inl (.byte, xs))) (hj : 0 ≤ j.toInt) (hv : xs[j.toInt.toNat]? = some v) (hr : mj_Run Y xt ct d k pc' l (v :: st) h r) : mj_Run Y xt ct d k pc l (.int j :: .ref a :: st) h r := by
  obtain ⟨hc, rfl⟩ := hc
  refine mj_Run_go (q := (pc + 1, l, v :: st, h)) ?_ hr
  unfold mj_s
  rw [hc]
  dsimp only
  unfold mj_ald mj_arr
  dsimp only
  rw [ha]
  dsimp only
  rw [if_pos ⟨(by decide), (by rw [Int32.lt_iff_toInt_lt]; exact Int.not_lt.mpr hj)⟩, show j.toNatClampNeg = j.toInt.toNat from rfl, hv]
  rfl
theorem r_zald {a : Nat} {j : Int32} {xs : List Value} {v : Value} (hc : Y.code k pc = some (.baload) ∧ pc' = pc + 1) (ha : h.1 a = some (.inl (.boolean, xs))) (hj : 0 ≤ j.toInt) (hv : xs[j.toInt.toNat]? = some v) (hr : mj_Run Y xt ct d k pc' l (v :: st) h r) : mj_Run Y xt ct d k pc l (.int j :: .ref a :: st) h r := by
  obtain ⟨hc, rfl⟩ := hc
  refine mj_Run_go (q := (pc + 1, l, v :: st, h)) ?_ hr
  unfold mj_s
  rw [hc]
  dsimp only
  unfold mj_ald mj_arr
  dsimp only
  rw [ha]
  dsimp only
  rw [if_pos ⟨(by decide), (by rw [Int32.lt_iff_toInt_lt]; exact Int.not_lt.mpr hj)⟩, show j.toNatClampNeg = j.toInt.toNat from rfl, hv]
  rfl
theorem r_cald {a : Nat} {j : Int32} {xs : List Value} {v : Value} (hc : Y.code k pc = some (.caload) ∧ pc' = pc + 1) (ha : h.1 a = some (.inl (.char, xs))) (hj : 0 ≤ j.toInt) (hv : xs[j.toInt.toNat]? = some v) (hr : mj_Run Y xt ct d k pc' l (v :: st) h r) : mj_Run Y xt ct d k pc l (.int j :: .ref a :: st) h r := by
  obtain ⟨hc, rfl⟩ := hc
  refine mj_Run_go (q := (pc + 1, l, v :: st, h)) ?_ hr
  unfold mj_s
  rw [hc]
  dsimp only
  unfold mj_ald mj_arr
  dsimp only
  rw [ha]
  dsimp only
  rw [if_pos ⟨(by decide), (by rw [Int32.lt_iff_toInt_lt]; exact Int.not_lt.mpr hj)⟩, show j.toNatClampNeg = j.toInt.toNat from rfl, hv]
  rfl
theorem r_aald {a : Nat} {j : Int32} {xs : List Value} {ty : FieldType} (hty : ty.isReference = true) {v : Value} (hc : Y.code k pc = some (.aaload) ∧ pc' = pc + 1) (ha : h.1 a = some (.inl (ty, xs))) (hj : 0 ≤ j.toInt) (hv : xs[j.toInt.toNat]? = some v) (hr : mj_Run Y xt ct d k pc' l (v :: st) h r) : mj_Run Y xt ct d k pc l (.int j :: .ref a :: st) h r := by
  obtain ⟨hc, rfl⟩ := hc
  refine mj_Run_go (q := (pc + 1, l, v :: st, h)) ?_ hr
  unfold mj_s
  rw [hc]
  dsimp only
  unfold mj_ald mj_arr
  dsimp only
  rw [ha]
  dsimp only
  rw [if_pos ⟨hty, (by rw [Int32.lt_iff_toInt_lt]; exact Int.not_lt.mpr hj)⟩, show j.toNatClampNeg = j.toInt.toNat from rfl, hv]
  rfl
theorem r_iast {a : Nat} {j x : Int32} {xs : List Value} {v : Value} (hc : Y.code k pc = some (.iastore) ∧ pc' = pc + 1) (ha : h.1 a = some (.inl (.int, xs))) (hj : 0 ≤ j.toInt) (hl : j.toInt.toNat < xs.length) (hv : narrow .int (.int x) = v) (hr : mj_Run Y xt ct d k pc' l st (mj_put h a (.inl (.int, xs.set j.toInt.toNat v))) r) : mj_Run Y xt ct d k pc l (.int x :: .int j :: .ref a :: st) h r := by
  obtain ⟨hc, rfl⟩ := hc
  subst hv
  refine mj_Run_go (q := (pc + 1, l, st, mj_put h a (.inl (.int, xs.set j.toInt.toNat (narrow .int (.int x)))))) ?_ hr
  unfold mj_s
  rw [hc]
  dsimp only
  unfold mj_ast
  dsimp only
  rw [ha]
  dsimp only
  rw [if_pos ⟨(by decide), (by rw [Int32.lt_iff_toInt_lt]; exact Int.not_lt.mpr hj), hl⟩]
  rfl
theorem r_bast {a : Nat} {j x : Int32} {xs : List Value} {v : Value} (hc : Y.code k pc = some (.bastore) ∧ pc' = pc + 1) (ha : h.1 a = some (.inl (.byte, xs))) (hj : 0 ≤ j.toInt) (hl : j.toInt.toNat < xs.length) (hv : narrow .byte (.int x) = v) (hr : mj_Run Y xt ct d k pc' l st (mj_put h a (.inl (.byte, xs.set j.toInt.toNat v))) r) : mj_Run Y xt ct d k pc l (.int x :: .int j :: .ref a :: st) h r := by
  obtain ⟨hc, rfl⟩ := hc
  subst hv
  refine mj_Run_go (q := (pc + 1, l, st, mj_put h a (.inl (.byte, xs.set j.toInt.toNat (narrow .byte (.int x)))))) ?_ hr
  unfold mj_s
  rw [hc]
  dsimp only
  unfold mj_ast
  dsimp only
  rw [ha]
  dsimp only
  rw [if_pos ⟨(by decide), (by rw [Int32.lt_iff_toInt_lt]; exact Int.not_lt.mpr hj), hl⟩]
  rfl
theorem r_zast {a : Nat} {j x : Int32} {xs : List Value} {v : Value} (hc : Y.code k pc = some (.bastore) ∧ pc' = pc + 1) (ha : h.1 a = some (.inl (.boolean, xs))) (hj : 0 ≤ j.toInt) (hl : j.toInt.toNat < xs.length) (hv : narrow .boolean (.int x) = v) (hr : mj_Run Y xt ct d k pc' l st (mj_put h a (.inl (.boolean, xs.set j.toInt.toNat v))) r) : mj_Run Y xt ct d k pc l (.int x :: .int j :: .ref a :: st) h r := by
  obtain ⟨hc, rfl⟩ := hc
  subst hv
  refine mj_Run_go (q := (pc + 1, l, st, mj_put h a (.inl (.boolean, xs.set j.toInt.toNat (narrow .boolean (.int x)))))) ?_ hr
  unfold mj_s
  rw [hc]
  dsimp only
  unfold mj_ast
  dsimp only
  rw [ha]
  dsimp only
  rw [if_pos ⟨(by decide), (by rw [Int32.lt_iff_toInt_lt]; exact Int.not_lt.mpr hj), hl⟩]
  rfl
theorem r_cast {a : Nat} {j x : Int32} {xs : List Value} {v : Value} (hc : Y.code k pc = some (.castore) ∧ pc' = pc + 1) (ha : h.1 a = some (.inl (.char, xs))) (hj : 0 ≤ j.toInt) (hl : j.toInt.toNat < xs.length) (hv : narrow .char (.int x) = v) (hr : mj_Run Y xt ct d k pc' l st (mj_put h a (.inl (.char, xs.set j.toInt.toNat v))) r) : mj_Run Y xt ct d k pc l (.int x :: .int j :: .ref a :: st) h r := by
  obtain ⟨hc, rfl⟩ := hc
  subst hv
  refine mj_Run_go (q := (pc + 1, l, st, mj_put h a (.inl (.char, xs.set j.toInt.toNat (narrow .char (.int x)))))) ?_ hr
  unfold mj_s
  rw [hc]
  dsimp only
  unfold mj_ast
  dsimp only
  rw [ha]
  dsimp only
  rw [if_pos ⟨(by decide), (by rw [Int32.lt_iff_toInt_lt]; exact Int.not_lt.mpr hj), hl⟩]
  rfl
theorem r_last {a : Nat} {j : Int32} {x : Int64} {xs : List Value} (hc : Y.code k pc = some .lastore ∧ pc' = pc + 1) (ha : h.1 a = some (.inl (.long, xs))) (hj : 0 ≤ j.toInt) (hl : j.toInt.toNat < xs.length) (hr : mj_Run Y xt ct d k pc' l st (mj_put h a (.inl (.long, xs.set j.toInt.toNat (.long x)))) r) : mj_Run Y xt ct d k pc l (.long x :: .int j :: .ref a :: st) h r := by
  obtain ⟨hc, rfl⟩ := hc
  refine mj_Run_go (q := (pc + 1, l, st, mj_put h a (.inl (.long, xs.set j.toInt.toNat (.long x))))) ?_ hr
  unfold mj_s
  rw [hc]
  dsimp only
  unfold mj_lst
  dsimp only
  rw [ha]
  dsimp only
  rw [if_pos ⟨(by rw [Int32.lt_iff_toInt_lt]; exact Int.not_lt.mpr hj), hl⟩]
  rfl
theorem r_len {a : Nat} {ty : FieldType} {xs : List Value} {n : Int32} (hc : Y.code k pc = some .arraylength ∧ pc' = pc + 1) (ha : h.1 a = some (.inl (ty, xs))) (hn : Int32.ofNat xs.length = n) (hr : mj_Run Y xt ct d k pc' l (.int n :: st) h r) : mj_Run Y xt ct d k pc l (.ref a :: st) h r := by
  obtain ⟨hc, rfl⟩ := hc
  subst hn
  refine mj_Run_go (q := (pc + 1, l, .int (Int32.ofNat xs.length) :: st, h)) ?_ hr
  unfold mj_s
  rw [hc]
  dsimp only
  unfold mj_arr
  rw [ha]
  rfl
/-- a call whose callee the index tells -/
theorem r_cs {k2 n d2 idx m : Nat} {as st' : List Value} {v : Option Value} {h2 : mj_H} (hc : Y.code k pc = some (.invokestatic idx) ∧ Y.pr k idx = none ∧ Y.cs k idx = some (k2, n) ∧ Y.nL k2 = m ∧ pc' = pc + 3) (hq : n ≤ st.length ∧ mj_wt (st.drop n) + m + 11 ≤ 64 ∧ (lg_sl (st.take n).reverse).length ≤ m) (has : (st.take n).reverse = as) (hst : v.toList ++ st.drop n = st') (he : mj_Ev Y xt ct d2 k2 as h (.inl v, h2)) (hd : d2 < d) (hr : mj_Run Y xt ct d k pc' l st' h2 r) : mj_Run Y xt ct d k pc l st h r := by
  obtain ⟨hc, h1, h3, h4, rfl⟩ := hc
  subst has
  subst hst
  refine mj_Run_call (q := (k2, (st.take n).reverse, pc + 3, l, st.drop n)) ?_ he hd hr
  unfold mj_s
  rw [hc]
  dsimp only
  rw [h1]
  dsimp only
  rw [h3]
  show mj_cal Y k2 n pc l st = _
  unfold mj_cal
  rw [h4]
  exact if_pos hq
/-- a constructor's call, or a private method's -/
theorem r_cp {k2 n d2 idx a m : Nat} {o : Nat × List Value} {as st' rest : List Value} {v : Option Value} {h2 : mj_H} (hc : Y.code k pc = some (.invokespecial idx) ∧ Y.pr k idx = none ∧ Y.cp k idx = some (k2, n) ∧ Y.nL k2 = m ∧ pc' = pc + 3) (hs : st.drop n = .ref a :: rest) (ha : h.1 a = some (.inr o)) (hq : n + 1 ≤ st.length ∧ mj_wt (st.drop (n + 1)) + m + 11 ≤ 64 ∧ (lg_sl (st.take (n + 1)).reverse).length ≤ m) (has : (st.take (n + 1)).reverse = as) (hst : v.toList ++ st.drop (n + 1) = st') (he : mj_Ev Y xt ct d2 k2 as h (.inl v, h2)) (hd : d2 < d) (hr : mj_Run Y xt ct d k pc' l st' h2 r) : mj_Run Y xt ct d k pc l st h r := by
  obtain ⟨hc, h1, h3, h4, rfl⟩ := hc
  subst has
  subst hst
  refine mj_Run_call (q := (k2, (st.take (n + 1)).reverse, pc + 3, l, st.drop (n + 1))) ?_ he hd hr
  unfold mj_s
  rw [hc]
  dsimp only
  rw [h1]
  dsimp only
  rw [h3]
  dsimp only
  rw [hs]
  dsimp only
  rw [ha]
  show mj_cal Y k2 (n + 1) pc l st = _
  unfold mj_cal
  rw [h4]
  exact if_pos hq
/-- a call whose callee the object's class tells -/
theorem r_cv {k2 n d2 idx a ci m : Nat} {fs as st' rest : List Value} {v : Option Value} {h2 : mj_H} (hc : Y.code k pc = some (.invokevirtual idx) ∧ Y.na k idx = some n ∧ Y.cv k idx ci = some k2 ∧ Y.nL k2 = m ∧ pc' = pc + 3) (hs : st.drop n = .ref a :: rest) (ha : h.1 a = some (.inr (ci, fs))) (hq : n + 1 ≤ st.length ∧ mj_wt (st.drop (n + 1)) + m + 11 ≤ 64 ∧ (lg_sl (st.take (n + 1)).reverse).length ≤ m) (has : (st.take (n + 1)).reverse = as) (hst : v.toList ++ st.drop (n + 1) = st') (he : mj_Ev Y xt ct d2 k2 as h (.inl v, h2)) (hd : d2 < d) (hr : mj_Run Y xt ct d k pc' l st' h2 r) : mj_Run Y xt ct d k pc l st h r := by
  obtain ⟨hc, h1, h3, h4, rfl⟩ := hc
  subst has
  subst hst
  refine mj_Run_call (q := (k2, (st.take (n + 1)).reverse, pc + 3, l, st.drop (n + 1))) ?_ he hd hr
  unfold mj_s
  rw [hc]
  dsimp only
  rw [h1]
  dsimp only
  rw [hs]
  dsimp only
  rw [ha]
  dsimp only
  rw [h3]
  show mj_cal Y k2 (n + 1) pc l st = _
  unfold mj_cal
  rw [h4]
  exact if_pos hq
theorem r_iret {v : Int32} {ty : FieldType} (hc : Y.code k pc = some .ireturn ∧ Y.rt k = some ty) (hv : narrow ty (.int v) = .int v) : mj_Run Y xt ct d k pc l [.int v] h (.inl (some (.int v)), h) := by
  obtain ⟨hc, ht⟩ := hc
  refine mj_Run_end ?_
  unfold mj_s
  rw [hc]
  dsimp only
  rw [ht]
  dsimp only
  rw [if_pos hv]
theorem r_lret {v : Int64} (hc : Y.code k pc = some .lreturn ∧ Y.rt k = some .long) : mj_Run Y xt ct d k pc l [.long v] h (.inl (some (.long v)), h) := by
  obtain ⟨hc, ht⟩ := hc
  refine mj_Run_end ?_
  unfold mj_s
  rw [hc]
  dsimp only
  rw [ht]
theorem r_aret {v : Nat} {ty : FieldType} (hc : Y.code k pc = some .areturn ∧ Y.rt k = some ty ∧ ty.isReference = true) : mj_Run Y xt ct d k pc l [.ref v] h (.inl (some (.ref v)), h) := by
  obtain ⟨hc, ht, hv⟩ := hc
  refine mj_Run_end ?_
  unfold mj_s
  rw [hc]
  dsimp only
  rw [ht]
  dsimp only
  rw [if_pos hv]
theorem r_ret (hc : Y.code k pc = some .return_ ∧ Y.rt k = none) : mj_Run Y xt ct d k pc l [] h (.inl none, h) := by
  obtain ⟨hc, ht⟩ := hc
  refine mj_Run_end ?_
  unfold mj_s
  rw [hc]
  dsimp only
  rw [ht]
end RUL
