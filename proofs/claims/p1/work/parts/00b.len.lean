def mj_len : Instr → Nat
  | .aload _ | .iload _ | .lload _ | .astore _ | .istore _ | .lstore _ | .bipush _ | .ldc _ | .newarray _ => 2
  | .sipush _ | .iinc _ _ | .goto _ | .ifCond _ _ | .if_icmp _ _ | .if_acmp _ _ | .ifnull _ | .ifnonnull _ | .ldc_w _ | .ldc2_w _ => 3
  | .getfield _ | .putfield _ | .getstatic _ | .putstatic _ | .new _ | .anewarray _ | .checkcast _ | .instanceof _ | .invokestatic _ | .invokespecial _ | .invokevirtual _ => 3
  | .invokeinterface _ _ | .invokedynamic _ => 5
  | .multianewarray _ _ => 4
  | _ => 1
def mj_sw : Instr → Bool
  | .tableswitch _ _ _ _ => true
  | .lookupswitch _ _ => true
  | _ => false
def mj_dk (b : ByteArray) (l : List (Nat × Instr)) : Bool := l.all (fun q => match decode b q.1 with
  | .ok (i, n) => decide (i = q.2) && (n == mj_len i || mj_sw i)
  | _ => false)
theorem mj_dk_app {b : ByteArray} {l m : List (Nat × Instr)} (h1 : mj_dk b l = true) (h2 : mj_dk b m = true) : mj_dk b (l ++ m) = true := by
  unfold mj_dk at *
  rw [List.all_append, h1, h2]
  rfl
