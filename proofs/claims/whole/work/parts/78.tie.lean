/-! THE RECURSION TIED: T n goes n levels deep -/
/-- write of an expression, by its class -/
def CW (xt : mj_X) (ct : Nat → Value) (O : OR) (N : Nat) (x0 x1 : Nat) (H : mj_H) : Option mj_H := (gC H x0).bind fun c => if c = 6 then C125 xt ct O N x0 x1 H else if c = 7 then C130 xt ct O N x0 x1 H else if c = 8 then C124 xt ct O N x0 x1 H else if c = 9 then C131 xt ct O N x0 x1 H else if c = 10 then C129 xt ct O N x0 x1 H else none
/-- lay of an expression, by its class -/
def CLy (xt : mj_X) (ct : Nat → Value) (O : OR) (N : Nat) (x0 x1 x2 : Nat) (x3 : Int32) (H : mj_H) : Option (Int32 × mj_H) := (gC H x0).bind fun c => if c = 6 then C151 xt ct O N x0 x1 x2 x3 H else if c = 7 then C153 xt ct O N x0 x1 x2 x3 H else if c = 8 then C142 xt ct O N x0 x1 x2 x3 H else if c = 9 then C155 xt ct O N x0 x1 x2 x3 H else if c = 10 then C152 xt ct O N x0 x1 x2 x3 H else none
section TIE
variable {xt : mj_X} {ct : Nat → Value} {O : OR} {d N : Nat} (hct : ct 0 = .int 1) (hO : oOK xt ct d O)
theorem CW_ok {x0 x1 : Nat} {H q : mj_H} (hct : ct 0 = .int 1) (hO : oOK xt ct d O) (e : CW xt ct O N x0 x1 H = some q) : ∃ c k2, gC H x0 = some c ∧ dw c = some k2 ∧ mj_Run kY xt ct (d + 9) k2 0 (lv_args 0 [.ref x0, .ref x1]) [] H (.inl none, q) := by
  unfold CW at e
  obtain ⟨c, e1, e2⟩ := Option.bind_eq_some_iff.mp e
  split at e2
  · subst c; exact ⟨_, 125, e1, rfl, mj_Run_deep (by omega) (C125_ok hct hO e2)⟩
  split at e2
  · subst c; exact ⟨_, 130, e1, rfl, mj_Run_deep (by omega) (C130_ok hct hO e2)⟩
  split at e2
  · subst c; exact ⟨_, 124, e1, rfl, mj_Run_deep (by omega) (C124_ok hct hO e2)⟩
  split at e2
  · subst c; exact ⟨_, 131, e1, rfl, mj_Run_deep (by omega) (C131_ok hct hO e2)⟩
  split at e2
  · subst c; exact ⟨_, 129, e1, rfl, mj_Run_deep (by omega) (C129_ok hct hO e2)⟩
  cases e2
theorem CLy_ok {x0 x1 x2 : Nat} {x3 : Int32} {H : mj_H} {q : Int32 × mj_H} (hct : ct 0 = .int 1) (hO : oOK xt ct d O) (e : CLy xt ct O N x0 x1 x2 x3 H = some q) : ∃ c k2, gC H x0 = some c ∧ dl c = some k2 ∧ mj_Run kY xt ct (d + 9) k2 0 (lv_args 0 [.ref x0, .ref x1, .ref x2, .int x3]) [] H (.inl (vI q.1), q.2) := by
  unfold CLy at e
  obtain ⟨c, e1, e2⟩ := Option.bind_eq_some_iff.mp e
  split at e2
  · subst c; exact ⟨_, 151, e1, rfl, mj_Run_deep (by omega) (C151_ok hct hO e2)⟩
  split at e2
  · subst c; exact ⟨_, 153, e1, rfl, mj_Run_deep (by omega) (C153_ok hct hO e2)⟩
  split at e2
  · subst c; exact ⟨_, 142, e1, rfl, mj_Run_deep (by omega) (C142_ok hct hO e2)⟩
  split at e2
  · subst c; exact ⟨_, 155, e1, rfl, mj_Run_deep (by omega) (C155_ok hct hO e2)⟩
  split at e2
  · subst c; exact ⟨_, 152, e1, rfl, mj_Run_deep (by omega) (C152_ok hct hO e2)⟩
  cases e2
end TIE
def TT (xt : mj_X) (ct : Nat → Value) (N : Nat) : Nat → OR
  | 0 => (fun _ _ _ => none, fun _ _ _ _ => none, fun _ _ _ => none, fun _ _ _ => none, fun _ _ _ _ _ => none, fun _ _ _ => none, fun _ _ _ _ _ => none)
  | n + 1 => (C83 xt ct (TT xt ct N n) N, C89 xt ct (TT xt ct N n) N, C90 xt ct (TT xt ct N n) N, C122 xt ct (TT xt ct N n) N, C138 xt ct (TT xt ct N n) N, CW xt ct (TT xt ct N n) N, CLy xt ct (TT xt ct N n) N)
theorem TT_ok {xt : mj_X} {ct : Nat → Value} {N : Nat} (hct : ct 0 = .int 1) : ∀ n, oOK xt ct (9 * n) (TT xt ct N n) := by
  intro n
  induction n with
  | zero => exact ⟨fun _ _ _ _ e => t_no e, fun _ _ _ _ _ e => t_no e, fun _ _ _ _ e => t_no e, fun _ _ _ _ e => t_no e, fun _ _ _ _ _ _ e => t_no e, fun _ _ _ _ e => t_no e, fun _ _ _ _ _ _ e => t_no e⟩
  | succ n ih =>
    refine ⟨fun _ _ _ _ e => ?_, fun _ _ _ _ _ e => ?_, fun _ _ _ _ e => ?_, fun _ _ _ _ e => ?_, fun _ _ _ _ _ _ e => ?_, fun _ _ _ _ e => ?_, fun _ _ _ _ _ _ e => ?_⟩
    · exact mj_Run_deep (by omega) (C83_ok hct ih e)
    · exact mj_Run_deep (by omega) (C89_ok hct ih e)
    · exact mj_Run_deep (by omega) (C90_ok hct ih e)
    · exact mj_Run_deep (by omega) (C122_ok hct ih e)
    · exact mj_Run_deep (by omega) (C138_ok hct ih e)
    · exact CW_ok hct ih e
    · exact CLy_ok hct ih e
