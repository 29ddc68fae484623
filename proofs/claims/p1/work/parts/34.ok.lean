/-! THE TABLES ARE AS THEY MUST BE -/
theorem mj_lookup_mem {l : List (Nat × Instr)} {a : Nat} {b : Instr} (h : l.lookup a = some b) : (a, b) ∈ l := by
  induction l with
  | nil => cases h
  | cons q r ih =>
    obtain ⟨x, y⟩ := q
    rw [List.lookup_cons] at h
    cases e : a == x with
    | true =>
      rw [e] at h
      have e1 : a = x := by simpa using e
      subst e1
      cases h
      exact List.mem_cons_self
    | false =>
      rw [e] at h
      exact List.mem_cons_of_mem _ (ih h)
def ky_M (k : Nat) : Option mj_I := (km[k]?).map (fun q => q.1)
def ky_code (k pc : Nat) : Option Instr := (km[k]?).bind (fun q => q.2.lookup pc)
def ky_nL (k : Nat) : Nat := ((km[k]?).map (fun q => q.1.2.2.1)).getD 0
def ky_rt (k : Nat) : Option FieldType := (km[k]?).bind (fun q => q.1.2.2.2.1)
def ky_nh (k : Nat) : Bool := ((km[k]?).map (fun q => q.1.2.2.2.2.isEmpty)).getD false
def ky_o (k : Nat) : Nat := ko.getD k 0
def ky_in (k : Nat) : Bool := decide ((ky_I k).name = "<init>")
def ky_fl (k idx ci : Nat) : Option (Nat × FieldType × Bool) := (mj_lk3 kf idx (ky_o k) ci).map (fun v => (v.1, v.2.1, !v.2.2.1 || (v.2.2.2.1 && ky_in k)))
def ky_nw (k idx : Nat) : Option (Nat × Nat × List Value) := (mj_lk2 kw idx (ky_o k)).map (fun v => (v.1, v.2, kdf.getD v.1 []))
def ky_an (k idx : Nat) : Option String := mj_lk2 ka idx (ky_o k)
def ky_ck (k idx : Nat) : Option Value := mj_lk2 kk idx (ky_o k)
def ky_cs (k idx : Nat) : Option (Nat × Nat) := (mj_lk2 ks idx (ky_o k)).map (fun v => (v.1, v.2.1))
def ky_cp (k idx : Nat) : Option (Nat × Nat) := (mj_lk2 kp idx (ky_o k)).map (fun v => (v.1, v.2.1))
def ky_na (k idx : Nat) : Option Nat := mj_lk2 kna idx (ky_o k)
def ky_cv (k idx ci : Nat) : Option Nat := (mj_lk3 kv idx (ky_o k) ci).map (fun v => v.1)
def ky_pr (k idx : Nat) : Option Nat := mj_lk2 kpr idx (ky_o k)
def ky_ex (k idx : Nat) : Option Nat := mj_lk2 kx idx (ky_o k)
def ky_ca (ci : Nat) (C : String) : Bool := decide ((kc_cl[ci]?).map (fun q => q.1) = some C)
theorem ky_row {k : Nat} {I : mj_I} (h : ky_M k = some I) : ∃ l, km[k]? = some (I, l) := by
  unfold ky_M at h
  cases hk : km[k]? with
  | none => rw [hk] at h; cases h
  | some q => rw [hk] at h; cases h; exact ⟨q.2, rfl⟩
theorem ky_own : ∀ k, k < km.length → kn.getD (ko.getD k 0) "" = (ky_I k).cls := by decide +kernel
theorem ky_cls {k : Nat} {I : mj_I} (h : ky_M k = some I) : kn.getD (ky_o k) "" = I.1.cls ∧ ky_I k = I.1 := by
  obtain ⟨l, hl⟩ := ky_row h
  have h1 : ky_I k = I.1 := by unfold ky_I; rw [hl]; rfl
  exact ⟨by rw [← h1]; exact ky_own k (List.getElem?_eq_some_iff.mp hl).1, h1⟩
theorem ky_lt {k : Nat} (h : k < km.length) : ∃ I, ky_M k = some I ∧ ky_I k = I.1 := by
  obtain ⟨q, hq⟩ : ∃ q, km[k]? = some q := ⟨_, List.getElem?_eq_getElem h⟩
  refine ⟨q.1, by unfold ky_M; rw [hq]; rfl, by unfold ky_I; rw [hq]; rfl⟩
section KYO
variable {hd : Nat → Nat → Nat → Option Nat} {sc : Nat → Nat → Option Nat}
def ky (sc : Nat → Nat → Option Nat) (hd : Nat → Nat → Nat → Option Nat) : mj_Y := ((ky_code, ky_nL, ky_rt, ky_nh), (ky_fl, ky_nw, ky_an, ky_ck, sc, ky_ca), (ky_cs, ky_na, ky_cv, ky_pr, hd, ky_ex, ky_cp))
theorem ky_okM {k : Nat} {I : mj_I} (h : ky_M k = some I) : mj_OkM (ky sc hd) kt k I := by
  obtain ⟨l, hl⟩ := ky_row h
  obtain ⟨h1, h2, h3, h4, h5⟩ := km_all _ (List.mem_of_getElem? hl)
  refine ⟨fun pc i hi => ?_, ?_, ?_, fun hn => ?_, h2, h3, h4, h5⟩
  · have hi' : ky_code k pc = some i := hi
    unfold ky_code at hi'
    rw [hl] at hi'
    have hm : (pc, i) ∈ l := by
      have : l.lookup pc = some i := hi'
      exact mj_lookup_mem this
    have := List.all_eq_true.mp h1 _ hm
    dsimp only at this
    split at this
    · rename_i j n hj
      simp only [Bool.and_eq_true, decide_eq_true_eq, Bool.or_eq_true, beq_iff_eq] at this
      obtain ⟨e1, e2⟩ := this
      subst e1
      refine ⟨n, hj, ?_⟩
      rcases e2 with e2 | e2
      · exact Or.inl e2
      · cases j <;> first | exact Or.inr (Or.inl ⟨_, _, _, _, rfl⟩) | exact Or.inr (Or.inr ⟨_, _, rfl⟩) | cases e2
    · cases this
  · show ky_nL k = _
    unfold ky_nL; rw [hl]; rfl
  · show ky_rt k = _
    unfold ky_rt; rw [hl]; rfl
  · have hn' : ky_nh k = true := hn
    unfold ky_nh at hn'
    rw [hl] at hn'
    exact List.isEmpty_iff.mp hn'
theorem ky_okF {k : Nat} {I : mj_I} {idx ci : Nat} {q : Nat × FieldType × Bool} (h : ky_M k = some I) (hq : ky_fl k idx ci = some q) : mj_OkF kt kc_cl I idx ci q := by
  obtain ⟨hc, hI⟩ := ky_cls h
  unfold ky_fl at hq
  cases hv : mj_lk3 kf idx (ky_o k) ci with
  | none => rw [hv] at hq; cases hq
  | some v =>
    rw [hv] at hq
    cases hq
    have hm := mj_lk3_in hv
    have hb := kf_B _ hm
    have hw : ∀ w ∈ kf_w (idx, ky_o k, ci, v), w ∈ kt := fun w hw => kf_W _ (List.mem_flatMap.mpr ⟨_, hm, hw⟩)
    unfold kf_b at hb
    dsimp only at hb
    split at hb
    · rename_i z hz
      obtain ⟨C, T, N⟩ := z
      have hx : kf_x (idx, ky_o k, ci, v) = T v.1 := by unfold kf_x; dsimp only; rw [hz]; rfl
      rw [hx] at hb
      simp only [Bool.and_eq_true, decide_eq_true_eq, beq_iff_eq, Bool.or_eq_true, Bool.not_eq_true'] at hb
      obtain ⟨⟨⟨b1, b2⟩, b3⟩, b4⟩ := hb
      unfold kf_w at hw
      dsimp only at hw
      rw [hx, hc] at hw
      refine ⟨C, T, N, (T v.1).1, hz, b1, b2, ?_, Or.inl rfl, ?_⟩
      · split at hw
        · exact Or.inl (hw _ (by simp))
        · exact Or.inr ⟨_, hw _ List.mem_cons_self⟩
      · intro hwr
        dsimp only at hwr
        simp only [Bool.or_eq_true, Bool.not_eq_true', Bool.and_eq_true] at hwr
        rcases hwr with hwr | ⟨w1, w2⟩
        · exact Or.inl (b3.trans hwr)
        · rcases b4 with b4 | ⟨b5, b6, b7⟩
          · rw [w1] at b4; cases b4
          · refine Or.inr ⟨b7, ?_, ?_, ?_⟩
            · have : (ky_I k).name = "<init>" := of_decide_eq_true w2
              rw [hI] at this; exact this
            · rw [b6, hc]
            · rw [Option.isNone_iff_eq_none.mp b5] at hw
              exact hw _ (by simp)
    · cases hb
theorem ky_okN {k : Nat} {I : mj_I} {idx : Nat} {q : Nat × Nat × List Value} (h : ky_M k = some I) (hq : ky_nw k idx = some q) : mj_OkN kt kc_cl I idx q := by
  obtain ⟨hc, hI⟩ := ky_cls h
  unfold ky_nw at hq
  cases hv : mj_lk2 kw idx (ky_o k) with
  | none => rw [hv] at hq; cases hq
  | some v =>
    rw [hv] at hq
    cases hq
    have hm := mj_lk2_in hv
    have hb := kw_B _ hm
    have hw : ∀ w ∈ kw_w (idx, ky_o k, v), w ∈ kt := fun w hw => kw_W _ (List.mem_flatMap.mpr ⟨_, hm, hw⟩)
    unfold kw_b at hb
    dsimp only at hb
    split at hb
    · rename_i z hz
      obtain ⟨C, T, N⟩ := z
      simp only [Bool.and_eq_true, decide_eq_true_eq, List.all_eq_true, List.mem_range] at hb
      obtain ⟨b1, b2⟩ := hb
      have hC : kw_C (idx, ky_o k, v) = C := by unfold kw_C; dsimp only; rw [hz]; rfl
      unfold kw_w at hw
      dsimp only at hw
      rw [hC, hc] at hw
      refine ⟨C, T, N, hz, hw _ (by simp), hw _ (by simp), hw _ (by simp), b1, fun j hj => ?_⟩
      have := b2 j hj
      split at this
      · rename_i ty hty
        exact ⟨ty, hty, of_decide_eq_true this⟩
      · cases this
    · cases hb
theorem ky_ml {k : Nat} {I : mj_I} {idx : Nat} {y : MethodName} {ho : Option String} (h : ky_M k = some I) (hw : k_ml (ky_o k) idx y ho ∈ kt) : mj_ml kt I.1.cls idx y := by
  obtain ⟨hc, -⟩ := ky_cls h
  unfold k_ml at hw
  rw [hc] at hw
  split at hw
  · exact Or.inl hw
  · exact Or.inr ⟨_, hw⟩
theorem ky_okS {k : Nat} {I : mj_I} {idx : Nat} {q : Nat × Nat} (h : ky_M k = some I) (hq : ky_cs k idx = some q) : ∃ I2, ky_M q.1 = some I2 ∧ mj_OkS kt I I2 idx q.2 := by
  unfold ky_cs at hq
  cases hv : mj_lk2 ks idx (ky_o k) with
  | none => rw [hv] at hq; cases hq
  | some v =>
    rw [hv] at hq
    cases hq
    have hm := mj_lk2_in hv
    obtain ⟨b1, b2⟩ := ks_B _ hm
    have hw : ∀ w ∈ ks_w (idx, ky_o k, v), w ∈ kt := fun w hw => ks_W _ (List.mem_flatMap.mpr ⟨_, hm, hw⟩)
    obtain ⟨I2, g1, g2⟩ := ky_lt b1
    unfold ks_w at hw
    dsimp only at hw b2
    rw [g2] at hw b2
    exact ⟨I2, g1, ky_ml h (hw _ List.mem_cons_self), hw _ (by simp), b2⟩
theorem ky_okI {k : Nat} {I : mj_I} {idx : Nat} {q : Nat × Nat} (h : ky_M k = some I) (hq : ky_cp k idx = some q) : ∃ I2, ky_M q.1 = some I2 ∧ mj_OkI kt I I2 idx q.2 := by
  obtain ⟨hc, -⟩ := ky_cls h
  unfold ky_cp at hq
  cases hv : mj_lk2 kp idx (ky_o k) with
  | none => rw [hv] at hq; cases hq
  | some v =>
    rw [hv] at hq
    cases hq
    have hm := mj_lk2_in hv
    have hb := kp_B _ hm
    have hw : ∀ w ∈ kp_w (idx, ky_o k, v), w ∈ kt := fun w hw => kp_W _ (List.mem_flatMap.mpr ⟨_, hm, hw⟩)
    unfold kp_b at hb
    dsimp only at hb
    split at hb
    · rename_i z hz
      have hI2 : ky_I v.1 = z.1.1 := by unfold ky_I; rw [hz]; rfl
      unfold kp_w at hw
      dsimp only at hw
      rw [hI2] at hw
      simp only [Bool.and_eq_true, decide_eq_true_eq] at hb
      obtain ⟨b1, b2⟩ := hb
      refine ⟨z.1, by unfold ky_M; rw [hz]; rfl, hw _ (by simp), b1, ?_⟩
      split at b2
      · simp only [Bool.and_eq_true, decide_eq_true_eq] at b2
        exact Or.inl ⟨ky_ml h (hw _ List.mem_cons_self), b2.1, b2.2.1, b2.2.2⟩
      · rename_i hf
        simp only [Bool.and_eq_true, decide_eq_true_eq] at b2
        have hl := hw _ (List.mem_cons_self)
        rw [Option.isNone_iff_eq_none.mp b2.2] at hl
        unfold k_ml at hl
        dsimp only at hl
        rw [hc] at hl
        rw [hf, hc] at hw
        exact Or.inr ⟨hl, hw _ (by simp), hw _ (by simp), b2.1⟩
    · cases hb
theorem ky_okV {k : Nat} {I : mj_I} {idx n ci k2 : Nat} (h : ky_M k = some I) (hn : ky_na k idx = some n) (hq : ky_cv k idx ci = some k2) : ∃ I2, ky_M k2 = some I2 ∧ mj_OkV kt kc_cl I I2 idx n ci := by
  obtain ⟨hc, -⟩ := ky_cls h
  unfold ky_cv at hq
  cases hv : mj_lk3 kv idx (ky_o k) ci with
  | none => rw [hv] at hq; cases hq
  | some v =>
    rw [hv] at hq
    cases hq
    have hm := mj_lk3_in hv
    have hb := kv_B _ hm
    have hw : ∀ w ∈ kv_w (idx, ky_o k, ci, v), w ∈ kt := fun w hw => kv_W _ (List.mem_flatMap.mpr ⟨_, hm, hw⟩)
    unfold kv_b at hb
    dsimp only at hb
    simp only [Bool.and_eq_true, decide_eq_true_eq] at hb
    obtain ⟨b1, b2, b3, b4⟩ := hb
    have hnn : v.2.1 = n := Option.some.inj (b3.symm.trans hn)
    obtain ⟨I2, g1, g2⟩ := ky_lt b2
    obtain ⟨z, hz⟩ : ∃ z, kc_cl[ci]? = some z := ⟨_, List.getElem?_eq_getElem b1⟩
    obtain ⟨C, T, N⟩ := z
    have hC : kv_C (idx, ky_o k, ci, v) = C := by unfold kv_C; dsimp only; rw [hz]; rfl
    unfold kv_w at hw
    dsimp only at hw
    rw [g2, hC] at hw
    rw [hnn] at b4
    refine ⟨I2, g1, C, T, N, hz, hw _ List.mem_cons_self, ?_⟩
    split at b4
    · rename_i hz2
      rw [hz2] at hw
      dsimp only at hw
      rw [g2] at b4
      simp only [Bool.and_eq_true, decide_eq_true_eq, Bool.or_eq_true] at b4
      obtain ⟨b5, b6⟩ := b4
      have hl := hw _ (List.mem_cons_of_mem _ List.mem_cons_self)
      have hw' := fun w hh => hw w (List.mem_cons_of_mem _ (List.mem_cons_of_mem _ hh))
      cases hk : v.2.2.2.1 with
      | zero =>
        rw [hk] at hw'
        exact Or.inl ⟨ky_ml h hl, hw' _ (by simp), b5⟩
      | succ j =>
        rw [hk] at hw'
        rcases b6 with b6 | b6
        · rw [hk] at b6; cases b6
        · rw [Option.isNone_iff_eq_none.mp b6] at hl
          unfold k_ml at hl
          dsimp only at hl
          rw [hc] at hl
          exact Or.inr (Or.inl ⟨hl, hw' _ (by simp), hw' _ (by simp), b5⟩)
    · rename_i zz hz2
      rw [hz2] at hw
      dsimp only at hw
      rw [hc] at hw
      simp only [Bool.and_eq_true, decide_eq_true_eq] at b4
      obtain ⟨b5, b6, b7⟩ := b4
      refine Or.inr (Or.inr ⟨zz.1, zz.2.1, hw _ (by simp), hw _ (by simp), ?_, b6, hw _ (by simp), b5⟩)
      cases hj : zz.2.2 with
      | none =>
        rw [hj] at hw
        exact Or.inl (hw _ (by simp))
      | some j =>
        rw [hj] at hw b7
        dsimp only at b7
        split at b7
        · rename_i w hwj
          simp only [Bool.and_eq_true, decide_eq_true_eq] at b7
          obtain ⟨-, h2, -⟩ := km_all _ (List.mem_of_getElem? hwj)
          rw [b7.1, b7.2] at h2
          exact Or.inr ⟨hw _ (by simp), _, _, _, h2⟩
        · cases b7
theorem ky_an_ok {k : Nat} {I : mj_I} {idx : Nat} {C : String} (h : ky_M k = some I) (hq : ky_an k idx = some C) : Cond.classLink I.1.cls idx C ∈ kt ∧ Cond.arrayOver (.object C) ∈ kt ∧ FieldType.object C ∈ kty := by
  obtain ⟨hc, -⟩ := ky_cls h
  have hm := mj_lk2_in hq
  have hw : ∀ w ∈ ka_w (idx, ky_o k, C), w ∈ kt := fun w hw => ka_W _ (List.mem_flatMap.mpr ⟨_, hm, hw⟩)
  unfold ka_w at hw
  dsimp only at hw
  rw [hc] at hw
  exact ⟨hw _ (by simp), hw _ (by simp), ka_T _ hm⟩
theorem ky_ck_ok {k : Nat} {I : mj_I} {idx : Nat} {v : Value} (h : ky_M k = some I) (hq : ky_ck k idx = some v) : (∀ z, v = .int z → Cond.constant I.1.cls idx z ∈ kt) ∧ ∀ z, v = .long z → Cond.constantLong I.1.cls idx z ∈ kt := by
  obtain ⟨hc, -⟩ := ky_cls h
  have hm := mj_lk2_in hq
  have hw := kk_W _ (List.mem_map.mpr ⟨_, hm, rfl⟩)
  unfold kk_w at hw
  dsimp only at hw
  rw [hc] at hw
  exact ⟨fun z hz => by subst hz; exact hw, fun z hz => by subst hz; exact hw⟩
def ky_at : Instr → Bool
  | .newarray .float => false
  | .newarray .double => false
  | .newarray .short => false
  | _ => true
theorem ky_ats : ∀ q ∈ km, q.2.all (fun z => ky_at z.2) = true := by decide +kernel
theorem ky_wI : Cond.arrayClass .int ∈ kt := kt_of (by decide +kernel) rfl
theorem ky_wJ : Cond.arrayClass .long ∈ kt := kt_of (by decide +kernel) rfl
theorem ky_wB : Cond.arrayClass .byte ∈ kt := kt_of (by decide +kernel) rfl
theorem ky_wC : Cond.arrayClass .char ∈ kt := kt_of (by decide +kernel) rfl
theorem ky_wZ : Cond.arrayClass .boolean ∈ kt := kt_of (by decide +kernel) rfl
theorem ky_okA {k pc : Nat} {at0 : ArrayType} (h : ky_code k pc = some (.newarray at0)) : Cond.arrayClass (newarray.typeOf at0) ∈ kt ∧ newarray.typeOf at0 ∈ kty := by
  unfold ky_code at h
  cases hk : km[k]? with
  | none => rw [hk] at h; cases h
  | some q =>
    rw [hk] at h
    have hm : (pc, Instr.newarray at0) ∈ q.2 := mj_lookup_mem h
    have := List.all_eq_true.mp (ky_ats q (List.mem_of_getElem? hk)) _ hm
    cases at0 <;> first | (cases this; done) | exact ⟨ky_wZ, by decide⟩ | exact ⟨ky_wC, by decide⟩ | exact ⟨ky_wB, by decide⟩ | exact ⟨ky_wI, by decide⟩ | exact ⟨ky_wJ, by decide⟩
theorem ky_ok : mj_Ok (ky sc hd) ky_M kt kc_cl kty :=
  ⟨kt_kp, fun k I h => ky_okM h, kc_ok, fun k I idx ci q h hq => ky_okF h hq, fun k I idx q h hq => ky_okN h hq, fun k pc at0 h => ky_okA h, fun k I idx C h hq => ky_an_ok h hq, fun k I idx v h hq => (ky_ck_ok h hq).1 v rfl, fun k I idx v h hq => (ky_ck_ok h hq).2 v rfl,
    fun k I idx q h hq => ky_okS h hq, fun k I idx q h hq => ky_okI h hq, fun k I idx n ci k2 h hn hq => ky_okV h hn hq⟩
end KYO
