/-! READING: the leaves. The text tx, the place p -/
def pk (tx : List Int32) (p : Nat) : Int32 := (tx[p]?).getD 0
def txC (tx : List Int32) : Prop := tx.length ≤ 160 ∧ ∀ c ∈ tx, 33 ≤ c.toInt ∧ c.toInt ≤ 126
/-- the class's parser at place p, with st statements and lv leaves so far, wp the place that was wrong latest -/
def pst (z : Nat) (H : mj_H) (tx : List Int32) (p st lv : Nat) (wp : Int32) : Prop := H.1 (z + 5) = some (.inr (1, [.ref (z + 6), .ref (z + 7), .int (Int32.ofNat tx.length), .int (Int32.ofNat p), .int (Int32.ofNat st), .int (Int32.ofNat lv), .int wp])) ∧ (∃ cs : List Value, H.1 (z + 6) = some (.inl (.char, cs)) ∧ cs.length = 160 ∧ ∀ (j : Nat) (c : Int32), tx[j]? = some c → cs[j]? = some (Value.int c)) ∧ (∃ fc : List Value, H.1 (z + 7) = some (.inl (.int, fc)) ∧ fc.length = 8) ∧ txC tx ∧ p ≤ tx.length
/-- the reference's -/
def mst (S : mS) (tx : List Int32) (p : Nat) : Prop := txR tx S ∧ S.1 22 = Int32.ofNat p ∧ p ≤ tx.length
theorem pk_rng {tx : List Int32} {p : Nat} (h : txC tx) : (pk tx p = 0 ∧ tx.length ≤ p) ∨ (33 ≤ (pk tx p).toInt ∧ (pk tx p).toInt ≤ 126 ∧ p < tx.length) := by
  unfold pk
  cases e : tx[p]? with
  | none => exact Or.inl ⟨rfl, List.getElem?_eq_none_iff.mp e⟩
  | some c =>
    have h1 := h.2 c (List.mem_of_getElem? e)
    have h2 := (List.getElem?_eq_some_iff.mp e).1
    exact Or.inr ⟨h1.1, h1.2, h2⟩
theorem n_char {c : Int32} (h : 0 ≤ c.toInt ∧ c.toInt ≤ 65535) : narrow .char (.int c) = .int c := by
  show Value.int (c.toUInt32.toUInt16.toUInt32.toInt32) = _
  congr 1
  apply Int32.toInt_inj.mp
  have w4 : c.toBitVec.toNat < 2 ^ 32 := c.toBitVec.isLt
  have w3 := BitVec.toInt_eq_toNat_cond c.toBitVec
  have w2 : c.toBitVec.toInt = c.toInt := rfl
  rw [w2] at w3
  have w1 : c.toUInt32.toUInt16.toUInt32.toInt32.toBitVec.toNat = c.toBitVec.toNat % 65536 := by
    show ((c.toBitVec.setWidth 16).setWidth 32).toNat = _
    rw [BitVec.toNat_setWidth, BitVec.toNat_setWidth]
    omega
  show c.toUInt32.toUInt16.toUInt32.toInt32.toBitVec.toInt = _
  rw [BitVec.toInt_eq_toNat_of_lt (by rw [w1]; omega), w1]
  split at w3 <;> omega
section PAR
variable {xt : mj_X} {ct : Nat → Value} {O : OR} {N z : Nat} {H : mj_H} {S : mS} {tx : List Int32} {p st lv : Nat} {wp : Int32}
theorem C84_do (h : pst z H tx p st lv wp) : C84 xt ct O N (z + 5) H = some (pk tx p, H) := by
  obtain ⟨h1, ⟨cs, h2, h3, h4⟩, -, h6, h7⟩ := h
  have hl := h6.1
  have g3 : gI H (z + 5) 1 3 = some (Int32.ofNat p) := gI_of h1 rfl
  have g2 : gI H (z + 5) 1 2 = some (Int32.ofNat tx.length) := gI_of h1 rfl
  have g0 : gA H (z + 5) 1 0 = some (z + 6) := gA_of h1 rfl
  have e1 : (Int32.ofNat p).toInt = p := i_nat (by omega)
  have e2 : (Int32.ofNat tx.length).toInt = tx.length := i_nat (by omega)
  rcases pk_rng (p := p) h6 with ⟨hp, hq⟩ | ⟨r1, r2, hq⟩
  · have b : mj_c2 .ge (Int32.ofNat p) (Int32.ofNat tx.length) = true := i_c2 (by show decide _ = true; apply decide_eq_true; omega)
    have n0 : narrow .char (.int 0) = .int 0 := rfl
    rw [hp]
    simp only [C84, J84_24, g3, g2, b, cond_true, Option.bind_some, n0, if_true]
  · have b : mj_c2 .ge (Int32.ofNat p) (Int32.ofNat tx.length) = false := i_c2 (by show decide _ = false; apply decide_eq_false; omega)
    have e : tx[p]? = some (pk tx p) := by
      unfold pk
      rw [List.getElem?_eq_getElem hq]
      rfl
    have a : aC xt H (z + 6) (Int32.ofNat p) = some (pk tx p) := aC_of h2 (by omega) (by rw [show (Int32.ofNat p).toInt.toNat = p by omega]; exact h4 p _ e)
    simp only [C84, J84_24, g3, g2, b, cond_false, g0, a, Option.bind_some, n_char (c := pk tx p) (by omega), if_true]
theorem C86_do {c : Int32} : C86 xt ct O N c H = some (if 65 ≤ c.toInt ∧ c.toInt < 71 then 1 else 0, H) := by
  have e1 : (65 : Int32).toInt = 65 := rfl
  have e2 : (71 : Int32).toInt = 71 := rfl
  unfold C86 J86_16 J86_17
  cases h1 : mj_c2 .lt c 65 with
  | true =>
    have := of_decide_eq_true h1
    rw [Int32.lt_iff_toInt_lt, e1] at this
    have n : ¬ (65 ≤ c.toInt ∧ c.toInt < 71) := by omega
    rw [if_neg n]
    rfl
  | false =>
    have h1' := of_decide_eq_false h1
    rw [Int32.lt_iff_toInt_lt, e1] at h1'
    cases h2 : mj_c2 .ge c 71 with
    | true =>
      have := of_decide_eq_true h2
      rw [Int32.le_iff_toInt_le, e2] at this
      have n : ¬ (65 ≤ c.toInt ∧ c.toInt < 71) := by omega
      rw [if_neg n]
      rfl
    | false =>
      have := of_decide_eq_false h2
      rw [Int32.le_iff_toInt_le, e2] at this
      have n : 65 ≤ c.toInt ∧ c.toInt < 71 := by omega
      rw [if_pos n]
      rfl
theorem C95_do {c : Int32} : C95 xt ct O N c H = some (if 48 ≤ c.toInt ∧ c.toInt < 58 then 1 else 0, H) := by
  have e1 : (48 : Int32).toInt = 48 := rfl
  have e2 : (57 : Int32).toInt = 57 := rfl
  unfold C95 J95_16 J95_17
  cases h1 : mj_c2 .lt c 48 with
  | true =>
    have := of_decide_eq_true h1
    rw [Int32.lt_iff_toInt_lt, e1] at this
    have n : ¬ (48 ≤ c.toInt ∧ c.toInt < 58) := by omega
    rw [if_neg n]
    rfl
  | false =>
    have h1' := of_decide_eq_false h1
    rw [Int32.lt_iff_toInt_lt, e1] at h1'
    cases h2 : mj_c2 .gt c 57 with
    | true =>
      have := of_decide_eq_true h2
      rw [Int32.lt_iff_toInt_lt, e2] at this
      have n : ¬ (48 ≤ c.toInt ∧ c.toInt < 58) := by omega
      rw [if_neg n]
      rfl
    | false =>
      have := of_decide_eq_false h2
      rw [Int32.lt_iff_toInt_lt, e2] at this
      have n : 48 ≤ c.toInt ∧ c.toInt < 58 := by omega
      rw [if_pos n]
      rfl
theorem M212_do (h : mst S tx p) : M212 N S = some (pk tx p, S) := by
  obtain ⟨h1, h2, h3⟩ := h
  have hl := h1.2.1
  have e1 : (S.1 22).toInt = p := by rw [h2]; exact i_nat (by omega)
  have e2 : (S.1 2).toInt = tx.length := by rw [h1.1]; exact i_nat (by omega)
  unfold M212 J212_24
  rcases pk_rng (p := p) ⟨h1.2.1, h1.2.2.2⟩ with ⟨hp, hq⟩ | ⟨r1, r2, hq⟩
  · have b : mj_c2 .ge (S.1 22) (S.1 2) = true := i_c2 (by show decide _ = true; apply decide_eq_true; omega)
    rw [b, hp]
    rfl
  · have b : mj_c2 .ge (S.1 22) (S.1 2) = false := i_c2 (by show decide _ = false; apply decide_eq_false; omega)
    have e : tx[p]? = some (pk tx p) := by
      unfold pk
      rw [List.getElem?_eq_getElem hq]
      rfl
    have hm : 0 ≤ (S.1 22).toInt ∧ (S.1 22).toInt < mN 1 := by rw [mN_1]; omega
    rw [b, if_pos hm, show (S.1 22).toInt.toNat = p by omega, h1.2.2.1 p _ e]
    rfl
theorem M217_do (h : mst S tx p) : M217 N S = some (if 48 ≤ (pk tx p).toInt ∧ (pk tx p).toInt < 58 then 1 else 0, S) := by
  have e1 : (48 : Int32).toInt = 48 := rfl
  have e2 : (57 : Int32).toInt = 57 := rfl
  have m := M212_do (N := N) h
  cases h1 : mj_c2 .lt (pk tx p) 48 with
  | true =>
    have := of_decide_eq_true h1
    rw [Int32.lt_iff_toInt_lt, e1] at this
    have n : ¬ (48 ≤ (pk tx p).toInt ∧ (pk tx p).toInt < 58) := by omega
    rw [if_neg n]
    simp only [M217, m, h1, cond_true, J217_22, J217_23, Option.bind_some]
    rfl
  | false =>
    have h1' := of_decide_eq_false h1
    rw [Int32.lt_iff_toInt_lt, e1] at h1'
    cases h2 : mj_c2 .gt (pk tx p) 57 with
    | true =>
      have := of_decide_eq_true h2
      rw [Int32.lt_iff_toInt_lt, e2] at this
      have n : ¬ (48 ≤ (pk tx p).toInt ∧ (pk tx p).toInt < 58) := by omega
      rw [if_neg n]
      simp only [M217, m, h1, h2, cond_true, cond_false, J217_22, J217_23, Option.bind_some]
      rfl
    | false =>
      have := of_decide_eq_false h2
      rw [Int32.lt_iff_toInt_lt, e2] at this
      have n : 48 ≤ (pk tx p).toInt ∧ (pk tx p).toInt < 58 := by omega
      rw [if_pos n]
      simp only [M217, m, h1, h2, cond_false, J217_23, Option.bind_some]
      rfl
theorem M215_do (h : mst S tx p) : M215 N S = some (if 65 ≤ (pk tx p).toInt ∧ (pk tx p).toInt < 71 then 1 else 0, S) := by
  have e1 : (65 : Int32).toInt = 65 := rfl
  have e2 : (70 : Int32).toInt = 70 := rfl
  have m := M212_do (N := N) h
  cases h1 : mj_c2 .lt (pk tx p) 65 with
  | true =>
    have := of_decide_eq_true h1
    rw [Int32.lt_iff_toInt_lt, e1] at this
    have n : ¬ (65 ≤ (pk tx p).toInt ∧ (pk tx p).toInt < 71) := by omega
    rw [if_neg n]
    simp only [M215, m, h1, cond_true, J215_22, J215_23, Option.bind_some]
    rfl
  | false =>
    have h1' := of_decide_eq_false h1
    rw [Int32.lt_iff_toInt_lt, e1] at h1'
    cases h2 : mj_c2 .gt (pk tx p) 70 with
    | true =>
      have := of_decide_eq_true h2
      rw [Int32.lt_iff_toInt_lt, e2] at this
      have n : ¬ (65 ≤ (pk tx p).toInt ∧ (pk tx p).toInt < 71) := by omega
      rw [if_neg n]
      simp only [M215, m, h1, h2, cond_true, cond_false, J215_22, J215_23, Option.bind_some]
      rfl
    | false =>
      have := of_decide_eq_false h2
      rw [Int32.lt_iff_toInt_lt, e2] at this
      have n : 65 ≤ (pk tx p).toInt ∧ (pk tx p).toInt < 71 := by omega
      rw [if_pos n]
      simp only [M215, m, h1, h2, cond_false, J215_23, Option.bind_some]
      rfl
/-- a character that must be there -/
theorem M219_do (h : mst S tx p) (c : Int32) : M219 N c S = (if pk tx p = c then some (1, m_sV S 22 (S.1 22 + 1)) else some (0, m_sV S 3 (S.1 22))) := by
  have m := M212_do (N := N) h
  by_cases hc : pk tx p = c
  · have b : mj_c2 .eq (pk tx p) c = true := decide_eq_true hc
    rw [if_pos hc]
    simp only [M219, m, b, cond_true, Option.bind_some]
  · have b : mj_c2 .eq (pk tx p) c = false := decide_eq_false hc
    rw [if_neg hc]
    simp only [M219, m, b, cond_false, M213, Option.bind_some]
    rfl
theorem C87_no (h : pst z H tx p st lv wp) (w : Int32) : ∃ G, C87 xt ct O N (z + 5) 0 w H = some (.inr H.2.1, mj_new G 6 (.inr (13, []))) ∧ pst z G tx p st lv w ∧ (∀ q, q ≠ z + 5 → G.1 q = H.1 q) ∧ G.2 = H.2 := by
  obtain ⟨h1, ⟨cs, h2, h3, h4⟩, ⟨fc, h5, h5'⟩, h6, h7⟩ := h
  have b0 : mj_c1 .ne 0 = false := by decide
  have u : uF H (z + 5) 1 6 (.int w) = some (mj_put H (z + 5) (.inr (1, [.ref (z + 6), .ref (z + 7), .int (Int32.ofNat tx.length), .int (Int32.ofNat p), .int (Int32.ofNat st), .int (Int32.ofNat lv), .int w]))) := by
    rw [uF_of h1]
    rfl
  refine ⟨_, ?_, ⟨mj_put_eq, ⟨cs, ?_, h3, h4⟩, ⟨fc, ?_, h5'⟩, h6, h7⟩, fun q hq => mj_put_ne hq, rfl⟩
  · simp only [C87, b0, cond_false, u, Option.bind_some]
    rfl
  · rw [mj_put_ne (by omega)]
    exact h2
  · rw [mj_put_ne (by omega)]
    exact h5
theorem C87_yes (w : Int32) {x : Nat} : C87 xt ct O N x 1 w H = some (.inl (), H) := by
  have b1 : mj_c1 .ne 1 = true := by decide
  simp only [C87, b1, cond_true]
end PAR
