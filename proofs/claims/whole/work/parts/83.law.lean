/-! THE LAW'S LOOP: what one call of the script does -/
def LF (b x a o : Nat) (i : Int32) (l : mj_L) : Prop := mj_ld l 0 = some (.ref b) ∧ mj_ld l 1 = some (.ref x) ∧ mj_ld l 2 = some (.ref a) ∧ mj_ld l 3 = some (.ref o) ∧ mj_ld l 4 = some (.int i)
/-- from the loop's head with i the law comes to r -/
def LW (xt : mj_X) (ct : Nat → Value) (d b x a o : Nat) (i : Int32) (h : mj_H) (r : mj_O × mj_H) : Prop := ∀ l, LF b x a o i l → mj_Run kY xt ct (d + 12) 300 23 l [] h r
/-- the address is none of the reference's -/
def m_out (a : Nat) (ra : Nat → Nat) (q : Nat) : Prop := q ≠ a ∧ ∀ j, j < 62 → 2 ≤ mK j → q ≠ ra j
theorem m_fr_b {a b : Nat} {ra : Nat → Nat} {h h' : mj_H} (f : m_fr a ra h h') (hb : m_out a ra b) (h0 : h.1 b = none) : h'.1 b = none := (f.2 b hb.1 hb.2).trans h0
theorem m_aL {xt : mj_X} {a o : Nat} {ra : Nat → Nat} {h h' : mj_H} {j : Int32} {v : Int64} (f : m_fr a ra h h') (ho : m_out a ra o) (e : aL xt h o j = some v) : aL xt h' o j = some v := by
  have e1 : h'.1 o = h.1 o := f.2 o ho.1 ho.2
  unfold aL aV mj_arr at e ⊢
  rw [e1]
  exact e
theorem md_gC {a : Nat} {ra : Nat → Nat} {S : mS} {h : mj_H} (hm : md a ra S h) : gC h a = some 12 := by
  unfold gC
  rw [hm.1]
theorem lg_eq {x y : Int64} (e : x = y) : mj_c1 .eq (lg_cmp x y) = true := by
  subst e
  apply decide_eq_true
  unfold lg_cmp
  rw [if_neg (show ¬ x > x from Int64.lt_irrefl), if_pos rfl]

theorem law_0 {xt : mj_X} {ct : Nat → Value} {O : OR} {d N b x a o : Nat} {ra : Nat → Nat} {i len w0 w1 w2 w3 : Int32} {H : mj_H} {r : mj_O × mj_H} (hct : ct 0 = .int 1) (hO : oOK xt ct d O) (hsep : m_sep a ra) (hbo : m_out a ra b) (RN : ∀ h : mj_H, h.1 b = none → aN xt h b = some len) (hlt : mj_c2 .gt i (len - 4) = false) (R0 : ∀ h : mj_H, h.1 b = none → aI xt h b i = some w0) (R1 : ∀ h : mj_H, h.1 b = none → aI xt h b (i + 1) = some w1) (R2 : ∀ h : mj_H, h.1 b = none → aI xt h b (i + 2) = some w2) (R3 : ∀ h : mj_H, h.1 b = none → aI xt h b (i + 3) = some w3) (hb0 : H.1 b = none) (hw : w0 &&& 31 = 0)  (hx : gC H x = some 5) {q1 : Int32 × mj_H} (e1 : C9 xt ct O N x (((w1 : Int32).toInt64 <<< ((32 : Int32).toInt64 &&& 63)) ||| ((w2 : Int32).toInt64 &&& 4294967295)) w3 H = some q1) (hb1 : q1.2.1 b = none) {S : mS} (hm : md a ra S q1.2) {q2 : Int32 × mS} (e2 : M204 N (((w1 : Int32).toInt64 <<< ((32 : Int32).toInt64 &&& 63)) ||| ((w2 : Int32).toInt64 &&& 4294967295)) w3 S = some q2) (heq : q1.1 = q2.1) (hr : ∀ h', md a ra q2.2 h' → m_fr a ra q1.2 h' → LW xt ct d b x a o (i + 4) h' r) : LW xt ct d b x a o i H r := by
  intro l f
  obtain ⟨h1, r1, m1, g1⟩ := M204_ok (xt := xt) (ct := ct) (d := d) e2 hsep _ hm
  exact (
  r_iload c300_23 f.2.2.2.2 <|
  r_aloadn c300_25 f.1 <|
  c_len c300_26 (RN _ hb0) <|
  r_iconst c300_27 <|
  r_isub c300_28 rfl <|
  r_icmpF c300_29 hlt <|
  r_aloadn c300_32 f.1 <|
  r_iload c300_33 f.2.2.2.2 <|
  c_aI c300_35 (R0 _ hb0) <|
  r_bipush c300_36 <|
  r_iand c300_38 rfl <|
  c_sw c300_39_0 (decide_eq_true hw) <|
  r_aloadn c300_124 f.2.1 <|
  r_aloadn c300_125 f.1 <|
  r_iload c300_126 f.2.2.2.2 <|
  r_iconst c300_128 <|
  r_iadd c300_129 rfl <|
  c_aI c300_130 (R1 _ hb0) <|
  r_i2l c300_131 rfl <|
  r_bipush c300_132 <|
  r_lshl c300_134 rfl <|
  r_aloadn c300_135 f.1 <|
  r_iload c300_136 f.2.2.2.2 <|
  r_iconst c300_138 <|
  r_iadd c300_139 rfl <|
  c_aI c300_140 (R2 _ hb0) <|
  r_i2l c300_141 rfl <|
  r_ldc2 c300_142 <|
  r_land c300_145 rfl <|
  r_lor c300_146 rfl <|
  r_aloadn c300_147 f.1 <|
  r_iload c300_148 f.2.2.2.2 <|
  r_iconst c300_150 <|
  r_iadd c300_151 rfl <|
  c_aI c300_152 (R3 _ hb0) <|
  c_cal (st2 := [.int q1.1]) (s_cv (as := [.ref x, .long (((w1 : Int32).toInt64 <<< ((32 : Int32).toInt64 &&& 63)) ||| ((w2 : Int32).toInt64 &&& 4294967295)), .int w3]) (st' := []) c300_153 rfl hx ⟨Nat.le_of_ble_eq_true rfl, Nat.le_of_ble_eq_true rfl, Nat.le_of_ble_eq_true rfl⟩ rfl rfl) (C9_ok hct hO e1) (Nat.add_lt_add_left (by decide) d) rfl <|
  r_aloadn c300_156 f.2.2.1 <|
  r_aloadn c300_157 f.1 <|
  r_iload c300_158 f.2.2.2.2 <|
  r_iconst c300_160 <|
  r_iadd c300_161 rfl <|
  c_aI c300_162 (R1 _ hb1) <|
  r_i2l c300_163 rfl <|
  r_bipush c300_164 <|
  r_lshl c300_166 rfl <|
  r_aloadn c300_167 f.1 <|
  r_iload c300_168 f.2.2.2.2 <|
  r_iconst c300_170 <|
  r_iadd c300_171 rfl <|
  c_aI c300_172 (R2 _ hb1) <|
  r_i2l c300_173 rfl <|
  r_ldc2 c300_174 <|
  r_land c300_177 rfl <|
  r_lor c300_178 rfl <|
  r_aloadn c300_179 f.1 <|
  r_iload c300_180 f.2.2.2.2 <|
  r_iconst c300_182 <|
  r_iadd c300_183 rfl <|
  c_aI c300_184 (R3 _ hb1) <|
  c_cal (st2 := [.int q2.1, .int q1.1]) (s_cv (as := [.ref a, .long (((w1 : Int32).toInt64 <<< ((32 : Int32).toInt64 &&& 63)) ||| ((w2 : Int32).toInt64 &&& 4294967295)), .int w3]) (st' := [.int q1.1]) c300_185 rfl (md_gC hm) ⟨Nat.le_of_ble_eq_true rfl, Nat.le_of_ble_eq_true rfl, Nat.le_of_ble_eq_true rfl⟩ rfl rfl) r1 (Nat.add_lt_add_left (by decide) d) rfl <|
  r_icmpT c300_188 (decide_eq_true heq) <|
  r_iinc c300_1120 f.2.2.2.2 <|
  r_goto c300_1123 <|
  hr _ m1 g1 _ ⟨(ld1_ne f.1 (by decide) (Or.inl (by decide))), (ld1_ne f.2.1 (by decide) (Or.inl (by decide))), (ld1_ne f.2.2.1 (by decide) (Or.inl (by decide))), (ld1_ne f.2.2.2.1 (by decide) (Or.inr rfl)), ld1_eq⟩)
theorem law_1 {xt : mj_X} {ct : Nat → Value} {O : OR} {d N b x a o : Nat} {ra : Nat → Nat} {i len w0 w1 w2 w3 : Int32} {H : mj_H} {r : mj_O × mj_H} (hct : ct 0 = .int 1) (hO : oOK xt ct d O) (hsep : m_sep a ra) (hbo : m_out a ra b) (RN : ∀ h : mj_H, h.1 b = none → aN xt h b = some len) (hlt : mj_c2 .gt i (len - 4) = false) (R0 : ∀ h : mj_H, h.1 b = none → aI xt h b i = some w0) (R1 : ∀ h : mj_H, h.1 b = none → aI xt h b (i + 1) = some w1) (R2 : ∀ h : mj_H, h.1 b = none → aI xt h b (i + 2) = some w2) (R3 : ∀ h : mj_H, h.1 b = none → aI xt h b (i + 3) = some w3) (hb0 : H.1 b = none) (hw : w0 &&& 31 = 1)  (hx : gC H x = some 5) {q1 : Int32 × mj_H} (e1 : C36 xt ct O N x H = some q1) (hb1 : q1.2.1 b = none) {S : mS} (hm : md a ra S q1.2) {q2 : Int32 × mS} (e2 : M207 N S = some q2) (heq : q1.1 = q2.1) (hr : ∀ h', md a ra q2.2 h' → m_fr a ra q1.2 h' → LW xt ct d b x a o (i + 4) h' r) : LW xt ct d b x a o i H r := by
  intro l f
  obtain ⟨h1, r1, m1, g1⟩ := M207_ok (xt := xt) (ct := ct) (d := d) e2 hsep _ hm
  exact (
  r_iload c300_23 f.2.2.2.2 <|
  r_aloadn c300_25 f.1 <|
  c_len c300_26 (RN _ hb0) <|
  r_iconst c300_27 <|
  r_isub c300_28 rfl <|
  r_icmpF c300_29 hlt <|
  r_aloadn c300_32 f.1 <|
  r_iload c300_33 f.2.2.2.2 <|
  c_aI c300_35 (R0 _ hb0) <|
  r_bipush c300_36 <|
  r_iand c300_38 rfl <|
  c_sw c300_39_1 (decide_eq_true hw) <|
  r_aloadn c300_193 f.2.1 <|
  c_cal (st2 := [.int q1.1]) (s_cv (as := [.ref x]) (st' := []) c300_194 rfl hx ⟨Nat.le_of_ble_eq_true rfl, Nat.le_of_ble_eq_true rfl, Nat.le_of_ble_eq_true rfl⟩ rfl rfl) (C36_ok hct hO e1) (Nat.add_lt_add_left (by decide) d) rfl <|
  r_aloadn c300_197 f.2.2.1 <|
  c_cal (st2 := [.int q2.1, .int q1.1]) (s_cv (as := [.ref a]) (st' := [.int q1.1]) c300_198 rfl (md_gC hm) ⟨Nat.le_of_ble_eq_true rfl, Nat.le_of_ble_eq_true rfl, Nat.le_of_ble_eq_true rfl⟩ rfl rfl) r1 (Nat.add_lt_add_left (by decide) d) rfl <|
  r_icmpT c300_201 (decide_eq_true heq) <|
  r_iinc c300_1120 f.2.2.2.2 <|
  r_goto c300_1123 <|
  hr _ m1 g1 _ ⟨(ld1_ne f.1 (by decide) (Or.inl (by decide))), (ld1_ne f.2.1 (by decide) (Or.inl (by decide))), (ld1_ne f.2.2.1 (by decide) (Or.inl (by decide))), (ld1_ne f.2.2.2.1 (by decide) (Or.inr rfl)), ld1_eq⟩)
theorem law_2 {xt : mj_X} {ct : Nat → Value} {O : OR} {d N b x a o : Nat} {ra : Nat → Nat} {i len w0 w1 w2 w3 : Int32} {H : mj_H} {r : mj_O × mj_H} (hct : ct 0 = .int 1) (hO : oOK xt ct d O) (hsep : m_sep a ra) (hbo : m_out a ra b) (RN : ∀ h : mj_H, h.1 b = none → aN xt h b = some len) (hlt : mj_c2 .gt i (len - 4) = false) (R0 : ∀ h : mj_H, h.1 b = none → aI xt h b i = some w0) (R1 : ∀ h : mj_H, h.1 b = none → aI xt h b (i + 1) = some w1) (R2 : ∀ h : mj_H, h.1 b = none → aI xt h b (i + 2) = some w2) (R3 : ∀ h : mj_H, h.1 b = none → aI xt h b (i + 3) = some w3) (hb0 : H.1 b = none) (hw : w0 &&& 31 = 2)  (hx : gC H x = some 5) {q1 : Int32 × mj_H} (e1 : C72 xt ct O N x w1 H = some q1) (hb1 : q1.2.1 b = none) {S : mS} (hm : md a ra S q1.2) {q2 : Int32 × mS} (e2 : M208 N w1 S = some q2) (heq : q1.1 = q2.1) (hr : ∀ h', md a ra q2.2 h' → m_fr a ra q1.2 h' → LW xt ct d b x a o (i + 4) h' r) : LW xt ct d b x a o i H r := by
  intro l f
  obtain ⟨h1, r1, m1, g1⟩ := M208_ok (xt := xt) (ct := ct) (d := d) e2 hsep _ hm
  exact (
  r_iload c300_23 f.2.2.2.2 <|
  r_aloadn c300_25 f.1 <|
  c_len c300_26 (RN _ hb0) <|
  r_iconst c300_27 <|
  r_isub c300_28 rfl <|
  r_icmpF c300_29 hlt <|
  r_aloadn c300_32 f.1 <|
  r_iload c300_33 f.2.2.2.2 <|
  c_aI c300_35 (R0 _ hb0) <|
  r_bipush c300_36 <|
  r_iand c300_38 rfl <|
  c_sw c300_39_2 (decide_eq_true hw) <|
  r_aloadn c300_206 f.2.1 <|
  r_aloadn c300_207 f.1 <|
  r_iload c300_208 f.2.2.2.2 <|
  r_iconst c300_210 <|
  r_iadd c300_211 rfl <|
  c_aI c300_212 (R1 _ hb0) <|
  c_cal (st2 := [.int q1.1]) (s_cv (as := [.ref x, .int w1]) (st' := []) c300_213 rfl hx ⟨Nat.le_of_ble_eq_true rfl, Nat.le_of_ble_eq_true rfl, Nat.le_of_ble_eq_true rfl⟩ rfl rfl) (C72_ok hct hO e1) (Nat.add_lt_add_left (by decide) d) rfl <|
  r_aloadn c300_216 f.2.2.1 <|
  r_aloadn c300_217 f.1 <|
  r_iload c300_218 f.2.2.2.2 <|
  r_iconst c300_220 <|
  r_iadd c300_221 rfl <|
  c_aI c300_222 (R1 _ hb1) <|
  c_cal (st2 := [.int q2.1, .int q1.1]) (s_cv (as := [.ref a, .int w1]) (st' := [.int q1.1]) c300_223 rfl (md_gC hm) ⟨Nat.le_of_ble_eq_true rfl, Nat.le_of_ble_eq_true rfl, Nat.le_of_ble_eq_true rfl⟩ rfl rfl) r1 (Nat.add_lt_add_left (by decide) d) rfl <|
  r_icmpT c300_226 (decide_eq_true heq) <|
  r_iinc c300_1120 f.2.2.2.2 <|
  r_goto c300_1123 <|
  hr _ m1 g1 _ ⟨(ld1_ne f.1 (by decide) (Or.inl (by decide))), (ld1_ne f.2.1 (by decide) (Or.inl (by decide))), (ld1_ne f.2.2.1 (by decide) (Or.inl (by decide))), (ld1_ne f.2.2.2.1 (by decide) (Or.inr rfl)), ld1_eq⟩)
theorem law_3V {xt : mj_X} {ct : Nat → Value} {O : OR} {d N b x a o : Nat} {ra : Nat → Nat} {i len w0 w1 w2 w3 : Int32} {H : mj_H} {r : mj_O × mj_H} (hct : ct 0 = .int 1) (hO : oOK xt ct d O) (hsep : m_sep a ra) (hbo : m_out a ra b) (RN : ∀ h : mj_H, h.1 b = none → aN xt h b = some len) (hlt : mj_c2 .gt i (len - 4) = false) (R0 : ∀ h : mj_H, h.1 b = none → aI xt h b i = some w0) (R1 : ∀ h : mj_H, h.1 b = none → aI xt h b (i + 1) = some w1) (R2 : ∀ h : mj_H, h.1 b = none → aI xt h b (i + 2) = some w2) (R3 : ∀ h : mj_H, h.1 b = none → aI xt h b (i + 3) = some w3) (hb0 : H.1 b = none) (hw : w0 &&& 31 = 3) {q1 : Int32 × mj_H} (e1 : C77 xt ct O N x w1 o H = some q1) (hb1 : q1.2.1 b = none) {S : mS} (hm : md a ra S q1.2) (ho : m_out a ra o) {v0 : Int64} (hv0 : aL xt q1.2 o 0 = some v0) {q2 : Int32 × mS} (e2 : M209 N w1 S = some q2) {q3 : Int32 × mS} (e3 : M203 N q2.2 = some q3) (heq : q3.1 = q1.1) (hk : q1.1 = 0) (hv : v0 = (q2.1 : Int32).toInt64) (hr : ∀ h', md a ra q3.2 h' → m_fr a ra q1.2 h' → LW xt ct d b x a o (i + 4) h' r) : LW xt ct d b x a o i H r := by
  intro l f
  obtain ⟨h1, r1, m1, g1⟩ := M209_ok (xt := xt) (ct := ct) (d := d) e2 hsep _ hm
  obtain ⟨h2, r2, m2, g2⟩ := M203_ok (xt := xt) (ct := ct) (d := d) e3 hsep _ m1
  exact (
  r_iload c300_23 f.2.2.2.2 <|
  r_aloadn c300_25 f.1 <|
  c_len c300_26 (RN _ hb0) <|
  r_iconst c300_27 <|
  r_isub c300_28 rfl <|
  r_icmpF c300_29 hlt <|
  r_aloadn c300_32 f.1 <|
  r_iload c300_33 f.2.2.2.2 <|
  c_aI c300_35 (R0 _ hb0) <|
  r_bipush c300_36 <|
  r_iand c300_38 rfl <|
  c_sw c300_39_3 (decide_eq_true hw) <|
  r_aloadn c300_231 f.2.1 <|
  r_aloadn c300_232 f.1 <|
  r_iload c300_233 f.2.2.2.2 <|
  r_iconst c300_235 <|
  r_iadd c300_236 rfl <|
  c_aI c300_237 (R1 _ hb0) <|
  r_aloadn c300_238 f.2.2.2.1 <|
  c_cal (st2 := [.int q1.1]) (s_cs (as := [.ref x, .int w1, .ref o]) (st' := []) c300_239 ⟨Nat.le_of_ble_eq_true rfl, Nat.le_of_ble_eq_true rfl, Nat.le_of_ble_eq_true rfl⟩ rfl rfl) (C77_ok hct hO e1) (Nat.add_lt_add_left (by decide) d) rfl <|
  r_istore c300_242 <|
  r_aloadn c300_244 (ld1_ne f.2.2.1 (by decide) (Or.inl (by decide))) <|
  r_aloadn c300_245 (ld1_ne f.1 (by decide) (Or.inl (by decide))) <|
  r_iload c300_246 (ld1_ne f.2.2.2.2 (by decide) (Or.inr rfl)) <|
  r_iconst c300_248 <|
  r_iadd c300_249 rfl <|
  c_aI c300_250 (R1 _ hb1) <|
  c_cal (st2 := [.int q2.1]) (s_cv (as := [.ref a, .int w1]) (st' := []) c300_251 rfl (md_gC hm) ⟨Nat.le_of_ble_eq_true rfl, Nat.le_of_ble_eq_true rfl, Nat.le_of_ble_eq_true rfl⟩ rfl rfl) r1 (Nat.add_lt_add_left (by decide) d) rfl <|
  r_istore c300_254 <|
  r_aloadn c300_256 (ld1_ne (ld1_ne f.2.2.1 (by decide) (Or.inl (by decide))) (by decide) (Or.inl (by decide))) <|
  c_cal (st2 := [.int q3.1]) (s_cv (as := [.ref a]) (st' := []) c300_257 rfl (md_gC m1) ⟨Nat.le_of_ble_eq_true rfl, Nat.le_of_ble_eq_true rfl, Nat.le_of_ble_eq_true rfl⟩ rfl rfl) r2 (Nat.add_lt_add_left (by decide) d) rfl <|
  r_iload c300_260 (ld1_ne ld1_eq (by decide) (Or.inr rfl)) <|
  r_icmpT c300_262 (decide_eq_true heq) <|
  r_iload c300_267 (ld1_ne ld1_eq (by decide) (Or.inr rfl)) <|
  r_ifF c300_269 (decide_eq_false (fun z => z hk)) <|
  r_aloadn c300_272 (ld1_ne (ld1_ne f.2.2.2.1 (by decide) (Or.inl (by decide))) (by decide) (Or.inl (by decide))) <|
  r_iconst c300_273 <|
  c_aL c300_274 (m_aL (m_fr_trans g1 g2) ho hv0) <|
  r_iload c300_275 ld1_eq <|
  r_i2l c300_277 rfl <|
  r_lcmp c300_278 rfl <|
  r_ifT c300_279 (lg_eq hv) <|
  r_goto c300_284 <|
  r_iinc c300_1120 (ld1_ne (ld1_ne f.2.2.2.2 (by decide) (Or.inr rfl)) (by decide) (Or.inl (by decide))) <|
  r_goto c300_1123 <|
  hr _ m2 (m_fr_trans g1 g2) _ ⟨(ld1_ne (ld1_ne (ld1_ne f.1 (by decide) (Or.inl (by decide))) (by decide) (Or.inl (by decide))) (by decide) (Or.inl (by decide))), (ld1_ne (ld1_ne (ld1_ne f.2.1 (by decide) (Or.inl (by decide))) (by decide) (Or.inl (by decide))) (by decide) (Or.inl (by decide))), (ld1_ne (ld1_ne (ld1_ne f.2.2.1 (by decide) (Or.inl (by decide))) (by decide) (Or.inl (by decide))) (by decide) (Or.inl (by decide))), (ld1_ne (ld1_ne (ld1_ne f.2.2.2.1 (by decide) (Or.inl (by decide))) (by decide) (Or.inl (by decide))) (by decide) (Or.inr rfl)), ld1_eq⟩)
theorem law_3X {xt : mj_X} {ct : Nat → Value} {O : OR} {d N b x a o : Nat} {ra : Nat → Nat} {i len w0 w1 w2 w3 : Int32} {H : mj_H} {r : mj_O × mj_H} (hct : ct 0 = .int 1) (hO : oOK xt ct d O) (hsep : m_sep a ra) (hbo : m_out a ra b) (RN : ∀ h : mj_H, h.1 b = none → aN xt h b = some len) (hlt : mj_c2 .gt i (len - 4) = false) (R0 : ∀ h : mj_H, h.1 b = none → aI xt h b i = some w0) (R1 : ∀ h : mj_H, h.1 b = none → aI xt h b (i + 1) = some w1) (R2 : ∀ h : mj_H, h.1 b = none → aI xt h b (i + 2) = some w2) (R3 : ∀ h : mj_H, h.1 b = none → aI xt h b (i + 3) = some w3) (hb0 : H.1 b = none) (hw : w0 &&& 31 = 3) {q1 : Int32 × mj_H} (e1 : C77 xt ct O N x w1 o H = some q1) (hb1 : q1.2.1 b = none) {S : mS} (hm : md a ra S q1.2) {q2 : Int32 × mS} (e2 : M209 N w1 S = some q2) {q3 : Int32 × mS} (e3 : M203 N q2.2 = some q3) (heq : q3.1 = q1.1) (hk : q1.1 ≠ 0) (hr : ∀ h', md a ra q3.2 h' → m_fr a ra q1.2 h' → LW xt ct d b x a o (i + 4) h' r) : LW xt ct d b x a o i H r := by
  intro l f
  obtain ⟨h1, r1, m1, g1⟩ := M209_ok (xt := xt) (ct := ct) (d := d) e2 hsep _ hm
  obtain ⟨h2, r2, m2, g2⟩ := M203_ok (xt := xt) (ct := ct) (d := d) e3 hsep _ m1
  exact (
  r_iload c300_23 f.2.2.2.2 <|
  r_aloadn c300_25 f.1 <|
  c_len c300_26 (RN _ hb0) <|
  r_iconst c300_27 <|
  r_isub c300_28 rfl <|
  r_icmpF c300_29 hlt <|
  r_aloadn c300_32 f.1 <|
  r_iload c300_33 f.2.2.2.2 <|
  c_aI c300_35 (R0 _ hb0) <|
  r_bipush c300_36 <|
  r_iand c300_38 rfl <|
  c_sw c300_39_3 (decide_eq_true hw) <|
  r_aloadn c300_231 f.2.1 <|
  r_aloadn c300_232 f.1 <|
  r_iload c300_233 f.2.2.2.2 <|
  r_iconst c300_235 <|
  r_iadd c300_236 rfl <|
  c_aI c300_237 (R1 _ hb0) <|
  r_aloadn c300_238 f.2.2.2.1 <|
  c_cal (st2 := [.int q1.1]) (s_cs (as := [.ref x, .int w1, .ref o]) (st' := []) c300_239 ⟨Nat.le_of_ble_eq_true rfl, Nat.le_of_ble_eq_true rfl, Nat.le_of_ble_eq_true rfl⟩ rfl rfl) (C77_ok hct hO e1) (Nat.add_lt_add_left (by decide) d) rfl <|
  r_istore c300_242 <|
  r_aloadn c300_244 (ld1_ne f.2.2.1 (by decide) (Or.inl (by decide))) <|
  r_aloadn c300_245 (ld1_ne f.1 (by decide) (Or.inl (by decide))) <|
  r_iload c300_246 (ld1_ne f.2.2.2.2 (by decide) (Or.inr rfl)) <|
  r_iconst c300_248 <|
  r_iadd c300_249 rfl <|
  c_aI c300_250 (R1 _ hb1) <|
  c_cal (st2 := [.int q2.1]) (s_cv (as := [.ref a, .int w1]) (st' := []) c300_251 rfl (md_gC hm) ⟨Nat.le_of_ble_eq_true rfl, Nat.le_of_ble_eq_true rfl, Nat.le_of_ble_eq_true rfl⟩ rfl rfl) r1 (Nat.add_lt_add_left (by decide) d) rfl <|
  r_istore c300_254 <|
  r_aloadn c300_256 (ld1_ne (ld1_ne f.2.2.1 (by decide) (Or.inl (by decide))) (by decide) (Or.inl (by decide))) <|
  c_cal (st2 := [.int q3.1]) (s_cv (as := [.ref a]) (st' := []) c300_257 rfl (md_gC m1) ⟨Nat.le_of_ble_eq_true rfl, Nat.le_of_ble_eq_true rfl, Nat.le_of_ble_eq_true rfl⟩ rfl rfl) r2 (Nat.add_lt_add_left (by decide) d) rfl <|
  r_iload c300_260 (ld1_ne ld1_eq (by decide) (Or.inr rfl)) <|
  r_icmpT c300_262 (decide_eq_true heq) <|
  r_iload c300_267 (ld1_ne ld1_eq (by decide) (Or.inr rfl)) <|
  r_ifT c300_269 (decide_eq_true hk) <|
  r_goto c300_284 <|
  r_iinc c300_1120 (ld1_ne (ld1_ne f.2.2.2.2 (by decide) (Or.inr rfl)) (by decide) (Or.inl (by decide))) <|
  r_goto c300_1123 <|
  hr _ m2 (m_fr_trans g1 g2) _ ⟨(ld1_ne (ld1_ne (ld1_ne f.1 (by decide) (Or.inl (by decide))) (by decide) (Or.inl (by decide))) (by decide) (Or.inl (by decide))), (ld1_ne (ld1_ne (ld1_ne f.2.1 (by decide) (Or.inl (by decide))) (by decide) (Or.inl (by decide))) (by decide) (Or.inl (by decide))), (ld1_ne (ld1_ne (ld1_ne f.2.2.1 (by decide) (Or.inl (by decide))) (by decide) (Or.inl (by decide))) (by decide) (Or.inl (by decide))), (ld1_ne (ld1_ne (ld1_ne f.2.2.2.1 (by decide) (Or.inl (by decide))) (by decide) (Or.inl (by decide))) (by decide) (Or.inr rfl)), ld1_eq⟩)
theorem law_4 {xt : mj_X} {ct : Nat → Value} {O : OR} {d N b x a o : Nat} {ra : Nat → Nat} {i len w0 w1 w2 w3 : Int32} {H : mj_H} {r : mj_O × mj_H} (hct : ct 0 = .int 1) (hO : oOK xt ct d O) (hsep : m_sep a ra) (hbo : m_out a ra b) (RN : ∀ h : mj_H, h.1 b = none → aN xt h b = some len) (hlt : mj_c2 .gt i (len - 4) = false) (R0 : ∀ h : mj_H, h.1 b = none → aI xt h b i = some w0) (R1 : ∀ h : mj_H, h.1 b = none → aI xt h b (i + 1) = some w1) (R2 : ∀ h : mj_H, h.1 b = none → aI xt h b (i + 2) = some w2) (R3 : ∀ h : mj_H, h.1 b = none → aI xt h b (i + 3) = some w3) (hb0 : H.1 b = none) (hw : w0 &&& 31 = 4)  (hx : gC H x = some 5) {q1 : Int32 × mj_H} (e1 : C75 xt ct O N x H = some q1) (hb1 : q1.2.1 b = none) {S : mS} (hm : md a ra S q1.2) {q2 : Int32 × mS} (e2 : M244 N S = some q2) (heq : q1.1 = q2.1) (hr : ∀ h', md a ra q2.2 h' → m_fr a ra q1.2 h' → LW xt ct d b x a o (i + 4) h' r) : LW xt ct d b x a o i H r := by
  intro l f
  obtain ⟨h1, r1, m1, g1⟩ := M244_ok (xt := xt) (ct := ct) (d := d) e2 hsep _ hm
  exact (
  r_iload c300_23 f.2.2.2.2 <|
  r_aloadn c300_25 f.1 <|
  c_len c300_26 (RN _ hb0) <|
  r_iconst c300_27 <|
  r_isub c300_28 rfl <|
  r_icmpF c300_29 hlt <|
  r_aloadn c300_32 f.1 <|
  r_iload c300_33 f.2.2.2.2 <|
  c_aI c300_35 (R0 _ hb0) <|
  r_bipush c300_36 <|
  r_iand c300_38 rfl <|
  c_sw c300_39_4 (decide_eq_true hw) <|
  r_aloadn c300_287 f.2.1 <|
  c_cal (st2 := [.int q1.1]) (s_cv (as := [.ref x]) (st' := []) c300_288 rfl hx ⟨Nat.le_of_ble_eq_true rfl, Nat.le_of_ble_eq_true rfl, Nat.le_of_ble_eq_true rfl⟩ rfl rfl) (C75_ok hct hO e1) (Nat.add_lt_add_left (by decide) d) rfl <|
  r_aloadn c300_291 f.2.2.1 <|
  c_cal (st2 := [.int q2.1, .int q1.1]) (s_cv (as := [.ref a]) (st' := [.int q1.1]) c300_292 rfl (md_gC hm) ⟨Nat.le_of_ble_eq_true rfl, Nat.le_of_ble_eq_true rfl, Nat.le_of_ble_eq_true rfl⟩ rfl rfl) r1 (Nat.add_lt_add_left (by decide) d) rfl <|
  r_icmpT c300_295 (decide_eq_true heq) <|
  r_iinc c300_1120 f.2.2.2.2 <|
  r_goto c300_1123 <|
  hr _ m1 g1 _ ⟨(ld1_ne f.1 (by decide) (Or.inl (by decide))), (ld1_ne f.2.1 (by decide) (Or.inl (by decide))), (ld1_ne f.2.2.1 (by decide) (Or.inl (by decide))), (ld1_ne f.2.2.2.1 (by decide) (Or.inr rfl)), ld1_eq⟩)
theorem law_5V {xt : mj_X} {ct : Nat → Value} {O : OR} {d N b x a o : Nat} {ra : Nat → Nat} {i len w0 w1 w2 w3 : Int32} {H : mj_H} {r : mj_O × mj_H} (hct : ct 0 = .int 1) (hO : oOK xt ct d O) (hsep : m_sep a ra) (hbo : m_out a ra b) (RN : ∀ h : mj_H, h.1 b = none → aN xt h b = some len) (hlt : mj_c2 .gt i (len - 4) = false) (R0 : ∀ h : mj_H, h.1 b = none → aI xt h b i = some w0) (R1 : ∀ h : mj_H, h.1 b = none → aI xt h b (i + 1) = some w1) (R2 : ∀ h : mj_H, h.1 b = none → aI xt h b (i + 2) = some w2) (R3 : ∀ h : mj_H, h.1 b = none → aI xt h b (i + 3) = some w3) (hb0 : H.1 b = none) (hw : w0 &&& 31 = 5) {q1 : Int32 × mj_H} (e1 : C119 xt ct O N x w1 o H = some q1) (hb1 : q1.2.1 b = none) {S : mS} (hm : md a ra S q1.2) (ho : m_out a ra o) {v0 : Int64} (hv0 : aL xt q1.2 o 0 = some v0) {q2 : Int32 × mS} (e2 : M245 N w1 S = some q2) {q3 : Int32 × mS} (e3 : M203 N q2.2 = some q3) (heq : q3.1 = q1.1) (hk : q1.1 = 0) (hv : v0 = (q2.1 : Int32).toInt64) (hr : ∀ h', md a ra q3.2 h' → m_fr a ra q1.2 h' → LW xt ct d b x a o (i + 4) h' r) : LW xt ct d b x a o i H r := by
  intro l f
  obtain ⟨h1, r1, m1, g1⟩ := M245_ok (xt := xt) (ct := ct) (d := d) e2 hsep _ hm
  obtain ⟨h2, r2, m2, g2⟩ := M203_ok (xt := xt) (ct := ct) (d := d) e3 hsep _ m1
  exact (
  r_iload c300_23 f.2.2.2.2 <|
  r_aloadn c300_25 f.1 <|
  c_len c300_26 (RN _ hb0) <|
  r_iconst c300_27 <|
  r_isub c300_28 rfl <|
  r_icmpF c300_29 hlt <|
  r_aloadn c300_32 f.1 <|
  r_iload c300_33 f.2.2.2.2 <|
  c_aI c300_35 (R0 _ hb0) <|
  r_bipush c300_36 <|
  r_iand c300_38 rfl <|
  c_sw c300_39_5 (decide_eq_true hw) <|
  r_aloadn c300_300 f.2.1 <|
  r_aloadn c300_301 f.1 <|
  r_iload c300_302 f.2.2.2.2 <|
  r_iconst c300_304 <|
  r_iadd c300_305 rfl <|
  c_aI c300_306 (R1 _ hb0) <|
  r_aloadn c300_307 f.2.2.2.1 <|
  c_cal (st2 := [.int q1.1]) (s_cs (as := [.ref x, .int w1, .ref o]) (st' := []) c300_308 ⟨Nat.le_of_ble_eq_true rfl, Nat.le_of_ble_eq_true rfl, Nat.le_of_ble_eq_true rfl⟩ rfl rfl) (C119_ok hct hO e1) (Nat.add_lt_add_left (by decide) d) rfl <|
  r_istore c300_311 <|
  r_aloadn c300_313 (ld1_ne f.2.2.1 (by decide) (Or.inl (by decide))) <|
  r_aloadn c300_314 (ld1_ne f.1 (by decide) (Or.inl (by decide))) <|
  r_iload c300_315 (ld1_ne f.2.2.2.2 (by decide) (Or.inr rfl)) <|
  r_iconst c300_317 <|
  r_iadd c300_318 rfl <|
  c_aI c300_319 (R1 _ hb1) <|
  c_cal (st2 := [.int q2.1]) (s_cv (as := [.ref a, .int w1]) (st' := []) c300_320 rfl (md_gC hm) ⟨Nat.le_of_ble_eq_true rfl, Nat.le_of_ble_eq_true rfl, Nat.le_of_ble_eq_true rfl⟩ rfl rfl) r1 (Nat.add_lt_add_left (by decide) d) rfl <|
  r_istore c300_323 <|
  r_aloadn c300_325 (ld1_ne (ld1_ne f.2.2.1 (by decide) (Or.inl (by decide))) (by decide) (Or.inl (by decide))) <|
  c_cal (st2 := [.int q3.1]) (s_cv (as := [.ref a]) (st' := []) c300_326 rfl (md_gC m1) ⟨Nat.le_of_ble_eq_true rfl, Nat.le_of_ble_eq_true rfl, Nat.le_of_ble_eq_true rfl⟩ rfl rfl) r2 (Nat.add_lt_add_left (by decide) d) rfl <|
  r_iload c300_329 (ld1_ne ld1_eq (by decide) (Or.inr rfl)) <|
  r_icmpT c300_331 (decide_eq_true heq) <|
  r_iload c300_336 (ld1_ne ld1_eq (by decide) (Or.inr rfl)) <|
  r_ifF c300_338 (decide_eq_false (fun z => z hk)) <|
  r_aloadn c300_341 (ld1_ne (ld1_ne f.2.2.2.1 (by decide) (Or.inl (by decide))) (by decide) (Or.inl (by decide))) <|
  r_iconst c300_342 <|
  c_aL c300_343 (m_aL (m_fr_trans g1 g2) ho hv0) <|
  r_iload c300_344 ld1_eq <|
  r_i2l c300_346 rfl <|
  r_lcmp c300_347 rfl <|
  r_ifT c300_348 (lg_eq hv) <|
  r_goto c300_353 <|
  r_iinc c300_1120 (ld1_ne (ld1_ne f.2.2.2.2 (by decide) (Or.inr rfl)) (by decide) (Or.inl (by decide))) <|
  r_goto c300_1123 <|
  hr _ m2 (m_fr_trans g1 g2) _ ⟨(ld1_ne (ld1_ne (ld1_ne f.1 (by decide) (Or.inl (by decide))) (by decide) (Or.inl (by decide))) (by decide) (Or.inl (by decide))), (ld1_ne (ld1_ne (ld1_ne f.2.1 (by decide) (Or.inl (by decide))) (by decide) (Or.inl (by decide))) (by decide) (Or.inl (by decide))), (ld1_ne (ld1_ne (ld1_ne f.2.2.1 (by decide) (Or.inl (by decide))) (by decide) (Or.inl (by decide))) (by decide) (Or.inl (by decide))), (ld1_ne (ld1_ne (ld1_ne f.2.2.2.1 (by decide) (Or.inl (by decide))) (by decide) (Or.inl (by decide))) (by decide) (Or.inr rfl)), ld1_eq⟩)
theorem law_5X {xt : mj_X} {ct : Nat → Value} {O : OR} {d N b x a o : Nat} {ra : Nat → Nat} {i len w0 w1 w2 w3 : Int32} {H : mj_H} {r : mj_O × mj_H} (hct : ct 0 = .int 1) (hO : oOK xt ct d O) (hsep : m_sep a ra) (hbo : m_out a ra b) (RN : ∀ h : mj_H, h.1 b = none → aN xt h b = some len) (hlt : mj_c2 .gt i (len - 4) = false) (R0 : ∀ h : mj_H, h.1 b = none → aI xt h b i = some w0) (R1 : ∀ h : mj_H, h.1 b = none → aI xt h b (i + 1) = some w1) (R2 : ∀ h : mj_H, h.1 b = none → aI xt h b (i + 2) = some w2) (R3 : ∀ h : mj_H, h.1 b = none → aI xt h b (i + 3) = some w3) (hb0 : H.1 b = none) (hw : w0 &&& 31 = 5) {q1 : Int32 × mj_H} (e1 : C119 xt ct O N x w1 o H = some q1) (hb1 : q1.2.1 b = none) {S : mS} (hm : md a ra S q1.2) {q2 : Int32 × mS} (e2 : M245 N w1 S = some q2) {q3 : Int32 × mS} (e3 : M203 N q2.2 = some q3) (heq : q3.1 = q1.1) (hk : q1.1 ≠ 0) (hr : ∀ h', md a ra q3.2 h' → m_fr a ra q1.2 h' → LW xt ct d b x a o (i + 4) h' r) : LW xt ct d b x a o i H r := by
  intro l f
  obtain ⟨h1, r1, m1, g1⟩ := M245_ok (xt := xt) (ct := ct) (d := d) e2 hsep _ hm
  obtain ⟨h2, r2, m2, g2⟩ := M203_ok (xt := xt) (ct := ct) (d := d) e3 hsep _ m1
  exact (
  r_iload c300_23 f.2.2.2.2 <|
  r_aloadn c300_25 f.1 <|
  c_len c300_26 (RN _ hb0) <|
  r_iconst c300_27 <|
  r_isub c300_28 rfl <|
  r_icmpF c300_29 hlt <|
  r_aloadn c300_32 f.1 <|
  r_iload c300_33 f.2.2.2.2 <|
  c_aI c300_35 (R0 _ hb0) <|
  r_bipush c300_36 <|
  r_iand c300_38 rfl <|
  c_sw c300_39_5 (decide_eq_true hw) <|
  r_aloadn c300_300 f.2.1 <|
  r_aloadn c300_301 f.1 <|
  r_iload c300_302 f.2.2.2.2 <|
  r_iconst c300_304 <|
  r_iadd c300_305 rfl <|
  c_aI c300_306 (R1 _ hb0) <|
  r_aloadn c300_307 f.2.2.2.1 <|
  c_cal (st2 := [.int q1.1]) (s_cs (as := [.ref x, .int w1, .ref o]) (st' := []) c300_308 ⟨Nat.le_of_ble_eq_true rfl, Nat.le_of_ble_eq_true rfl, Nat.le_of_ble_eq_true rfl⟩ rfl rfl) (C119_ok hct hO e1) (Nat.add_lt_add_left (by decide) d) rfl <|
  r_istore c300_311 <|
  r_aloadn c300_313 (ld1_ne f.2.2.1 (by decide) (Or.inl (by decide))) <|
  r_aloadn c300_314 (ld1_ne f.1 (by decide) (Or.inl (by decide))) <|
  r_iload c300_315 (ld1_ne f.2.2.2.2 (by decide) (Or.inr rfl)) <|
  r_iconst c300_317 <|
  r_iadd c300_318 rfl <|
  c_aI c300_319 (R1 _ hb1) <|
  c_cal (st2 := [.int q2.1]) (s_cv (as := [.ref a, .int w1]) (st' := []) c300_320 rfl (md_gC hm) ⟨Nat.le_of_ble_eq_true rfl, Nat.le_of_ble_eq_true rfl, Nat.le_of_ble_eq_true rfl⟩ rfl rfl) r1 (Nat.add_lt_add_left (by decide) d) rfl <|
  r_istore c300_323 <|
  r_aloadn c300_325 (ld1_ne (ld1_ne f.2.2.1 (by decide) (Or.inl (by decide))) (by decide) (Or.inl (by decide))) <|
  c_cal (st2 := [.int q3.1]) (s_cv (as := [.ref a]) (st' := []) c300_326 rfl (md_gC m1) ⟨Nat.le_of_ble_eq_true rfl, Nat.le_of_ble_eq_true rfl, Nat.le_of_ble_eq_true rfl⟩ rfl rfl) r2 (Nat.add_lt_add_left (by decide) d) rfl <|
  r_iload c300_329 (ld1_ne ld1_eq (by decide) (Or.inr rfl)) <|
  r_icmpT c300_331 (decide_eq_true heq) <|
  r_iload c300_336 (ld1_ne ld1_eq (by decide) (Or.inr rfl)) <|
  r_ifT c300_338 (decide_eq_true hk) <|
  r_goto c300_353 <|
  r_iinc c300_1120 (ld1_ne (ld1_ne f.2.2.2.2 (by decide) (Or.inr rfl)) (by decide) (Or.inl (by decide))) <|
  r_goto c300_1123 <|
  hr _ m2 (m_fr_trans g1 g2) _ ⟨(ld1_ne (ld1_ne (ld1_ne f.1 (by decide) (Or.inl (by decide))) (by decide) (Or.inl (by decide))) (by decide) (Or.inl (by decide))), (ld1_ne (ld1_ne (ld1_ne f.2.1 (by decide) (Or.inl (by decide))) (by decide) (Or.inl (by decide))) (by decide) (Or.inl (by decide))), (ld1_ne (ld1_ne (ld1_ne f.2.2.1 (by decide) (Or.inl (by decide))) (by decide) (Or.inl (by decide))) (by decide) (Or.inl (by decide))), (ld1_ne (ld1_ne (ld1_ne f.2.2.2.1 (by decide) (Or.inl (by decide))) (by decide) (Or.inl (by decide))) (by decide) (Or.inr rfl)), ld1_eq⟩)
theorem law_6V {xt : mj_X} {ct : Nat → Value} {O : OR} {d N b x a o : Nat} {ra : Nat → Nat} {i len w0 w1 w2 w3 : Int32} {H : mj_H} {r : mj_O × mj_H} (hct : ct 0 = .int 1) (hO : oOK xt ct d O) (hsep : m_sep a ra) (hbo : m_out a ra b) (RN : ∀ h : mj_H, h.1 b = none → aN xt h b = some len) (hlt : mj_c2 .gt i (len - 4) = false) (R0 : ∀ h : mj_H, h.1 b = none → aI xt h b i = some w0) (R1 : ∀ h : mj_H, h.1 b = none → aI xt h b (i + 1) = some w1) (R2 : ∀ h : mj_H, h.1 b = none → aI xt h b (i + 2) = some w2) (R3 : ∀ h : mj_H, h.1 b = none → aI xt h b (i + 3) = some w3) (hb0 : H.1 b = none) (hw : w0 &&& 31 = 6) {q1 : Int32 × mj_H} (e1 : C133 xt ct O N x w1 o H = some q1) (hb1 : q1.2.1 b = none) {S : mS} (hm : md a ra S q1.2) (ho : m_out a ra o) {v0 : Int64} (hv0 : aL xt q1.2 o 0 = some v0) {q2 : Int32 × mS} (e2 : M259 N w1 S = some q2) {q3 : Int32 × mS} (e3 : M203 N q2.2 = some q3) (heq : q3.1 = q1.1) (hk : q1.1 = 0) (hv : v0 = (q2.1 : Int32).toInt64) (hr : ∀ h', md a ra q3.2 h' → m_fr a ra q1.2 h' → LW xt ct d b x a o (i + 4) h' r) : LW xt ct d b x a o i H r := by
  intro l f
  obtain ⟨h1, r1, m1, g1⟩ := M259_ok (xt := xt) (ct := ct) (d := d) e2 hsep _ hm
  obtain ⟨h2, r2, m2, g2⟩ := M203_ok (xt := xt) (ct := ct) (d := d) e3 hsep _ m1
  exact (
  r_iload c300_23 f.2.2.2.2 <|
  r_aloadn c300_25 f.1 <|
  c_len c300_26 (RN _ hb0) <|
  r_iconst c300_27 <|
  r_isub c300_28 rfl <|
  r_icmpF c300_29 hlt <|
  r_aloadn c300_32 f.1 <|
  r_iload c300_33 f.2.2.2.2 <|
  c_aI c300_35 (R0 _ hb0) <|
  r_bipush c300_36 <|
  r_iand c300_38 rfl <|
  c_sw c300_39_6 (decide_eq_true hw) <|
  r_aloadn c300_356 f.2.1 <|
  r_aloadn c300_357 f.1 <|
  r_iload c300_358 f.2.2.2.2 <|
  r_iconst c300_360 <|
  r_iadd c300_361 rfl <|
  c_aI c300_362 (R1 _ hb0) <|
  r_aloadn c300_363 f.2.2.2.1 <|
  c_cal (st2 := [.int q1.1]) (s_cs (as := [.ref x, .int w1, .ref o]) (st' := []) c300_364 ⟨Nat.le_of_ble_eq_true rfl, Nat.le_of_ble_eq_true rfl, Nat.le_of_ble_eq_true rfl⟩ rfl rfl) (C133_ok hct hO e1) (Nat.add_lt_add_left (by decide) d) rfl <|
  r_istore c300_367 <|
  r_aloadn c300_369 (ld1_ne f.2.2.1 (by decide) (Or.inl (by decide))) <|
  r_aloadn c300_370 (ld1_ne f.1 (by decide) (Or.inl (by decide))) <|
  r_iload c300_371 (ld1_ne f.2.2.2.2 (by decide) (Or.inr rfl)) <|
  r_iconst c300_373 <|
  r_iadd c300_374 rfl <|
  c_aI c300_375 (R1 _ hb1) <|
  c_cal (st2 := [.int q2.1]) (s_cv (as := [.ref a, .int w1]) (st' := []) c300_376 rfl (md_gC hm) ⟨Nat.le_of_ble_eq_true rfl, Nat.le_of_ble_eq_true rfl, Nat.le_of_ble_eq_true rfl⟩ rfl rfl) r1 (Nat.add_lt_add_left (by decide) d) rfl <|
  r_istore c300_379 <|
  r_aloadn c300_381 (ld1_ne (ld1_ne f.2.2.1 (by decide) (Or.inl (by decide))) (by decide) (Or.inl (by decide))) <|
  c_cal (st2 := [.int q3.1]) (s_cv (as := [.ref a]) (st' := []) c300_382 rfl (md_gC m1) ⟨Nat.le_of_ble_eq_true rfl, Nat.le_of_ble_eq_true rfl, Nat.le_of_ble_eq_true rfl⟩ rfl rfl) r2 (Nat.add_lt_add_left (by decide) d) rfl <|
  r_iload c300_385 (ld1_ne ld1_eq (by decide) (Or.inr rfl)) <|
  r_icmpT c300_387 (decide_eq_true heq) <|
  r_iload c300_392 (ld1_ne ld1_eq (by decide) (Or.inr rfl)) <|
  r_ifF c300_394 (decide_eq_false (fun z => z hk)) <|
  r_aloadn c300_397 (ld1_ne (ld1_ne f.2.2.2.1 (by decide) (Or.inl (by decide))) (by decide) (Or.inl (by decide))) <|
  r_iconst c300_398 <|
  c_aL c300_399 (m_aL (m_fr_trans g1 g2) ho hv0) <|
  r_iload c300_400 ld1_eq <|
  r_i2l c300_402 rfl <|
  r_lcmp c300_403 rfl <|
  r_ifT c300_404 (lg_eq hv) <|
  r_goto c300_409 <|
  r_iinc c300_1120 (ld1_ne (ld1_ne f.2.2.2.2 (by decide) (Or.inr rfl)) (by decide) (Or.inl (by decide))) <|
  r_goto c300_1123 <|
  hr _ m2 (m_fr_trans g1 g2) _ ⟨(ld1_ne (ld1_ne (ld1_ne f.1 (by decide) (Or.inl (by decide))) (by decide) (Or.inl (by decide))) (by decide) (Or.inl (by decide))), (ld1_ne (ld1_ne (ld1_ne f.2.1 (by decide) (Or.inl (by decide))) (by decide) (Or.inl (by decide))) (by decide) (Or.inl (by decide))), (ld1_ne (ld1_ne (ld1_ne f.2.2.1 (by decide) (Or.inl (by decide))) (by decide) (Or.inl (by decide))) (by decide) (Or.inl (by decide))), (ld1_ne (ld1_ne (ld1_ne f.2.2.2.1 (by decide) (Or.inl (by decide))) (by decide) (Or.inl (by decide))) (by decide) (Or.inr rfl)), ld1_eq⟩)
theorem law_6X {xt : mj_X} {ct : Nat → Value} {O : OR} {d N b x a o : Nat} {ra : Nat → Nat} {i len w0 w1 w2 w3 : Int32} {H : mj_H} {r : mj_O × mj_H} (hct : ct 0 = .int 1) (hO : oOK xt ct d O) (hsep : m_sep a ra) (hbo : m_out a ra b) (RN : ∀ h : mj_H, h.1 b = none → aN xt h b = some len) (hlt : mj_c2 .gt i (len - 4) = false) (R0 : ∀ h : mj_H, h.1 b = none → aI xt h b i = some w0) (R1 : ∀ h : mj_H, h.1 b = none → aI xt h b (i + 1) = some w1) (R2 : ∀ h : mj_H, h.1 b = none → aI xt h b (i + 2) = some w2) (R3 : ∀ h : mj_H, h.1 b = none → aI xt h b (i + 3) = some w3) (hb0 : H.1 b = none) (hw : w0 &&& 31 = 6) {q1 : Int32 × mj_H} (e1 : C133 xt ct O N x w1 o H = some q1) (hb1 : q1.2.1 b = none) {S : mS} (hm : md a ra S q1.2) {q2 : Int32 × mS} (e2 : M259 N w1 S = some q2) {q3 : Int32 × mS} (e3 : M203 N q2.2 = some q3) (heq : q3.1 = q1.1) (hk : q1.1 ≠ 0) (hr : ∀ h', md a ra q3.2 h' → m_fr a ra q1.2 h' → LW xt ct d b x a o (i + 4) h' r) : LW xt ct d b x a o i H r := by
  intro l f
  obtain ⟨h1, r1, m1, g1⟩ := M259_ok (xt := xt) (ct := ct) (d := d) e2 hsep _ hm
  obtain ⟨h2, r2, m2, g2⟩ := M203_ok (xt := xt) (ct := ct) (d := d) e3 hsep _ m1
  exact (
  r_iload c300_23 f.2.2.2.2 <|
  r_aloadn c300_25 f.1 <|
  c_len c300_26 (RN _ hb0) <|
  r_iconst c300_27 <|
  r_isub c300_28 rfl <|
  r_icmpF c300_29 hlt <|
  r_aloadn c300_32 f.1 <|
  r_iload c300_33 f.2.2.2.2 <|
  c_aI c300_35 (R0 _ hb0) <|
  r_bipush c300_36 <|
  r_iand c300_38 rfl <|
  c_sw c300_39_6 (decide_eq_true hw) <|
  r_aloadn c300_356 f.2.1 <|
  r_aloadn c300_357 f.1 <|
  r_iload c300_358 f.2.2.2.2 <|
  r_iconst c300_360 <|
  r_iadd c300_361 rfl <|
  c_aI c300_362 (R1 _ hb0) <|
  r_aloadn c300_363 f.2.2.2.1 <|
  c_cal (st2 := [.int q1.1]) (s_cs (as := [.ref x, .int w1, .ref o]) (st' := []) c300_364 ⟨Nat.le_of_ble_eq_true rfl, Nat.le_of_ble_eq_true rfl, Nat.le_of_ble_eq_true rfl⟩ rfl rfl) (C133_ok hct hO e1) (Nat.add_lt_add_left (by decide) d) rfl <|
  r_istore c300_367 <|
  r_aloadn c300_369 (ld1_ne f.2.2.1 (by decide) (Or.inl (by decide))) <|
  r_aloadn c300_370 (ld1_ne f.1 (by decide) (Or.inl (by decide))) <|
  r_iload c300_371 (ld1_ne f.2.2.2.2 (by decide) (Or.inr rfl)) <|
  r_iconst c300_373 <|
  r_iadd c300_374 rfl <|
  c_aI c300_375 (R1 _ hb1) <|
  c_cal (st2 := [.int q2.1]) (s_cv (as := [.ref a, .int w1]) (st' := []) c300_376 rfl (md_gC hm) ⟨Nat.le_of_ble_eq_true rfl, Nat.le_of_ble_eq_true rfl, Nat.le_of_ble_eq_true rfl⟩ rfl rfl) r1 (Nat.add_lt_add_left (by decide) d) rfl <|
  r_istore c300_379 <|
  r_aloadn c300_381 (ld1_ne (ld1_ne f.2.2.1 (by decide) (Or.inl (by decide))) (by decide) (Or.inl (by decide))) <|
  c_cal (st2 := [.int q3.1]) (s_cv (as := [.ref a]) (st' := []) c300_382 rfl (md_gC m1) ⟨Nat.le_of_ble_eq_true rfl, Nat.le_of_ble_eq_true rfl, Nat.le_of_ble_eq_true rfl⟩ rfl rfl) r2 (Nat.add_lt_add_left (by decide) d) rfl <|
  r_iload c300_385 (ld1_ne ld1_eq (by decide) (Or.inr rfl)) <|
  r_icmpT c300_387 (decide_eq_true heq) <|
  r_iload c300_392 (ld1_ne ld1_eq (by decide) (Or.inr rfl)) <|
  r_ifT c300_394 (decide_eq_true hk) <|
  r_goto c300_409 <|
  r_iinc c300_1120 (ld1_ne (ld1_ne f.2.2.2.2 (by decide) (Or.inr rfl)) (by decide) (Or.inl (by decide))) <|
  r_goto c300_1123 <|
  hr _ m2 (m_fr_trans g1 g2) _ ⟨(ld1_ne (ld1_ne (ld1_ne f.1 (by decide) (Or.inl (by decide))) (by decide) (Or.inl (by decide))) (by decide) (Or.inl (by decide))), (ld1_ne (ld1_ne (ld1_ne f.2.1 (by decide) (Or.inl (by decide))) (by decide) (Or.inl (by decide))) (by decide) (Or.inl (by decide))), (ld1_ne (ld1_ne (ld1_ne f.2.2.1 (by decide) (Or.inl (by decide))) (by decide) (Or.inl (by decide))) (by decide) (Or.inl (by decide))), (ld1_ne (ld1_ne (ld1_ne f.2.2.2.1 (by decide) (Or.inl (by decide))) (by decide) (Or.inl (by decide))) (by decide) (Or.inr rfl)), ld1_eq⟩)
theorem law_7 {xt : mj_X} {ct : Nat → Value} {O : OR} {d N b x a o : Nat} {ra : Nat → Nat} {i len w0 w1 w2 w3 : Int32} {H : mj_H} {r : mj_O × mj_H} (hct : ct 0 = .int 1) (hO : oOK xt ct d O) (hsep : m_sep a ra) (hbo : m_out a ra b) (RN : ∀ h : mj_H, h.1 b = none → aN xt h b = some len) (hlt : mj_c2 .gt i (len - 4) = false) (R0 : ∀ h : mj_H, h.1 b = none → aI xt h b i = some w0) (R1 : ∀ h : mj_H, h.1 b = none → aI xt h b (i + 1) = some w1) (R2 : ∀ h : mj_H, h.1 b = none → aI xt h b (i + 2) = some w2) (R3 : ∀ h : mj_H, h.1 b = none → aI xt h b (i + 3) = some w3) (hb0 : H.1 b = none) (hw : w0 &&& 31 = 7)  (hx : gC H x = some 5) {q1 : Int32 × mj_H} (e1 : C76 xt ct O N x H = some q1) (hb1 : q1.2.1 b = none) {S : mS} (hm : md a ra S q1.2) {q2 : Int32 × mS} (e2 : M288 N S = some q2) (heq : q1.1 = q2.1) (hr : ∀ h', md a ra q2.2 h' → m_fr a ra q1.2 h' → LW xt ct d b x a o (i + 4) h' r) : LW xt ct d b x a o i H r := by
  intro l f
  obtain ⟨h1, r1, m1, g1⟩ := M288_ok (xt := xt) (ct := ct) (d := d) e2 hsep _ hm
  exact (
  r_iload c300_23 f.2.2.2.2 <|
  r_aloadn c300_25 f.1 <|
  c_len c300_26 (RN _ hb0) <|
  r_iconst c300_27 <|
  r_isub c300_28 rfl <|
  r_icmpF c300_29 hlt <|
  r_aloadn c300_32 f.1 <|
  r_iload c300_33 f.2.2.2.2 <|
  c_aI c300_35 (R0 _ hb0) <|
  r_bipush c300_36 <|
  r_iand c300_38 rfl <|
  c_sw c300_39_7 (decide_eq_true hw) <|
  r_aloadn c300_412 f.2.1 <|
  c_cal (st2 := [.int q1.1]) (s_cv (as := [.ref x]) (st' := []) c300_413 rfl hx ⟨Nat.le_of_ble_eq_true rfl, Nat.le_of_ble_eq_true rfl, Nat.le_of_ble_eq_true rfl⟩ rfl rfl) (C76_ok hct hO e1) (Nat.add_lt_add_left (by decide) d) rfl <|
  r_aloadn c300_416 f.2.2.1 <|
  c_cal (st2 := [.int q2.1, .int q1.1]) (s_cv (as := [.ref a]) (st' := [.int q1.1]) c300_417 rfl (md_gC hm) ⟨Nat.le_of_ble_eq_true rfl, Nat.le_of_ble_eq_true rfl, Nat.le_of_ble_eq_true rfl⟩ rfl rfl) r1 (Nat.add_lt_add_left (by decide) d) rfl <|
  r_icmpT c300_420 (decide_eq_true heq) <|
  r_iinc c300_1120 f.2.2.2.2 <|
  r_goto c300_1123 <|
  hr _ m1 g1 _ ⟨(ld1_ne f.1 (by decide) (Or.inl (by decide))), (ld1_ne f.2.1 (by decide) (Or.inl (by decide))), (ld1_ne f.2.2.1 (by decide) (Or.inl (by decide))), (ld1_ne f.2.2.2.1 (by decide) (Or.inr rfl)), ld1_eq⟩)
theorem law_8V {xt : mj_X} {ct : Nat → Value} {O : OR} {d N b x a o : Nat} {ra : Nat → Nat} {i len w0 w1 w2 w3 : Int32} {H : mj_H} {r : mj_O × mj_H} (hct : ct 0 = .int 1) (hO : oOK xt ct d O) (hsep : m_sep a ra) (hbo : m_out a ra b) (RN : ∀ h : mj_H, h.1 b = none → aN xt h b = some len) (hlt : mj_c2 .gt i (len - 4) = false) (R0 : ∀ h : mj_H, h.1 b = none → aI xt h b i = some w0) (R1 : ∀ h : mj_H, h.1 b = none → aI xt h b (i + 1) = some w1) (R2 : ∀ h : mj_H, h.1 b = none → aI xt h b (i + 2) = some w2) (R3 : ∀ h : mj_H, h.1 b = none → aI xt h b (i + 3) = some w3) (hb0 : H.1 b = none) (hw : w0 &&& 31 = 8) {q1 : Int32 × mj_H} (e1 : C177 xt ct O N x w1 o H = some q1) (hb1 : q1.2.1 b = none) {S : mS} (hm : md a ra S q1.2) (ho : m_out a ra o) {v0 : Int64} (hv0 : aL xt q1.2 o 0 = some v0) {q2 : Int64 × mS} (e2 : M258 N w1 S = some q2) {q3 : Int32 × mS} (e3 : M203 N q2.2 = some q3) (heq : q3.1 = q1.1) (hk : q1.1 = 0) (hv : v0 = q2.1) (hr : ∀ h', md a ra q3.2 h' → m_fr a ra q1.2 h' → LW xt ct d b x a o (i + 4) h' r) : LW xt ct d b x a o i H r := by
  intro l f
  obtain ⟨h1, r1, m1, g1⟩ := M258_ok (xt := xt) (ct := ct) (d := d) e2 hsep _ hm
  obtain ⟨h2, r2, m2, g2⟩ := M203_ok (xt := xt) (ct := ct) (d := d) e3 hsep _ m1
  exact (
  r_iload c300_23 f.2.2.2.2 <|
  r_aloadn c300_25 f.1 <|
  c_len c300_26 (RN _ hb0) <|
  r_iconst c300_27 <|
  r_isub c300_28 rfl <|
  r_icmpF c300_29 hlt <|
  r_aloadn c300_32 f.1 <|
  r_iload c300_33 f.2.2.2.2 <|
  c_aI c300_35 (R0 _ hb0) <|
  r_bipush c300_36 <|
  r_iand c300_38 rfl <|
  c_sw c300_39_8 (decide_eq_true hw) <|
  r_aloadn c300_425 f.2.1 <|
  r_aloadn c300_426 f.1 <|
  r_iload c300_427 f.2.2.2.2 <|
  r_iconst c300_429 <|
  r_iadd c300_430 rfl <|
  c_aI c300_431 (R1 _ hb0) <|
  r_aloadn c300_432 f.2.2.2.1 <|
  c_cal (st2 := [.int q1.1]) (s_cs (as := [.ref x, .int w1, .ref o]) (st' := []) c300_433 ⟨Nat.le_of_ble_eq_true rfl, Nat.le_of_ble_eq_true rfl, Nat.le_of_ble_eq_true rfl⟩ rfl rfl) (C177_ok hct hO e1) (Nat.add_lt_add_left (by decide) d) rfl <|
  r_istore c300_436 <|
  r_aloadn c300_438 (ld1_ne f.2.2.1 (by decide) (Or.inl (by decide))) <|
  r_aloadn c300_439 (ld1_ne f.1 (by decide) (Or.inl (by decide))) <|
  r_iload c300_440 (ld1_ne f.2.2.2.2 (by decide) (Or.inr rfl)) <|
  r_iconst c300_442 <|
  r_iadd c300_443 rfl <|
  c_aI c300_444 (R1 _ hb1) <|
  c_cal (st2 := [.long q2.1]) (s_cv (as := [.ref a, .int w1]) (st' := []) c300_445 rfl (md_gC hm) ⟨Nat.le_of_ble_eq_true rfl, Nat.le_of_ble_eq_true rfl, Nat.le_of_ble_eq_true rfl⟩ rfl rfl) r1 (Nat.add_lt_add_left (by decide) d) rfl <|
  r_lstore c300_448 <|
  r_aloadn c300_450 (ld2_ne (ld1_ne f.2.2.1 (by decide) (Or.inl (by decide))) (by decide) (Or.inl (by decide))) <|
  c_cal (st2 := [.int q3.1]) (s_cv (as := [.ref a]) (st' := []) c300_451 rfl (md_gC m1) ⟨Nat.le_of_ble_eq_true rfl, Nat.le_of_ble_eq_true rfl, Nat.le_of_ble_eq_true rfl⟩ rfl rfl) r2 (Nat.add_lt_add_left (by decide) d) rfl <|
  r_iload c300_454 (ld2_ne ld1_eq (by decide) (Or.inr rfl)) <|
  r_icmpT c300_456 (decide_eq_true heq) <|
  r_iload c300_461 (ld2_ne ld1_eq (by decide) (Or.inr rfl)) <|
  r_ifF c300_463 (decide_eq_false (fun z => z hk)) <|
  r_aloadn c300_466 (ld2_ne (ld1_ne f.2.2.2.1 (by decide) (Or.inl (by decide))) (by decide) (Or.inl (by decide))) <|
  r_iconst c300_467 <|
  c_aL c300_468 (m_aL (m_fr_trans g1 g2) ho hv0) <|
  r_lload c300_469 ld2_eq <|
  r_lcmp c300_471 rfl <|
  r_ifT c300_472 (lg_eq hv) <|
  r_goto c300_477 <|
  r_iinc c300_1120 (ld2_ne (ld1_ne f.2.2.2.2 (by decide) (Or.inr rfl)) (by decide) (Or.inl (by decide))) <|
  r_goto c300_1123 <|
  hr _ m2 (m_fr_trans g1 g2) _ ⟨(ld1_ne (ld2_ne (ld1_ne f.1 (by decide) (Or.inl (by decide))) (by decide) (Or.inl (by decide))) (by decide) (Or.inl (by decide))), (ld1_ne (ld2_ne (ld1_ne f.2.1 (by decide) (Or.inl (by decide))) (by decide) (Or.inl (by decide))) (by decide) (Or.inl (by decide))), (ld1_ne (ld2_ne (ld1_ne f.2.2.1 (by decide) (Or.inl (by decide))) (by decide) (Or.inl (by decide))) (by decide) (Or.inl (by decide))), (ld1_ne (ld2_ne (ld1_ne f.2.2.2.1 (by decide) (Or.inl (by decide))) (by decide) (Or.inl (by decide))) (by decide) (Or.inr rfl)), ld1_eq⟩)
theorem law_8X {xt : mj_X} {ct : Nat → Value} {O : OR} {d N b x a o : Nat} {ra : Nat → Nat} {i len w0 w1 w2 w3 : Int32} {H : mj_H} {r : mj_O × mj_H} (hct : ct 0 = .int 1) (hO : oOK xt ct d O) (hsep : m_sep a ra) (hbo : m_out a ra b) (RN : ∀ h : mj_H, h.1 b = none → aN xt h b = some len) (hlt : mj_c2 .gt i (len - 4) = false) (R0 : ∀ h : mj_H, h.1 b = none → aI xt h b i = some w0) (R1 : ∀ h : mj_H, h.1 b = none → aI xt h b (i + 1) = some w1) (R2 : ∀ h : mj_H, h.1 b = none → aI xt h b (i + 2) = some w2) (R3 : ∀ h : mj_H, h.1 b = none → aI xt h b (i + 3) = some w3) (hb0 : H.1 b = none) (hw : w0 &&& 31 = 8) {q1 : Int32 × mj_H} (e1 : C177 xt ct O N x w1 o H = some q1) (hb1 : q1.2.1 b = none) {S : mS} (hm : md a ra S q1.2) {q2 : Int64 × mS} (e2 : M258 N w1 S = some q2) {q3 : Int32 × mS} (e3 : M203 N q2.2 = some q3) (heq : q3.1 = q1.1) (hk : q1.1 ≠ 0) (hr : ∀ h', md a ra q3.2 h' → m_fr a ra q1.2 h' → LW xt ct d b x a o (i + 4) h' r) : LW xt ct d b x a o i H r := by
  intro l f
  obtain ⟨h1, r1, m1, g1⟩ := M258_ok (xt := xt) (ct := ct) (d := d) e2 hsep _ hm
  obtain ⟨h2, r2, m2, g2⟩ := M203_ok (xt := xt) (ct := ct) (d := d) e3 hsep _ m1
  exact (
  r_iload c300_23 f.2.2.2.2 <|
  r_aloadn c300_25 f.1 <|
  c_len c300_26 (RN _ hb0) <|
  r_iconst c300_27 <|
  r_isub c300_28 rfl <|
  r_icmpF c300_29 hlt <|
  r_aloadn c300_32 f.1 <|
  r_iload c300_33 f.2.2.2.2 <|
  c_aI c300_35 (R0 _ hb0) <|
  r_bipush c300_36 <|
  r_iand c300_38 rfl <|
  c_sw c300_39_8 (decide_eq_true hw) <|
  r_aloadn c300_425 f.2.1 <|
  r_aloadn c300_426 f.1 <|
  r_iload c300_427 f.2.2.2.2 <|
  r_iconst c300_429 <|
  r_iadd c300_430 rfl <|
  c_aI c300_431 (R1 _ hb0) <|
  r_aloadn c300_432 f.2.2.2.1 <|
  c_cal (st2 := [.int q1.1]) (s_cs (as := [.ref x, .int w1, .ref o]) (st' := []) c300_433 ⟨Nat.le_of_ble_eq_true rfl, Nat.le_of_ble_eq_true rfl, Nat.le_of_ble_eq_true rfl⟩ rfl rfl) (C177_ok hct hO e1) (Nat.add_lt_add_left (by decide) d) rfl <|
  r_istore c300_436 <|
  r_aloadn c300_438 (ld1_ne f.2.2.1 (by decide) (Or.inl (by decide))) <|
  r_aloadn c300_439 (ld1_ne f.1 (by decide) (Or.inl (by decide))) <|
  r_iload c300_440 (ld1_ne f.2.2.2.2 (by decide) (Or.inr rfl)) <|
  r_iconst c300_442 <|
  r_iadd c300_443 rfl <|
  c_aI c300_444 (R1 _ hb1) <|
  c_cal (st2 := [.long q2.1]) (s_cv (as := [.ref a, .int w1]) (st' := []) c300_445 rfl (md_gC hm) ⟨Nat.le_of_ble_eq_true rfl, Nat.le_of_ble_eq_true rfl, Nat.le_of_ble_eq_true rfl⟩ rfl rfl) r1 (Nat.add_lt_add_left (by decide) d) rfl <|
  r_lstore c300_448 <|
  r_aloadn c300_450 (ld2_ne (ld1_ne f.2.2.1 (by decide) (Or.inl (by decide))) (by decide) (Or.inl (by decide))) <|
  c_cal (st2 := [.int q3.1]) (s_cv (as := [.ref a]) (st' := []) c300_451 rfl (md_gC m1) ⟨Nat.le_of_ble_eq_true rfl, Nat.le_of_ble_eq_true rfl, Nat.le_of_ble_eq_true rfl⟩ rfl rfl) r2 (Nat.add_lt_add_left (by decide) d) rfl <|
  r_iload c300_454 (ld2_ne ld1_eq (by decide) (Or.inr rfl)) <|
  r_icmpT c300_456 (decide_eq_true heq) <|
  r_iload c300_461 (ld2_ne ld1_eq (by decide) (Or.inr rfl)) <|
  r_ifT c300_463 (decide_eq_true hk) <|
  r_goto c300_477 <|
  r_iinc c300_1120 (ld2_ne (ld1_ne f.2.2.2.2 (by decide) (Or.inr rfl)) (by decide) (Or.inl (by decide))) <|
  r_goto c300_1123 <|
  hr _ m2 (m_fr_trans g1 g2) _ ⟨(ld1_ne (ld2_ne (ld1_ne f.1 (by decide) (Or.inl (by decide))) (by decide) (Or.inl (by decide))) (by decide) (Or.inl (by decide))), (ld1_ne (ld2_ne (ld1_ne f.2.1 (by decide) (Or.inl (by decide))) (by decide) (Or.inl (by decide))) (by decide) (Or.inl (by decide))), (ld1_ne (ld2_ne (ld1_ne f.2.2.1 (by decide) (Or.inl (by decide))) (by decide) (Or.inl (by decide))) (by decide) (Or.inl (by decide))), (ld1_ne (ld2_ne (ld1_ne f.2.2.2.1 (by decide) (Or.inl (by decide))) (by decide) (Or.inl (by decide))) (by decide) (Or.inr rfl)), ld1_eq⟩)
theorem law_9V {xt : mj_X} {ct : Nat → Value} {O : OR} {d N b x a o : Nat} {ra : Nat → Nat} {i len w0 w1 w2 w3 : Int32} {H : mj_H} {r : mj_O × mj_H} (hct : ct 0 = .int 1) (hO : oOK xt ct d O) (hsep : m_sep a ra) (hbo : m_out a ra b) (RN : ∀ h : mj_H, h.1 b = none → aN xt h b = some len) (hlt : mj_c2 .gt i (len - 4) = false) (R0 : ∀ h : mj_H, h.1 b = none → aI xt h b i = some w0) (R1 : ∀ h : mj_H, h.1 b = none → aI xt h b (i + 1) = some w1) (R2 : ∀ h : mj_H, h.1 b = none → aI xt h b (i + 2) = some w2) (R3 : ∀ h : mj_H, h.1 b = none → aI xt h b (i + 3) = some w3) (hb0 : H.1 b = none) (hw : w0 &&& 31 = 9) {q1 : Int32 × mj_H} (e1 : C179 xt ct O N x w1 o H = some q1) (hb1 : q1.2.1 b = none) {S : mS} (hm : md a ra S q1.2) (ho : m_out a ra o) {v0 : Int64} (hv0 : aL xt q1.2 o 0 = some v0) {q2 : Int32 × mS} (e2 : M289 N w1 S = some q2) {q3 : Int32 × mS} (e3 : M203 N q2.2 = some q3) (heq : q3.1 = q1.1) (hk : q1.1 = 0) (hv : v0 = (q2.1 : Int32).toInt64) (hr : ∀ h', md a ra q3.2 h' → m_fr a ra q1.2 h' → LW xt ct d b x a o (i + 4) h' r) : LW xt ct d b x a o i H r := by
  intro l f
  obtain ⟨h1, r1, m1, g1⟩ := M289_ok (xt := xt) (ct := ct) (d := d) e2 hsep _ hm
  obtain ⟨h2, r2, m2, g2⟩ := M203_ok (xt := xt) (ct := ct) (d := d) e3 hsep _ m1
  exact (
  r_iload c300_23 f.2.2.2.2 <|
  r_aloadn c300_25 f.1 <|
  c_len c300_26 (RN _ hb0) <|
  r_iconst c300_27 <|
  r_isub c300_28 rfl <|
  r_icmpF c300_29 hlt <|
  r_aloadn c300_32 f.1 <|
  r_iload c300_33 f.2.2.2.2 <|
  c_aI c300_35 (R0 _ hb0) <|
  r_bipush c300_36 <|
  r_iand c300_38 rfl <|
  c_sw c300_39_9 (decide_eq_true hw) <|
  r_aloadn c300_480 f.2.1 <|
  r_aloadn c300_481 f.1 <|
  r_iload c300_482 f.2.2.2.2 <|
  r_iconst c300_484 <|
  r_iadd c300_485 rfl <|
  c_aI c300_486 (R1 _ hb0) <|
  r_aloadn c300_487 f.2.2.2.1 <|
  c_cal (st2 := [.int q1.1]) (s_cs (as := [.ref x, .int w1, .ref o]) (st' := []) c300_488 ⟨Nat.le_of_ble_eq_true rfl, Nat.le_of_ble_eq_true rfl, Nat.le_of_ble_eq_true rfl⟩ rfl rfl) (C179_ok hct hO e1) (Nat.add_lt_add_left (by decide) d) rfl <|
  r_istore c300_491 <|
  r_aloadn c300_493 (ld1_ne f.2.2.1 (by decide) (Or.inl (by decide))) <|
  r_aloadn c300_494 (ld1_ne f.1 (by decide) (Or.inl (by decide))) <|
  r_iload c300_495 (ld1_ne f.2.2.2.2 (by decide) (Or.inr rfl)) <|
  r_iconst c300_497 <|
  r_iadd c300_498 rfl <|
  c_aI c300_499 (R1 _ hb1) <|
  c_cal (st2 := [.int q2.1]) (s_cv (as := [.ref a, .int w1]) (st' := []) c300_500 rfl (md_gC hm) ⟨Nat.le_of_ble_eq_true rfl, Nat.le_of_ble_eq_true rfl, Nat.le_of_ble_eq_true rfl⟩ rfl rfl) r1 (Nat.add_lt_add_left (by decide) d) rfl <|
  r_istore c300_503 <|
  r_aloadn c300_505 (ld1_ne (ld1_ne f.2.2.1 (by decide) (Or.inl (by decide))) (by decide) (Or.inl (by decide))) <|
  c_cal (st2 := [.int q3.1]) (s_cv (as := [.ref a]) (st' := []) c300_506 rfl (md_gC m1) ⟨Nat.le_of_ble_eq_true rfl, Nat.le_of_ble_eq_true rfl, Nat.le_of_ble_eq_true rfl⟩ rfl rfl) r2 (Nat.add_lt_add_left (by decide) d) rfl <|
  r_iload c300_509 (ld1_ne ld1_eq (by decide) (Or.inr rfl)) <|
  r_icmpT c300_511 (decide_eq_true heq) <|
  r_iload c300_516 (ld1_ne ld1_eq (by decide) (Or.inr rfl)) <|
  r_ifF c300_518 (decide_eq_false (fun z => z hk)) <|
  r_aloadn c300_521 (ld1_ne (ld1_ne f.2.2.2.1 (by decide) (Or.inl (by decide))) (by decide) (Or.inl (by decide))) <|
  r_iconst c300_522 <|
  c_aL c300_523 (m_aL (m_fr_trans g1 g2) ho hv0) <|
  r_iload c300_524 ld1_eq <|
  r_i2l c300_526 rfl <|
  r_lcmp c300_527 rfl <|
  r_ifT c300_528 (lg_eq hv) <|
  r_goto c300_533 <|
  r_iinc c300_1120 (ld1_ne (ld1_ne f.2.2.2.2 (by decide) (Or.inr rfl)) (by decide) (Or.inl (by decide))) <|
  r_goto c300_1123 <|
  hr _ m2 (m_fr_trans g1 g2) _ ⟨(ld1_ne (ld1_ne (ld1_ne f.1 (by decide) (Or.inl (by decide))) (by decide) (Or.inl (by decide))) (by decide) (Or.inl (by decide))), (ld1_ne (ld1_ne (ld1_ne f.2.1 (by decide) (Or.inl (by decide))) (by decide) (Or.inl (by decide))) (by decide) (Or.inl (by decide))), (ld1_ne (ld1_ne (ld1_ne f.2.2.1 (by decide) (Or.inl (by decide))) (by decide) (Or.inl (by decide))) (by decide) (Or.inl (by decide))), (ld1_ne (ld1_ne (ld1_ne f.2.2.2.1 (by decide) (Or.inl (by decide))) (by decide) (Or.inl (by decide))) (by decide) (Or.inr rfl)), ld1_eq⟩)
theorem law_9X {xt : mj_X} {ct : Nat → Value} {O : OR} {d N b x a o : Nat} {ra : Nat → Nat} {i len w0 w1 w2 w3 : Int32} {H : mj_H} {r : mj_O × mj_H} (hct : ct 0 = .int 1) (hO : oOK xt ct d O) (hsep : m_sep a ra) (hbo : m_out a ra b) (RN : ∀ h : mj_H, h.1 b = none → aN xt h b = some len) (hlt : mj_c2 .gt i (len - 4) = false) (R0 : ∀ h : mj_H, h.1 b = none → aI xt h b i = some w0) (R1 : ∀ h : mj_H, h.1 b = none → aI xt h b (i + 1) = some w1) (R2 : ∀ h : mj_H, h.1 b = none → aI xt h b (i + 2) = some w2) (R3 : ∀ h : mj_H, h.1 b = none → aI xt h b (i + 3) = some w3) (hb0 : H.1 b = none) (hw : w0 &&& 31 = 9) {q1 : Int32 × mj_H} (e1 : C179 xt ct O N x w1 o H = some q1) (hb1 : q1.2.1 b = none) {S : mS} (hm : md a ra S q1.2) {q2 : Int32 × mS} (e2 : M289 N w1 S = some q2) {q3 : Int32 × mS} (e3 : M203 N q2.2 = some q3) (heq : q3.1 = q1.1) (hk : q1.1 ≠ 0) (hr : ∀ h', md a ra q3.2 h' → m_fr a ra q1.2 h' → LW xt ct d b x a o (i + 4) h' r) : LW xt ct d b x a o i H r := by
  intro l f
  obtain ⟨h1, r1, m1, g1⟩ := M289_ok (xt := xt) (ct := ct) (d := d) e2 hsep _ hm
  obtain ⟨h2, r2, m2, g2⟩ := M203_ok (xt := xt) (ct := ct) (d := d) e3 hsep _ m1
  exact (
  r_iload c300_23 f.2.2.2.2 <|
  r_aloadn c300_25 f.1 <|
  c_len c300_26 (RN _ hb0) <|
  r_iconst c300_27 <|
  r_isub c300_28 rfl <|
  r_icmpF c300_29 hlt <|
  r_aloadn c300_32 f.1 <|
  r_iload c300_33 f.2.2.2.2 <|
  c_aI c300_35 (R0 _ hb0) <|
  r_bipush c300_36 <|
  r_iand c300_38 rfl <|
  c_sw c300_39_9 (decide_eq_true hw) <|
  r_aloadn c300_480 f.2.1 <|
  r_aloadn c300_481 f.1 <|
  r_iload c300_482 f.2.2.2.2 <|
  r_iconst c300_484 <|
  r_iadd c300_485 rfl <|
  c_aI c300_486 (R1 _ hb0) <|
  r_aloadn c300_487 f.2.2.2.1 <|
  c_cal (st2 := [.int q1.1]) (s_cs (as := [.ref x, .int w1, .ref o]) (st' := []) c300_488 ⟨Nat.le_of_ble_eq_true rfl, Nat.le_of_ble_eq_true rfl, Nat.le_of_ble_eq_true rfl⟩ rfl rfl) (C179_ok hct hO e1) (Nat.add_lt_add_left (by decide) d) rfl <|
  r_istore c300_491 <|
  r_aloadn c300_493 (ld1_ne f.2.2.1 (by decide) (Or.inl (by decide))) <|
  r_aloadn c300_494 (ld1_ne f.1 (by decide) (Or.inl (by decide))) <|
  r_iload c300_495 (ld1_ne f.2.2.2.2 (by decide) (Or.inr rfl)) <|
  r_iconst c300_497 <|
  r_iadd c300_498 rfl <|
  c_aI c300_499 (R1 _ hb1) <|
  c_cal (st2 := [.int q2.1]) (s_cv (as := [.ref a, .int w1]) (st' := []) c300_500 rfl (md_gC hm) ⟨Nat.le_of_ble_eq_true rfl, Nat.le_of_ble_eq_true rfl, Nat.le_of_ble_eq_true rfl⟩ rfl rfl) r1 (Nat.add_lt_add_left (by decide) d) rfl <|
  r_istore c300_503 <|
  r_aloadn c300_505 (ld1_ne (ld1_ne f.2.2.1 (by decide) (Or.inl (by decide))) (by decide) (Or.inl (by decide))) <|
  c_cal (st2 := [.int q3.1]) (s_cv (as := [.ref a]) (st' := []) c300_506 rfl (md_gC m1) ⟨Nat.le_of_ble_eq_true rfl, Nat.le_of_ble_eq_true rfl, Nat.le_of_ble_eq_true rfl⟩ rfl rfl) r2 (Nat.add_lt_add_left (by decide) d) rfl <|
  r_iload c300_509 (ld1_ne ld1_eq (by decide) (Or.inr rfl)) <|
  r_icmpT c300_511 (decide_eq_true heq) <|
  r_iload c300_516 (ld1_ne ld1_eq (by decide) (Or.inr rfl)) <|
  r_ifT c300_518 (decide_eq_true hk) <|
  r_goto c300_533 <|
  r_iinc c300_1120 (ld1_ne (ld1_ne f.2.2.2.2 (by decide) (Or.inr rfl)) (by decide) (Or.inl (by decide))) <|
  r_goto c300_1123 <|
  hr _ m2 (m_fr_trans g1 g2) _ ⟨(ld1_ne (ld1_ne (ld1_ne f.1 (by decide) (Or.inl (by decide))) (by decide) (Or.inl (by decide))) (by decide) (Or.inl (by decide))), (ld1_ne (ld1_ne (ld1_ne f.2.1 (by decide) (Or.inl (by decide))) (by decide) (Or.inl (by decide))) (by decide) (Or.inl (by decide))), (ld1_ne (ld1_ne (ld1_ne f.2.2.1 (by decide) (Or.inl (by decide))) (by decide) (Or.inl (by decide))) (by decide) (Or.inl (by decide))), (ld1_ne (ld1_ne (ld1_ne f.2.2.2.1 (by decide) (Or.inl (by decide))) (by decide) (Or.inl (by decide))) (by decide) (Or.inr rfl)), ld1_eq⟩)
theorem law_10V {xt : mj_X} {ct : Nat → Value} {O : OR} {d N b x a o : Nat} {ra : Nat → Nat} {i len w0 w1 w2 w3 : Int32} {H : mj_H} {r : mj_O × mj_H} (hct : ct 0 = .int 1) (hO : oOK xt ct d O) (hsep : m_sep a ra) (hbo : m_out a ra b) (RN : ∀ h : mj_H, h.1 b = none → aN xt h b = some len) (hlt : mj_c2 .gt i (len - 4) = false) (R0 : ∀ h : mj_H, h.1 b = none → aI xt h b i = some w0) (R1 : ∀ h : mj_H, h.1 b = none → aI xt h b (i + 1) = some w1) (R2 : ∀ h : mj_H, h.1 b = none → aI xt h b (i + 2) = some w2) (R3 : ∀ h : mj_H, h.1 b = none → aI xt h b (i + 3) = some w3) (hb0 : H.1 b = none) (hw : w0 &&& 31 = 10) {q1 : Int32 × mj_H} (e1 : C182 xt ct O N x w1 w2 o H = some q1) (hb1 : q1.2.1 b = none) {S : mS} (hm : md a ra S q1.2) (ho : m_out a ra o) {v0 : Int64} (hv0 : aL xt q1.2 o 0 = some v0) {q2 : Int32 × mS} (e2 : M291 N w1 w2 S = some q2) {q3 : Int32 × mS} (e3 : M203 N q2.2 = some q3) (heq : q3.1 = q1.1) (hk : q1.1 = 0) (hv : v0 = (q2.1 : Int32).toInt64) (hr : ∀ h', md a ra q3.2 h' → m_fr a ra q1.2 h' → LW xt ct d b x a o (i + 4) h' r) : LW xt ct d b x a o i H r := by
  intro l f
  obtain ⟨h1, r1, m1, g1⟩ := M291_ok (xt := xt) (ct := ct) (d := d) e2 hsep _ hm
  obtain ⟨h2, r2, m2, g2⟩ := M203_ok (xt := xt) (ct := ct) (d := d) e3 hsep _ m1
  exact (
  r_iload c300_23 f.2.2.2.2 <|
  r_aloadn c300_25 f.1 <|
  c_len c300_26 (RN _ hb0) <|
  r_iconst c300_27 <|
  r_isub c300_28 rfl <|
  r_icmpF c300_29 hlt <|
  r_aloadn c300_32 f.1 <|
  r_iload c300_33 f.2.2.2.2 <|
  c_aI c300_35 (R0 _ hb0) <|
  r_bipush c300_36 <|
  r_iand c300_38 rfl <|
  c_sw c300_39_10 (decide_eq_true hw) <|
  r_aloadn c300_536 f.2.1 <|
  r_aloadn c300_537 f.1 <|
  r_iload c300_538 f.2.2.2.2 <|
  r_iconst c300_540 <|
  r_iadd c300_541 rfl <|
  c_aI c300_542 (R1 _ hb0) <|
  r_aloadn c300_543 f.1 <|
  r_iload c300_544 f.2.2.2.2 <|
  r_iconst c300_546 <|
  r_iadd c300_547 rfl <|
  c_aI c300_548 (R2 _ hb0) <|
  r_aloadn c300_549 f.2.2.2.1 <|
  c_cal (st2 := [.int q1.1]) (s_cs (as := [.ref x, .int w1, .int w2, .ref o]) (st' := []) c300_550 ⟨Nat.le_of_ble_eq_true rfl, Nat.le_of_ble_eq_true rfl, Nat.le_of_ble_eq_true rfl⟩ rfl rfl) (C182_ok hct hO e1) (Nat.add_lt_add_left (by decide) d) rfl <|
  r_istore c300_553 <|
  r_aloadn c300_555 (ld1_ne f.2.2.1 (by decide) (Or.inl (by decide))) <|
  r_aloadn c300_556 (ld1_ne f.1 (by decide) (Or.inl (by decide))) <|
  r_iload c300_557 (ld1_ne f.2.2.2.2 (by decide) (Or.inr rfl)) <|
  r_iconst c300_559 <|
  r_iadd c300_560 rfl <|
  c_aI c300_561 (R1 _ hb1) <|
  r_aloadn c300_562 (ld1_ne f.1 (by decide) (Or.inl (by decide))) <|
  r_iload c300_563 (ld1_ne f.2.2.2.2 (by decide) (Or.inr rfl)) <|
  r_iconst c300_565 <|
  r_iadd c300_566 rfl <|
  c_aI c300_567 (R2 _ hb1) <|
  c_cal (st2 := [.int q2.1]) (s_cv (as := [.ref a, .int w1, .int w2]) (st' := []) c300_568 rfl (md_gC hm) ⟨Nat.le_of_ble_eq_true rfl, Nat.le_of_ble_eq_true rfl, Nat.le_of_ble_eq_true rfl⟩ rfl rfl) r1 (Nat.add_lt_add_left (by decide) d) rfl <|
  r_istore c300_571 <|
  r_aloadn c300_573 (ld1_ne (ld1_ne f.2.2.1 (by decide) (Or.inl (by decide))) (by decide) (Or.inl (by decide))) <|
  c_cal (st2 := [.int q3.1]) (s_cv (as := [.ref a]) (st' := []) c300_574 rfl (md_gC m1) ⟨Nat.le_of_ble_eq_true rfl, Nat.le_of_ble_eq_true rfl, Nat.le_of_ble_eq_true rfl⟩ rfl rfl) r2 (Nat.add_lt_add_left (by decide) d) rfl <|
  r_iload c300_577 (ld1_ne ld1_eq (by decide) (Or.inr rfl)) <|
  r_icmpT c300_579 (decide_eq_true heq) <|
  r_iload c300_584 (ld1_ne ld1_eq (by decide) (Or.inr rfl)) <|
  r_ifF c300_586 (decide_eq_false (fun z => z hk)) <|
  r_aloadn c300_589 (ld1_ne (ld1_ne f.2.2.2.1 (by decide) (Or.inl (by decide))) (by decide) (Or.inl (by decide))) <|
  r_iconst c300_590 <|
  c_aL c300_591 (m_aL (m_fr_trans g1 g2) ho hv0) <|
  r_iload c300_592 ld1_eq <|
  r_i2l c300_594 rfl <|
  r_lcmp c300_595 rfl <|
  r_ifT c300_596 (lg_eq hv) <|
  r_goto c300_601 <|
  r_iinc c300_1120 (ld1_ne (ld1_ne f.2.2.2.2 (by decide) (Or.inr rfl)) (by decide) (Or.inl (by decide))) <|
  r_goto c300_1123 <|
  hr _ m2 (m_fr_trans g1 g2) _ ⟨(ld1_ne (ld1_ne (ld1_ne f.1 (by decide) (Or.inl (by decide))) (by decide) (Or.inl (by decide))) (by decide) (Or.inl (by decide))), (ld1_ne (ld1_ne (ld1_ne f.2.1 (by decide) (Or.inl (by decide))) (by decide) (Or.inl (by decide))) (by decide) (Or.inl (by decide))), (ld1_ne (ld1_ne (ld1_ne f.2.2.1 (by decide) (Or.inl (by decide))) (by decide) (Or.inl (by decide))) (by decide) (Or.inl (by decide))), (ld1_ne (ld1_ne (ld1_ne f.2.2.2.1 (by decide) (Or.inl (by decide))) (by decide) (Or.inl (by decide))) (by decide) (Or.inr rfl)), ld1_eq⟩)
theorem law_10X {xt : mj_X} {ct : Nat → Value} {O : OR} {d N b x a o : Nat} {ra : Nat → Nat} {i len w0 w1 w2 w3 : Int32} {H : mj_H} {r : mj_O × mj_H} (hct : ct 0 = .int 1) (hO : oOK xt ct d O) (hsep : m_sep a ra) (hbo : m_out a ra b) (RN : ∀ h : mj_H, h.1 b = none → aN xt h b = some len) (hlt : mj_c2 .gt i (len - 4) = false) (R0 : ∀ h : mj_H, h.1 b = none → aI xt h b i = some w0) (R1 : ∀ h : mj_H, h.1 b = none → aI xt h b (i + 1) = some w1) (R2 : ∀ h : mj_H, h.1 b = none → aI xt h b (i + 2) = some w2) (R3 : ∀ h : mj_H, h.1 b = none → aI xt h b (i + 3) = some w3) (hb0 : H.1 b = none) (hw : w0 &&& 31 = 10) {q1 : Int32 × mj_H} (e1 : C182 xt ct O N x w1 w2 o H = some q1) (hb1 : q1.2.1 b = none) {S : mS} (hm : md a ra S q1.2) {q2 : Int32 × mS} (e2 : M291 N w1 w2 S = some q2) {q3 : Int32 × mS} (e3 : M203 N q2.2 = some q3) (heq : q3.1 = q1.1) (hk : q1.1 ≠ 0) (hr : ∀ h', md a ra q3.2 h' → m_fr a ra q1.2 h' → LW xt ct d b x a o (i + 4) h' r) : LW xt ct d b x a o i H r := by
  intro l f
  obtain ⟨h1, r1, m1, g1⟩ := M291_ok (xt := xt) (ct := ct) (d := d) e2 hsep _ hm
  obtain ⟨h2, r2, m2, g2⟩ := M203_ok (xt := xt) (ct := ct) (d := d) e3 hsep _ m1
  exact (
  r_iload c300_23 f.2.2.2.2 <|
  r_aloadn c300_25 f.1 <|
  c_len c300_26 (RN _ hb0) <|
  r_iconst c300_27 <|
  r_isub c300_28 rfl <|
  r_icmpF c300_29 hlt <|
  r_aloadn c300_32 f.1 <|
  r_iload c300_33 f.2.2.2.2 <|
  c_aI c300_35 (R0 _ hb0) <|
  r_bipush c300_36 <|
  r_iand c300_38 rfl <|
  c_sw c300_39_10 (decide_eq_true hw) <|
  r_aloadn c300_536 f.2.1 <|
  r_aloadn c300_537 f.1 <|
  r_iload c300_538 f.2.2.2.2 <|
  r_iconst c300_540 <|
  r_iadd c300_541 rfl <|
  c_aI c300_542 (R1 _ hb0) <|
  r_aloadn c300_543 f.1 <|
  r_iload c300_544 f.2.2.2.2 <|
  r_iconst c300_546 <|
  r_iadd c300_547 rfl <|
  c_aI c300_548 (R2 _ hb0) <|
  r_aloadn c300_549 f.2.2.2.1 <|
  c_cal (st2 := [.int q1.1]) (s_cs (as := [.ref x, .int w1, .int w2, .ref o]) (st' := []) c300_550 ⟨Nat.le_of_ble_eq_true rfl, Nat.le_of_ble_eq_true rfl, Nat.le_of_ble_eq_true rfl⟩ rfl rfl) (C182_ok hct hO e1) (Nat.add_lt_add_left (by decide) d) rfl <|
  r_istore c300_553 <|
  r_aloadn c300_555 (ld1_ne f.2.2.1 (by decide) (Or.inl (by decide))) <|
  r_aloadn c300_556 (ld1_ne f.1 (by decide) (Or.inl (by decide))) <|
  r_iload c300_557 (ld1_ne f.2.2.2.2 (by decide) (Or.inr rfl)) <|
  r_iconst c300_559 <|
  r_iadd c300_560 rfl <|
  c_aI c300_561 (R1 _ hb1) <|
  r_aloadn c300_562 (ld1_ne f.1 (by decide) (Or.inl (by decide))) <|
  r_iload c300_563 (ld1_ne f.2.2.2.2 (by decide) (Or.inr rfl)) <|
  r_iconst c300_565 <|
  r_iadd c300_566 rfl <|
  c_aI c300_567 (R2 _ hb1) <|
  c_cal (st2 := [.int q2.1]) (s_cv (as := [.ref a, .int w1, .int w2]) (st' := []) c300_568 rfl (md_gC hm) ⟨Nat.le_of_ble_eq_true rfl, Nat.le_of_ble_eq_true rfl, Nat.le_of_ble_eq_true rfl⟩ rfl rfl) r1 (Nat.add_lt_add_left (by decide) d) rfl <|
  r_istore c300_571 <|
  r_aloadn c300_573 (ld1_ne (ld1_ne f.2.2.1 (by decide) (Or.inl (by decide))) (by decide) (Or.inl (by decide))) <|
  c_cal (st2 := [.int q3.1]) (s_cv (as := [.ref a]) (st' := []) c300_574 rfl (md_gC m1) ⟨Nat.le_of_ble_eq_true rfl, Nat.le_of_ble_eq_true rfl, Nat.le_of_ble_eq_true rfl⟩ rfl rfl) r2 (Nat.add_lt_add_left (by decide) d) rfl <|
  r_iload c300_577 (ld1_ne ld1_eq (by decide) (Or.inr rfl)) <|
  r_icmpT c300_579 (decide_eq_true heq) <|
  r_iload c300_584 (ld1_ne ld1_eq (by decide) (Or.inr rfl)) <|
  r_ifT c300_586 (decide_eq_true hk) <|
  r_goto c300_601 <|
  r_iinc c300_1120 (ld1_ne (ld1_ne f.2.2.2.2 (by decide) (Or.inr rfl)) (by decide) (Or.inl (by decide))) <|
  r_goto c300_1123 <|
  hr _ m2 (m_fr_trans g1 g2) _ ⟨(ld1_ne (ld1_ne (ld1_ne f.1 (by decide) (Or.inl (by decide))) (by decide) (Or.inl (by decide))) (by decide) (Or.inl (by decide))), (ld1_ne (ld1_ne (ld1_ne f.2.1 (by decide) (Or.inl (by decide))) (by decide) (Or.inl (by decide))) (by decide) (Or.inl (by decide))), (ld1_ne (ld1_ne (ld1_ne f.2.2.1 (by decide) (Or.inl (by decide))) (by decide) (Or.inl (by decide))) (by decide) (Or.inl (by decide))), (ld1_ne (ld1_ne (ld1_ne f.2.2.2.1 (by decide) (Or.inl (by decide))) (by decide) (Or.inl (by decide))) (by decide) (Or.inr rfl)), ld1_eq⟩)
theorem law_11V {xt : mj_X} {ct : Nat → Value} {O : OR} {d N b x a o : Nat} {ra : Nat → Nat} {i len w0 w1 w2 w3 : Int32} {H : mj_H} {r : mj_O × mj_H} (hct : ct 0 = .int 1) (hO : oOK xt ct d O) (hsep : m_sep a ra) (hbo : m_out a ra b) (RN : ∀ h : mj_H, h.1 b = none → aN xt h b = some len) (hlt : mj_c2 .gt i (len - 4) = false) (R0 : ∀ h : mj_H, h.1 b = none → aI xt h b i = some w0) (R1 : ∀ h : mj_H, h.1 b = none → aI xt h b (i + 1) = some w1) (R2 : ∀ h : mj_H, h.1 b = none → aI xt h b (i + 2) = some w2) (R3 : ∀ h : mj_H, h.1 b = none → aI xt h b (i + 3) = some w3) (hb0 : H.1 b = none) (hw : w0 &&& 31 = 11) {q1 : Int32 × mj_H} (e1 : C185 xt ct O N x w1 w2 o H = some q1) (hb1 : q1.2.1 b = none) {S : mS} (hm : md a ra S q1.2) (ho : m_out a ra o) {v0 : Int64} (hv0 : aL xt q1.2 o 0 = some v0) {q2 : Int64 × mS} (e2 : M293 N w1 w2 S = some q2) {q3 : Int32 × mS} (e3 : M203 N q2.2 = some q3) (heq : q3.1 = q1.1) (hk : q1.1 = 0) (hv : v0 = q2.1) (hr : ∀ h', md a ra q3.2 h' → m_fr a ra q1.2 h' → LW xt ct d b x a o (i + 4) h' r) : LW xt ct d b x a o i H r := by
  intro l f
  obtain ⟨h1, r1, m1, g1⟩ := M293_ok (xt := xt) (ct := ct) (d := d) e2 hsep _ hm
  obtain ⟨h2, r2, m2, g2⟩ := M203_ok (xt := xt) (ct := ct) (d := d) e3 hsep _ m1
  exact (
  r_iload c300_23 f.2.2.2.2 <|
  r_aloadn c300_25 f.1 <|
  c_len c300_26 (RN _ hb0) <|
  r_iconst c300_27 <|
  r_isub c300_28 rfl <|
  r_icmpF c300_29 hlt <|
  r_aloadn c300_32 f.1 <|
  r_iload c300_33 f.2.2.2.2 <|
  c_aI c300_35 (R0 _ hb0) <|
  r_bipush c300_36 <|
  r_iand c300_38 rfl <|
  c_sw c300_39_11 (decide_eq_true hw) <|
  r_aloadn c300_604 f.2.1 <|
  r_aloadn c300_605 f.1 <|
  r_iload c300_606 f.2.2.2.2 <|
  r_iconst c300_608 <|
  r_iadd c300_609 rfl <|
  c_aI c300_610 (R1 _ hb0) <|
  r_aloadn c300_611 f.1 <|
  r_iload c300_612 f.2.2.2.2 <|
  r_iconst c300_614 <|
  r_iadd c300_615 rfl <|
  c_aI c300_616 (R2 _ hb0) <|
  r_aloadn c300_617 f.2.2.2.1 <|
  c_cal (st2 := [.int q1.1]) (s_cs (as := [.ref x, .int w1, .int w2, .ref o]) (st' := []) c300_618 ⟨Nat.le_of_ble_eq_true rfl, Nat.le_of_ble_eq_true rfl, Nat.le_of_ble_eq_true rfl⟩ rfl rfl) (C185_ok hct hO e1) (Nat.add_lt_add_left (by decide) d) rfl <|
  r_istore c300_621 <|
  r_aloadn c300_623 (ld1_ne f.2.2.1 (by decide) (Or.inl (by decide))) <|
  r_aloadn c300_624 (ld1_ne f.1 (by decide) (Or.inl (by decide))) <|
  r_iload c300_625 (ld1_ne f.2.2.2.2 (by decide) (Or.inr rfl)) <|
  r_iconst c300_627 <|
  r_iadd c300_628 rfl <|
  c_aI c300_629 (R1 _ hb1) <|
  r_aloadn c300_630 (ld1_ne f.1 (by decide) (Or.inl (by decide))) <|
  r_iload c300_631 (ld1_ne f.2.2.2.2 (by decide) (Or.inr rfl)) <|
  r_iconst c300_633 <|
  r_iadd c300_634 rfl <|
  c_aI c300_635 (R2 _ hb1) <|
  c_cal (st2 := [.long q2.1]) (s_cv (as := [.ref a, .int w1, .int w2]) (st' := []) c300_636 rfl (md_gC hm) ⟨Nat.le_of_ble_eq_true rfl, Nat.le_of_ble_eq_true rfl, Nat.le_of_ble_eq_true rfl⟩ rfl rfl) r1 (Nat.add_lt_add_left (by decide) d) rfl <|
  r_lstore c300_639 <|
  r_aloadn c300_641 (ld2_ne (ld1_ne f.2.2.1 (by decide) (Or.inl (by decide))) (by decide) (Or.inl (by decide))) <|
  c_cal (st2 := [.int q3.1]) (s_cv (as := [.ref a]) (st' := []) c300_642 rfl (md_gC m1) ⟨Nat.le_of_ble_eq_true rfl, Nat.le_of_ble_eq_true rfl, Nat.le_of_ble_eq_true rfl⟩ rfl rfl) r2 (Nat.add_lt_add_left (by decide) d) rfl <|
  r_iload c300_645 (ld2_ne ld1_eq (by decide) (Or.inr rfl)) <|
  r_icmpT c300_647 (decide_eq_true heq) <|
  r_iload c300_652 (ld2_ne ld1_eq (by decide) (Or.inr rfl)) <|
  r_ifF c300_654 (decide_eq_false (fun z => z hk)) <|
  r_aloadn c300_657 (ld2_ne (ld1_ne f.2.2.2.1 (by decide) (Or.inl (by decide))) (by decide) (Or.inl (by decide))) <|
  r_iconst c300_658 <|
  c_aL c300_659 (m_aL (m_fr_trans g1 g2) ho hv0) <|
  r_lload c300_660 ld2_eq <|
  r_lcmp c300_662 rfl <|
  r_ifT c300_663 (lg_eq hv) <|
  r_goto c300_668 <|
  r_iinc c300_1120 (ld2_ne (ld1_ne f.2.2.2.2 (by decide) (Or.inr rfl)) (by decide) (Or.inl (by decide))) <|
  r_goto c300_1123 <|
  hr _ m2 (m_fr_trans g1 g2) _ ⟨(ld1_ne (ld2_ne (ld1_ne f.1 (by decide) (Or.inl (by decide))) (by decide) (Or.inl (by decide))) (by decide) (Or.inl (by decide))), (ld1_ne (ld2_ne (ld1_ne f.2.1 (by decide) (Or.inl (by decide))) (by decide) (Or.inl (by decide))) (by decide) (Or.inl (by decide))), (ld1_ne (ld2_ne (ld1_ne f.2.2.1 (by decide) (Or.inl (by decide))) (by decide) (Or.inl (by decide))) (by decide) (Or.inl (by decide))), (ld1_ne (ld2_ne (ld1_ne f.2.2.2.1 (by decide) (Or.inl (by decide))) (by decide) (Or.inl (by decide))) (by decide) (Or.inr rfl)), ld1_eq⟩)
theorem law_11X {xt : mj_X} {ct : Nat → Value} {O : OR} {d N b x a o : Nat} {ra : Nat → Nat} {i len w0 w1 w2 w3 : Int32} {H : mj_H} {r : mj_O × mj_H} (hct : ct 0 = .int 1) (hO : oOK xt ct d O) (hsep : m_sep a ra) (hbo : m_out a ra b) (RN : ∀ h : mj_H, h.1 b = none → aN xt h b = some len) (hlt : mj_c2 .gt i (len - 4) = false) (R0 : ∀ h : mj_H, h.1 b = none → aI xt h b i = some w0) (R1 : ∀ h : mj_H, h.1 b = none → aI xt h b (i + 1) = some w1) (R2 : ∀ h : mj_H, h.1 b = none → aI xt h b (i + 2) = some w2) (R3 : ∀ h : mj_H, h.1 b = none → aI xt h b (i + 3) = some w3) (hb0 : H.1 b = none) (hw : w0 &&& 31 = 11) {q1 : Int32 × mj_H} (e1 : C185 xt ct O N x w1 w2 o H = some q1) (hb1 : q1.2.1 b = none) {S : mS} (hm : md a ra S q1.2) {q2 : Int64 × mS} (e2 : M293 N w1 w2 S = some q2) {q3 : Int32 × mS} (e3 : M203 N q2.2 = some q3) (heq : q3.1 = q1.1) (hk : q1.1 ≠ 0) (hr : ∀ h', md a ra q3.2 h' → m_fr a ra q1.2 h' → LW xt ct d b x a o (i + 4) h' r) : LW xt ct d b x a o i H r := by
  intro l f
  obtain ⟨h1, r1, m1, g1⟩ := M293_ok (xt := xt) (ct := ct) (d := d) e2 hsep _ hm
  obtain ⟨h2, r2, m2, g2⟩ := M203_ok (xt := xt) (ct := ct) (d := d) e3 hsep _ m1
  exact (
  r_iload c300_23 f.2.2.2.2 <|
  r_aloadn c300_25 f.1 <|
  c_len c300_26 (RN _ hb0) <|
  r_iconst c300_27 <|
  r_isub c300_28 rfl <|
  r_icmpF c300_29 hlt <|
  r_aloadn c300_32 f.1 <|
  r_iload c300_33 f.2.2.2.2 <|
  c_aI c300_35 (R0 _ hb0) <|
  r_bipush c300_36 <|
  r_iand c300_38 rfl <|
  c_sw c300_39_11 (decide_eq_true hw) <|
  r_aloadn c300_604 f.2.1 <|
  r_aloadn c300_605 f.1 <|
  r_iload c300_606 f.2.2.2.2 <|
  r_iconst c300_608 <|
  r_iadd c300_609 rfl <|
  c_aI c300_610 (R1 _ hb0) <|
  r_aloadn c300_611 f.1 <|
  r_iload c300_612 f.2.2.2.2 <|
  r_iconst c300_614 <|
  r_iadd c300_615 rfl <|
  c_aI c300_616 (R2 _ hb0) <|
  r_aloadn c300_617 f.2.2.2.1 <|
  c_cal (st2 := [.int q1.1]) (s_cs (as := [.ref x, .int w1, .int w2, .ref o]) (st' := []) c300_618 ⟨Nat.le_of_ble_eq_true rfl, Nat.le_of_ble_eq_true rfl, Nat.le_of_ble_eq_true rfl⟩ rfl rfl) (C185_ok hct hO e1) (Nat.add_lt_add_left (by decide) d) rfl <|
  r_istore c300_621 <|
  r_aloadn c300_623 (ld1_ne f.2.2.1 (by decide) (Or.inl (by decide))) <|
  r_aloadn c300_624 (ld1_ne f.1 (by decide) (Or.inl (by decide))) <|
  r_iload c300_625 (ld1_ne f.2.2.2.2 (by decide) (Or.inr rfl)) <|
  r_iconst c300_627 <|
  r_iadd c300_628 rfl <|
  c_aI c300_629 (R1 _ hb1) <|
  r_aloadn c300_630 (ld1_ne f.1 (by decide) (Or.inl (by decide))) <|
  r_iload c300_631 (ld1_ne f.2.2.2.2 (by decide) (Or.inr rfl)) <|
  r_iconst c300_633 <|
  r_iadd c300_634 rfl <|
  c_aI c300_635 (R2 _ hb1) <|
  c_cal (st2 := [.long q2.1]) (s_cv (as := [.ref a, .int w1, .int w2]) (st' := []) c300_636 rfl (md_gC hm) ⟨Nat.le_of_ble_eq_true rfl, Nat.le_of_ble_eq_true rfl, Nat.le_of_ble_eq_true rfl⟩ rfl rfl) r1 (Nat.add_lt_add_left (by decide) d) rfl <|
  r_lstore c300_639 <|
  r_aloadn c300_641 (ld2_ne (ld1_ne f.2.2.1 (by decide) (Or.inl (by decide))) (by decide) (Or.inl (by decide))) <|
  c_cal (st2 := [.int q3.1]) (s_cv (as := [.ref a]) (st' := []) c300_642 rfl (md_gC m1) ⟨Nat.le_of_ble_eq_true rfl, Nat.le_of_ble_eq_true rfl, Nat.le_of_ble_eq_true rfl⟩ rfl rfl) r2 (Nat.add_lt_add_left (by decide) d) rfl <|
  r_iload c300_645 (ld2_ne ld1_eq (by decide) (Or.inr rfl)) <|
  r_icmpT c300_647 (decide_eq_true heq) <|
  r_iload c300_652 (ld2_ne ld1_eq (by decide) (Or.inr rfl)) <|
  r_ifT c300_654 (decide_eq_true hk) <|
  r_goto c300_668 <|
  r_iinc c300_1120 (ld2_ne (ld1_ne f.2.2.2.2 (by decide) (Or.inr rfl)) (by decide) (Or.inl (by decide))) <|
  r_goto c300_1123 <|
  hr _ m2 (m_fr_trans g1 g2) _ ⟨(ld1_ne (ld2_ne (ld1_ne f.1 (by decide) (Or.inl (by decide))) (by decide) (Or.inl (by decide))) (by decide) (Or.inl (by decide))), (ld1_ne (ld2_ne (ld1_ne f.2.1 (by decide) (Or.inl (by decide))) (by decide) (Or.inl (by decide))) (by decide) (Or.inl (by decide))), (ld1_ne (ld2_ne (ld1_ne f.2.2.1 (by decide) (Or.inl (by decide))) (by decide) (Or.inl (by decide))) (by decide) (Or.inl (by decide))), (ld1_ne (ld2_ne (ld1_ne f.2.2.2.1 (by decide) (Or.inl (by decide))) (by decide) (Or.inl (by decide))) (by decide) (Or.inr rfl)), ld1_eq⟩)
theorem law_12V {xt : mj_X} {ct : Nat → Value} {O : OR} {d N b x a o : Nat} {ra : Nat → Nat} {i len w0 w1 w2 w3 : Int32} {H : mj_H} {r : mj_O × mj_H} (hct : ct 0 = .int 1) (hO : oOK xt ct d O) (hsep : m_sep a ra) (hbo : m_out a ra b) (RN : ∀ h : mj_H, h.1 b = none → aN xt h b = some len) (hlt : mj_c2 .gt i (len - 4) = false) (R0 : ∀ h : mj_H, h.1 b = none → aI xt h b i = some w0) (R1 : ∀ h : mj_H, h.1 b = none → aI xt h b (i + 1) = some w1) (R2 : ∀ h : mj_H, h.1 b = none → aI xt h b (i + 2) = some w2) (R3 : ∀ h : mj_H, h.1 b = none → aI xt h b (i + 3) = some w3) (hb0 : H.1 b = none) (hw : w0 &&& 31 = 12) {q1 : Int32 × mj_H} (e1 : C187 xt ct O N x w1 o H = some q1) (hb1 : q1.2.1 b = none) {S : mS} (hm : md a ra S q1.2) (ho : m_out a ra o) {v0 : Int64} (hv0 : aL xt q1.2 o 0 = some v0) {q2 : Int64 × mS} (e2 : M294 N w1 S = some q2) {q3 : Int32 × mS} (e3 : M203 N q2.2 = some q3) (heq : q3.1 = q1.1) (hk : q1.1 = 0) (hv : v0 = q2.1) (hr : ∀ h', md a ra q3.2 h' → m_fr a ra q1.2 h' → LW xt ct d b x a o (i + 4) h' r) : LW xt ct d b x a o i H r := by
  intro l f
  obtain ⟨h1, r1, m1, g1⟩ := M294_ok (xt := xt) (ct := ct) (d := d) e2 hsep _ hm
  obtain ⟨h2, r2, m2, g2⟩ := M203_ok (xt := xt) (ct := ct) (d := d) e3 hsep _ m1
  exact (
  r_iload c300_23 f.2.2.2.2 <|
  r_aloadn c300_25 f.1 <|
  c_len c300_26 (RN _ hb0) <|
  r_iconst c300_27 <|
  r_isub c300_28 rfl <|
  r_icmpF c300_29 hlt <|
  r_aloadn c300_32 f.1 <|
  r_iload c300_33 f.2.2.2.2 <|
  c_aI c300_35 (R0 _ hb0) <|
  r_bipush c300_36 <|
  r_iand c300_38 rfl <|
  c_sw c300_39_12 (decide_eq_true hw) <|
  r_aloadn c300_671 f.2.1 <|
  r_aloadn c300_672 f.1 <|
  r_iload c300_673 f.2.2.2.2 <|
  r_iconst c300_675 <|
  r_iadd c300_676 rfl <|
  c_aI c300_677 (R1 _ hb0) <|
  r_aloadn c300_678 f.2.2.2.1 <|
  c_cal (st2 := [.int q1.1]) (s_cs (as := [.ref x, .int w1, .ref o]) (st' := []) c300_679 ⟨Nat.le_of_ble_eq_true rfl, Nat.le_of_ble_eq_true rfl, Nat.le_of_ble_eq_true rfl⟩ rfl rfl) (C187_ok hct hO e1) (Nat.add_lt_add_left (by decide) d) rfl <|
  r_istore c300_682 <|
  r_aloadn c300_684 (ld1_ne f.2.2.1 (by decide) (Or.inl (by decide))) <|
  r_aloadn c300_685 (ld1_ne f.1 (by decide) (Or.inl (by decide))) <|
  r_iload c300_686 (ld1_ne f.2.2.2.2 (by decide) (Or.inr rfl)) <|
  r_iconst c300_688 <|
  r_iadd c300_689 rfl <|
  c_aI c300_690 (R1 _ hb1) <|
  c_cal (st2 := [.long q2.1]) (s_cv (as := [.ref a, .int w1]) (st' := []) c300_691 rfl (md_gC hm) ⟨Nat.le_of_ble_eq_true rfl, Nat.le_of_ble_eq_true rfl, Nat.le_of_ble_eq_true rfl⟩ rfl rfl) r1 (Nat.add_lt_add_left (by decide) d) rfl <|
  r_lstore c300_694 <|
  r_aloadn c300_696 (ld2_ne (ld1_ne f.2.2.1 (by decide) (Or.inl (by decide))) (by decide) (Or.inl (by decide))) <|
  c_cal (st2 := [.int q3.1]) (s_cv (as := [.ref a]) (st' := []) c300_697 rfl (md_gC m1) ⟨Nat.le_of_ble_eq_true rfl, Nat.le_of_ble_eq_true rfl, Nat.le_of_ble_eq_true rfl⟩ rfl rfl) r2 (Nat.add_lt_add_left (by decide) d) rfl <|
  r_iload c300_700 (ld2_ne ld1_eq (by decide) (Or.inr rfl)) <|
  r_icmpT c300_702 (decide_eq_true heq) <|
  r_iload c300_707 (ld2_ne ld1_eq (by decide) (Or.inr rfl)) <|
  r_ifF c300_709 (decide_eq_false (fun z => z hk)) <|
  r_aloadn c300_712 (ld2_ne (ld1_ne f.2.2.2.1 (by decide) (Or.inl (by decide))) (by decide) (Or.inl (by decide))) <|
  r_iconst c300_713 <|
  c_aL c300_714 (m_aL (m_fr_trans g1 g2) ho hv0) <|
  r_lload c300_715 ld2_eq <|
  r_lcmp c300_717 rfl <|
  r_ifT c300_718 (lg_eq hv) <|
  r_goto c300_723 <|
  r_iinc c300_1120 (ld2_ne (ld1_ne f.2.2.2.2 (by decide) (Or.inr rfl)) (by decide) (Or.inl (by decide))) <|
  r_goto c300_1123 <|
  hr _ m2 (m_fr_trans g1 g2) _ ⟨(ld1_ne (ld2_ne (ld1_ne f.1 (by decide) (Or.inl (by decide))) (by decide) (Or.inl (by decide))) (by decide) (Or.inl (by decide))), (ld1_ne (ld2_ne (ld1_ne f.2.1 (by decide) (Or.inl (by decide))) (by decide) (Or.inl (by decide))) (by decide) (Or.inl (by decide))), (ld1_ne (ld2_ne (ld1_ne f.2.2.1 (by decide) (Or.inl (by decide))) (by decide) (Or.inl (by decide))) (by decide) (Or.inl (by decide))), (ld1_ne (ld2_ne (ld1_ne f.2.2.2.1 (by decide) (Or.inl (by decide))) (by decide) (Or.inl (by decide))) (by decide) (Or.inr rfl)), ld1_eq⟩)
theorem law_12X {xt : mj_X} {ct : Nat → Value} {O : OR} {d N b x a o : Nat} {ra : Nat → Nat} {i len w0 w1 w2 w3 : Int32} {H : mj_H} {r : mj_O × mj_H} (hct : ct 0 = .int 1) (hO : oOK xt ct d O) (hsep : m_sep a ra) (hbo : m_out a ra b) (RN : ∀ h : mj_H, h.1 b = none → aN xt h b = some len) (hlt : mj_c2 .gt i (len - 4) = false) (R0 : ∀ h : mj_H, h.1 b = none → aI xt h b i = some w0) (R1 : ∀ h : mj_H, h.1 b = none → aI xt h b (i + 1) = some w1) (R2 : ∀ h : mj_H, h.1 b = none → aI xt h b (i + 2) = some w2) (R3 : ∀ h : mj_H, h.1 b = none → aI xt h b (i + 3) = some w3) (hb0 : H.1 b = none) (hw : w0 &&& 31 = 12) {q1 : Int32 × mj_H} (e1 : C187 xt ct O N x w1 o H = some q1) (hb1 : q1.2.1 b = none) {S : mS} (hm : md a ra S q1.2) {q2 : Int64 × mS} (e2 : M294 N w1 S = some q2) {q3 : Int32 × mS} (e3 : M203 N q2.2 = some q3) (heq : q3.1 = q1.1) (hk : q1.1 ≠ 0) (hr : ∀ h', md a ra q3.2 h' → m_fr a ra q1.2 h' → LW xt ct d b x a o (i + 4) h' r) : LW xt ct d b x a o i H r := by
  intro l f
  obtain ⟨h1, r1, m1, g1⟩ := M294_ok (xt := xt) (ct := ct) (d := d) e2 hsep _ hm
  obtain ⟨h2, r2, m2, g2⟩ := M203_ok (xt := xt) (ct := ct) (d := d) e3 hsep _ m1
  exact (
  r_iload c300_23 f.2.2.2.2 <|
  r_aloadn c300_25 f.1 <|
  c_len c300_26 (RN _ hb0) <|
  r_iconst c300_27 <|
  r_isub c300_28 rfl <|
  r_icmpF c300_29 hlt <|
  r_aloadn c300_32 f.1 <|
  r_iload c300_33 f.2.2.2.2 <|
  c_aI c300_35 (R0 _ hb0) <|
  r_bipush c300_36 <|
  r_iand c300_38 rfl <|
  c_sw c300_39_12 (decide_eq_true hw) <|
  r_aloadn c300_671 f.2.1 <|
  r_aloadn c300_672 f.1 <|
  r_iload c300_673 f.2.2.2.2 <|
  r_iconst c300_675 <|
  r_iadd c300_676 rfl <|
  c_aI c300_677 (R1 _ hb0) <|
  r_aloadn c300_678 f.2.2.2.1 <|
  c_cal (st2 := [.int q1.1]) (s_cs (as := [.ref x, .int w1, .ref o]) (st' := []) c300_679 ⟨Nat.le_of_ble_eq_true rfl, Nat.le_of_ble_eq_true rfl, Nat.le_of_ble_eq_true rfl⟩ rfl rfl) (C187_ok hct hO e1) (Nat.add_lt_add_left (by decide) d) rfl <|
  r_istore c300_682 <|
  r_aloadn c300_684 (ld1_ne f.2.2.1 (by decide) (Or.inl (by decide))) <|
  r_aloadn c300_685 (ld1_ne f.1 (by decide) (Or.inl (by decide))) <|
  r_iload c300_686 (ld1_ne f.2.2.2.2 (by decide) (Or.inr rfl)) <|
  r_iconst c300_688 <|
  r_iadd c300_689 rfl <|
  c_aI c300_690 (R1 _ hb1) <|
  c_cal (st2 := [.long q2.1]) (s_cv (as := [.ref a, .int w1]) (st' := []) c300_691 rfl (md_gC hm) ⟨Nat.le_of_ble_eq_true rfl, Nat.le_of_ble_eq_true rfl, Nat.le_of_ble_eq_true rfl⟩ rfl rfl) r1 (Nat.add_lt_add_left (by decide) d) rfl <|
  r_lstore c300_694 <|
  r_aloadn c300_696 (ld2_ne (ld1_ne f.2.2.1 (by decide) (Or.inl (by decide))) (by decide) (Or.inl (by decide))) <|
  c_cal (st2 := [.int q3.1]) (s_cv (as := [.ref a]) (st' := []) c300_697 rfl (md_gC m1) ⟨Nat.le_of_ble_eq_true rfl, Nat.le_of_ble_eq_true rfl, Nat.le_of_ble_eq_true rfl⟩ rfl rfl) r2 (Nat.add_lt_add_left (by decide) d) rfl <|
  r_iload c300_700 (ld2_ne ld1_eq (by decide) (Or.inr rfl)) <|
  r_icmpT c300_702 (decide_eq_true heq) <|
  r_iload c300_707 (ld2_ne ld1_eq (by decide) (Or.inr rfl)) <|
  r_ifT c300_709 (decide_eq_true hk) <|
  r_goto c300_723 <|
  r_iinc c300_1120 (ld2_ne (ld1_ne f.2.2.2.2 (by decide) (Or.inr rfl)) (by decide) (Or.inl (by decide))) <|
  r_goto c300_1123 <|
  hr _ m2 (m_fr_trans g1 g2) _ ⟨(ld1_ne (ld2_ne (ld1_ne f.1 (by decide) (Or.inl (by decide))) (by decide) (Or.inl (by decide))) (by decide) (Or.inl (by decide))), (ld1_ne (ld2_ne (ld1_ne f.2.1 (by decide) (Or.inl (by decide))) (by decide) (Or.inl (by decide))) (by decide) (Or.inl (by decide))), (ld1_ne (ld2_ne (ld1_ne f.2.2.1 (by decide) (Or.inl (by decide))) (by decide) (Or.inl (by decide))) (by decide) (Or.inl (by decide))), (ld1_ne (ld2_ne (ld1_ne f.2.2.2.1 (by decide) (Or.inl (by decide))) (by decide) (Or.inl (by decide))) (by decide) (Or.inr rfl)), ld1_eq⟩)
theorem law_13V {xt : mj_X} {ct : Nat → Value} {O : OR} {d N b x a o : Nat} {ra : Nat → Nat} {i len w0 w1 w2 w3 : Int32} {H : mj_H} {r : mj_O × mj_H} (hct : ct 0 = .int 1) (hO : oOK xt ct d O) (hsep : m_sep a ra) (hbo : m_out a ra b) (RN : ∀ h : mj_H, h.1 b = none → aN xt h b = some len) (hlt : mj_c2 .gt i (len - 4) = false) (R0 : ∀ h : mj_H, h.1 b = none → aI xt h b i = some w0) (R1 : ∀ h : mj_H, h.1 b = none → aI xt h b (i + 1) = some w1) (R2 : ∀ h : mj_H, h.1 b = none → aI xt h b (i + 2) = some w2) (R3 : ∀ h : mj_H, h.1 b = none → aI xt h b (i + 3) = some w3) (hb0 : H.1 b = none) (hw : w0 &&& 31 = 13) {q1 : Int32 × mj_H} (e1 : C189 xt ct O N x w1 w2 o H = some q1) (hb1 : q1.2.1 b = none) {S : mS} (hm : md a ra S q1.2) (ho : m_out a ra o) {v0 : Int64} (hv0 : aL xt q1.2 o 0 = some v0) {q2 : Int64 × mS} (e2 : M295 N w1 w2 S = some q2) {q3 : Int32 × mS} (e3 : M203 N q2.2 = some q3) (heq : q3.1 = q1.1) (hk : q1.1 = 0) (hv : v0 = q2.1) (hr : ∀ h', md a ra q3.2 h' → m_fr a ra q1.2 h' → LW xt ct d b x a o (i + 4) h' r) : LW xt ct d b x a o i H r := by
  intro l f
  obtain ⟨h1, r1, m1, g1⟩ := M295_ok (xt := xt) (ct := ct) (d := d) e2 hsep _ hm
  obtain ⟨h2, r2, m2, g2⟩ := M203_ok (xt := xt) (ct := ct) (d := d) e3 hsep _ m1
  exact (
  r_iload c300_23 f.2.2.2.2 <|
  r_aloadn c300_25 f.1 <|
  c_len c300_26 (RN _ hb0) <|
  r_iconst c300_27 <|
  r_isub c300_28 rfl <|
  r_icmpF c300_29 hlt <|
  r_aloadn c300_32 f.1 <|
  r_iload c300_33 f.2.2.2.2 <|
  c_aI c300_35 (R0 _ hb0) <|
  r_bipush c300_36 <|
  r_iand c300_38 rfl <|
  c_sw c300_39_13 (decide_eq_true hw) <|
  r_aloadn c300_726 f.2.1 <|
  r_aloadn c300_727 f.1 <|
  r_iload c300_728 f.2.2.2.2 <|
  r_iconst c300_730 <|
  r_iadd c300_731 rfl <|
  c_aI c300_732 (R1 _ hb0) <|
  r_aloadn c300_733 f.1 <|
  r_iload c300_734 f.2.2.2.2 <|
  r_iconst c300_736 <|
  r_iadd c300_737 rfl <|
  c_aI c300_738 (R2 _ hb0) <|
  r_aloadn c300_739 f.2.2.2.1 <|
  c_cal (st2 := [.int q1.1]) (s_cs (as := [.ref x, .int w1, .int w2, .ref o]) (st' := []) c300_740 ⟨Nat.le_of_ble_eq_true rfl, Nat.le_of_ble_eq_true rfl, Nat.le_of_ble_eq_true rfl⟩ rfl rfl) (C189_ok hct hO e1) (Nat.add_lt_add_left (by decide) d) rfl <|
  r_istore c300_743 <|
  r_aloadn c300_745 (ld1_ne f.2.2.1 (by decide) (Or.inl (by decide))) <|
  r_aloadn c300_746 (ld1_ne f.1 (by decide) (Or.inl (by decide))) <|
  r_iload c300_747 (ld1_ne f.2.2.2.2 (by decide) (Or.inr rfl)) <|
  r_iconst c300_749 <|
  r_iadd c300_750 rfl <|
  c_aI c300_751 (R1 _ hb1) <|
  r_aloadn c300_752 (ld1_ne f.1 (by decide) (Or.inl (by decide))) <|
  r_iload c300_753 (ld1_ne f.2.2.2.2 (by decide) (Or.inr rfl)) <|
  r_iconst c300_755 <|
  r_iadd c300_756 rfl <|
  c_aI c300_757 (R2 _ hb1) <|
  c_cal (st2 := [.long q2.1]) (s_cv (as := [.ref a, .int w1, .int w2]) (st' := []) c300_758 rfl (md_gC hm) ⟨Nat.le_of_ble_eq_true rfl, Nat.le_of_ble_eq_true rfl, Nat.le_of_ble_eq_true rfl⟩ rfl rfl) r1 (Nat.add_lt_add_left (by decide) d) rfl <|
  r_lstore c300_761 <|
  r_aloadn c300_763 (ld2_ne (ld1_ne f.2.2.1 (by decide) (Or.inl (by decide))) (by decide) (Or.inl (by decide))) <|
  c_cal (st2 := [.int q3.1]) (s_cv (as := [.ref a]) (st' := []) c300_764 rfl (md_gC m1) ⟨Nat.le_of_ble_eq_true rfl, Nat.le_of_ble_eq_true rfl, Nat.le_of_ble_eq_true rfl⟩ rfl rfl) r2 (Nat.add_lt_add_left (by decide) d) rfl <|
  r_iload c300_767 (ld2_ne ld1_eq (by decide) (Or.inr rfl)) <|
  r_icmpT c300_769 (decide_eq_true heq) <|
  r_iload c300_774 (ld2_ne ld1_eq (by decide) (Or.inr rfl)) <|
  r_ifF c300_776 (decide_eq_false (fun z => z hk)) <|
  r_aloadn c300_779 (ld2_ne (ld1_ne f.2.2.2.1 (by decide) (Or.inl (by decide))) (by decide) (Or.inl (by decide))) <|
  r_iconst c300_780 <|
  c_aL c300_781 (m_aL (m_fr_trans g1 g2) ho hv0) <|
  r_lload c300_782 ld2_eq <|
  r_lcmp c300_784 rfl <|
  r_ifT c300_785 (lg_eq hv) <|
  r_goto c300_790 <|
  r_iinc c300_1120 (ld2_ne (ld1_ne f.2.2.2.2 (by decide) (Or.inr rfl)) (by decide) (Or.inl (by decide))) <|
  r_goto c300_1123 <|
  hr _ m2 (m_fr_trans g1 g2) _ ⟨(ld1_ne (ld2_ne (ld1_ne f.1 (by decide) (Or.inl (by decide))) (by decide) (Or.inl (by decide))) (by decide) (Or.inl (by decide))), (ld1_ne (ld2_ne (ld1_ne f.2.1 (by decide) (Or.inl (by decide))) (by decide) (Or.inl (by decide))) (by decide) (Or.inl (by decide))), (ld1_ne (ld2_ne (ld1_ne f.2.2.1 (by decide) (Or.inl (by decide))) (by decide) (Or.inl (by decide))) (by decide) (Or.inl (by decide))), (ld1_ne (ld2_ne (ld1_ne f.2.2.2.1 (by decide) (Or.inl (by decide))) (by decide) (Or.inl (by decide))) (by decide) (Or.inr rfl)), ld1_eq⟩)
theorem law_13X {xt : mj_X} {ct : Nat → Value} {O : OR} {d N b x a o : Nat} {ra : Nat → Nat} {i len w0 w1 w2 w3 : Int32} {H : mj_H} {r : mj_O × mj_H} (hct : ct 0 = .int 1) (hO : oOK xt ct d O) (hsep : m_sep a ra) (hbo : m_out a ra b) (RN : ∀ h : mj_H, h.1 b = none → aN xt h b = some len) (hlt : mj_c2 .gt i (len - 4) = false) (R0 : ∀ h : mj_H, h.1 b = none → aI xt h b i = some w0) (R1 : ∀ h : mj_H, h.1 b = none → aI xt h b (i + 1) = some w1) (R2 : ∀ h : mj_H, h.1 b = none → aI xt h b (i + 2) = some w2) (R3 : ∀ h : mj_H, h.1 b = none → aI xt h b (i + 3) = some w3) (hb0 : H.1 b = none) (hw : w0 &&& 31 = 13) {q1 : Int32 × mj_H} (e1 : C189 xt ct O N x w1 w2 o H = some q1) (hb1 : q1.2.1 b = none) {S : mS} (hm : md a ra S q1.2) {q2 : Int64 × mS} (e2 : M295 N w1 w2 S = some q2) {q3 : Int32 × mS} (e3 : M203 N q2.2 = some q3) (heq : q3.1 = q1.1) (hk : q1.1 ≠ 0) (hr : ∀ h', md a ra q3.2 h' → m_fr a ra q1.2 h' → LW xt ct d b x a o (i + 4) h' r) : LW xt ct d b x a o i H r := by
  intro l f
  obtain ⟨h1, r1, m1, g1⟩ := M295_ok (xt := xt) (ct := ct) (d := d) e2 hsep _ hm
  obtain ⟨h2, r2, m2, g2⟩ := M203_ok (xt := xt) (ct := ct) (d := d) e3 hsep _ m1
  exact (
  r_iload c300_23 f.2.2.2.2 <|
  r_aloadn c300_25 f.1 <|
  c_len c300_26 (RN _ hb0) <|
  r_iconst c300_27 <|
  r_isub c300_28 rfl <|
  r_icmpF c300_29 hlt <|
  r_aloadn c300_32 f.1 <|
  r_iload c300_33 f.2.2.2.2 <|
  c_aI c300_35 (R0 _ hb0) <|
  r_bipush c300_36 <|
  r_iand c300_38 rfl <|
  c_sw c300_39_13 (decide_eq_true hw) <|
  r_aloadn c300_726 f.2.1 <|
  r_aloadn c300_727 f.1 <|
  r_iload c300_728 f.2.2.2.2 <|
  r_iconst c300_730 <|
  r_iadd c300_731 rfl <|
  c_aI c300_732 (R1 _ hb0) <|
  r_aloadn c300_733 f.1 <|
  r_iload c300_734 f.2.2.2.2 <|
  r_iconst c300_736 <|
  r_iadd c300_737 rfl <|
  c_aI c300_738 (R2 _ hb0) <|
  r_aloadn c300_739 f.2.2.2.1 <|
  c_cal (st2 := [.int q1.1]) (s_cs (as := [.ref x, .int w1, .int w2, .ref o]) (st' := []) c300_740 ⟨Nat.le_of_ble_eq_true rfl, Nat.le_of_ble_eq_true rfl, Nat.le_of_ble_eq_true rfl⟩ rfl rfl) (C189_ok hct hO e1) (Nat.add_lt_add_left (by decide) d) rfl <|
  r_istore c300_743 <|
  r_aloadn c300_745 (ld1_ne f.2.2.1 (by decide) (Or.inl (by decide))) <|
  r_aloadn c300_746 (ld1_ne f.1 (by decide) (Or.inl (by decide))) <|
  r_iload c300_747 (ld1_ne f.2.2.2.2 (by decide) (Or.inr rfl)) <|
  r_iconst c300_749 <|
  r_iadd c300_750 rfl <|
  c_aI c300_751 (R1 _ hb1) <|
  r_aloadn c300_752 (ld1_ne f.1 (by decide) (Or.inl (by decide))) <|
  r_iload c300_753 (ld1_ne f.2.2.2.2 (by decide) (Or.inr rfl)) <|
  r_iconst c300_755 <|
  r_iadd c300_756 rfl <|
  c_aI c300_757 (R2 _ hb1) <|
  c_cal (st2 := [.long q2.1]) (s_cv (as := [.ref a, .int w1, .int w2]) (st' := []) c300_758 rfl (md_gC hm) ⟨Nat.le_of_ble_eq_true rfl, Nat.le_of_ble_eq_true rfl, Nat.le_of_ble_eq_true rfl⟩ rfl rfl) r1 (Nat.add_lt_add_left (by decide) d) rfl <|
  r_lstore c300_761 <|
  r_aloadn c300_763 (ld2_ne (ld1_ne f.2.2.1 (by decide) (Or.inl (by decide))) (by decide) (Or.inl (by decide))) <|
  c_cal (st2 := [.int q3.1]) (s_cv (as := [.ref a]) (st' := []) c300_764 rfl (md_gC m1) ⟨Nat.le_of_ble_eq_true rfl, Nat.le_of_ble_eq_true rfl, Nat.le_of_ble_eq_true rfl⟩ rfl rfl) r2 (Nat.add_lt_add_left (by decide) d) rfl <|
  r_iload c300_767 (ld2_ne ld1_eq (by decide) (Or.inr rfl)) <|
  r_icmpT c300_769 (decide_eq_true heq) <|
  r_iload c300_774 (ld2_ne ld1_eq (by decide) (Or.inr rfl)) <|
  r_ifT c300_776 (decide_eq_true hk) <|
  r_goto c300_790 <|
  r_iinc c300_1120 (ld2_ne (ld1_ne f.2.2.2.2 (by decide) (Or.inr rfl)) (by decide) (Or.inl (by decide))) <|
  r_goto c300_1123 <|
  hr _ m2 (m_fr_trans g1 g2) _ ⟨(ld1_ne (ld2_ne (ld1_ne f.1 (by decide) (Or.inl (by decide))) (by decide) (Or.inl (by decide))) (by decide) (Or.inl (by decide))), (ld1_ne (ld2_ne (ld1_ne f.2.1 (by decide) (Or.inl (by decide))) (by decide) (Or.inl (by decide))) (by decide) (Or.inl (by decide))), (ld1_ne (ld2_ne (ld1_ne f.2.2.1 (by decide) (Or.inl (by decide))) (by decide) (Or.inl (by decide))) (by decide) (Or.inl (by decide))), (ld1_ne (ld2_ne (ld1_ne f.2.2.2.1 (by decide) (Or.inl (by decide))) (by decide) (Or.inl (by decide))) (by decide) (Or.inr rfl)), ld1_eq⟩)
theorem law_14V {xt : mj_X} {ct : Nat → Value} {O : OR} {d N b x a o : Nat} {ra : Nat → Nat} {i len w0 w1 w2 w3 : Int32} {H : mj_H} {r : mj_O × mj_H} (hct : ct 0 = .int 1) (hO : oOK xt ct d O) (hsep : m_sep a ra) (hbo : m_out a ra b) (RN : ∀ h : mj_H, h.1 b = none → aN xt h b = some len) (hlt : mj_c2 .gt i (len - 4) = false) (R0 : ∀ h : mj_H, h.1 b = none → aI xt h b i = some w0) (R1 : ∀ h : mj_H, h.1 b = none → aI xt h b (i + 1) = some w1) (R2 : ∀ h : mj_H, h.1 b = none → aI xt h b (i + 2) = some w2) (R3 : ∀ h : mj_H, h.1 b = none → aI xt h b (i + 3) = some w3) (hb0 : H.1 b = none) (hw : w0 &&& 31 = 14) {q1 : Int32 × mj_H} (e1 : C192 xt ct O N x w1 w2 o H = some q1) (hb1 : q1.2.1 b = none) {S : mS} (hm : md a ra S q1.2) (ho : m_out a ra o) {v0 : Int64} (hv0 : aL xt q1.2 o 0 = some v0) {q2 : Int32 × mS} (e2 : M296 N w1 w2 S = some q2) {q3 : Int32 × mS} (e3 : M203 N q2.2 = some q3) (heq : q3.1 = q1.1) (hk : q1.1 = 0) (hv : v0 = (q2.1 : Int32).toInt64) (hr : ∀ h', md a ra q3.2 h' → m_fr a ra q1.2 h' → LW xt ct d b x a o (i + 4) h' r) : LW xt ct d b x a o i H r := by
  intro l f
  obtain ⟨h1, r1, m1, g1⟩ := M296_ok (xt := xt) (ct := ct) (d := d) e2 hsep _ hm
  obtain ⟨h2, r2, m2, g2⟩ := M203_ok (xt := xt) (ct := ct) (d := d) e3 hsep _ m1
  exact (
  r_iload c300_23 f.2.2.2.2 <|
  r_aloadn c300_25 f.1 <|
  c_len c300_26 (RN _ hb0) <|
  r_iconst c300_27 <|
  r_isub c300_28 rfl <|
  r_icmpF c300_29 hlt <|
  r_aloadn c300_32 f.1 <|
  r_iload c300_33 f.2.2.2.2 <|
  c_aI c300_35 (R0 _ hb0) <|
  r_bipush c300_36 <|
  r_iand c300_38 rfl <|
  c_sw c300_39_14 (decide_eq_true hw) <|
  r_aloadn c300_793 f.2.1 <|
  r_aloadn c300_794 f.1 <|
  r_iload c300_795 f.2.2.2.2 <|
  r_iconst c300_797 <|
  r_iadd c300_798 rfl <|
  c_aI c300_799 (R1 _ hb0) <|
  r_aloadn c300_800 f.1 <|
  r_iload c300_801 f.2.2.2.2 <|
  r_iconst c300_803 <|
  r_iadd c300_804 rfl <|
  c_aI c300_805 (R2 _ hb0) <|
  r_aloadn c300_806 f.2.2.2.1 <|
  c_cal (st2 := [.int q1.1]) (s_cs (as := [.ref x, .int w1, .int w2, .ref o]) (st' := []) c300_807 ⟨Nat.le_of_ble_eq_true rfl, Nat.le_of_ble_eq_true rfl, Nat.le_of_ble_eq_true rfl⟩ rfl rfl) (C192_ok hct hO e1) (Nat.add_lt_add_left (by decide) d) rfl <|
  r_istore c300_810 <|
  r_aloadn c300_812 (ld1_ne f.2.2.1 (by decide) (Or.inl (by decide))) <|
  r_aloadn c300_813 (ld1_ne f.1 (by decide) (Or.inl (by decide))) <|
  r_iload c300_814 (ld1_ne f.2.2.2.2 (by decide) (Or.inr rfl)) <|
  r_iconst c300_816 <|
  r_iadd c300_817 rfl <|
  c_aI c300_818 (R1 _ hb1) <|
  r_aloadn c300_819 (ld1_ne f.1 (by decide) (Or.inl (by decide))) <|
  r_iload c300_820 (ld1_ne f.2.2.2.2 (by decide) (Or.inr rfl)) <|
  r_iconst c300_822 <|
  r_iadd c300_823 rfl <|
  c_aI c300_824 (R2 _ hb1) <|
  c_cal (st2 := [.int q2.1]) (s_cv (as := [.ref a, .int w1, .int w2]) (st' := []) c300_825 rfl (md_gC hm) ⟨Nat.le_of_ble_eq_true rfl, Nat.le_of_ble_eq_true rfl, Nat.le_of_ble_eq_true rfl⟩ rfl rfl) r1 (Nat.add_lt_add_left (by decide) d) rfl <|
  r_istore c300_828 <|
  r_aloadn c300_830 (ld1_ne (ld1_ne f.2.2.1 (by decide) (Or.inl (by decide))) (by decide) (Or.inl (by decide))) <|
  c_cal (st2 := [.int q3.1]) (s_cv (as := [.ref a]) (st' := []) c300_831 rfl (md_gC m1) ⟨Nat.le_of_ble_eq_true rfl, Nat.le_of_ble_eq_true rfl, Nat.le_of_ble_eq_true rfl⟩ rfl rfl) r2 (Nat.add_lt_add_left (by decide) d) rfl <|
  r_iload c300_834 (ld1_ne ld1_eq (by decide) (Or.inr rfl)) <|
  r_icmpT c300_836 (decide_eq_true heq) <|
  r_iload c300_841 (ld1_ne ld1_eq (by decide) (Or.inr rfl)) <|
  r_ifF c300_843 (decide_eq_false (fun z => z hk)) <|
  r_aloadn c300_846 (ld1_ne (ld1_ne f.2.2.2.1 (by decide) (Or.inl (by decide))) (by decide) (Or.inl (by decide))) <|
  r_iconst c300_847 <|
  c_aL c300_848 (m_aL (m_fr_trans g1 g2) ho hv0) <|
  r_iload c300_849 ld1_eq <|
  r_i2l c300_851 rfl <|
  r_lcmp c300_852 rfl <|
  r_ifT c300_853 (lg_eq hv) <|
  r_goto c300_858 <|
  r_iinc c300_1120 (ld1_ne (ld1_ne f.2.2.2.2 (by decide) (Or.inr rfl)) (by decide) (Or.inl (by decide))) <|
  r_goto c300_1123 <|
  hr _ m2 (m_fr_trans g1 g2) _ ⟨(ld1_ne (ld1_ne (ld1_ne f.1 (by decide) (Or.inl (by decide))) (by decide) (Or.inl (by decide))) (by decide) (Or.inl (by decide))), (ld1_ne (ld1_ne (ld1_ne f.2.1 (by decide) (Or.inl (by decide))) (by decide) (Or.inl (by decide))) (by decide) (Or.inl (by decide))), (ld1_ne (ld1_ne (ld1_ne f.2.2.1 (by decide) (Or.inl (by decide))) (by decide) (Or.inl (by decide))) (by decide) (Or.inl (by decide))), (ld1_ne (ld1_ne (ld1_ne f.2.2.2.1 (by decide) (Or.inl (by decide))) (by decide) (Or.inl (by decide))) (by decide) (Or.inr rfl)), ld1_eq⟩)
theorem law_14X {xt : mj_X} {ct : Nat → Value} {O : OR} {d N b x a o : Nat} {ra : Nat → Nat} {i len w0 w1 w2 w3 : Int32} {H : mj_H} {r : mj_O × mj_H} (hct : ct 0 = .int 1) (hO : oOK xt ct d O) (hsep : m_sep a ra) (hbo : m_out a ra b) (RN : ∀ h : mj_H, h.1 b = none → aN xt h b = some len) (hlt : mj_c2 .gt i (len - 4) = false) (R0 : ∀ h : mj_H, h.1 b = none → aI xt h b i = some w0) (R1 : ∀ h : mj_H, h.1 b = none → aI xt h b (i + 1) = some w1) (R2 : ∀ h : mj_H, h.1 b = none → aI xt h b (i + 2) = some w2) (R3 : ∀ h : mj_H, h.1 b = none → aI xt h b (i + 3) = some w3) (hb0 : H.1 b = none) (hw : w0 &&& 31 = 14) {q1 : Int32 × mj_H} (e1 : C192 xt ct O N x w1 w2 o H = some q1) (hb1 : q1.2.1 b = none) {S : mS} (hm : md a ra S q1.2) {q2 : Int32 × mS} (e2 : M296 N w1 w2 S = some q2) {q3 : Int32 × mS} (e3 : M203 N q2.2 = some q3) (heq : q3.1 = q1.1) (hk : q1.1 ≠ 0) (hr : ∀ h', md a ra q3.2 h' → m_fr a ra q1.2 h' → LW xt ct d b x a o (i + 4) h' r) : LW xt ct d b x a o i H r := by
  intro l f
  obtain ⟨h1, r1, m1, g1⟩ := M296_ok (xt := xt) (ct := ct) (d := d) e2 hsep _ hm
  obtain ⟨h2, r2, m2, g2⟩ := M203_ok (xt := xt) (ct := ct) (d := d) e3 hsep _ m1
  exact (
  r_iload c300_23 f.2.2.2.2 <|
  r_aloadn c300_25 f.1 <|
  c_len c300_26 (RN _ hb0) <|
  r_iconst c300_27 <|
  r_isub c300_28 rfl <|
  r_icmpF c300_29 hlt <|
  r_aloadn c300_32 f.1 <|
  r_iload c300_33 f.2.2.2.2 <|
  c_aI c300_35 (R0 _ hb0) <|
  r_bipush c300_36 <|
  r_iand c300_38 rfl <|
  c_sw c300_39_14 (decide_eq_true hw) <|
  r_aloadn c300_793 f.2.1 <|
  r_aloadn c300_794 f.1 <|
  r_iload c300_795 f.2.2.2.2 <|
  r_iconst c300_797 <|
  r_iadd c300_798 rfl <|
  c_aI c300_799 (R1 _ hb0) <|
  r_aloadn c300_800 f.1 <|
  r_iload c300_801 f.2.2.2.2 <|
  r_iconst c300_803 <|
  r_iadd c300_804 rfl <|
  c_aI c300_805 (R2 _ hb0) <|
  r_aloadn c300_806 f.2.2.2.1 <|
  c_cal (st2 := [.int q1.1]) (s_cs (as := [.ref x, .int w1, .int w2, .ref o]) (st' := []) c300_807 ⟨Nat.le_of_ble_eq_true rfl, Nat.le_of_ble_eq_true rfl, Nat.le_of_ble_eq_true rfl⟩ rfl rfl) (C192_ok hct hO e1) (Nat.add_lt_add_left (by decide) d) rfl <|
  r_istore c300_810 <|
  r_aloadn c300_812 (ld1_ne f.2.2.1 (by decide) (Or.inl (by decide))) <|
  r_aloadn c300_813 (ld1_ne f.1 (by decide) (Or.inl (by decide))) <|
  r_iload c300_814 (ld1_ne f.2.2.2.2 (by decide) (Or.inr rfl)) <|
  r_iconst c300_816 <|
  r_iadd c300_817 rfl <|
  c_aI c300_818 (R1 _ hb1) <|
  r_aloadn c300_819 (ld1_ne f.1 (by decide) (Or.inl (by decide))) <|
  r_iload c300_820 (ld1_ne f.2.2.2.2 (by decide) (Or.inr rfl)) <|
  r_iconst c300_822 <|
  r_iadd c300_823 rfl <|
  c_aI c300_824 (R2 _ hb1) <|
  c_cal (st2 := [.int q2.1]) (s_cv (as := [.ref a, .int w1, .int w2]) (st' := []) c300_825 rfl (md_gC hm) ⟨Nat.le_of_ble_eq_true rfl, Nat.le_of_ble_eq_true rfl, Nat.le_of_ble_eq_true rfl⟩ rfl rfl) r1 (Nat.add_lt_add_left (by decide) d) rfl <|
  r_istore c300_828 <|
  r_aloadn c300_830 (ld1_ne (ld1_ne f.2.2.1 (by decide) (Or.inl (by decide))) (by decide) (Or.inl (by decide))) <|
  c_cal (st2 := [.int q3.1]) (s_cv (as := [.ref a]) (st' := []) c300_831 rfl (md_gC m1) ⟨Nat.le_of_ble_eq_true rfl, Nat.le_of_ble_eq_true rfl, Nat.le_of_ble_eq_true rfl⟩ rfl rfl) r2 (Nat.add_lt_add_left (by decide) d) rfl <|
  r_iload c300_834 (ld1_ne ld1_eq (by decide) (Or.inr rfl)) <|
  r_icmpT c300_836 (decide_eq_true heq) <|
  r_iload c300_841 (ld1_ne ld1_eq (by decide) (Or.inr rfl)) <|
  r_ifT c300_843 (decide_eq_true hk) <|
  r_goto c300_858 <|
  r_iinc c300_1120 (ld1_ne (ld1_ne f.2.2.2.2 (by decide) (Or.inr rfl)) (by decide) (Or.inl (by decide))) <|
  r_goto c300_1123 <|
  hr _ m2 (m_fr_trans g1 g2) _ ⟨(ld1_ne (ld1_ne (ld1_ne f.1 (by decide) (Or.inl (by decide))) (by decide) (Or.inl (by decide))) (by decide) (Or.inl (by decide))), (ld1_ne (ld1_ne (ld1_ne f.2.1 (by decide) (Or.inl (by decide))) (by decide) (Or.inl (by decide))) (by decide) (Or.inl (by decide))), (ld1_ne (ld1_ne (ld1_ne f.2.2.1 (by decide) (Or.inl (by decide))) (by decide) (Or.inl (by decide))) (by decide) (Or.inl (by decide))), (ld1_ne (ld1_ne (ld1_ne f.2.2.2.1 (by decide) (Or.inl (by decide))) (by decide) (Or.inl (by decide))) (by decide) (Or.inr rfl)), ld1_eq⟩)
theorem law_15V {xt : mj_X} {ct : Nat → Value} {O : OR} {d N b x a o : Nat} {ra : Nat → Nat} {i len w0 w1 w2 w3 : Int32} {H : mj_H} {r : mj_O × mj_H} (hct : ct 0 = .int 1) (hO : oOK xt ct d O) (hsep : m_sep a ra) (hbo : m_out a ra b) (RN : ∀ h : mj_H, h.1 b = none → aN xt h b = some len) (hlt : mj_c2 .gt i (len - 4) = false) (R0 : ∀ h : mj_H, h.1 b = none → aI xt h b i = some w0) (R1 : ∀ h : mj_H, h.1 b = none → aI xt h b (i + 1) = some w1) (R2 : ∀ h : mj_H, h.1 b = none → aI xt h b (i + 2) = some w2) (R3 : ∀ h : mj_H, h.1 b = none → aI xt h b (i + 3) = some w3) (hb0 : H.1 b = none) (hw : w0 &&& 31 = 15) {q1 : Int32 × mj_H} (e1 : C195 xt ct O N x w1 w2 w3 o H = some q1) (hb1 : q1.2.1 b = none) {S : mS} (hm : md a ra S q1.2) (ho : m_out a ra o) {v0 : Int64} (hv0 : aL xt q1.2 o 0 = some v0) {q2 : Int32 × mS} (e2 : M297 N w1 w2 w3 S = some q2) {q3 : Int32 × mS} (e3 : M203 N q2.2 = some q3) (heq : q3.1 = q1.1) (hk : q1.1 = 0) (hv : v0 = (q2.1 : Int32).toInt64) (hr : ∀ h', md a ra q3.2 h' → m_fr a ra q1.2 h' → LW xt ct d b x a o (i + 4) h' r) : LW xt ct d b x a o i H r := by
  intro l f
  obtain ⟨h1, r1, m1, g1⟩ := M297_ok (xt := xt) (ct := ct) (d := d) e2 hsep _ hm
  obtain ⟨h2, r2, m2, g2⟩ := M203_ok (xt := xt) (ct := ct) (d := d) e3 hsep _ m1
  exact (
  r_iload c300_23 f.2.2.2.2 <|
  r_aloadn c300_25 f.1 <|
  c_len c300_26 (RN _ hb0) <|
  r_iconst c300_27 <|
  r_isub c300_28 rfl <|
  r_icmpF c300_29 hlt <|
  r_aloadn c300_32 f.1 <|
  r_iload c300_33 f.2.2.2.2 <|
  c_aI c300_35 (R0 _ hb0) <|
  r_bipush c300_36 <|
  r_iand c300_38 rfl <|
  c_sw c300_39_15 (decide_eq_true hw) <|
  r_aloadn c300_861 f.2.1 <|
  r_aloadn c300_862 f.1 <|
  r_iload c300_863 f.2.2.2.2 <|
  r_iconst c300_865 <|
  r_iadd c300_866 rfl <|
  c_aI c300_867 (R1 _ hb0) <|
  r_aloadn c300_868 f.1 <|
  r_iload c300_869 f.2.2.2.2 <|
  r_iconst c300_871 <|
  r_iadd c300_872 rfl <|
  c_aI c300_873 (R2 _ hb0) <|
  r_aloadn c300_874 f.1 <|
  r_iload c300_875 f.2.2.2.2 <|
  r_iconst c300_877 <|
  r_iadd c300_878 rfl <|
  c_aI c300_879 (R3 _ hb0) <|
  r_aloadn c300_880 f.2.2.2.1 <|
  c_cal (st2 := [.int q1.1]) (s_cs (as := [.ref x, .int w1, .int w2, .int w3, .ref o]) (st' := []) c300_881 ⟨Nat.le_of_ble_eq_true rfl, Nat.le_of_ble_eq_true rfl, Nat.le_of_ble_eq_true rfl⟩ rfl rfl) (C195_ok hct hO e1) (Nat.add_lt_add_left (by decide) d) rfl <|
  r_istore c300_884 <|
  r_aloadn c300_886 (ld1_ne f.2.2.1 (by decide) (Or.inl (by decide))) <|
  r_aloadn c300_887 (ld1_ne f.1 (by decide) (Or.inl (by decide))) <|
  r_iload c300_888 (ld1_ne f.2.2.2.2 (by decide) (Or.inr rfl)) <|
  r_iconst c300_890 <|
  r_iadd c300_891 rfl <|
  c_aI c300_892 (R1 _ hb1) <|
  r_aloadn c300_893 (ld1_ne f.1 (by decide) (Or.inl (by decide))) <|
  r_iload c300_894 (ld1_ne f.2.2.2.2 (by decide) (Or.inr rfl)) <|
  r_iconst c300_896 <|
  r_iadd c300_897 rfl <|
  c_aI c300_898 (R2 _ hb1) <|
  r_aloadn c300_899 (ld1_ne f.1 (by decide) (Or.inl (by decide))) <|
  r_iload c300_900 (ld1_ne f.2.2.2.2 (by decide) (Or.inr rfl)) <|
  r_iconst c300_902 <|
  r_iadd c300_903 rfl <|
  c_aI c300_904 (R3 _ hb1) <|
  c_cal (st2 := [.int q2.1]) (s_cv (as := [.ref a, .int w1, .int w2, .int w3]) (st' := []) c300_905 rfl (md_gC hm) ⟨Nat.le_of_ble_eq_true rfl, Nat.le_of_ble_eq_true rfl, Nat.le_of_ble_eq_true rfl⟩ rfl rfl) r1 (Nat.add_lt_add_left (by decide) d) rfl <|
  r_istore c300_908 <|
  r_aloadn c300_910 (ld1_ne (ld1_ne f.2.2.1 (by decide) (Or.inl (by decide))) (by decide) (Or.inl (by decide))) <|
  c_cal (st2 := [.int q3.1]) (s_cv (as := [.ref a]) (st' := []) c300_911 rfl (md_gC m1) ⟨Nat.le_of_ble_eq_true rfl, Nat.le_of_ble_eq_true rfl, Nat.le_of_ble_eq_true rfl⟩ rfl rfl) r2 (Nat.add_lt_add_left (by decide) d) rfl <|
  r_iload c300_914 (ld1_ne ld1_eq (by decide) (Or.inr rfl)) <|
  r_icmpT c300_916 (decide_eq_true heq) <|
  r_iload c300_921 (ld1_ne ld1_eq (by decide) (Or.inr rfl)) <|
  r_ifF c300_923 (decide_eq_false (fun z => z hk)) <|
  r_aloadn c300_926 (ld1_ne (ld1_ne f.2.2.2.1 (by decide) (Or.inl (by decide))) (by decide) (Or.inl (by decide))) <|
  r_iconst c300_927 <|
  c_aL c300_928 (m_aL (m_fr_trans g1 g2) ho hv0) <|
  r_iload c300_929 ld1_eq <|
  r_i2l c300_931 rfl <|
  r_lcmp c300_932 rfl <|
  r_ifT c300_933 (lg_eq hv) <|
  r_goto c300_938 <|
  r_iinc c300_1120 (ld1_ne (ld1_ne f.2.2.2.2 (by decide) (Or.inr rfl)) (by decide) (Or.inl (by decide))) <|
  r_goto c300_1123 <|
  hr _ m2 (m_fr_trans g1 g2) _ ⟨(ld1_ne (ld1_ne (ld1_ne f.1 (by decide) (Or.inl (by decide))) (by decide) (Or.inl (by decide))) (by decide) (Or.inl (by decide))), (ld1_ne (ld1_ne (ld1_ne f.2.1 (by decide) (Or.inl (by decide))) (by decide) (Or.inl (by decide))) (by decide) (Or.inl (by decide))), (ld1_ne (ld1_ne (ld1_ne f.2.2.1 (by decide) (Or.inl (by decide))) (by decide) (Or.inl (by decide))) (by decide) (Or.inl (by decide))), (ld1_ne (ld1_ne (ld1_ne f.2.2.2.1 (by decide) (Or.inl (by decide))) (by decide) (Or.inl (by decide))) (by decide) (Or.inr rfl)), ld1_eq⟩)
theorem law_15X {xt : mj_X} {ct : Nat → Value} {O : OR} {d N b x a o : Nat} {ra : Nat → Nat} {i len w0 w1 w2 w3 : Int32} {H : mj_H} {r : mj_O × mj_H} (hct : ct 0 = .int 1) (hO : oOK xt ct d O) (hsep : m_sep a ra) (hbo : m_out a ra b) (RN : ∀ h : mj_H, h.1 b = none → aN xt h b = some len) (hlt : mj_c2 .gt i (len - 4) = false) (R0 : ∀ h : mj_H, h.1 b = none → aI xt h b i = some w0) (R1 : ∀ h : mj_H, h.1 b = none → aI xt h b (i + 1) = some w1) (R2 : ∀ h : mj_H, h.1 b = none → aI xt h b (i + 2) = some w2) (R3 : ∀ h : mj_H, h.1 b = none → aI xt h b (i + 3) = some w3) (hb0 : H.1 b = none) (hw : w0 &&& 31 = 15) {q1 : Int32 × mj_H} (e1 : C195 xt ct O N x w1 w2 w3 o H = some q1) (hb1 : q1.2.1 b = none) {S : mS} (hm : md a ra S q1.2) {q2 : Int32 × mS} (e2 : M297 N w1 w2 w3 S = some q2) {q3 : Int32 × mS} (e3 : M203 N q2.2 = some q3) (heq : q3.1 = q1.1) (hk : q1.1 ≠ 0) (hr : ∀ h', md a ra q3.2 h' → m_fr a ra q1.2 h' → LW xt ct d b x a o (i + 4) h' r) : LW xt ct d b x a o i H r := by
  intro l f
  obtain ⟨h1, r1, m1, g1⟩ := M297_ok (xt := xt) (ct := ct) (d := d) e2 hsep _ hm
  obtain ⟨h2, r2, m2, g2⟩ := M203_ok (xt := xt) (ct := ct) (d := d) e3 hsep _ m1
  exact (
  r_iload c300_23 f.2.2.2.2 <|
  r_aloadn c300_25 f.1 <|
  c_len c300_26 (RN _ hb0) <|
  r_iconst c300_27 <|
  r_isub c300_28 rfl <|
  r_icmpF c300_29 hlt <|
  r_aloadn c300_32 f.1 <|
  r_iload c300_33 f.2.2.2.2 <|
  c_aI c300_35 (R0 _ hb0) <|
  r_bipush c300_36 <|
  r_iand c300_38 rfl <|
  c_sw c300_39_15 (decide_eq_true hw) <|
  r_aloadn c300_861 f.2.1 <|
  r_aloadn c300_862 f.1 <|
  r_iload c300_863 f.2.2.2.2 <|
  r_iconst c300_865 <|
  r_iadd c300_866 rfl <|
  c_aI c300_867 (R1 _ hb0) <|
  r_aloadn c300_868 f.1 <|
  r_iload c300_869 f.2.2.2.2 <|
  r_iconst c300_871 <|
  r_iadd c300_872 rfl <|
  c_aI c300_873 (R2 _ hb0) <|
  r_aloadn c300_874 f.1 <|
  r_iload c300_875 f.2.2.2.2 <|
  r_iconst c300_877 <|
  r_iadd c300_878 rfl <|
  c_aI c300_879 (R3 _ hb0) <|
  r_aloadn c300_880 f.2.2.2.1 <|
  c_cal (st2 := [.int q1.1]) (s_cs (as := [.ref x, .int w1, .int w2, .int w3, .ref o]) (st' := []) c300_881 ⟨Nat.le_of_ble_eq_true rfl, Nat.le_of_ble_eq_true rfl, Nat.le_of_ble_eq_true rfl⟩ rfl rfl) (C195_ok hct hO e1) (Nat.add_lt_add_left (by decide) d) rfl <|
  r_istore c300_884 <|
  r_aloadn c300_886 (ld1_ne f.2.2.1 (by decide) (Or.inl (by decide))) <|
  r_aloadn c300_887 (ld1_ne f.1 (by decide) (Or.inl (by decide))) <|
  r_iload c300_888 (ld1_ne f.2.2.2.2 (by decide) (Or.inr rfl)) <|
  r_iconst c300_890 <|
  r_iadd c300_891 rfl <|
  c_aI c300_892 (R1 _ hb1) <|
  r_aloadn c300_893 (ld1_ne f.1 (by decide) (Or.inl (by decide))) <|
  r_iload c300_894 (ld1_ne f.2.2.2.2 (by decide) (Or.inr rfl)) <|
  r_iconst c300_896 <|
  r_iadd c300_897 rfl <|
  c_aI c300_898 (R2 _ hb1) <|
  r_aloadn c300_899 (ld1_ne f.1 (by decide) (Or.inl (by decide))) <|
  r_iload c300_900 (ld1_ne f.2.2.2.2 (by decide) (Or.inr rfl)) <|
  r_iconst c300_902 <|
  r_iadd c300_903 rfl <|
  c_aI c300_904 (R3 _ hb1) <|
  c_cal (st2 := [.int q2.1]) (s_cv (as := [.ref a, .int w1, .int w2, .int w3]) (st' := []) c300_905 rfl (md_gC hm) ⟨Nat.le_of_ble_eq_true rfl, Nat.le_of_ble_eq_true rfl, Nat.le_of_ble_eq_true rfl⟩ rfl rfl) r1 (Nat.add_lt_add_left (by decide) d) rfl <|
  r_istore c300_908 <|
  r_aloadn c300_910 (ld1_ne (ld1_ne f.2.2.1 (by decide) (Or.inl (by decide))) (by decide) (Or.inl (by decide))) <|
  c_cal (st2 := [.int q3.1]) (s_cv (as := [.ref a]) (st' := []) c300_911 rfl (md_gC m1) ⟨Nat.le_of_ble_eq_true rfl, Nat.le_of_ble_eq_true rfl, Nat.le_of_ble_eq_true rfl⟩ rfl rfl) r2 (Nat.add_lt_add_left (by decide) d) rfl <|
  r_iload c300_914 (ld1_ne ld1_eq (by decide) (Or.inr rfl)) <|
  r_icmpT c300_916 (decide_eq_true heq) <|
  r_iload c300_921 (ld1_ne ld1_eq (by decide) (Or.inr rfl)) <|
  r_ifT c300_923 (decide_eq_true hk) <|
  r_goto c300_938 <|
  r_iinc c300_1120 (ld1_ne (ld1_ne f.2.2.2.2 (by decide) (Or.inr rfl)) (by decide) (Or.inl (by decide))) <|
  r_goto c300_1123 <|
  hr _ m2 (m_fr_trans g1 g2) _ ⟨(ld1_ne (ld1_ne (ld1_ne f.1 (by decide) (Or.inl (by decide))) (by decide) (Or.inl (by decide))) (by decide) (Or.inl (by decide))), (ld1_ne (ld1_ne (ld1_ne f.2.1 (by decide) (Or.inl (by decide))) (by decide) (Or.inl (by decide))) (by decide) (Or.inl (by decide))), (ld1_ne (ld1_ne (ld1_ne f.2.2.1 (by decide) (Or.inl (by decide))) (by decide) (Or.inl (by decide))) (by decide) (Or.inl (by decide))), (ld1_ne (ld1_ne (ld1_ne f.2.2.2.1 (by decide) (Or.inl (by decide))) (by decide) (Or.inl (by decide))) (by decide) (Or.inr rfl)), ld1_eq⟩)
theorem law_16V {xt : mj_X} {ct : Nat → Value} {O : OR} {d N b x a o : Nat} {ra : Nat → Nat} {i len w0 w1 w2 w3 : Int32} {H : mj_H} {r : mj_O × mj_H} (hct : ct 0 = .int 1) (hO : oOK xt ct d O) (hsep : m_sep a ra) (hbo : m_out a ra b) (RN : ∀ h : mj_H, h.1 b = none → aN xt h b = some len) (hlt : mj_c2 .gt i (len - 4) = false) (R0 : ∀ h : mj_H, h.1 b = none → aI xt h b i = some w0) (R1 : ∀ h : mj_H, h.1 b = none → aI xt h b (i + 1) = some w1) (R2 : ∀ h : mj_H, h.1 b = none → aI xt h b (i + 2) = some w2) (R3 : ∀ h : mj_H, h.1 b = none → aI xt h b (i + 3) = some w3) (hb0 : H.1 b = none) (hw : w0 &&& 31 = 16) {q1 : Int32 × mj_H} (e1 : C197 xt ct O N x w1 (((w2 : Int32).toInt64 <<< ((32 : Int32).toInt64 &&& 63)) ||| ((w3 : Int32).toInt64 &&& 4294967295)) o H = some q1) (hb1 : q1.2.1 b = none) {S : mS} (hm : md a ra S q1.2) (ho : m_out a ra o) {v0 : Int64} (hv0 : aL xt q1.2 o 0 = some v0) {q2 : Int32 × mS} (e2 : M298 N w1 (((w2 : Int32).toInt64 <<< ((32 : Int32).toInt64 &&& 63)) ||| ((w3 : Int32).toInt64 &&& 4294967295)) S = some q2) {q3 : Int32 × mS} (e3 : M203 N q2.2 = some q3) (heq : q3.1 = q1.1) (hk : q1.1 = 0) (hv : v0 = (q2.1 : Int32).toInt64) (hr : ∀ h', md a ra q3.2 h' → m_fr a ra q1.2 h' → LW xt ct d b x a o (i + 4) h' r) : LW xt ct d b x a o i H r := by
  intro l f
  obtain ⟨h1, r1, m1, g1⟩ := M298_ok (xt := xt) (ct := ct) (d := d) e2 hsep _ hm
  obtain ⟨h2, r2, m2, g2⟩ := M203_ok (xt := xt) (ct := ct) (d := d) e3 hsep _ m1
  exact (
  r_iload c300_23 f.2.2.2.2 <|
  r_aloadn c300_25 f.1 <|
  c_len c300_26 (RN _ hb0) <|
  r_iconst c300_27 <|
  r_isub c300_28 rfl <|
  r_icmpF c300_29 hlt <|
  r_aloadn c300_32 f.1 <|
  r_iload c300_33 f.2.2.2.2 <|
  c_aI c300_35 (R0 _ hb0) <|
  r_bipush c300_36 <|
  r_iand c300_38 rfl <|
  c_sw c300_39_16 (decide_eq_true hw) <|
  r_aloadn c300_941 f.2.1 <|
  r_aloadn c300_942 f.1 <|
  r_iload c300_943 f.2.2.2.2 <|
  r_iconst c300_945 <|
  r_iadd c300_946 rfl <|
  c_aI c300_947 (R1 _ hb0) <|
  r_aloadn c300_948 f.1 <|
  r_iload c300_949 f.2.2.2.2 <|
  r_iconst c300_951 <|
  r_iadd c300_952 rfl <|
  c_aI c300_953 (R2 _ hb0) <|
  r_i2l c300_954 rfl <|
  r_bipush c300_955 <|
  r_lshl c300_957 rfl <|
  r_aloadn c300_958 f.1 <|
  r_iload c300_959 f.2.2.2.2 <|
  r_iconst c300_961 <|
  r_iadd c300_962 rfl <|
  c_aI c300_963 (R3 _ hb0) <|
  r_i2l c300_964 rfl <|
  r_ldc2 c300_965 <|
  r_land c300_968 rfl <|
  r_lor c300_969 rfl <|
  r_aloadn c300_970 f.2.2.2.1 <|
  c_cal (st2 := [.int q1.1]) (s_cs (as := [.ref x, .int w1, .long (((w2 : Int32).toInt64 <<< ((32 : Int32).toInt64 &&& 63)) ||| ((w3 : Int32).toInt64 &&& 4294967295)), .ref o]) (st' := []) c300_971 ⟨Nat.le_of_ble_eq_true rfl, Nat.le_of_ble_eq_true rfl, Nat.le_of_ble_eq_true rfl⟩ rfl rfl) (C197_ok hct hO e1) (Nat.add_lt_add_left (by decide) d) rfl <|
  r_istore c300_974 <|
  r_aloadn c300_976 (ld1_ne f.2.2.1 (by decide) (Or.inl (by decide))) <|
  r_aloadn c300_977 (ld1_ne f.1 (by decide) (Or.inl (by decide))) <|
  r_iload c300_978 (ld1_ne f.2.2.2.2 (by decide) (Or.inr rfl)) <|
  r_iconst c300_980 <|
  r_iadd c300_981 rfl <|
  c_aI c300_982 (R1 _ hb1) <|
  r_aloadn c300_983 (ld1_ne f.1 (by decide) (Or.inl (by decide))) <|
  r_iload c300_984 (ld1_ne f.2.2.2.2 (by decide) (Or.inr rfl)) <|
  r_iconst c300_986 <|
  r_iadd c300_987 rfl <|
  c_aI c300_988 (R2 _ hb1) <|
  r_i2l c300_989 rfl <|
  r_bipush c300_990 <|
  r_lshl c300_992 rfl <|
  r_aloadn c300_993 (ld1_ne f.1 (by decide) (Or.inl (by decide))) <|
  r_iload c300_994 (ld1_ne f.2.2.2.2 (by decide) (Or.inr rfl)) <|
  r_iconst c300_996 <|
  r_iadd c300_997 rfl <|
  c_aI c300_998 (R3 _ hb1) <|
  r_i2l c300_999 rfl <|
  r_ldc2 c300_1000 <|
  r_land c300_1003 rfl <|
  r_lor c300_1004 rfl <|
  c_cal (st2 := [.int q2.1]) (s_cv (as := [.ref a, .int w1, .long (((w2 : Int32).toInt64 <<< ((32 : Int32).toInt64 &&& 63)) ||| ((w3 : Int32).toInt64 &&& 4294967295))]) (st' := []) c300_1005 rfl (md_gC hm) ⟨Nat.le_of_ble_eq_true rfl, Nat.le_of_ble_eq_true rfl, Nat.le_of_ble_eq_true rfl⟩ rfl rfl) r1 (Nat.add_lt_add_left (by decide) d) rfl <|
  r_istore c300_1008 <|
  r_aloadn c300_1010 (ld1_ne (ld1_ne f.2.2.1 (by decide) (Or.inl (by decide))) (by decide) (Or.inl (by decide))) <|
  c_cal (st2 := [.int q3.1]) (s_cv (as := [.ref a]) (st' := []) c300_1011 rfl (md_gC m1) ⟨Nat.le_of_ble_eq_true rfl, Nat.le_of_ble_eq_true rfl, Nat.le_of_ble_eq_true rfl⟩ rfl rfl) r2 (Nat.add_lt_add_left (by decide) d) rfl <|
  r_iload c300_1014 (ld1_ne ld1_eq (by decide) (Or.inr rfl)) <|
  r_icmpT c300_1016 (decide_eq_true heq) <|
  r_iload c300_1021 (ld1_ne ld1_eq (by decide) (Or.inr rfl)) <|
  r_ifF c300_1023 (decide_eq_false (fun z => z hk)) <|
  r_aloadn c300_1026 (ld1_ne (ld1_ne f.2.2.2.1 (by decide) (Or.inl (by decide))) (by decide) (Or.inl (by decide))) <|
  r_iconst c300_1027 <|
  c_aL c300_1028 (m_aL (m_fr_trans g1 g2) ho hv0) <|
  r_iload c300_1029 ld1_eq <|
  r_i2l c300_1031 rfl <|
  r_lcmp c300_1032 rfl <|
  r_ifT c300_1033 (lg_eq hv) <|
  r_goto c300_1038 <|
  r_iinc c300_1120 (ld1_ne (ld1_ne f.2.2.2.2 (by decide) (Or.inr rfl)) (by decide) (Or.inl (by decide))) <|
  r_goto c300_1123 <|
  hr _ m2 (m_fr_trans g1 g2) _ ⟨(ld1_ne (ld1_ne (ld1_ne f.1 (by decide) (Or.inl (by decide))) (by decide) (Or.inl (by decide))) (by decide) (Or.inl (by decide))), (ld1_ne (ld1_ne (ld1_ne f.2.1 (by decide) (Or.inl (by decide))) (by decide) (Or.inl (by decide))) (by decide) (Or.inl (by decide))), (ld1_ne (ld1_ne (ld1_ne f.2.2.1 (by decide) (Or.inl (by decide))) (by decide) (Or.inl (by decide))) (by decide) (Or.inl (by decide))), (ld1_ne (ld1_ne (ld1_ne f.2.2.2.1 (by decide) (Or.inl (by decide))) (by decide) (Or.inl (by decide))) (by decide) (Or.inr rfl)), ld1_eq⟩)
theorem law_16X {xt : mj_X} {ct : Nat → Value} {O : OR} {d N b x a o : Nat} {ra : Nat → Nat} {i len w0 w1 w2 w3 : Int32} {H : mj_H} {r : mj_O × mj_H} (hct : ct 0 = .int 1) (hO : oOK xt ct d O) (hsep : m_sep a ra) (hbo : m_out a ra b) (RN : ∀ h : mj_H, h.1 b = none → aN xt h b = some len) (hlt : mj_c2 .gt i (len - 4) = false) (R0 : ∀ h : mj_H, h.1 b = none → aI xt h b i = some w0) (R1 : ∀ h : mj_H, h.1 b = none → aI xt h b (i + 1) = some w1) (R2 : ∀ h : mj_H, h.1 b = none → aI xt h b (i + 2) = some w2) (R3 : ∀ h : mj_H, h.1 b = none → aI xt h b (i + 3) = some w3) (hb0 : H.1 b = none) (hw : w0 &&& 31 = 16) {q1 : Int32 × mj_H} (e1 : C197 xt ct O N x w1 (((w2 : Int32).toInt64 <<< ((32 : Int32).toInt64 &&& 63)) ||| ((w3 : Int32).toInt64 &&& 4294967295)) o H = some q1) (hb1 : q1.2.1 b = none) {S : mS} (hm : md a ra S q1.2) {q2 : Int32 × mS} (e2 : M298 N w1 (((w2 : Int32).toInt64 <<< ((32 : Int32).toInt64 &&& 63)) ||| ((w3 : Int32).toInt64 &&& 4294967295)) S = some q2) {q3 : Int32 × mS} (e3 : M203 N q2.2 = some q3) (heq : q3.1 = q1.1) (hk : q1.1 ≠ 0) (hr : ∀ h', md a ra q3.2 h' → m_fr a ra q1.2 h' → LW xt ct d b x a o (i + 4) h' r) : LW xt ct d b x a o i H r := by
  intro l f
  obtain ⟨h1, r1, m1, g1⟩ := M298_ok (xt := xt) (ct := ct) (d := d) e2 hsep _ hm
  obtain ⟨h2, r2, m2, g2⟩ := M203_ok (xt := xt) (ct := ct) (d := d) e3 hsep _ m1
  exact (
  r_iload c300_23 f.2.2.2.2 <|
  r_aloadn c300_25 f.1 <|
  c_len c300_26 (RN _ hb0) <|
  r_iconst c300_27 <|
  r_isub c300_28 rfl <|
  r_icmpF c300_29 hlt <|
  r_aloadn c300_32 f.1 <|
  r_iload c300_33 f.2.2.2.2 <|
  c_aI c300_35 (R0 _ hb0) <|
  r_bipush c300_36 <|
  r_iand c300_38 rfl <|
  c_sw c300_39_16 (decide_eq_true hw) <|
  r_aloadn c300_941 f.2.1 <|
  r_aloadn c300_942 f.1 <|
  r_iload c300_943 f.2.2.2.2 <|
  r_iconst c300_945 <|
  r_iadd c300_946 rfl <|
  c_aI c300_947 (R1 _ hb0) <|
  r_aloadn c300_948 f.1 <|
  r_iload c300_949 f.2.2.2.2 <|
  r_iconst c300_951 <|
  r_iadd c300_952 rfl <|
  c_aI c300_953 (R2 _ hb0) <|
  r_i2l c300_954 rfl <|
  r_bipush c300_955 <|
  r_lshl c300_957 rfl <|
  r_aloadn c300_958 f.1 <|
  r_iload c300_959 f.2.2.2.2 <|
  r_iconst c300_961 <|
  r_iadd c300_962 rfl <|
  c_aI c300_963 (R3 _ hb0) <|
  r_i2l c300_964 rfl <|
  r_ldc2 c300_965 <|
  r_land c300_968 rfl <|
  r_lor c300_969 rfl <|
  r_aloadn c300_970 f.2.2.2.1 <|
  c_cal (st2 := [.int q1.1]) (s_cs (as := [.ref x, .int w1, .long (((w2 : Int32).toInt64 <<< ((32 : Int32).toInt64 &&& 63)) ||| ((w3 : Int32).toInt64 &&& 4294967295)), .ref o]) (st' := []) c300_971 ⟨Nat.le_of_ble_eq_true rfl, Nat.le_of_ble_eq_true rfl, Nat.le_of_ble_eq_true rfl⟩ rfl rfl) (C197_ok hct hO e1) (Nat.add_lt_add_left (by decide) d) rfl <|
  r_istore c300_974 <|
  r_aloadn c300_976 (ld1_ne f.2.2.1 (by decide) (Or.inl (by decide))) <|
  r_aloadn c300_977 (ld1_ne f.1 (by decide) (Or.inl (by decide))) <|
  r_iload c300_978 (ld1_ne f.2.2.2.2 (by decide) (Or.inr rfl)) <|
  r_iconst c300_980 <|
  r_iadd c300_981 rfl <|
  c_aI c300_982 (R1 _ hb1) <|
  r_aloadn c300_983 (ld1_ne f.1 (by decide) (Or.inl (by decide))) <|
  r_iload c300_984 (ld1_ne f.2.2.2.2 (by decide) (Or.inr rfl)) <|
  r_iconst c300_986 <|
  r_iadd c300_987 rfl <|
  c_aI c300_988 (R2 _ hb1) <|
  r_i2l c300_989 rfl <|
  r_bipush c300_990 <|
  r_lshl c300_992 rfl <|
  r_aloadn c300_993 (ld1_ne f.1 (by decide) (Or.inl (by decide))) <|
  r_iload c300_994 (ld1_ne f.2.2.2.2 (by decide) (Or.inr rfl)) <|
  r_iconst c300_996 <|
  r_iadd c300_997 rfl <|
  c_aI c300_998 (R3 _ hb1) <|
  r_i2l c300_999 rfl <|
  r_ldc2 c300_1000 <|
  r_land c300_1003 rfl <|
  r_lor c300_1004 rfl <|
  c_cal (st2 := [.int q2.1]) (s_cv (as := [.ref a, .int w1, .long (((w2 : Int32).toInt64 <<< ((32 : Int32).toInt64 &&& 63)) ||| ((w3 : Int32).toInt64 &&& 4294967295))]) (st' := []) c300_1005 rfl (md_gC hm) ⟨Nat.le_of_ble_eq_true rfl, Nat.le_of_ble_eq_true rfl, Nat.le_of_ble_eq_true rfl⟩ rfl rfl) r1 (Nat.add_lt_add_left (by decide) d) rfl <|
  r_istore c300_1008 <|
  r_aloadn c300_1010 (ld1_ne (ld1_ne f.2.2.1 (by decide) (Or.inl (by decide))) (by decide) (Or.inl (by decide))) <|
  c_cal (st2 := [.int q3.1]) (s_cv (as := [.ref a]) (st' := []) c300_1011 rfl (md_gC m1) ⟨Nat.le_of_ble_eq_true rfl, Nat.le_of_ble_eq_true rfl, Nat.le_of_ble_eq_true rfl⟩ rfl rfl) r2 (Nat.add_lt_add_left (by decide) d) rfl <|
  r_iload c300_1014 (ld1_ne ld1_eq (by decide) (Or.inr rfl)) <|
  r_icmpT c300_1016 (decide_eq_true heq) <|
  r_iload c300_1021 (ld1_ne ld1_eq (by decide) (Or.inr rfl)) <|
  r_ifT c300_1023 (decide_eq_true hk) <|
  r_goto c300_1038 <|
  r_iinc c300_1120 (ld1_ne (ld1_ne f.2.2.2.2 (by decide) (Or.inr rfl)) (by decide) (Or.inl (by decide))) <|
  r_goto c300_1123 <|
  hr _ m2 (m_fr_trans g1 g2) _ ⟨(ld1_ne (ld1_ne (ld1_ne f.1 (by decide) (Or.inl (by decide))) (by decide) (Or.inl (by decide))) (by decide) (Or.inl (by decide))), (ld1_ne (ld1_ne (ld1_ne f.2.1 (by decide) (Or.inl (by decide))) (by decide) (Or.inl (by decide))) (by decide) (Or.inl (by decide))), (ld1_ne (ld1_ne (ld1_ne f.2.2.1 (by decide) (Or.inl (by decide))) (by decide) (Or.inl (by decide))) (by decide) (Or.inl (by decide))), (ld1_ne (ld1_ne (ld1_ne f.2.2.2.1 (by decide) (Or.inl (by decide))) (by decide) (Or.inl (by decide))) (by decide) (Or.inr rfl)), ld1_eq⟩)
theorem law_17V {xt : mj_X} {ct : Nat → Value} {O : OR} {d N b x a o : Nat} {ra : Nat → Nat} {i len w0 w1 w2 w3 : Int32} {H : mj_H} {r : mj_O × mj_H} (hct : ct 0 = .int 1) (hO : oOK xt ct d O) (hsep : m_sep a ra) (hbo : m_out a ra b) (RN : ∀ h : mj_H, h.1 b = none → aN xt h b = some len) (hlt : mj_c2 .gt i (len - 4) = false) (R0 : ∀ h : mj_H, h.1 b = none → aI xt h b i = some w0) (R1 : ∀ h : mj_H, h.1 b = none → aI xt h b (i + 1) = some w1) (R2 : ∀ h : mj_H, h.1 b = none → aI xt h b (i + 2) = some w2) (R3 : ∀ h : mj_H, h.1 b = none → aI xt h b (i + 3) = some w3) (hb0 : H.1 b = none) (hw : w0 &&& 31 = 17) {q1 : Int32 × mj_H} (e1 : C199 xt ct O N x w1 w2 w3 o H = some q1) (hb1 : q1.2.1 b = none) {S : mS} (hm : md a ra S q1.2) (ho : m_out a ra o) {v0 : Int64} (hv0 : aL xt q1.2 o 0 = some v0) {q2 : Int64 × mS} (e2 : M299 N w1 w2 w3 S = some q2) {q3 : Int32 × mS} (e3 : M203 N q2.2 = some q3) (heq : q3.1 = q1.1) (hk : q1.1 = 0) (hv : v0 = q2.1) (hr : ∀ h', md a ra q3.2 h' → m_fr a ra q1.2 h' → LW xt ct d b x a o (i + 4) h' r) : LW xt ct d b x a o i H r := by
  intro l f
  obtain ⟨h1, r1, m1, g1⟩ := M299_ok (xt := xt) (ct := ct) (d := d) e2 hsep _ hm
  obtain ⟨h2, r2, m2, g2⟩ := M203_ok (xt := xt) (ct := ct) (d := d) e3 hsep _ m1
  exact (
  r_iload c300_23 f.2.2.2.2 <|
  r_aloadn c300_25 f.1 <|
  c_len c300_26 (RN _ hb0) <|
  r_iconst c300_27 <|
  r_isub c300_28 rfl <|
  r_icmpF c300_29 hlt <|
  r_aloadn c300_32 f.1 <|
  r_iload c300_33 f.2.2.2.2 <|
  c_aI c300_35 (R0 _ hb0) <|
  r_bipush c300_36 <|
  r_iand c300_38 rfl <|
  c_sw c300_39_17 (decide_eq_true hw) <|
  r_aloadn c300_1041 f.2.1 <|
  r_aloadn c300_1042 f.1 <|
  r_iload c300_1043 f.2.2.2.2 <|
  r_iconst c300_1045 <|
  r_iadd c300_1046 rfl <|
  c_aI c300_1047 (R1 _ hb0) <|
  r_aloadn c300_1048 f.1 <|
  r_iload c300_1049 f.2.2.2.2 <|
  r_iconst c300_1051 <|
  r_iadd c300_1052 rfl <|
  c_aI c300_1053 (R2 _ hb0) <|
  r_aloadn c300_1054 f.1 <|
  r_iload c300_1055 f.2.2.2.2 <|
  r_iconst c300_1057 <|
  r_iadd c300_1058 rfl <|
  c_aI c300_1059 (R3 _ hb0) <|
  r_aloadn c300_1060 f.2.2.2.1 <|
  c_cal (st2 := [.int q1.1]) (s_cs (as := [.ref x, .int w1, .int w2, .int w3, .ref o]) (st' := []) c300_1061 ⟨Nat.le_of_ble_eq_true rfl, Nat.le_of_ble_eq_true rfl, Nat.le_of_ble_eq_true rfl⟩ rfl rfl) (C199_ok hct hO e1) (Nat.add_lt_add_left (by decide) d) rfl <|
  r_istore c300_1064 <|
  r_aloadn c300_1066 (ld1_ne f.2.2.1 (by decide) (Or.inl (by decide))) <|
  r_aloadn c300_1067 (ld1_ne f.1 (by decide) (Or.inl (by decide))) <|
  r_iload c300_1068 (ld1_ne f.2.2.2.2 (by decide) (Or.inr rfl)) <|
  r_iconst c300_1070 <|
  r_iadd c300_1071 rfl <|
  c_aI c300_1072 (R1 _ hb1) <|
  r_aloadn c300_1073 (ld1_ne f.1 (by decide) (Or.inl (by decide))) <|
  r_iload c300_1074 (ld1_ne f.2.2.2.2 (by decide) (Or.inr rfl)) <|
  r_iconst c300_1076 <|
  r_iadd c300_1077 rfl <|
  c_aI c300_1078 (R2 _ hb1) <|
  r_aloadn c300_1079 (ld1_ne f.1 (by decide) (Or.inl (by decide))) <|
  r_iload c300_1080 (ld1_ne f.2.2.2.2 (by decide) (Or.inr rfl)) <|
  r_iconst c300_1082 <|
  r_iadd c300_1083 rfl <|
  c_aI c300_1084 (R3 _ hb1) <|
  c_cal (st2 := [.long q2.1]) (s_cv (as := [.ref a, .int w1, .int w2, .int w3]) (st' := []) c300_1085 rfl (md_gC hm) ⟨Nat.le_of_ble_eq_true rfl, Nat.le_of_ble_eq_true rfl, Nat.le_of_ble_eq_true rfl⟩ rfl rfl) r1 (Nat.add_lt_add_left (by decide) d) rfl <|
  r_lstore c300_1088 <|
  r_aloadn c300_1090 (ld2_ne (ld1_ne f.2.2.1 (by decide) (Or.inl (by decide))) (by decide) (Or.inl (by decide))) <|
  c_cal (st2 := [.int q3.1]) (s_cv (as := [.ref a]) (st' := []) c300_1091 rfl (md_gC m1) ⟨Nat.le_of_ble_eq_true rfl, Nat.le_of_ble_eq_true rfl, Nat.le_of_ble_eq_true rfl⟩ rfl rfl) r2 (Nat.add_lt_add_left (by decide) d) rfl <|
  r_iload c300_1094 (ld2_ne ld1_eq (by decide) (Or.inr rfl)) <|
  r_icmpT c300_1096 (decide_eq_true heq) <|
  r_iload c300_1101 (ld2_ne ld1_eq (by decide) (Or.inr rfl)) <|
  r_ifF c300_1103 (decide_eq_false (fun z => z hk)) <|
  r_aloadn c300_1106 (ld2_ne (ld1_ne f.2.2.2.1 (by decide) (Or.inl (by decide))) (by decide) (Or.inl (by decide))) <|
  r_iconst c300_1107 <|
  c_aL c300_1108 (m_aL (m_fr_trans g1 g2) ho hv0) <|
  r_lload c300_1109 ld2_eq <|
  r_lcmp c300_1111 rfl <|
  r_ifT c300_1112 (lg_eq hv) <|
  r_goto c300_1117 <|
  r_iinc c300_1120 (ld2_ne (ld1_ne f.2.2.2.2 (by decide) (Or.inr rfl)) (by decide) (Or.inl (by decide))) <|
  r_goto c300_1123 <|
  hr _ m2 (m_fr_trans g1 g2) _ ⟨(ld1_ne (ld2_ne (ld1_ne f.1 (by decide) (Or.inl (by decide))) (by decide) (Or.inl (by decide))) (by decide) (Or.inl (by decide))), (ld1_ne (ld2_ne (ld1_ne f.2.1 (by decide) (Or.inl (by decide))) (by decide) (Or.inl (by decide))) (by decide) (Or.inl (by decide))), (ld1_ne (ld2_ne (ld1_ne f.2.2.1 (by decide) (Or.inl (by decide))) (by decide) (Or.inl (by decide))) (by decide) (Or.inl (by decide))), (ld1_ne (ld2_ne (ld1_ne f.2.2.2.1 (by decide) (Or.inl (by decide))) (by decide) (Or.inl (by decide))) (by decide) (Or.inr rfl)), ld1_eq⟩)
theorem law_17X {xt : mj_X} {ct : Nat → Value} {O : OR} {d N b x a o : Nat} {ra : Nat → Nat} {i len w0 w1 w2 w3 : Int32} {H : mj_H} {r : mj_O × mj_H} (hct : ct 0 = .int 1) (hO : oOK xt ct d O) (hsep : m_sep a ra) (hbo : m_out a ra b) (RN : ∀ h : mj_H, h.1 b = none → aN xt h b = some len) (hlt : mj_c2 .gt i (len - 4) = false) (R0 : ∀ h : mj_H, h.1 b = none → aI xt h b i = some w0) (R1 : ∀ h : mj_H, h.1 b = none → aI xt h b (i + 1) = some w1) (R2 : ∀ h : mj_H, h.1 b = none → aI xt h b (i + 2) = some w2) (R3 : ∀ h : mj_H, h.1 b = none → aI xt h b (i + 3) = some w3) (hb0 : H.1 b = none) (hw : w0 &&& 31 = 17) {q1 : Int32 × mj_H} (e1 : C199 xt ct O N x w1 w2 w3 o H = some q1) (hb1 : q1.2.1 b = none) {S : mS} (hm : md a ra S q1.2) {q2 : Int64 × mS} (e2 : M299 N w1 w2 w3 S = some q2) {q3 : Int32 × mS} (e3 : M203 N q2.2 = some q3) (heq : q3.1 = q1.1) (hk : q1.1 ≠ 0) (hr : ∀ h', md a ra q3.2 h' → m_fr a ra q1.2 h' → LW xt ct d b x a o (i + 4) h' r) : LW xt ct d b x a o i H r := by
  intro l f
  obtain ⟨h1, r1, m1, g1⟩ := M299_ok (xt := xt) (ct := ct) (d := d) e2 hsep _ hm
  obtain ⟨h2, r2, m2, g2⟩ := M203_ok (xt := xt) (ct := ct) (d := d) e3 hsep _ m1
  exact (
  r_iload c300_23 f.2.2.2.2 <|
  r_aloadn c300_25 f.1 <|
  c_len c300_26 (RN _ hb0) <|
  r_iconst c300_27 <|
  r_isub c300_28 rfl <|
  r_icmpF c300_29 hlt <|
  r_aloadn c300_32 f.1 <|
  r_iload c300_33 f.2.2.2.2 <|
  c_aI c300_35 (R0 _ hb0) <|
  r_bipush c300_36 <|
  r_iand c300_38 rfl <|
  c_sw c300_39_17 (decide_eq_true hw) <|
  r_aloadn c300_1041 f.2.1 <|
  r_aloadn c300_1042 f.1 <|
  r_iload c300_1043 f.2.2.2.2 <|
  r_iconst c300_1045 <|
  r_iadd c300_1046 rfl <|
  c_aI c300_1047 (R1 _ hb0) <|
  r_aloadn c300_1048 f.1 <|
  r_iload c300_1049 f.2.2.2.2 <|
  r_iconst c300_1051 <|
  r_iadd c300_1052 rfl <|
  c_aI c300_1053 (R2 _ hb0) <|
  r_aloadn c300_1054 f.1 <|
  r_iload c300_1055 f.2.2.2.2 <|
  r_iconst c300_1057 <|
  r_iadd c300_1058 rfl <|
  c_aI c300_1059 (R3 _ hb0) <|
  r_aloadn c300_1060 f.2.2.2.1 <|
  c_cal (st2 := [.int q1.1]) (s_cs (as := [.ref x, .int w1, .int w2, .int w3, .ref o]) (st' := []) c300_1061 ⟨Nat.le_of_ble_eq_true rfl, Nat.le_of_ble_eq_true rfl, Nat.le_of_ble_eq_true rfl⟩ rfl rfl) (C199_ok hct hO e1) (Nat.add_lt_add_left (by decide) d) rfl <|
  r_istore c300_1064 <|
  r_aloadn c300_1066 (ld1_ne f.2.2.1 (by decide) (Or.inl (by decide))) <|
  r_aloadn c300_1067 (ld1_ne f.1 (by decide) (Or.inl (by decide))) <|
  r_iload c300_1068 (ld1_ne f.2.2.2.2 (by decide) (Or.inr rfl)) <|
  r_iconst c300_1070 <|
  r_iadd c300_1071 rfl <|
  c_aI c300_1072 (R1 _ hb1) <|
  r_aloadn c300_1073 (ld1_ne f.1 (by decide) (Or.inl (by decide))) <|
  r_iload c300_1074 (ld1_ne f.2.2.2.2 (by decide) (Or.inr rfl)) <|
  r_iconst c300_1076 <|
  r_iadd c300_1077 rfl <|
  c_aI c300_1078 (R2 _ hb1) <|
  r_aloadn c300_1079 (ld1_ne f.1 (by decide) (Or.inl (by decide))) <|
  r_iload c300_1080 (ld1_ne f.2.2.2.2 (by decide) (Or.inr rfl)) <|
  r_iconst c300_1082 <|
  r_iadd c300_1083 rfl <|
  c_aI c300_1084 (R3 _ hb1) <|
  c_cal (st2 := [.long q2.1]) (s_cv (as := [.ref a, .int w1, .int w2, .int w3]) (st' := []) c300_1085 rfl (md_gC hm) ⟨Nat.le_of_ble_eq_true rfl, Nat.le_of_ble_eq_true rfl, Nat.le_of_ble_eq_true rfl⟩ rfl rfl) r1 (Nat.add_lt_add_left (by decide) d) rfl <|
  r_lstore c300_1088 <|
  r_aloadn c300_1090 (ld2_ne (ld1_ne f.2.2.1 (by decide) (Or.inl (by decide))) (by decide) (Or.inl (by decide))) <|
  c_cal (st2 := [.int q3.1]) (s_cv (as := [.ref a]) (st' := []) c300_1091 rfl (md_gC m1) ⟨Nat.le_of_ble_eq_true rfl, Nat.le_of_ble_eq_true rfl, Nat.le_of_ble_eq_true rfl⟩ rfl rfl) r2 (Nat.add_lt_add_left (by decide) d) rfl <|
  r_iload c300_1094 (ld2_ne ld1_eq (by decide) (Or.inr rfl)) <|
  r_icmpT c300_1096 (decide_eq_true heq) <|
  r_iload c300_1101 (ld2_ne ld1_eq (by decide) (Or.inr rfl)) <|
  r_ifT c300_1103 (decide_eq_true hk) <|
  r_goto c300_1117 <|
  r_iinc c300_1120 (ld2_ne (ld1_ne f.2.2.2.2 (by decide) (Or.inr rfl)) (by decide) (Or.inl (by decide))) <|
  r_goto c300_1123 <|
  hr _ m2 (m_fr_trans g1 g2) _ ⟨(ld1_ne (ld2_ne (ld1_ne f.1 (by decide) (Or.inl (by decide))) (by decide) (Or.inl (by decide))) (by decide) (Or.inl (by decide))), (ld1_ne (ld2_ne (ld1_ne f.2.1 (by decide) (Or.inl (by decide))) (by decide) (Or.inl (by decide))) (by decide) (Or.inl (by decide))), (ld1_ne (ld2_ne (ld1_ne f.2.2.1 (by decide) (Or.inl (by decide))) (by decide) (Or.inl (by decide))) (by decide) (Or.inl (by decide))), (ld1_ne (ld2_ne (ld1_ne f.2.2.2.1 (by decide) (Or.inl (by decide))) (by decide) (Or.inl (by decide))) (by decide) (Or.inr rfl)), ld1_eq⟩)
theorem law_18 {xt : mj_X} {ct : Nat → Value} {O : OR} {d N b x a o : Nat} {ra : Nat → Nat} {i len w0 w1 w2 w3 : Int32} {H : mj_H} {r : mj_O × mj_H} (hct : ct 0 = .int 1) (hO : oOK xt ct d O) (hsep : m_sep a ra) (hbo : m_out a ra b) (RN : ∀ h : mj_H, h.1 b = none → aN xt h b = some len) (hlt : mj_c2 .gt i (len - 4) = false) (R0 : ∀ h : mj_H, h.1 b = none → aI xt h b i = some w0) (R1 : ∀ h : mj_H, h.1 b = none → aI xt h b (i + 1) = some w1) (R2 : ∀ h : mj_H, h.1 b = none → aI xt h b (i + 2) = some w2) (R3 : ∀ h : mj_H, h.1 b = none → aI xt h b (i + 3) = some w3) (hb0 : H.1 b = none) (hw : w0 &&& 31 = 18)  (hr : LW xt ct d b x a o (i + 4) H r) : LW xt ct d b x a o i H r := by
  intro l f
  exact (
  r_iload c300_23 f.2.2.2.2 <|
  r_aloadn c300_25 f.1 <|
  c_len c300_26 (RN _ hb0) <|
  r_iconst c300_27 <|
  r_isub c300_28 rfl <|
  r_icmpF c300_29 hlt <|
  r_aloadn c300_32 f.1 <|
  r_iload c300_33 f.2.2.2.2 <|
  c_aI c300_35 (R0 _ hb0) <|
  r_bipush c300_36 <|
  r_iand c300_38 rfl <|
  c_sw c300_39_18 (decide_eq_true hw) <|
  r_iinc c300_1120 f.2.2.2.2 <|
  r_goto c300_1123 <|
  hr _ ⟨(ld1_ne f.1 (by decide) (Or.inl (by decide))), (ld1_ne f.2.1 (by decide) (Or.inl (by decide))), (ld1_ne f.2.2.1 (by decide) (Or.inl (by decide))), (ld1_ne f.2.2.2.1 (by decide) (Or.inr rfl)), ld1_eq⟩)
theorem law_19 {xt : mj_X} {ct : Nat → Value} {O : OR} {d N b x a o : Nat} {ra : Nat → Nat} {i len w0 w1 w2 w3 : Int32} {H : mj_H} {r : mj_O × mj_H} (hct : ct 0 = .int 1) (hO : oOK xt ct d O) (hsep : m_sep a ra) (hbo : m_out a ra b) (RN : ∀ h : mj_H, h.1 b = none → aN xt h b = some len) (hlt : mj_c2 .gt i (len - 4) = false) (R0 : ∀ h : mj_H, h.1 b = none → aI xt h b i = some w0) (R1 : ∀ h : mj_H, h.1 b = none → aI xt h b (i + 1) = some w1) (R2 : ∀ h : mj_H, h.1 b = none → aI xt h b (i + 2) = some w2) (R3 : ∀ h : mj_H, h.1 b = none → aI xt h b (i + 3) = some w3) (hb0 : H.1 b = none) (hw : w0 &&& 31 = 19)  (hr : LW xt ct d b x a o (i + 4) H r) : LW xt ct d b x a o i H r := by
  intro l f
  exact (
  r_iload c300_23 f.2.2.2.2 <|
  r_aloadn c300_25 f.1 <|
  c_len c300_26 (RN _ hb0) <|
  r_iconst c300_27 <|
  r_isub c300_28 rfl <|
  r_icmpF c300_29 hlt <|
  r_aloadn c300_32 f.1 <|
  r_iload c300_33 f.2.2.2.2 <|
  c_aI c300_35 (R0 _ hb0) <|
  r_bipush c300_36 <|
  r_iand c300_38 rfl <|
  c_sw c300_39_19 (decide_eq_true hw) <|
  r_iinc c300_1120 f.2.2.2.2 <|
  r_goto c300_1123 <|
  hr _ ⟨(ld1_ne f.1 (by decide) (Or.inl (by decide))), (ld1_ne f.2.1 (by decide) (Or.inl (by decide))), (ld1_ne f.2.2.1 (by decide) (Or.inl (by decide))), (ld1_ne f.2.2.2.1 (by decide) (Or.inr rfl)), ld1_eq⟩)
theorem law_20 {xt : mj_X} {ct : Nat → Value} {O : OR} {d N b x a o : Nat} {ra : Nat → Nat} {i len w0 w1 w2 w3 : Int32} {H : mj_H} {r : mj_O × mj_H} (hct : ct 0 = .int 1) (hO : oOK xt ct d O) (hsep : m_sep a ra) (hbo : m_out a ra b) (RN : ∀ h : mj_H, h.1 b = none → aN xt h b = some len) (hlt : mj_c2 .gt i (len - 4) = false) (R0 : ∀ h : mj_H, h.1 b = none → aI xt h b i = some w0) (R1 : ∀ h : mj_H, h.1 b = none → aI xt h b (i + 1) = some w1) (R2 : ∀ h : mj_H, h.1 b = none → aI xt h b (i + 2) = some w2) (R3 : ∀ h : mj_H, h.1 b = none → aI xt h b (i + 3) = some w3) (hb0 : H.1 b = none) (hw : w0 &&& 31 = 20)  (hr : LW xt ct d b x a o (i + 4) H r) : LW xt ct d b x a o i H r := by
  intro l f
  exact (
  r_iload c300_23 f.2.2.2.2 <|
  r_aloadn c300_25 f.1 <|
  c_len c300_26 (RN _ hb0) <|
  r_iconst c300_27 <|
  r_isub c300_28 rfl <|
  r_icmpF c300_29 hlt <|
  r_aloadn c300_32 f.1 <|
  r_iload c300_33 f.2.2.2.2 <|
  c_aI c300_35 (R0 _ hb0) <|
  r_bipush c300_36 <|
  r_iand c300_38 rfl <|
  c_sw c300_39_20 (decide_eq_true hw) <|
  r_iinc c300_1120 f.2.2.2.2 <|
  r_goto c300_1123 <|
  hr _ ⟨(ld1_ne f.1 (by decide) (Or.inl (by decide))), (ld1_ne f.2.1 (by decide) (Or.inl (by decide))), (ld1_ne f.2.2.1 (by decide) (Or.inl (by decide))), (ld1_ne f.2.2.2.1 (by decide) (Or.inr rfl)), ld1_eq⟩)
theorem law_21 {xt : mj_X} {ct : Nat → Value} {O : OR} {d N b x a o : Nat} {ra : Nat → Nat} {i len w0 w1 w2 w3 : Int32} {H : mj_H} {r : mj_O × mj_H} (hct : ct 0 = .int 1) (hO : oOK xt ct d O) (hsep : m_sep a ra) (hbo : m_out a ra b) (RN : ∀ h : mj_H, h.1 b = none → aN xt h b = some len) (hlt : mj_c2 .gt i (len - 4) = false) (R0 : ∀ h : mj_H, h.1 b = none → aI xt h b i = some w0) (R1 : ∀ h : mj_H, h.1 b = none → aI xt h b (i + 1) = some w1) (R2 : ∀ h : mj_H, h.1 b = none → aI xt h b (i + 2) = some w2) (R3 : ∀ h : mj_H, h.1 b = none → aI xt h b (i + 3) = some w3) (hb0 : H.1 b = none) (hw : w0 &&& 31 = 21)  (hr : LW xt ct d b x a o (i + 4) H r) : LW xt ct d b x a o i H r := by
  intro l f
  exact (
  r_iload c300_23 f.2.2.2.2 <|
  r_aloadn c300_25 f.1 <|
  c_len c300_26 (RN _ hb0) <|
  r_iconst c300_27 <|
  r_isub c300_28 rfl <|
  r_icmpF c300_29 hlt <|
  r_aloadn c300_32 f.1 <|
  r_iload c300_33 f.2.2.2.2 <|
  c_aI c300_35 (R0 _ hb0) <|
  r_bipush c300_36 <|
  r_iand c300_38 rfl <|
  c_sw c300_39_21 (decide_eq_true hw) <|
  r_iinc c300_1120 f.2.2.2.2 <|
  r_goto c300_1123 <|
  hr _ ⟨(ld1_ne f.1 (by decide) (Or.inl (by decide))), (ld1_ne f.2.1 (by decide) (Or.inl (by decide))), (ld1_ne f.2.2.1 (by decide) (Or.inl (by decide))), (ld1_ne f.2.2.2.1 (by decide) (Or.inr rfl)), ld1_eq⟩)
theorem law_22 {xt : mj_X} {ct : Nat → Value} {O : OR} {d N b x a o : Nat} {ra : Nat → Nat} {i len w0 w1 w2 w3 : Int32} {H : mj_H} {r : mj_O × mj_H} (hct : ct 0 = .int 1) (hO : oOK xt ct d O) (hsep : m_sep a ra) (hbo : m_out a ra b) (RN : ∀ h : mj_H, h.1 b = none → aN xt h b = some len) (hlt : mj_c2 .gt i (len - 4) = false) (R0 : ∀ h : mj_H, h.1 b = none → aI xt h b i = some w0) (R1 : ∀ h : mj_H, h.1 b = none → aI xt h b (i + 1) = some w1) (R2 : ∀ h : mj_H, h.1 b = none → aI xt h b (i + 2) = some w2) (R3 : ∀ h : mj_H, h.1 b = none → aI xt h b (i + 3) = some w3) (hb0 : H.1 b = none) (hw : w0 &&& 31 = 22)  (hr : LW xt ct d b x a o (i + 4) H r) : LW xt ct d b x a o i H r := by
  intro l f
  exact (
  r_iload c300_23 f.2.2.2.2 <|
  r_aloadn c300_25 f.1 <|
  c_len c300_26 (RN _ hb0) <|
  r_iconst c300_27 <|
  r_isub c300_28 rfl <|
  r_icmpF c300_29 hlt <|
  r_aloadn c300_32 f.1 <|
  r_iload c300_33 f.2.2.2.2 <|
  c_aI c300_35 (R0 _ hb0) <|
  r_bipush c300_36 <|
  r_iand c300_38 rfl <|
  c_sw c300_39_22 (decide_eq_true hw) <|
  r_iinc c300_1120 f.2.2.2.2 <|
  r_goto c300_1123 <|
  hr _ ⟨(ld1_ne f.1 (by decide) (Or.inl (by decide))), (ld1_ne f.2.1 (by decide) (Or.inl (by decide))), (ld1_ne f.2.2.1 (by decide) (Or.inl (by decide))), (ld1_ne f.2.2.2.1 (by decide) (Or.inr rfl)), ld1_eq⟩)
theorem law_23 {xt : mj_X} {ct : Nat → Value} {O : OR} {d N b x a o : Nat} {ra : Nat → Nat} {i len w0 w1 w2 w3 : Int32} {H : mj_H} {r : mj_O × mj_H} (hct : ct 0 = .int 1) (hO : oOK xt ct d O) (hsep : m_sep a ra) (hbo : m_out a ra b) (RN : ∀ h : mj_H, h.1 b = none → aN xt h b = some len) (hlt : mj_c2 .gt i (len - 4) = false) (R0 : ∀ h : mj_H, h.1 b = none → aI xt h b i = some w0) (R1 : ∀ h : mj_H, h.1 b = none → aI xt h b (i + 1) = some w1) (R2 : ∀ h : mj_H, h.1 b = none → aI xt h b (i + 2) = some w2) (R3 : ∀ h : mj_H, h.1 b = none → aI xt h b (i + 3) = some w3) (hb0 : H.1 b = none) (hw : w0 &&& 31 = 23)  (hr : LW xt ct d b x a o (i + 4) H r) : LW xt ct d b x a o i H r := by
  intro l f
  exact (
  r_iload c300_23 f.2.2.2.2 <|
  r_aloadn c300_25 f.1 <|
  c_len c300_26 (RN _ hb0) <|
  r_iconst c300_27 <|
  r_isub c300_28 rfl <|
  r_icmpF c300_29 hlt <|
  r_aloadn c300_32 f.1 <|
  r_iload c300_33 f.2.2.2.2 <|
  c_aI c300_35 (R0 _ hb0) <|
  r_bipush c300_36 <|
  r_iand c300_38 rfl <|
  c_sw c300_39_23 (decide_eq_true hw) <|
  r_iinc c300_1120 f.2.2.2.2 <|
  r_goto c300_1123 <|
  hr _ ⟨(ld1_ne f.1 (by decide) (Or.inl (by decide))), (ld1_ne f.2.1 (by decide) (Or.inl (by decide))), (ld1_ne f.2.2.1 (by decide) (Or.inl (by decide))), (ld1_ne f.2.2.2.1 (by decide) (Or.inr rfl)), ld1_eq⟩)
theorem law_24 {xt : mj_X} {ct : Nat → Value} {O : OR} {d N b x a o : Nat} {ra : Nat → Nat} {i len w0 w1 w2 w3 : Int32} {H : mj_H} {r : mj_O × mj_H} (hct : ct 0 = .int 1) (hO : oOK xt ct d O) (hsep : m_sep a ra) (hbo : m_out a ra b) (RN : ∀ h : mj_H, h.1 b = none → aN xt h b = some len) (hlt : mj_c2 .gt i (len - 4) = false) (R0 : ∀ h : mj_H, h.1 b = none → aI xt h b i = some w0) (R1 : ∀ h : mj_H, h.1 b = none → aI xt h b (i + 1) = some w1) (R2 : ∀ h : mj_H, h.1 b = none → aI xt h b (i + 2) = some w2) (R3 : ∀ h : mj_H, h.1 b = none → aI xt h b (i + 3) = some w3) (hb0 : H.1 b = none) (hw : w0 &&& 31 = 24)  (hr : LW xt ct d b x a o (i + 4) H r) : LW xt ct d b x a o i H r := by
  intro l f
  exact (
  r_iload c300_23 f.2.2.2.2 <|
  r_aloadn c300_25 f.1 <|
  c_len c300_26 (RN _ hb0) <|
  r_iconst c300_27 <|
  r_isub c300_28 rfl <|
  r_icmpF c300_29 hlt <|
  r_aloadn c300_32 f.1 <|
  r_iload c300_33 f.2.2.2.2 <|
  c_aI c300_35 (R0 _ hb0) <|
  r_bipush c300_36 <|
  r_iand c300_38 rfl <|
  c_sw c300_39_24 (decide_eq_true hw) <|
  r_iinc c300_1120 f.2.2.2.2 <|
  r_goto c300_1123 <|
  hr _ ⟨(ld1_ne f.1 (by decide) (Or.inl (by decide))), (ld1_ne f.2.1 (by decide) (Or.inl (by decide))), (ld1_ne f.2.2.1 (by decide) (Or.inl (by decide))), (ld1_ne f.2.2.2.1 (by decide) (Or.inr rfl)), ld1_eq⟩)
theorem law_25 {xt : mj_X} {ct : Nat → Value} {O : OR} {d N b x a o : Nat} {ra : Nat → Nat} {i len w0 w1 w2 w3 : Int32} {H : mj_H} {r : mj_O × mj_H} (hct : ct 0 = .int 1) (hO : oOK xt ct d O) (hsep : m_sep a ra) (hbo : m_out a ra b) (RN : ∀ h : mj_H, h.1 b = none → aN xt h b = some len) (hlt : mj_c2 .gt i (len - 4) = false) (R0 : ∀ h : mj_H, h.1 b = none → aI xt h b i = some w0) (R1 : ∀ h : mj_H, h.1 b = none → aI xt h b (i + 1) = some w1) (R2 : ∀ h : mj_H, h.1 b = none → aI xt h b (i + 2) = some w2) (R3 : ∀ h : mj_H, h.1 b = none → aI xt h b (i + 3) = some w3) (hb0 : H.1 b = none) (hw : w0 &&& 31 = 25)  (hr : LW xt ct d b x a o (i + 4) H r) : LW xt ct d b x a o i H r := by
  intro l f
  exact (
  r_iload c300_23 f.2.2.2.2 <|
  r_aloadn c300_25 f.1 <|
  c_len c300_26 (RN _ hb0) <|
  r_iconst c300_27 <|
  r_isub c300_28 rfl <|
  r_icmpF c300_29 hlt <|
  r_aloadn c300_32 f.1 <|
  r_iload c300_33 f.2.2.2.2 <|
  c_aI c300_35 (R0 _ hb0) <|
  r_bipush c300_36 <|
  r_iand c300_38 rfl <|
  c_sw c300_39_25 (decide_eq_true hw) <|
  r_iinc c300_1120 f.2.2.2.2 <|
  r_goto c300_1123 <|
  hr _ ⟨(ld1_ne f.1 (by decide) (Or.inl (by decide))), (ld1_ne f.2.1 (by decide) (Or.inl (by decide))), (ld1_ne f.2.2.1 (by decide) (Or.inl (by decide))), (ld1_ne f.2.2.2.1 (by decide) (Or.inr rfl)), ld1_eq⟩)
theorem law_26 {xt : mj_X} {ct : Nat → Value} {O : OR} {d N b x a o : Nat} {ra : Nat → Nat} {i len w0 w1 w2 w3 : Int32} {H : mj_H} {r : mj_O × mj_H} (hct : ct 0 = .int 1) (hO : oOK xt ct d O) (hsep : m_sep a ra) (hbo : m_out a ra b) (RN : ∀ h : mj_H, h.1 b = none → aN xt h b = some len) (hlt : mj_c2 .gt i (len - 4) = false) (R0 : ∀ h : mj_H, h.1 b = none → aI xt h b i = some w0) (R1 : ∀ h : mj_H, h.1 b = none → aI xt h b (i + 1) = some w1) (R2 : ∀ h : mj_H, h.1 b = none → aI xt h b (i + 2) = some w2) (R3 : ∀ h : mj_H, h.1 b = none → aI xt h b (i + 3) = some w3) (hb0 : H.1 b = none) (hw : w0 &&& 31 = 26)  (hr : LW xt ct d b x a o (i + 4) H r) : LW xt ct d b x a o i H r := by
  intro l f
  exact (
  r_iload c300_23 f.2.2.2.2 <|
  r_aloadn c300_25 f.1 <|
  c_len c300_26 (RN _ hb0) <|
  r_iconst c300_27 <|
  r_isub c300_28 rfl <|
  r_icmpF c300_29 hlt <|
  r_aloadn c300_32 f.1 <|
  r_iload c300_33 f.2.2.2.2 <|
  c_aI c300_35 (R0 _ hb0) <|
  r_bipush c300_36 <|
  r_iand c300_38 rfl <|
  c_sw c300_39_26 (decide_eq_true hw) <|
  r_iinc c300_1120 f.2.2.2.2 <|
  r_goto c300_1123 <|
  hr _ ⟨(ld1_ne f.1 (by decide) (Or.inl (by decide))), (ld1_ne f.2.1 (by decide) (Or.inl (by decide))), (ld1_ne f.2.2.1 (by decide) (Or.inl (by decide))), (ld1_ne f.2.2.2.1 (by decide) (Or.inr rfl)), ld1_eq⟩)
theorem law_27 {xt : mj_X} {ct : Nat → Value} {O : OR} {d N b x a o : Nat} {ra : Nat → Nat} {i len w0 w1 w2 w3 : Int32} {H : mj_H} {r : mj_O × mj_H} (hct : ct 0 = .int 1) (hO : oOK xt ct d O) (hsep : m_sep a ra) (hbo : m_out a ra b) (RN : ∀ h : mj_H, h.1 b = none → aN xt h b = some len) (hlt : mj_c2 .gt i (len - 4) = false) (R0 : ∀ h : mj_H, h.1 b = none → aI xt h b i = some w0) (R1 : ∀ h : mj_H, h.1 b = none → aI xt h b (i + 1) = some w1) (R2 : ∀ h : mj_H, h.1 b = none → aI xt h b (i + 2) = some w2) (R3 : ∀ h : mj_H, h.1 b = none → aI xt h b (i + 3) = some w3) (hb0 : H.1 b = none) (hw : w0 &&& 31 = 27)  (hr : LW xt ct d b x a o (i + 4) H r) : LW xt ct d b x a o i H r := by
  intro l f
  exact (
  r_iload c300_23 f.2.2.2.2 <|
  r_aloadn c300_25 f.1 <|
  c_len c300_26 (RN _ hb0) <|
  r_iconst c300_27 <|
  r_isub c300_28 rfl <|
  r_icmpF c300_29 hlt <|
  r_aloadn c300_32 f.1 <|
  r_iload c300_33 f.2.2.2.2 <|
  c_aI c300_35 (R0 _ hb0) <|
  r_bipush c300_36 <|
  r_iand c300_38 rfl <|
  c_sw c300_39_27 (decide_eq_true hw) <|
  r_iinc c300_1120 f.2.2.2.2 <|
  r_goto c300_1123 <|
  hr _ ⟨(ld1_ne f.1 (by decide) (Or.inl (by decide))), (ld1_ne f.2.1 (by decide) (Or.inl (by decide))), (ld1_ne f.2.2.1 (by decide) (Or.inl (by decide))), (ld1_ne f.2.2.2.1 (by decide) (Or.inr rfl)), ld1_eq⟩)
theorem law_28 {xt : mj_X} {ct : Nat → Value} {O : OR} {d N b x a o : Nat} {ra : Nat → Nat} {i len w0 w1 w2 w3 : Int32} {H : mj_H} {r : mj_O × mj_H} (hct : ct 0 = .int 1) (hO : oOK xt ct d O) (hsep : m_sep a ra) (hbo : m_out a ra b) (RN : ∀ h : mj_H, h.1 b = none → aN xt h b = some len) (hlt : mj_c2 .gt i (len - 4) = false) (R0 : ∀ h : mj_H, h.1 b = none → aI xt h b i = some w0) (R1 : ∀ h : mj_H, h.1 b = none → aI xt h b (i + 1) = some w1) (R2 : ∀ h : mj_H, h.1 b = none → aI xt h b (i + 2) = some w2) (R3 : ∀ h : mj_H, h.1 b = none → aI xt h b (i + 3) = some w3) (hb0 : H.1 b = none) (hw : w0 &&& 31 = 28)  (hr : LW xt ct d b x a o (i + 4) H r) : LW xt ct d b x a o i H r := by
  intro l f
  exact (
  r_iload c300_23 f.2.2.2.2 <|
  r_aloadn c300_25 f.1 <|
  c_len c300_26 (RN _ hb0) <|
  r_iconst c300_27 <|
  r_isub c300_28 rfl <|
  r_icmpF c300_29 hlt <|
  r_aloadn c300_32 f.1 <|
  r_iload c300_33 f.2.2.2.2 <|
  c_aI c300_35 (R0 _ hb0) <|
  r_bipush c300_36 <|
  r_iand c300_38 rfl <|
  c_sw c300_39_28 (decide_eq_true hw) <|
  r_iinc c300_1120 f.2.2.2.2 <|
  r_goto c300_1123 <|
  hr _ ⟨(ld1_ne f.1 (by decide) (Or.inl (by decide))), (ld1_ne f.2.1 (by decide) (Or.inl (by decide))), (ld1_ne f.2.2.1 (by decide) (Or.inl (by decide))), (ld1_ne f.2.2.2.1 (by decide) (Or.inr rfl)), ld1_eq⟩)
theorem law_29 {xt : mj_X} {ct : Nat → Value} {O : OR} {d N b x a o : Nat} {ra : Nat → Nat} {i len w0 w1 w2 w3 : Int32} {H : mj_H} {r : mj_O × mj_H} (hct : ct 0 = .int 1) (hO : oOK xt ct d O) (hsep : m_sep a ra) (hbo : m_out a ra b) (RN : ∀ h : mj_H, h.1 b = none → aN xt h b = some len) (hlt : mj_c2 .gt i (len - 4) = false) (R0 : ∀ h : mj_H, h.1 b = none → aI xt h b i = some w0) (R1 : ∀ h : mj_H, h.1 b = none → aI xt h b (i + 1) = some w1) (R2 : ∀ h : mj_H, h.1 b = none → aI xt h b (i + 2) = some w2) (R3 : ∀ h : mj_H, h.1 b = none → aI xt h b (i + 3) = some w3) (hb0 : H.1 b = none) (hw : w0 &&& 31 = 29)  (hr : LW xt ct d b x a o (i + 4) H r) : LW xt ct d b x a o i H r := by
  intro l f
  exact (
  r_iload c300_23 f.2.2.2.2 <|
  r_aloadn c300_25 f.1 <|
  c_len c300_26 (RN _ hb0) <|
  r_iconst c300_27 <|
  r_isub c300_28 rfl <|
  r_icmpF c300_29 hlt <|
  r_aloadn c300_32 f.1 <|
  r_iload c300_33 f.2.2.2.2 <|
  c_aI c300_35 (R0 _ hb0) <|
  r_bipush c300_36 <|
  r_iand c300_38 rfl <|
  c_sw c300_39_29 (decide_eq_true hw) <|
  r_iinc c300_1120 f.2.2.2.2 <|
  r_goto c300_1123 <|
  hr _ ⟨(ld1_ne f.1 (by decide) (Or.inl (by decide))), (ld1_ne f.2.1 (by decide) (Or.inl (by decide))), (ld1_ne f.2.2.1 (by decide) (Or.inl (by decide))), (ld1_ne f.2.2.2.1 (by decide) (Or.inr rfl)), ld1_eq⟩)
theorem law_30 {xt : mj_X} {ct : Nat → Value} {O : OR} {d N b x a o : Nat} {ra : Nat → Nat} {i len w0 w1 w2 w3 : Int32} {H : mj_H} {r : mj_O × mj_H} (hct : ct 0 = .int 1) (hO : oOK xt ct d O) (hsep : m_sep a ra) (hbo : m_out a ra b) (RN : ∀ h : mj_H, h.1 b = none → aN xt h b = some len) (hlt : mj_c2 .gt i (len - 4) = false) (R0 : ∀ h : mj_H, h.1 b = none → aI xt h b i = some w0) (R1 : ∀ h : mj_H, h.1 b = none → aI xt h b (i + 1) = some w1) (R2 : ∀ h : mj_H, h.1 b = none → aI xt h b (i + 2) = some w2) (R3 : ∀ h : mj_H, h.1 b = none → aI xt h b (i + 3) = some w3) (hb0 : H.1 b = none) (hw : w0 &&& 31 = 30)  (hr : LW xt ct d b x a o (i + 4) H r) : LW xt ct d b x a o i H r := by
  intro l f
  exact (
  r_iload c300_23 f.2.2.2.2 <|
  r_aloadn c300_25 f.1 <|
  c_len c300_26 (RN _ hb0) <|
  r_iconst c300_27 <|
  r_isub c300_28 rfl <|
  r_icmpF c300_29 hlt <|
  r_aloadn c300_32 f.1 <|
  r_iload c300_33 f.2.2.2.2 <|
  c_aI c300_35 (R0 _ hb0) <|
  r_bipush c300_36 <|
  r_iand c300_38 rfl <|
  c_sw c300_39_30 (decide_eq_true hw) <|
  r_iinc c300_1120 f.2.2.2.2 <|
  r_goto c300_1123 <|
  hr _ ⟨(ld1_ne f.1 (by decide) (Or.inl (by decide))), (ld1_ne f.2.1 (by decide) (Or.inl (by decide))), (ld1_ne f.2.2.1 (by decide) (Or.inl (by decide))), (ld1_ne f.2.2.2.1 (by decide) (Or.inr rfl)), ld1_eq⟩)
theorem law_31 {xt : mj_X} {ct : Nat → Value} {O : OR} {d N b x a o : Nat} {ra : Nat → Nat} {i len w0 w1 w2 w3 : Int32} {H : mj_H} {r : mj_O × mj_H} (hct : ct 0 = .int 1) (hO : oOK xt ct d O) (hsep : m_sep a ra) (hbo : m_out a ra b) (RN : ∀ h : mj_H, h.1 b = none → aN xt h b = some len) (hlt : mj_c2 .gt i (len - 4) = false) (R0 : ∀ h : mj_H, h.1 b = none → aI xt h b i = some w0) (R1 : ∀ h : mj_H, h.1 b = none → aI xt h b (i + 1) = some w1) (R2 : ∀ h : mj_H, h.1 b = none → aI xt h b (i + 2) = some w2) (R3 : ∀ h : mj_H, h.1 b = none → aI xt h b (i + 3) = some w3) (hb0 : H.1 b = none) (hw : w0 &&& 31 = 31)  (hr : LW xt ct d b x a o (i + 4) H r) : LW xt ct d b x a o i H r := by
  intro l f
  exact (
  r_iload c300_23 f.2.2.2.2 <|
  r_aloadn c300_25 f.1 <|
  c_len c300_26 (RN _ hb0) <|
  r_iconst c300_27 <|
  r_isub c300_28 rfl <|
  r_icmpF c300_29 hlt <|
  r_aloadn c300_32 f.1 <|
  r_iload c300_33 f.2.2.2.2 <|
  c_aI c300_35 (R0 _ hb0) <|
  r_bipush c300_36 <|
  r_iand c300_38 rfl <|
  c_sw c300_39_31 (decide_eq_true hw) <|
  r_iinc c300_1120 f.2.2.2.2 <|
  r_goto c300_1123 <|
  hr _ ⟨(ld1_ne f.1 (by decide) (Or.inl (by decide))), (ld1_ne f.2.1 (by decide) (Or.inl (by decide))), (ld1_ne f.2.2.1 (by decide) (Or.inl (by decide))), (ld1_ne f.2.2.2.1 (by decide) (Or.inr rfl)), ld1_eq⟩)
theorem law_end {xt : mj_X} {ct : Nat → Value} {d b x a o : Nat} {i len : Int32} {H : mj_H} (RN : ∀ h : mj_H, h.1 b = none → aN xt h b = some len) (hlt : mj_c2 .gt i (len - 4) = true) (hb0 : H.1 b = none) : LW xt ct d b x a o i H (.inl (some (.int 1)), H) := by
  intro l f
  exact (
  r_iload c300_23 f.2.2.2.2 <|
  r_aloadn c300_25 f.1 <|
  c_len c300_26 (RN _ hb0) <|
  r_iconst c300_27 <|
  r_isub c300_28 rfl <|
  r_icmpT c300_29 hlt <|
  r_iconst c300_1126 <|
  r_iret c300_1127 rfl)
