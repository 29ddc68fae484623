/-! FINITE SUMS, BINOMIALS, PATHS: how dice fall, told face by face -/
def sm : Nat → (Nat → Nat) → Nat
  | 0, _ => 0
  | n + 1, f => sm n f + f n
theorem sm_congr {f g : Nat → Nat} : ∀ n, (∀ i, i < n → f i = g i) → sm n f = sm n g := by
  intro n
  induction n with
  | zero => intro _; rfl
  | succ n ih =>
    intro h
    rw [sm, sm, ih (fun i hi => h i (by omega)), h n (by omega)]
theorem sm_zero {f : Nat → Nat} : ∀ n, (∀ i, i < n → f i = 0) → sm n f = 0 := by
  intro n
  induction n with
  | zero => intro _; rfl
  | succ n ih =>
    intro h
    rw [sm, ih (fun i hi => h i (by omega)), h n (by omega)]
theorem sm_add {f g : Nat → Nat} : ∀ n, sm n (fun i => f i + g i) = sm n f + sm n g := by
  intro n
  induction n with
  | zero => rfl
  | succ n ih => rw [sm, sm, sm, ih]; omega
theorem sm_mul {f : Nat → Nat} (c : Nat) : ∀ n, sm n (fun i => c * f i) = c * sm n f := by
  intro n
  induction n with
  | zero => rfl
  | succ n ih => rw [sm, sm, ih, Nat.mul_add]
theorem sm_swap {f : Nat → Nat → Nat} (m : Nat) : ∀ n, sm n (fun i => sm m (fun j => f i j)) = sm m (fun j => sm n (fun i => f i j)) := by
  intro n
  induction n with
  | zero => exact (sm_zero m (fun _ _ => rfl)).symm
  | succ n ih =>
    rw [sm, ih, ← sm_add]
    rfl
theorem sm_head {f : Nat → Nat} : ∀ n, sm (n + 1) f = f 0 + sm n (fun i => f (i + 1)) := by
  intro n
  induction n with
  | zero => show 0 + f 0 = f 0 + 0; omega
  | succ n ih =>
    rw [sm, ih, sm]
    omega
theorem sm_one {f : Nat → Nat} (k : Nat) : ∀ n, k < n → (∀ i, i < n → i ≠ k → f i = 0) → sm n f = f k := by
  intro n
  induction n with
  | zero => intro h; omega
  | succ n ih =>
    intro h hz
    rw [sm]
    by_cases e : k = n
    · subst e
      rw [sm_zero k (fun i hi => hz i (by omega) (by omega))]
      omega
    · rw [ih (by omega) (fun i hi hk => hz i (by omega) hk), hz n (by omega) (by omega)]
      omega
theorem sm_flip {f : Nat → Nat} : ∀ n, sm (n + 1) (fun i => f (n - i)) = sm (n + 1) f := by
  intro n
  induction n with
  | zero => rfl
  | succ n ih =>
    rw [sm_head (f := fun i => f (n + 1 - i))]
    have : sm (n + 1) (fun i => f (n + 1 - (i + 1))) = sm (n + 1) (fun i => f (n - i)) := sm_congr _ (fun i hi => by rw [show n + 1 - (i + 1) = n - i by omega])
    rw [this, ih, show sm (n + 1 + 1) f = sm (n + 1) f + f (n + 1) from rfl]
    show f (n + 1 - 0) + _ = _
    rw [Nat.sub_zero]
    omega
theorem sm_le {f : Nat → Nat} (k : Nat) : ∀ n, k < n → f k ≤ sm n f := by
  intro n
  induction n with
  | zero => intro h; omega
  | succ n ih =>
    intro h
    rw [sm]
    by_cases e : k = n
    · subst e; omega
    · have := ih (by omega); omega
/-- binomials -/
def bn : Nat → Nat → Nat
  | _, 0 => 1
  | 0, _ + 1 => 0
  | n + 1, k + 1 => bn n k + bn n (k + 1)
theorem bn_0 (n : Nat) : bn n 0 = 1 := by cases n <;> rfl
theorem bn_big : ∀ (n k : Nat), n < k → bn n k = 0 := by
  intro n
  induction n with
  | zero => intro k h; cases k with
    | zero => omega
    | succ k => rfl
  | succ n ih =>
    intro k h
    cases k with
    | zero => omega
    | succ k => rw [bn, ih k (by omega), ih (k + 1) (by omega)]
theorem bn_self : ∀ n, bn n n = 1 := by
  intro n
  induction n with
  | zero => rfl
  | succ n ih => rw [bn, ih, bn_big n (n + 1) (by omega)]
/-- the step of a binomial along both -/
theorem bn_step : ∀ (i j : Nat), bn (i + j) j * (i + j + 1) = bn (i + j + 1) (j + 1) * (j + 1) := by
  intro i j
  induction j generalizing i with
  | zero =>
    rw [bn_0, bn, bn_0]
    have : ∀ n, bn n 1 = n := by
      intro n
      induction n with
      | zero => rfl
      | succ n ih => rw [bn, bn_0, ih]; omega
    rw [this]
    omega
  | succ j ihj =>
    induction i with
    | zero =>
      rw [Nat.zero_add, bn_self, bn_self]
    | succ i ihi =>
      have e1 := ihj (i + 1)
      have e2 := ihi
      have p1 : bn (i + 1 + (j + 1)) (j + 1) = bn (i + 1 + j) j + bn (i + 1 + j) (j + 1) := rfl
      have p2 : bn (i + 1 + (j + 1) + 1) (j + 1 + 1) = bn (i + 1 + (j + 1)) (j + 1) + bn (i + 1 + (j + 1)) (j + 1 + 1) := rfl
      have q1 : i + (j + 1) = i + 1 + j := by omega
      rw [q1] at e2
      obtain ⟨a, ha⟩ : ∃ a, bn (i + 1 + j) j = a := ⟨_, rfl⟩
      obtain ⟨b, hb⟩ : ∃ b, bn (i + 1 + j) (j + 1) = b := ⟨_, rfl⟩
      obtain ⟨d, hd⟩ : ∃ d, bn (i + 1 + (j + 1)) (j + 1 + 1) = d := ⟨_, rfl⟩
      have q2 : i + 1 + j + 1 = i + 1 + (j + 1) := by omega
      rw [q2] at e1 e2
      rw [p1, ha, hb] at e1
      rw [hb, hd] at e2
      rw [p2, p1, ha, hb, hd]
      have x1 : (a + b + d) * (j + 1 + 1) = (a + b) * (j + 1) + (a + b) + d * (j + 1 + 1) := by
        rw [Nat.add_mul (a + b) d, Nat.mul_succ (a + b)]
      have x2 : (a + b) * (i + 1 + (j + 1) + 1) = a * (i + 1 + (j + 1)) + b * (i + 1 + (j + 1)) + (a + b) := by
        rw [Nat.mul_succ (a + b), Nat.add_mul]
      rw [x1, x2, ← e1, ← e2]
      omega
/-- paths from p to q through the faces F, weighed by K, what they gain told to h -/
def U (n : Nat) (K G : Nat → Nat → Nat) : List Nat → Nat → Nat → (Nat → Nat) → Nat
  | [], p, q, h => if p = q then h 0 else 0
  | f :: F, p, q, h => sm (n + 1) (fun r => K p r * U n K G F r q (fun s => h (s + f * G p r)))
section UU
variable {n : Nat} {K G : Nat → Nat → Nat}
theorem U_app (f : Nat) : ∀ (F : List Nat) (p q : Nat) (h : Nat → Nat), p ≤ n → q ≤ n → U n K G (F ++ [f]) p q h = sm (n + 1) (fun r => K r q * U n K G F p r (fun s => h (s + f * G r q))) := by
  intro F
  induction F with
  | nil =>
    intro p q h hp hq
    show sm (n + 1) (fun r => K p r * (if r = q then h (0 + f * G p r) else 0)) = sm (n + 1) (fun r => K r q * (if p = r then h (0 + f * G r q) else 0))
    rw [sm_one q (n + 1) (by omega) (fun i _ hi => by rw [if_neg hi]; rfl), sm_one p (n + 1) (by omega) (fun i _ hi => by rw [if_neg (fun e => hi e.symm)]; rfl), if_pos rfl, if_pos rfl]
  | cons a F ih =>
    intro p q h hp hq
    show sm (n + 1) (fun r => K p r * U n K G (F ++ [f]) r q (fun s => h (s + a * G p r))) = sm (n + 1) (fun t => K t q * sm (n + 1) (fun r => K p r * U n K G F r t (fun s => h (s + a * G p r + f * G t q))))
    have e1 : sm (n + 1) (fun r => K p r * U n K G (F ++ [f]) r q (fun s => h (s + a * G p r))) = sm (n + 1) (fun r => sm (n + 1) (fun t => K p r * (K t q * U n K G F r t (fun s => h (s + f * G t q + a * G p r))))) := by
      refine sm_congr _ (fun r hr => ?_)
      rw [ih r q _ (by omega) hq, ← sm_mul]
    have e2 : sm (n + 1) (fun t => K t q * sm (n + 1) (fun r => K p r * U n K G F r t (fun s => h (s + a * G p r + f * G t q)))) = sm (n + 1) (fun t => sm (n + 1) (fun r => K t q * (K p r * U n K G F r t (fun s => h (s + a * G p r + f * G t q))))) := sm_congr _ (fun t _ => by rw [← sm_mul])
    rw [e1, e2, sm_swap]
    refine sm_congr _ (fun t _ => sm_congr _ (fun r _ => ?_))
    have : (fun s => h (s + f * G t q + a * G p r)) = (fun s => h (s + a * G p r + f * G t q)) := funext (fun s => by rw [Nat.add_right_comm])
    rw [this, ← Nat.mul_assoc, ← Nat.mul_assoc, Nat.mul_comm (K p r)]
/-- the same paths from the other end -/
theorem U_rev {K' G' : Nat → Nat → Nat} (hK : ∀ p q, p ≤ n → q ≤ n → K' p q = K (n - q) (n - p)) (hG : ∀ p q, p ≤ n → q ≤ n → G' p q = G (n - q) (n - p)) : ∀ (F : List Nat) (p q : Nat) (h : Nat → Nat), p ≤ n → q ≤ n → U n K' G' F.reverse p q h = U n K G F (n - q) (n - p) h := by
  intro F
  induction F with
  | nil =>
    intro p q h hp hq
    show (if p = q then h 0 else 0) = (if n - q = n - p then h 0 else 0)
    by_cases e : p = q
    · rw [if_pos e, if_pos (by rw [e])]
    · rw [if_neg e, if_neg (by omega)]
  | cons f F ih =>
    intro p q h hp hq
    rw [List.reverse_cons, U_app f _ _ _ _ hp hq]
    show _ = sm (n + 1) (fun r => K (n - q) r * U n K G F r (n - p) (fun s => h (s + f * G (n - q) r)))
    rw [← sm_flip n (f := fun r => K (n - q) r * U n K G F r (n - p) (fun s => h (s + f * G (n - q) r)))]
    refine sm_congr _ (fun r hr => ?_)
    rw [ih p r _ hp (by omega), hK r q (by omega) hq, hG r q (by omega) hq]
/-- other weights of the same paths -/
theorem U_wt {K' : Nat → Nat → Nat} (w : Nat → Nat) (hK : ∀ p q, p ≤ n → q ≤ n → K' p q * w q = w p * K p q) : ∀ (F : List Nat) (p q : Nat) (h : Nat → Nat), p ≤ n → q ≤ n → w q * U n K' G F p q h = w p * U n K G F p q h := by
  intro F
  induction F with
  | nil =>
    intro p q h _ _
    show w q * (if p = q then h 0 else 0) = w p * (if p = q then h 0 else 0)
    by_cases e : p = q
    · rw [e]
    · rw [if_neg e]; rfl
  | cons f F ih =>
    intro p q h hp hq
    show w q * sm (n + 1) (fun r => K' p r * U n K' G F r q _) = w p * sm (n + 1) (fun r => K p r * U n K G F r q _)
    rw [← sm_mul, ← sm_mul]
    refine sm_congr _ (fun r hr => ?_)
    rw [Nat.mul_left_comm, ih r q _ (by omega) hq, ← Nat.mul_assoc, hK p r hp (by omega), Nat.mul_assoc]
theorem U_ext {n : Nat} {K G K' G' : Nat → Nat → Nat} (hK : ∀ p q, p ≤ n → q ≤ n → K' p q = K p q) (hG : ∀ p q, p ≤ n → q ≤ n → K p q ≠ 0 → G' p q = G p q) : ∀ (F : List Nat) (p q : Nat) (h : Nat → Nat), p ≤ n → U n K' G' F p q h = U n K G F p q h := by
  intro F
  induction F with
  | nil => intro p q h _; rfl
  | cons f F ih =>
    intro p q h hp
    show sm (n + 1) (fun r => K' p r * U n K' G' F r q _) = sm (n + 1) (fun r => K p r * U n K G F r q _)
    refine sm_congr _ (fun r hr => ?_)
    rw [hK p r hp (by omega)]
    by_cases e : K p r = 0
    · rw [e, Nat.zero_mul, Nat.zero_mul]
    · rw [hG p r hp (by omega) e, ih r q _ (by omega)]
/-- only what can be gained matters -/
theorem U_bd {M : Nat} (hGa : ∀ p r q, p ≤ r → r ≤ q → q ≤ n → G p r + G r q ≤ G p q) (hK : ∀ p q, q < p → K p q = 0) : ∀ (F : List Nat) (p q : Nat) (h h' : Nat → Nat), (∀ f ∈ F, f ≤ M) → q ≤ n → (∀ x, x ≤ M * G p q → h x = h' x) → U n K G F p q h = U n K G F p q h' := by
  intro F
  induction F with
  | nil =>
    intro p q h h' _ _ hh
    show (if p = q then h 0 else 0) = (if p = q then h' 0 else 0)
    rw [hh 0 (Nat.zero_le _)]
  | cons f F ih =>
    intro p q h h' hF hq hh
    show sm (n + 1) (fun r => K p r * U n K G F r q _) = sm (n + 1) (fun r => K p r * U n K G F r q _)
    refine sm_congr _ (fun r hr => ?_)
    by_cases c : p ≤ r
    · by_cases c2 : r ≤ q
      · rw [ih r q _ (fun s => h' (s + f * G p r)) (fun x hx => hF x (List.mem_cons_of_mem _ hx)) hq (fun x hx => hh _ ?_)]
        have a := hGa p r q c c2 hq
        have b := Nat.mul_le_mul_left M a
        have d := Nat.mul_le_mul_right (G p r) (hF f List.mem_cons_self)
        rw [Nat.mul_add] at b
        omega
      · have z : ∀ (F : List Nat) (r : Nat) (g : Nat → Nat), q < r → U n K G F r q g = 0 := by
          intro F
          induction F with
          | nil => intro r g hr; exact if_neg (by omega)
          | cons a F ihF =>
            intro r g hr
            refine sm_zero _ (fun t ht => ?_)
            by_cases c3 : r ≤ t
            · rw [ihF t _ (by omega)]; rfl
            · rw [hK r t (by omega)]; exact Nat.zero_mul _
        rw [z F r _ (by omega), z F r _ (by omega)]
    · rw [hK p r (by omega), Nat.zero_mul, Nat.zero_mul]
/-- a constant is told whatever was gained -/
theorem U_const {G' : Nat → Nat → Nat} (c : Nat) : ∀ (F : List Nat) (p q : Nat), U n K G F p q (fun _ => c) = U n K G' F p q (fun _ => c) := by
  intro F
  induction F with
  | nil => intro p q; rfl
  | cons f F ih =>
    intro p q
    exact sm_congr _ (fun r _ => by rw [ih r q])
theorem U_sum {φ : Nat → Nat → Nat} (m : Nat) : ∀ (F : List Nat) (p q : Nat) (g : Nat → Nat), U n K G F p q (fun x => sm m (fun s => φ s (g x))) = sm m (fun s => U n K G F p q (fun x => φ s (g x))) := by
  intro F
  induction F with
  | nil =>
    intro p q g
    show (if p = q then sm m (fun s => φ s (g 0)) else 0) = sm m (fun s => if p = q then φ s (g 0) else 0)
    by_cases e : p = q
    · rw [if_pos e]
      exact sm_congr _ (fun s _ => by rw [if_pos e])
    · rw [if_neg e]
      exact (sm_zero _ (fun s _ => by rw [if_neg e])).symm
  | cons f F ih =>
    intro p q g
    show sm (n + 1) (fun r => K p r * U n K G F r q (fun x => sm m (fun s => φ s (g (x + f * G p r))))) = sm m (fun s => sm (n + 1) (fun r => K p r * U n K G F r q (fun x => φ s (g (x + f * G p r)))))
    rw [← sm_swap]
    refine sm_congr _ (fun r _ => ?_)
    rw [ih r q (fun x => g (x + f * G p r)), sm_mul]
end UU
