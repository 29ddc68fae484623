/-! HOW DICE FALL: the plain function -/
def ls : List Nat → (Nat → Nat) → Nat
  | [], _ => 0
  | f :: F, φ => φ f + ls F φ
theorem ls_congr {φ ψ : Nat → Nat} : ∀ F : List Nat, (∀ f ∈ F, φ f = ψ f) → ls F φ = ls F ψ := by
  intro F
  induction F with
  | nil => intro _; rfl
  | cons f F ih => intro h; rw [ls, ls, h f List.mem_cons_self, ih (fun g hg => h g (List.mem_cons_of_mem _ hg))]
theorem ls_sm {φ : Nat → Nat → Nat} (n : Nat) : ∀ F : List Nat, ls F (fun f => sm n (φ f)) = sm n (fun i => ls F (fun f => φ f i)) := by
  intro F
  induction F with
  | nil => exact (sm_zero n (fun _ _ => rfl)).symm
  | cons f F ih =>
    rw [ls, ih, ← sm_add]
    rfl
theorem ls_mul {φ : Nat → Nat} (c : Nat) : ∀ F : List Nat, ls F (fun f => c * φ f) = c * ls F φ := by
  intro F
  induction F with
  | nil => rfl
  | cons f F ih => rw [ls, ls, ih, Nat.mul_add]
theorem sm_split {f : Nat → Nat} (a : Nat) : ∀ b, sm (a + b) f = sm a f + sm b (fun i => f (a + i)) := by
  intro b
  induction b with
  | zero => rfl
  | succ b ih => rw [show a + (b + 1) = a + b + 1 from rfl, sm, ih, sm]; omega
/-- r dice one after another -/
def An (F : List Nat) : Nat → (Nat → Nat) → Nat
  | 0, h => h 0
  | r + 1, h => ls F (fun f => An F r (fun s => h (s + f)))
theorem An_cons (f : Nat) (F : List Nat) : ∀ (r : Nat) (h : Nat → Nat), An (f :: F) r h = sm (r + 1) (fun c => bn r c * An F (r - c) (fun s => h (s + f * c))) := by
  intro r
  induction r with
  | zero =>
    intro h
    show h 0 = 0 + 1 * h (0 + f * 0)
    rw [Nat.mul_zero, Nat.zero_add, Nat.one_mul]
  | succ r ih =>
    intro h
    have e1 : An (f :: F) (r + 1) h = An (f :: F) r (fun s => h (s + f)) + ls F (fun f' => An (f :: F) r (fun s => h (s + f'))) := rfl
    have e2 : ls F (fun f' => An (f :: F) r (fun s => h (s + f'))) = sm (r + 1) (fun c => bn r c * An F (r - c + 1) (fun s => h (s + f * c))) := by
      rw [ls_congr F (fun f' _ => ih (fun s => h (s + f'))), ls_sm]
      refine sm_congr _ (fun c _ => ?_)
      rw [ls_mul]
      show _ = bn r c * ls F (fun f' => An F (r - c) (fun s => h (s + f' + f * c)))
      rw [ls_congr F (fun f' _ => ?_)]
      rw [show (fun s => h (s + f * c + f')) = (fun s => h (s + f' + f * c)) from funext (fun s => by rw [Nat.add_right_comm])]
    have e3 : An (f :: F) r (fun s => h (s + f)) = sm (r + 1) (fun c => bn r c * An F (r - c) (fun s => h (s + f * (c + 1)))) := by
      rw [ih]
      refine sm_congr _ (fun c _ => ?_)
      rw [show (fun s => h (s + f * c + f)) = (fun s => h (s + f * (c + 1))) from funext (fun s => by rw [Nat.mul_succ, Nat.add_assoc])]
    have e4 : sm (r + 1 + 1) (fun c => bn (r + 1) c * An F (r + 1 - c) (fun s => h (s + f * c))) = An F (r + 1) (fun s => h (s + f * 0)) + (sm (r + 1) (fun c => bn r c * An F (r - c) (fun s => h (s + f * (c + 1)))) + sm (r + 1) (fun c => bn r (c + 1) * An F (r - c) (fun s => h (s + f * (c + 1))))) := by
      rw [sm_head, ← sm_add]
      have a : bn (r + 1) 0 * An F (r + 1 - 0) (fun s => h (s + f * 0)) = An F (r + 1) (fun s => h (s + f * 0)) := by rw [bn_0, Nat.one_mul, Nat.sub_zero]
      rw [a]
      congr 1
      refine sm_congr _ (fun c _ => ?_)
      rw [show bn (r + 1) (c + 1) = bn r c + bn r (c + 1) from rfl, Nat.add_mul, show r + 1 - (c + 1) = r - c by omega]
    have e5 : sm (r + 1) (fun c => bn r c * An F (r - c + 1) (fun s => h (s + f * c))) = An F (r + 1) (fun s => h (s + f * 0)) + sm (r + 1) (fun c => bn r (c + 1) * An F (r - c) (fun s => h (s + f * (c + 1)))) := by
      rw [sm_head, bn_0, Nat.one_mul, Nat.sub_zero]
      congr 1
      show _ = sm r _ + bn r (r + 1) * _
      rw [bn_big r (r + 1) (by omega), Nat.zero_mul, Nat.add_zero]
      refine sm_congr _ (fun c hc => ?_)
      rw [show r - (c + 1) + 1 = r - c by omega]
    rw [e1, e2, e3, e4, e5]
    omega
def Kc (n p q : Nat) : Nat := if p ≤ q then bn (n - p) (q - p) else 0
def Kr (p q : Nat) : Nat := if p ≤ q then bn q (q - p) else 0
def Gm (k p q : Nat) : Nat := min q k - min p k
def Gx (n k p q : Nat) : Nat := max q (n - k) - max p (n - k)
def dlt (s x : Nat) : Nat := if x = s then 1 else 0
def fD : Nat → List Nat
  | 0 => []
  | m + 1 => (m + 1) :: fD m
theorem fD_mem : ∀ (m f : Nat), f ∈ fD m → 1 ≤ f ∧ f ≤ m := by
  intro m
  induction m with
  | zero => intro f h; cases h
  | succ m ih =>
    intro f h
    rcases List.mem_cons.mp h with e | e
    · omega
    · have := ih f e; omega
theorem fD_len : ∀ m, (fD m).length = m := by
  intro m
  induction m with
  | zero => rfl
  | succ m ih => rw [fD, List.length_cons, ih]
/-- all dice: paths are orders -/
theorem U_all {n : Nat} : ∀ (F : List Nat) (p : Nat) (h : Nat → Nat), p ≤ n → U n (Kc n) (fun p q => q - p) F p n h = An F (n - p) h := by
  intro F
  induction F with
  | nil =>
    intro p h hp
    show (if p = n then h 0 else 0) = An [] (n - p) h
    by_cases e : p = n
    · rw [if_pos e, e, Nat.sub_self]
      rfl
    · rw [if_neg e]
      obtain ⟨d, hd⟩ : ∃ d, n - p = d + 1 := ⟨n - p - 1, by omega⟩
      rw [hd]
      rfl
  | cons f F ih =>
    intro p h hp
    rw [An_cons]
    show sm (n + 1) (fun r => Kc n p r * U n (Kc n) (fun p q => q - p) F r n (fun s => h (s + f * (r - p)))) = _
    rw [show n + 1 = p + (n - p + 1) by omega, sm_split, sm_zero p (fun r hr => by unfold Kc; rw [if_neg (by omega), Nat.zero_mul]), Nat.zero_add]
    refine sm_congr _ (fun c hc => ?_)
    rw [ih (p + c) _ (by omega)]
    unfold Kc
    rw [if_pos (by omega), show p + c - p = c by omega, show n - (p + c) = n - p - c by omega]
theorem An_1 (F : List Nat) : ∀ r, An F r (fun _ => 1) = F.length ^ r := by
  intro r
  induction r with
  | zero => rfl
  | succ r ih =>
    show ls F (fun _ => An F r (fun _ => 1)) = _
    rw [ih]
    have : ∀ (G : List Nat) (c : Nat), ls G (fun _ => c) = G.length * c := by
      intro G c
      induction G with
      | nil => rw [List.length_nil, Nat.zero_mul]; rfl
      | cons g G ih => rw [ls, ih, List.length_cons, Nat.add_mul]; omega
    rw [this, Nat.pow_succ, Nat.mul_comm]
theorem Gm_add {k : Nat} (p r q : Nat) (h1 : p ≤ r) (h2 : r ≤ q) : Gm k p r + Gm k r q ≤ Gm k p q := by unfold Gm; omega
theorem Kc_no {n : Nat} (p q : Nat) (h : q < p) : Kc n p q = 0 := if_neg (by omega)
/-- what of dice that are rolled again if they show the most -/
def eW (m k s : Nat) : Nat := if s = m * (k + 1) then 1 else if s % m ≠ 0 ∧ s < m * (k + 1) then m ^ (k - s / m) else 0
/-- in how many ways so many dice, of which so many are picked, give a sum -/
def dW (n m : Nat) (pick : Int32) (k s : Nat) : Nat := if pick = 101 then eW m k s else if pick = 108 then U n (Kc n) (Gm k) (fD m).reverse 0 n (dlt s) else U n (Kc n) (Gm k) (fD m) 0 n (dlt s)
theorem dlt_sum (x : Nat) (h : x < 121) : sm 121 (fun s => dlt s x) = 1 := by
  rw [sm_one (f := fun s => dlt s x) x 121 h (fun i _ hi => by show dlt i x = 0; unfold dlt; exact if_neg (fun e => hi e.symm))]
  exact if_pos rfl
theorem U_far {n m k s : Nat} {F : List Nat} (hF : ∀ f ∈ F, f ≤ m) (hk : k ≤ n) (hs : m * k < s) : U n (Kc n) (Gm k) F 0 n (dlt s) = 0 := by
  have e : U n (Kc n) (Gm k) F 0 n (dlt s) = U n (Kc n) (Gm k) F 0 n (fun _ => 0) := by
    refine U_bd (M := m) (fun p r q h1 h2 _ => Gm_add p r q h1 h2) (fun p q h => Kc_no p q h) F 0 n _ _ hF (Nat.le_refl _) (fun x hx => ?_)
    have : Gm k 0 n = k := by unfold Gm; omega
    rw [this] at hx
    exact if_neg (by omega)
  rw [e]
  have z : ∀ (F : List Nat) (p q : Nat), U n (Kc n) (Gm k) F p q (fun _ => 0) = 0 := by
    intro F
    induction F with
    | nil => intro p q; show (if p = q then 0 else 0) = 0; split <;> rfl
    | cons f F ih => intro p q; exact sm_zero _ (fun r _ => by rw [ih]; rfl)
  exact z F 0 n
theorem U_tot {n m k : Nat} {F : List Nat} (hF : ∀ f ∈ F, f ≤ m) (hk : k ≤ n) (hb : m * k < 121) : sm 121 (fun s => U n (Kc n) (Gm k) F 0 n (dlt s)) = F.length ^ n := by
  have a := U_sum (n := n) (K := Kc n) (G := Gm k) (φ := fun s x => dlt s x) 121 F 0 n (fun x => x)
  rw [← a]
  have b : U n (Kc n) (Gm k) F 0 n (fun x => sm 121 (fun s => dlt s x)) = U n (Kc n) (Gm k) F 0 n (fun _ => 1) := by
    refine U_bd (M := m) (fun p r q h1 h2 _ => Gm_add p r q h1 h2) (fun p q h => Kc_no p q h) F 0 n _ _ hF (Nat.le_refl _) (fun x hx => ?_)
    have : Gm k 0 n = k := by unfold Gm; omega
    rw [this] at hx
    exact dlt_sum x (by omega)
  rw [b, U_const (G' := fun p q => q - p) 1, U_all F 0 _ (by omega), An_1, Nat.sub_zero]
theorem eW_tot : ∀ m, m < 21 → ∀ k, k < 4 → 2 ≤ m → sm 121 (eW m k) = m ^ (k + 1) := by decide +kernel
theorem eW_far {m k s : Nat} (hs : m * (k + 1) < s) : eW m k s = 0 := by
  unfold eW
  rw [if_neg (by omega), if_neg (by omega)]
/-- all ways together, and where there are none -/
theorem dW_tot {n m k : Nat} {how keep pick : Int32} (h : dcOK n m how keep pick k) : sm 121 (dW n m pick k) = m ^ (if pick = 101 then k + 1 else n) := by
  obtain ⟨⟨h1, h2⟩, ⟨h3, h4⟩, h5⟩ := h
  have mk : pick ≠ 101 → k ≤ n := by
    intro hp
    rcases h5 with ⟨-, -, -, e⟩ | ⟨-, e, -⟩ | ⟨-, -, e, -⟩
    · omega
    · exact absurd e hp
    · omega
  have hb : pick ≠ 101 → m * k < 121 := by
    intro hp
    have := Nat.mul_le_mul h4 (show k ≤ 6 by have := mk hp; omega)
    omega
  by_cases c : pick = 101
  · rw [if_pos c]
    have k3 : k ≤ 3 := by
      rcases h5 with ⟨-, -, e, -⟩ | ⟨-, -, -, e, -⟩ | ⟨e, e2, -, -⟩
      · rw [c] at e; exact absurd e (by decide)
      · omega
      · rw [c] at e2
        rcases e with e | e <;> rw [← e2] at e <;> exact absurd e (by decide)
    rw [← eW_tot m (by omega) k (by omega) h3]
    refine sm_congr _ (fun s _ => ?_)
    unfold dW
    rw [if_pos c]
  · rw [if_neg c]
    by_cases c2 : pick = 108
    · have := U_tot (n := n) (m := m) (k := k) (F := (fD m).reverse) (fun f hf => (fD_mem m f (List.mem_reverse.mp hf)).2) (mk c) (hb c)
      rw [List.length_reverse, fD_len] at this
      rw [← this]
      refine sm_congr _ (fun s _ => ?_)
      unfold dW
      rw [if_neg c, if_pos c2]
    · have := U_tot (n := n) (m := m) (k := k) (F := fD m) (fun f hf => (fD_mem m f hf).2) (mk c) (hb c)
      rw [fD_len] at this
      rw [← this]
      refine sm_congr _ (fun s _ => ?_)
      unfold dW
      rw [if_neg c, if_neg c2]
theorem dW_far {n m k s : Nat} {how keep pick : Int32} (h : dcOK n m how keep pick k) (hs : m * (if pick = 101 then k + 1 else k) < s) : dW n m pick k s = 0 := by
  obtain ⟨⟨h1, h2⟩, ⟨h3, h4⟩, h5⟩ := h
  unfold dW
  by_cases c : pick = 101
  · rw [if_pos c] at hs ⊢
    exact eW_far hs
  · rw [if_neg c] at hs ⊢
    have mk : k ≤ n := by
      rcases h5 with ⟨-, -, -, e⟩ | ⟨-, e, -⟩ | ⟨-, -, e, -⟩
      · omega
      · exact absurd e c
      · omega
    by_cases c2 : pick = 108
    · rw [if_pos c2]
      exact U_far (fun f hf => (fD_mem m f (List.mem_reverse.mp hf)).2) mk hs
    · rw [if_neg c2]
      exact U_far (fun f hf => (fD_mem m f hf).2) mk hs
/-- the reference's ways of telling it -/
theorem ref_h {n m k s : Nat} (hn : n ≤ 6) : U n Kr (Gm k) (fD m) 0 n (dlt s) = U n (Kc n) (Gm k) (fD m) 0 n (dlt s) := by
  have t : ∀ n, n < 7 → ∀ p, p < 7 → ∀ q, q < 7 → p ≤ n → q ≤ n → Kr p q * bn n q = bn n p * Kc n p q := by decide +kernel
  have := U_wt (n := n) (K := Kc n) (G := Gm k) (K' := Kr) (bn n) (fun p q hp hq => t n (by omega) p (by omega) q (by omega) hp hq) (fD m) 0 n (dlt s) (by omega) (Nat.le_refl _)
  rw [bn_self, bn_0, Nat.one_mul, Nat.one_mul] at this
  exact this
theorem ref_l {n m k s : Nat} (hk : k ≤ n) : U n Kr (Gx n k) (fD m) 0 n (dlt s) = U n (Kc n) (Gm k) (fD m).reverse 0 n (dlt s) := by
  have := U_rev (n := n) (K := Kc n) (G := Gm k) (K' := Kr) (G' := Gx n k) (fun p q hp hq => by
    unfold Kr Kc
    by_cases e : p ≤ q
    · rw [if_pos e, if_pos (by omega), show n - (n - q) = q by omega, show n - p - (n - q) = q - p by omega]
    · rw [if_neg e, if_neg (by omega)]) (fun p q hp hq => by unfold Gx Gm; omega) (fD m).reverse 0 n (dlt s) (by omega) (Nat.le_refl _)
  rw [List.reverse_reverse, Nat.sub_self, Nat.sub_zero] at this
  exact this
/-- dice added up one after another -/
def addN (m : Nat) : Nat → Nat → Nat
  | 0, s => if s = 0 then 1 else 0
  | n + 1, s => ls (fD m) (fun f => if f ≤ s then addN m n (s - f) else 0)
theorem ref_a {n m s : Nat} : addN m n s = U n (Kc n) (Gm n) (fD m) 0 n (dlt s) := by
  have a : U n (Kc n) (Gm n) (fD m) 0 n (dlt s) = An (fD m) n (dlt s) := by
    have u := U_ext (n := n) (K := Kc n) (K' := Kc n) (G := fun p q => q - p) (G' := Gm n) (fun _ _ _ _ => rfl) (fun p q hp hq _ => by unfold Gm; omega) (fD m) 0 n (dlt s) (by omega)
    rw [u, U_all _ _ _ (by omega), Nat.sub_zero]
  rw [a]
  have key : ∀ (n s : Nat), An (fD m) n (dlt s) = addN m n s := by
    intro n
    induction n with
    | zero =>
      intro s
      show (if 0 = s then 1 else 0) = (if s = 0 then 1 else 0)
      by_cases e : s = 0
      · rw [if_pos e, if_pos e.symm]
      · rw [if_neg e, if_neg (fun h => e h.symm)]
    | succ n ih =>
      intro s
      refine ls_congr _ (fun f _ => ?_)
      by_cases e : f ≤ s
      · rw [if_pos e, ← ih]
        congr 1
        funext x
        unfold dlt
        by_cases e2 : x + f = s
        · rw [if_pos e2, if_pos (by omega)]
        · rw [if_neg e2, if_neg (by omega)]
      · rw [if_neg e]
        have : (fun x => dlt s (x + f)) = (fun _ => 0) := funext (fun x => if_neg (by omega))
        rw [this]
        have z : ∀ k, An (fD m) k (fun _ => 0) = 0 := by
          intro k
          induction k with
          | zero => rfl
          | succ k ihk =>
            show ls (fD m) (fun _ => An (fD m) k (fun _ => 0)) = 0
            rw [ihk]
            have : ∀ (G : List Nat), ls G (fun _ => 0) = 0 := by
              intro G
              induction G with
              | nil => rfl
              | cons g G ih => rw [ls, ih]
            exact this _
        exact z n
  exact (key n s).symm
