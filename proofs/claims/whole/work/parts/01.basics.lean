section HS01
/-! numbers and arrays as integers: every array is the image of a function on Int -/
def hs_i (x : Int) : Int32 := Int32.ofInt x
def hs_e (A : Int → Int) : Nat → Int32 := fun i => Int32.ofInt (A (i : Int))
def hs_u (A : Int → Int) (k v : Int) : Int → Int := fun j => if j = k then v else A j
theorem hs_us {A : Int → Int} {k v : Int} : hs_u A k v k = v := if_pos rfl
theorem hs_un {A : Int → Int} {k v j : Int} (h : j ≠ k) : hs_u A k v j = A j := if_neg h
theorem hs_ue {A : Int → Int} {k v j : Int} (h : j = k) : hs_u A k v j = v := if_pos h
theorem hs_self {A : Int → Int} {k v : Int} (h : A k = v) : hs_u A k v = A := by
  funext j
  by_cases e : j = k
  · rw [hs_ue e, e, h]
  · rw [hs_un e]
theorem hs_toInt {x : Int} (h0 : -2147483648 ≤ x) (h1 : x < 2147483648) : (hs_i x).toInt = x :=
  Int32.toInt_ofInt_of_le (by omega) (by omega)
theorem hs_eqI {x y : Int} (hx : -2147483648 ≤ x ∧ x < 2147483648) (hy : -2147483648 ≤ y ∧ y < 2147483648) : hs_i x = hs_i y ↔ x = y := by
  rw [← Int32.toInt_inj, hs_toInt hx.1 hx.2, hs_toInt hy.1 hy.2]
theorem hs_ltI {x y : Int} (hx : -2147483648 ≤ x ∧ x < 2147483648) (hy : -2147483648 ≤ y ∧ y < 2147483648) : hs_i x < hs_i y ↔ x < y := by
  rw [Int32.lt_iff_toInt_lt, hs_toInt hx.1 hx.2, hs_toInt hy.1 hy.2]
theorem hs_leI {x y : Int} (hx : -2147483648 ≤ x ∧ x < 2147483648) (hy : -2147483648 ≤ y ∧ y < 2147483648) : hs_i x ≤ hs_i y ↔ x ≤ y := by
  rw [Int32.le_iff_toInt_le, hs_toInt hx.1 hx.2, hs_toInt hy.1 hy.2]
theorem hs_add (x y : Int) : hs_i x + hs_i y = hs_i (x + y) := (Int32.ofInt_add x y).symm
theorem hs_sub (x y : Int) : hs_i x - hs_i y = hs_i (x - y) := (Int32.ofInt_sub x y).symm
theorem hs_mul (x y : Int) : hs_i x * hs_i y = hs_i (x * y) := (Int32.ofInt_mul x y).symm
theorem hs_neg (x : Int) : -hs_i x = hs_i (-x) := (Int32.ofInt_neg x).symm
theorem hs_cl {x : Int} (h0 : 0 ≤ x) (h1 : x < 2147483648) : (hs_i x).toNatClampNeg = x.toNat :=
  Int32.toNatClampNeg_ofInt_of_le (by omega) (by omega)
theorem hs_get {A : Int → Int} {x : Int} (h0 : 0 ≤ x) (h1 : x < 2147483648) : hs_e A (hs_i x).toNatClampNeg = hs_i (A x) := by
  rw [hs_cl h0 h1]
  show Int32.ofInt (A ((x.toNat : Nat) : Int)) = Int32.ofInt (A x)
  rw [Int.toNat_of_nonneg h0]
theorem hs_put {A : Int → Int} {x v : Int} (h0 : 0 ≤ x) (h1 : x < 2147483648) : upd (hs_e A) (hs_i x).toNatClampNeg (hs_i v) = hs_e (hs_u A x v) := by
  rw [hs_cl h0 h1]
  funext j
  by_cases e : (j : Int) = x
  · have e' : j = x.toNat := by omega
    show (if j = x.toNat then hs_i v else hs_e A j) = Int32.ofInt (hs_u A x v (j : Int))
    rw [if_pos e', hs_ue e]; rfl
  · have e' : ¬ j = x.toNat := by omega
    show (if j = x.toNat then hs_i v else hs_e A j) = Int32.ofInt (hs_u A x v (j : Int))
    rw [if_neg e', hs_un e]; rfl
theorem hs_in {x : Int} {n : Nat} (h0 : 0 ≤ x) (h1 : x < n) (hn : n < 2147483648) : vp_in (hs_i x) n := by
  rw [vp_in_iff, hs_toInt (by omega) (by omega)]
  exact ⟨h0, h1⟩
theorem hs_of (x : Int32) : ∃ z : Int, -2147483648 ≤ z ∧ z < 2147483648 ∧ x = hs_i z :=
  ⟨x.toInt, Int32.le_toInt x, Int32.toInt_lt x, (Int32.ofInt_toInt x).symm⟩
theorem hs_div2 {x : Int} (h0 : 0 ≤ x) (h1 : x < 2147483648) : hs_i x / 2 = hs_i (x / 2) := by
  apply Int32.toInt_inj.mp
  have e2 : (2 : Int32).toInt = 2 := by decide
  rw [lg_idiv_nonneg (by rw [hs_toInt (by omega) h1]; exact h0) (by rw [e2]; decide), hs_toInt (by omega) h1, e2, hs_toInt (by omega) (by omega)]
theorem hs_div4 {x : Int} (h0 : 0 ≤ x) (h1 : x < 2147483648) : hs_i x / 4 = hs_i (x / 4) := by
  apply Int32.toInt_inj.mp
  have e2 : (4 : Int32).toInt = 4 := by decide
  rw [lg_idiv_nonneg (by rw [hs_toInt (by omega) h1]; exact h0) (by rw [e2]; decide), hs_toInt (by omega) h1, e2, hs_toInt (by omega) (by omega)]
/-! branches by integers -/
theorem hs_lt {x y : Int32} {A B : Prop} (a b : Int) (f : a < b → A) (g : b ≤ a → B) (hx : x = hs_i a := by rfl) (hy : y = hs_i b := by rfl) (ha : -2147483648 ≤ a ∧ a < 2147483648 := by omega) (hb : -2147483648 ≤ b ∧ b < 2147483648 := by omega) : (x < y → A) ∧ (¬ x < y → B) := by
  subst hx hy
  rw [hs_ltI ha hb]
  exact ⟨f, fun z => g (by omega)⟩
theorem hs_le {x y : Int32} {A B : Prop} (a b : Int) (f : a ≤ b → A) (g : b < a → B) (hx : x = hs_i a := by rfl) (hy : y = hs_i b := by rfl) (ha : -2147483648 ≤ a ∧ a < 2147483648 := by omega) (hb : -2147483648 ≤ b ∧ b < 2147483648 := by omega) : (x ≤ y → A) ∧ (¬ x ≤ y → B) := by
  subst hx hy
  rw [hs_leI ha hb]
  exact ⟨f, fun z => g (by omega)⟩
theorem hs_eq {x y : Int32} {A B : Prop} (a b : Int) (f : a = b → A) (g : a ≠ b → B) (hx : x = hs_i a := by rfl) (hy : y = hs_i b := by rfl) (ha : -2147483648 ≤ a ∧ a < 2147483648 := by omega) (hb : -2147483648 ≤ b ∧ b < 2147483648 := by omega) : (x = y → A) ∧ (¬ x = y → B) := by
  subst hx hy
  rw [hs_eqI ha hb]
  exact ⟨f, g⟩
/-! sums, counts, ranks -/
def hs_sum (f : Int → Int) : Nat → Int
  | 0 => 0
  | n + 1 => hs_sum f n + f (n : Int)
theorem hs_sum_le {f g : Int → Int} : ∀ n : Nat, (∀ j : Int, 0 ≤ j → j < n → f j ≤ g j) → hs_sum f n ≤ hs_sum g n := by
  intro n
  induction n with
  | zero => intro _; exact Int.le_refl _
  | succ n ih =>
    intro h
    have h1 := ih (fun j h0 hj => h j h0 (by omega))
    have h2 := h (n : Int) (by omega) (by omega)
    show hs_sum f n + f (n : Int) ≤ hs_sum g n + g (n : Int)
    omega
theorem hs_sum_one {f g : Int → Int} {k : Int} (h0 : 0 ≤ k) : ∀ n : Nat, (∀ j : Int, 0 ≤ j → j < n → j ≠ k → g j = f j) → hs_sum g n = hs_sum f n + (if k < n then g k - f k else 0) := by
  intro n
  induction n with
  | zero =>
    intro _
    rw [if_neg (by omega)]; rfl
  | succ n ih =>
    intro h
    have h1 := ih (fun j h0 hj => h j h0 (by omega))
    show hs_sum g n + g (n : Int) = hs_sum f n + f (n : Int) + _
    rw [h1]
    by_cases c : k = (n : Int)
    · rw [if_neg (by omega), if_pos (by omega), c]; omega
    · have h2 := h (n : Int) (by omega) (by omega) (fun e => c e.symm)
      by_cases c2 : k < (n : Int)
      · rw [if_pos c2, if_pos (by omega)]; omega
      · rw [if_neg c2, if_neg (by omega)]; omega
theorem hs_sum_congr {f g : Int → Int} : ∀ n : Nat, (∀ j : Int, 0 ≤ j → j < n → g j = f j) → hs_sum g n = hs_sum f n := by
  intro n h
  exact Int.le_antisymm (hs_sum_le n fun j a b => Int.le_of_eq (h j a b)) (hs_sum_le n fun j a b => Int.le_of_eq (h j a b).symm)
theorem hs_sum_const (c : Int) : ∀ n : Nat, hs_sum (fun _ => c) n = n * c := by
  intro n
  induction n with
  | zero => show (0 : Int) = _; omega
  | succ n ih =>
    show hs_sum (fun _ => c) n + c = _
    rw [ih, Int.natCast_succ, Int.add_mul, Int.one_mul]
theorem hs_sum_lt {f g : Int → Int} {k : Int} (h0 : 0 ≤ k) {n : Nat} (hn : k < n) (hk : f k + 1 ≤ g k) (h : ∀ j : Int, 0 ≤ j → j < n → f j ≤ g j) : hs_sum f n + 1 ≤ hs_sum g n := by
  have h1 := hs_sum_one (f := f) (g := hs_u f k (f k + 1)) h0 n (fun j _ _ e => hs_un e)
  rw [if_pos hn, hs_us] at h1
  have h2 : hs_sum (hs_u f k (f k + 1)) n ≤ hs_sum g n := hs_sum_le n fun j a b => by
    by_cases e : j = k
    · rw [hs_ue e, e]; exact hk
    · rw [hs_un e]; exact h j a b
  omega
def hs_rk (f : Int → Int) (i : Int) : Int := hs_sum (fun j => if f j < f i then 1 else 0) 24
theorem hs_rk_lt {f : Int → Int} {i j : Int} (h0 : 0 ≤ i) (h1 : i < 24) (h : f i < f j) : hs_rk f i + 1 ≤ hs_rk f j := by
  refine hs_sum_lt (k := i) h0 (n := 24) (by omega) ?_ ?_
  · show (if f i < f i then (1 : Int) else 0) + 1 ≤ (if f i < f j then (1 : Int) else 0)
    rw [if_neg (by omega), if_pos h]; omega
  · intro x _ _
    show (if f x < f i then (1 : Int) else 0) ≤ (if f x < f j then (1 : Int) else 0)
    by_cases c : f x < f i
    · rw [if_pos c, if_pos (by omega)]; omega
    · rw [if_neg c]; split <;> omega
theorem hs_rk_r (f : Int → Int) {i : Int} (h0 : 0 ≤ i) (h1 : i < 24) : 0 ≤ hs_rk f i ∧ hs_rk f i ≤ 23 := by
  constructor
  · have := hs_sum_le (f := fun _ => 0) (g := fun j => if f j < f i then (1 : Int) else 0) 24 (fun j _ _ => by split <;> omega)
    rw [hs_sum_const] at this
    show 0 ≤ hs_sum _ 24
    omega
  · have := hs_sum_lt (f := fun j => if f j < f i then (1 : Int) else 0) (g := fun _ => 1) (k := i) h0 (n := 24) (by omega) (by rw [if_neg (by omega)]; omega) (fun j _ _ => by split <;> omega)
    rw [hs_sum_const] at this
    show hs_sum _ 24 ≤ 23
    omega
def hs_c (H : Int → Int) (q : Int) : Int := hs_sum (fun j => if H j = q then 1 else 0) 24
theorem hs_c_r (H : Int → Int) (q : Int) : 0 ≤ hs_c H q ∧ hs_c H q ≤ 24 := by
  constructor
  · have := hs_sum_le (f := fun _ => 0) (g := fun j => if H j = q then (1 : Int) else 0) 24 (fun j _ _ => by split <;> omega)
    rw [hs_sum_const] at this
    show 0 ≤ hs_sum _ 24
    omega
  · have := hs_sum_le (f := fun j => if H j = q then (1 : Int) else 0) (g := fun _ => 1) 24 (fun j _ _ => by split <;> omega)
    rw [hs_sum_const] at this
    show hs_sum _ 24 ≤ 24
    omega
theorem hs_c_lt {H : Int → Int} {q i : Int} (h0 : 0 ≤ i) (h1 : i < 24) (h : H i ≠ q) : hs_c H q ≤ 23 := by
  have := hs_sum_lt (f := fun j => if H j = q then (1 : Int) else 0) (g := fun _ => 1) (k := i) h0 (n := 24) (by omega) (by rw [if_neg h]; omega) (fun j _ _ => by split <;> omega)
  rw [hs_sum_const] at this
  show hs_sum _ 24 ≤ 23
  omega
theorem hs_c_pos {H : Int → Int} {q i : Int} (h0 : 0 ≤ i) (h1 : i < 24) (h : H i = q) : 1 ≤ hs_c H q := by
  have := hs_sum_lt (f := fun _ => 0) (g := fun j => if H j = q then (1 : Int) else 0) (k := i) h0 (n := 24) (by omega) (by rw [if_pos h]; omega) (fun j _ _ => by split <;> omega)
  rw [hs_sum_const] at this
  show 1 ≤ hs_sum _ 24
  omega
theorem hs_c_upd (H : Int → Int) {q i v : Int} (h0 : 0 ≤ i) (h1 : i < 24) : hs_c (hs_u H i v) q = hs_c H q + ((if v = q then 1 else 0) - (if H i = q then 1 else 0)) := by
  have := hs_sum_one (f := fun j => if H j = q then (1 : Int) else 0) (g := fun j => if hs_u H i v j = q then (1 : Int) else 0) (k := i) h0 24 (fun j _ _ e => by rw [hs_un e])
  rw [if_pos (by omega)] at this
  try dsimp only at this
  rw [hs_us] at this
  exact this
theorem hs_c_congr {H H' : Int → Int} {q : Int} (h : ∀ i, 0 ≤ i → i < 24 → (H' i = q ↔ H i = q)) : hs_c H' q = hs_c H q := by
  refine hs_sum_congr 24 fun j a b => ?_
  try dsimp only
  by_cases c : H j = q
  · rw [if_pos c, if_pos ((h j a (by omega)).mpr c)]
  · rw [if_neg c, if_neg (fun z => c ((h j a (by omega)).mp z))]
theorem hs_c_0 {H : Int → Int} {q : Int} (h : hs_c H q = 0) {i : Int} (h0 : 0 ≤ i) (h1 : i < 24) : H i ≠ q := by
  intro e
  have := hs_c_pos h0 h1 e
  omega
theorem hs_c_ex {H : Int → Int} {q : Int} (h : 1 ≤ hs_c H q) : ∃ i, 0 ≤ i ∧ i < 24 ∧ H i = q := by
  apply Classical.byContradiction
  intro hn
  have e : hs_c H q = hs_sum (fun _ => 0) 24 := hs_sum_congr 24 fun j a b => if_neg fun z => hn ⟨j, a, by omega, z⟩
  rw [hs_sum_const] at e
  omega
/-! the order of items -/
def hs_K (k : Int → Int) (i : Int) : Int := k i * 24 + i
def hs_Inj (K : Int → Int) : Prop := ∀ i j, 0 ≤ i → i < 24 → 0 ≤ j → j < 24 → K i = K j → i = j
theorem hs_K_inj (k : Int → Int) : hs_Inj (hs_K k) := by
  intro i j h0 h1 h2 h3 h
  unfold hs_K at h
  omega
theorem hs_bef {k : Int → Int} {i j : Int} (h0 : 0 ≤ i) (h1 : i < 24) (h2 : 0 ≤ j) (h3 : j < 24) : (k i < k j ∨ k i = k j ∧ i < j) ↔ hs_K k i < hs_K k j := by
  unfold hs_K
  omega
/-- r is the first of queue q, or -1 where there is none -/
def hs_mn (K H : Int → Int) (q r : Int) : Prop := (r = -1 ∧ ∀ i, 0 ≤ i → i < 24 → H i ≠ q) ∨ (0 ≤ r ∧ r < 24 ∧ H r = q ∧ ∀ i, 0 ≤ i → i < 24 → H i = q → K r ≤ K i)
theorem hs_mn_uniq {K H : Int → Int} {q r s : Int} (hK : hs_Inj K) (h : hs_mn K H q r) (h' : hs_mn K H q s) : r = s := by
  rcases h with ⟨e, h⟩ | ⟨a, b, c, d⟩
  · rcases h' with ⟨e', _⟩ | ⟨a', b', c', _⟩
    · omega
    · exact absurd c' (h s a' b')
  · rcases h' with ⟨_, h'⟩ | ⟨a', b', c', d'⟩
    · exact absurd c (h' r a b)
    · exact hK r s a b a' b' (Int.le_antisymm (d s a' b' c') (d' r a b c))
end HS01
