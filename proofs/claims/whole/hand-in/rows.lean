section
section HS01
/-! numbers and arrays as integers: every array is the image of a function on Int -/
def hs_i (x : Int) : Int32 := Int32.ofInt x
def hs_e (A : Int → Int) : Nat → Int32 := fun i => Int32.ofInt (A (i : Int))
def hs_u (A : Int → Int) (k v : Int) : Int → Int := fun j => if j = k then v else A j
theorem hs_us {A : Int → Int} {k v : Int} : hs_u A k v k = v := if_pos rfl
theorem hs_un {A : Int → Int} {k v j : Int} (h : j ≠ k) : hs_u A k v j = A j := if_neg h
theorem hs_ue {A : Int → Int} {k v j : Int} (h : j = k) : hs_u A k v j = v := if_pos h
theorem hs_self {A : Int → Int} {k v : Int} (h : A k = v) : hs_u A k v = A := by
  funext j
  by_cases e : j = k
  · rw [hs_ue e, e, h]
  · rw [hs_un e]
theorem hs_toInt {x : Int} (h0 : -2147483648 ≤ x) (h1 : x < 2147483648) : (hs_i x).toInt = x :=
  Int32.toInt_ofInt_of_le (by omega) (by omega)
theorem hs_eqI {x y : Int} (hx : -2147483648 ≤ x ∧ x < 2147483648) (hy : -2147483648 ≤ y ∧ y < 2147483648) : hs_i x = hs_i y ↔ x = y := by
  rw [← Int32.toInt_inj, hs_toInt hx.1 hx.2, hs_toInt hy.1 hy.2]
theorem hs_ltI {x y : Int} (hx : -2147483648 ≤ x ∧ x < 2147483648) (hy : -2147483648 ≤ y ∧ y < 2147483648) : hs_i x < hs_i y ↔ x < y := by
  rw [Int32.lt_iff_toInt_lt, hs_toInt hx.1 hx.2, hs_toInt hy.1 hy.2]
theorem hs_leI {x y : Int} (hx : -2147483648 ≤ x ∧ x < 2147483648) (hy : -2147483648 ≤ y ∧ y < 2147483648) : hs_i x ≤ hs_i y ↔ x ≤ y := by
  rw [Int32.le_iff_toInt_le, hs_toInt hx.1 hx.2, hs_toInt hy.1 hy.2]
theorem hs_add (x y : Int) : hs_i x + hs_i y = hs_i (x + y) := (Int32.ofInt_add x y).symm
theorem hs_sub (x y : Int) : hs_i x - hs_i y = hs_i (x - y) := (Int32.ofInt_sub x y).symm
theorem hs_mul (x y : Int) : hs_i x * hs_i y = hs_i (x * y) := (Int32.ofInt_mul x y).symm
theorem hs_neg (x : Int) : -hs_i x = hs_i (-x) := (Int32.ofInt_neg x).symm
theorem hs_cl {x : Int} (h0 : 0 ≤ x) (h1 : x < 2147483648) : (hs_i x).toNatClampNeg = x.toNat :=
  Int32.toNatClampNeg_ofInt_of_le (by omega) (by omega)
theorem hs_get {A : Int → Int} {x : Int} (h0 : 0 ≤ x) (h1 : x < 2147483648) : hs_e A (hs_i x).toNatClampNeg = hs_i (A x) := by
  rw [hs_cl h0 h1]
  show Int32.ofInt (A ((x.toNat : Nat) : Int)) = Int32.ofInt (A x)
  rw [Int.toNat_of_nonneg h0]
theorem hs_put {A : Int → Int} {x v : Int} (h0 : 0 ≤ x) (h1 : x < 2147483648) : upd (hs_e A) (hs_i x).toNatClampNeg (hs_i v) = hs_e (hs_u A x v) := by
  rw [hs_cl h0 h1]
  funext j
  by_cases e : (j : Int) = x
  · have e' : j = x.toNat := by omega
    show (if j = x.toNat then hs_i v else hs_e A j) = Int32.ofInt (hs_u A x v (j : Int))
    rw [if_pos e', hs_ue e]; rfl
  · have e' : ¬ j = x.toNat := by omega
    show (if j = x.toNat then hs_i v else hs_e A j) = Int32.ofInt (hs_u A x v (j : Int))
    rw [if_neg e', hs_un e]; rfl
theorem hs_in {x : Int} {n : Nat} (h0 : 0 ≤ x) (h1 : x < n) (hn : n < 2147483648) : vp_in (hs_i x) n := by
  rw [vp_in_iff, hs_toInt (by omega) (by omega)]
  exact ⟨h0, h1⟩
theorem hs_of (x : Int32) : ∃ z : Int, -2147483648 ≤ z ∧ z < 2147483648 ∧ x = hs_i z :=
  ⟨x.toInt, Int32.le_toInt x, Int32.toInt_lt x, (Int32.ofInt_toInt x).symm⟩
theorem hs_div2 {x : Int} (h0 : 0 ≤ x) (h1 : x < 2147483648) : hs_i x / 2 = hs_i (x / 2) := by
  apply Int32.toInt_inj.mp
  have e2 : (2 : Int32).toInt = 2 := by decide
  rw [lg_idiv_nonneg (by rw [hs_toInt (by omega) h1]; exact h0) (by rw [e2]; decide), hs_toInt (by omega) h1, e2, hs_toInt (by omega) (by omega)]
theorem hs_div4 {x : Int} (h0 : 0 ≤ x) (h1 : x < 2147483648) : hs_i x / 4 = hs_i (x / 4) := by
  apply Int32.toInt_inj.mp
  have e2 : (4 : Int32).toInt = 4 := by decide
  rw [lg_idiv_nonneg (by rw [hs_toInt (by omega) h1]; exact h0) (by rw [e2]; decide), hs_toInt (by omega) h1, e2, hs_toInt (by omega) (by omega)]
/-! branches by integers -/
theorem hs_lt {x y : Int32} {A B : Prop} (a b : Int) (f : a < b → A) (g : b ≤ a → B) (hx : x = hs_i a := by rfl) (hy : y = hs_i b := by rfl) (ha : -2147483648 ≤ a ∧ a < 2147483648 := by omega) (hb : -2147483648 ≤ b ∧ b < 2147483648 := by omega) : (x < y → A) ∧ (¬ x < y → B) := by
  subst hx hy
  rw [hs_ltI ha hb]
  exact ⟨f, fun z => g (by omega)⟩
theorem hs_le {x y : Int32} {A B : Prop} (a b : Int) (f : a ≤ b → A) (g : b < a → B) (hx : x = hs_i a := by rfl) (hy : y = hs_i b := by rfl) (ha : -2147483648 ≤ a ∧ a < 2147483648 := by omega) (hb : -2147483648 ≤ b ∧ b < 2147483648 := by omega) : (x ≤ y → A) ∧ (¬ x ≤ y → B) := by
  subst hx hy
  rw [hs_leI ha hb]
  exact ⟨f, fun z => g (by omega)⟩
theorem hs_eq {x y : Int32} {A B : Prop} (a b : Int) (f : a = b → A) (g : a ≠ b → B) (hx : x = hs_i a := by rfl) (hy : y = hs_i b := by rfl) (ha : -2147483648 ≤ a ∧ a < 2147483648 := by omega) (hb : -2147483648 ≤ b ∧ b < 2147483648 := by omega) : (x = y → A) ∧ (¬ x = y → B) := by
  subst hx hy
  rw [hs_eqI ha hb]
  exact ⟨f, g⟩
/-! sums, counts, ranks -/
def hs_sum (f : Int → Int) : Nat → Int
  | 0 => 0
  | n + 1 => hs_sum f n + f (n : Int)
theorem hs_sum_le {f g : Int → Int} : ∀ n : Nat, (∀ j : Int, 0 ≤ j → j < n → f j ≤ g j) → hs_sum f n ≤ hs_sum g n := by
  intro n
  induction n with
  | zero => intro _; exact Int.le_refl _
  | succ n ih =>
    intro h
    have h1 := ih (fun j h0 hj => h j h0 (by omega))
    have h2 := h (n : Int) (by omega) (by omega)
    show hs_sum f n + f (n : Int) ≤ hs_sum g n + g (n : Int)
    omega
theorem hs_sum_one {f g : Int → Int} {k : Int} (h0 : 0 ≤ k) : ∀ n : Nat, (∀ j : Int, 0 ≤ j → j < n → j ≠ k → g j = f j) → hs_sum g n = hs_sum f n + (if k < n then g k - f k else 0) := by
  intro n
  induction n with
  | zero =>
    intro _
    rw [if_neg (by omega)]; rfl
  | succ n ih =>
    intro h
    have h1 := ih (fun j h0 hj => h j h0 (by omega))
    show hs_sum g n + g (n : Int) = hs_sum f n + f (n : Int) + _
    rw [h1]
    by_cases c : k = (n : Int)
    · rw [if_neg (by omega), if_pos (by omega), c]; omega
    · have h2 := h (n : Int) (by omega) (by omega) (fun e => c e.symm)
      by_cases c2 : k < (n : Int)
      · rw [if_pos c2, if_pos (by omega)]; omega
      · rw [if_neg c2, if_neg (by omega)]; omega
theorem hs_sum_congr {f g : Int → Int} : ∀ n : Nat, (∀ j : Int, 0 ≤ j → j < n → g j = f j) → hs_sum g n = hs_sum f n := by
  intro n h
  exact Int.le_antisymm (hs_sum_le n fun j a b => Int.le_of_eq (h j a b)) (hs_sum_le n fun j a b => Int.le_of_eq (h j a b).symm)
theorem hs_sum_const (c : Int) : ∀ n : Nat, hs_sum (fun _ => c) n = n * c := by
  intro n
  induction n with
  | zero => show (0 : Int) = _; omega
  | succ n ih =>
    show hs_sum (fun _ => c) n + c = _
    rw [ih, Int.natCast_succ, Int.add_mul, Int.one_mul]
theorem hs_sum_lt {f g : Int → Int} {k : Int} (h0 : 0 ≤ k) {n : Nat} (hn : k < n) (hk : f k + 1 ≤ g k) (h : ∀ j : Int, 0 ≤ j → j < n → f j ≤ g j) : hs_sum f n + 1 ≤ hs_sum g n := by
  have h1 := hs_sum_one (f := f) (g := hs_u f k (f k + 1)) h0 n (fun j _ _ e => hs_un e)
  rw [if_pos hn, hs_us] at h1
  have h2 : hs_sum (hs_u f k (f k + 1)) n ≤ hs_sum g n := hs_sum_le n fun j a b => by
    by_cases e : j = k
    · rw [hs_ue e, e]; exact hk
    · rw [hs_un e]; exact h j a b
  omega
def hs_rk (f : Int → Int) (i : Int) : Int := hs_sum (fun j => if f j < f i then 1 else 0) 24
theorem hs_rk_lt {f : Int → Int} {i j : Int} (h0 : 0 ≤ i) (h1 : i < 24) (h : f i < f j) : hs_rk f i + 1 ≤ hs_rk f j := by
  refine hs_sum_lt (k := i) h0 (n := 24) (by omega) ?_ ?_
  · show (if f i < f i then (1 : Int) else 0) + 1 ≤ (if f i < f j then (1 : Int) else 0)
    rw [if_neg (by omega), if_pos h]; omega
  · intro x _ _
    show (if f x < f i then (1 : Int) else 0) ≤ (if f x < f j then (1 : Int) else 0)
    by_cases c : f x < f i
    · rw [if_pos c, if_pos (by omega)]; omega
    · rw [if_neg c]; split <;> omega
theorem hs_rk_r (f : Int → Int) {i : Int} (h0 : 0 ≤ i) (h1 : i < 24) : 0 ≤ hs_rk f i ∧ hs_rk f i ≤ 23 := by
  constructor
  · have := hs_sum_le (f := fun _ => 0) (g := fun j => if f j < f i then (1 : Int) else 0) 24 (fun j _ _ => by split <;> omega)
    rw [hs_sum_const] at this
    show 0 ≤ hs_sum _ 24
    omega
  · have := hs_sum_lt (f := fun j => if f j < f i then (1 : Int) else 0) (g := fun _ => 1) (k := i) h0 (n := 24) (by omega) (by rw [if_neg (by omega)]; omega) (fun j _ _ => by split <;> omega)
    rw [hs_sum_const] at this
    show hs_sum _ 24 ≤ 23
    omega
def hs_c (H : Int → Int) (q : Int) : Int := hs_sum (fun j => if H j = q then 1 else 0) 24
theorem hs_c_r (H : Int → Int) (q : Int) : 0 ≤ hs_c H q ∧ hs_c H q ≤ 24 := by
  constructor
  · have := hs_sum_le (f := fun _ => 0) (g := fun j => if H j = q then (1 : Int) else 0) 24 (fun j _ _ => by split <;> omega)
    rw [hs_sum_const] at this
    show 0 ≤ hs_sum _ 24
    omega
  · have := hs_sum_le (f := fun j => if H j = q then (1 : Int) else 0) (g := fun _ => 1) 24 (fun j _ _ => by split <;> omega)
    rw [hs_sum_const] at this
    show hs_sum _ 24 ≤ 24
    omega
theorem hs_c_lt {H : Int → Int} {q i : Int} (h0 : 0 ≤ i) (h1 : i < 24) (h : H i ≠ q) : hs_c H q ≤ 23 := by
  have := hs_sum_lt (f := fun j => if H j = q then (1 : Int) else 0) (g := fun _ => 1) (k := i) h0 (n := 24) (by omega) (by rw [if_neg h]; omega) (fun j _ _ => by split <;> omega)
  rw [hs_sum_const] at this
  show hs_sum _ 24 ≤ 23
  omega
theorem hs_c_pos {H : Int → Int} {q i : Int} (h0 : 0 ≤ i) (h1 : i < 24) (h : H i = q) : 1 ≤ hs_c H q := by
  have := hs_sum_lt (f := fun _ => 0) (g := fun j => if H j = q then (1 : Int) else 0) (k := i) h0 (n := 24) (by omega) (by rw [if_pos h]; omega) (fun j _ _ => by split <;> omega)
  rw [hs_sum_const] at this
  show 1 ≤ hs_sum _ 24
  omega
theorem hs_c_upd (H : Int → Int) {q i v : Int} (h0 : 0 ≤ i) (h1 : i < 24) : hs_c (hs_u H i v) q = hs_c H q + ((if v = q then 1 else 0) - (if H i = q then 1 else 0)) := by
  have := hs_sum_one (f := fun j => if H j = q then (1 : Int) else 0) (g := fun j => if hs_u H i v j = q then (1 : Int) else 0) (k := i) h0 24 (fun j _ _ e => by rw [hs_un e])
  rw [if_pos (by omega)] at this
  try dsimp only at this
  rw [hs_us] at this
  exact this
theorem hs_c_congr {H H' : Int → Int} {q : Int} (h : ∀ i, 0 ≤ i → i < 24 → (H' i = q ↔ H i = q)) : hs_c H' q = hs_c H q := by
  refine hs_sum_congr 24 fun j a b => ?_
  try dsimp only
  by_cases c : H j = q
  · rw [if_pos c, if_pos ((h j a (by omega)).mpr c)]
  · rw [if_neg c, if_neg (fun z => c ((h j a (by omega)).mp z))]
theorem hs_c_0 {H : Int → Int} {q : Int} (h : hs_c H q = 0) {i : Int} (h0 : 0 ≤ i) (h1 : i < 24) : H i ≠ q := by
  intro e
  have := hs_c_pos h0 h1 e
  omega
theorem hs_c_ex {H : Int → Int} {q : Int} (h : 1 ≤ hs_c H q) : ∃ i, 0 ≤ i ∧ i < 24 ∧ H i = q := by
  apply Classical.byContradiction
  intro hn
  have e : hs_c H q = hs_sum (fun _ => 0) 24 := hs_sum_congr 24 fun j a b => if_neg fun z => hn ⟨j, a, by omega, z⟩
  rw [hs_sum_const] at e
  omega
/-! the order of items -/
def hs_K (k : Int → Int) (i : Int) : Int := k i * 24 + i
def hs_Inj (K : Int → Int) : Prop := ∀ i j, 0 ≤ i → i < 24 → 0 ≤ j → j < 24 → K i = K j → i = j
theorem hs_K_inj (k : Int → Int) : hs_Inj (hs_K k) := by
  intro i j h0 h1 h2 h3 h
  unfold hs_K at h
  omega
theorem hs_bef {k : Int → Int} {i j : Int} (h0 : 0 ≤ i) (h1 : i < 24) (h2 : 0 ≤ j) (h3 : j < 24) : (k i < k j ∨ k i = k j ∧ i < j) ↔ hs_K k i < hs_K k j := by
  unfold hs_K
  omega
/-- r is the first of queue q, or -1 where there is none -/
def hs_mn (K H : Int → Int) (q r : Int) : Prop := (r = -1 ∧ ∀ i, 0 ≤ i → i < 24 → H i ≠ q) ∨ (0 ≤ r ∧ r < 24 ∧ H r = q ∧ ∀ i, 0 ≤ i → i < 24 → H i = q → K r ≤ K i)
theorem hs_mn_uniq {K H : Int → Int} {q r s : Int} (hK : hs_Inj K) (h : hs_mn K H q r) (h' : hs_mn K H q s) : r = s := by
  rcases h with ⟨e, h⟩ | ⟨a, b, c, d⟩
  · rcases h' with ⟨e', _⟩ | ⟨a', b', c', _⟩
    · omega
    · exact absurd c' (h s a' b')
  · rcases h' with ⟨_, h'⟩ | ⟨a', b', c', d'⟩
    · exact absurd c (h' r a b)
    · exact hK r s a b a' b' (Int.le_antisymm (d s a' b' c') (d' r a b c))
end HS01
end
section
section HS02
/-! engines 0 and 1: heaps in arrays, pure -/
def hs_pa (w p : Int) : Int := if w = 0 then (p - 1) / 2 else (p - 1) / 4
theorem hs_pa_lt (w : Int) {p : Int} (h : 1 ≤ p) : 0 ≤ hs_pa w p ∧ hs_pa w p < p := by
  unfold hs_pa; split <;> omega
/-- slots and places are one another's inverse on queue q -/
def hs_AB (H S P : Int → Int) (q b pb f : Int) : Prop :=
  (∀ p, 0 ≤ p → p < f → 0 ≤ S (b + p) ∧ S (b + p) < 24 ∧ H (S (b + p)) = q ∧ P (pb + S (b + p)) = p) ∧
  (∀ i, 0 ≤ i → i < 24 → H i = q → 0 ≤ P (pb + i) ∧ P (pb + i) < f ∧ S (b + P (pb + i)) = i)
def hs_AO (K S : Int → Int) (w b f : Int) : Prop := ∀ p, 1 ≤ p → p < f → K (S (b + hs_pa w p)) < K (S (b + p))
def hs_AW (K S : Int → Int) (w b f p0 : Int) : Prop := ∀ p, 1 ≤ p → p < f → p ≠ p0 → hs_pa w p ≠ p0 → K (S (b + hs_pa w p)) < K (S (b + p))
def hs_AG (K S : Int → Int) (w b f p0 : Int) : Prop := 1 ≤ p0 → ∀ p, 1 ≤ p → p < f → hs_pa w p = p0 → K (S (b + hs_pa w p0)) < K (S (b + p))
def hs_AE (K S : Int → Int) (w b p0 : Int) : Prop := 1 ≤ p0 → K (S (b + hs_pa w p0)) < K (S (b + p0))
def hs_AD (K S : Int → Int) (w b f p0 : Int) : Prop := ∀ p, 1 ≤ p → p < f → hs_pa w p = p0 → K (S (b + p0)) < K (S (b + p))
theorem hs_AO_of {K S : Int → Int} {w b f p0 : Int} (hW : hs_AW K S w b f p0) (hE : hs_AE K S w b p0) (hD : hs_AD K S w b f p0) : hs_AO K S w b f := by
  intro p h1 hf
  by_cases c : p = p0
  · subst c; exact hE h1
  · by_cases d : hs_pa w p = p0
    · rw [d]; exact hD p h1 hf d
    · exact hW p h1 hf c d
theorem hs_AB_swap {H V VP V1 VP1 : Int → Int} {q b pb f p0 p1 x y : Int} (h : hs_AB H V VP q b pb f)
    (h0 : 0 ≤ p0) (h0' : p0 < f) (h1 : 0 ≤ p1) (h1' : p1 < f) (hne : p0 ≠ p1)
    (ex : V (b + p0) = x) (ey : V (b + p1) = y)
    (e0 : V1 (b + p0) = y) (e1 : V1 (b + p1) = x) (eo : ∀ p, p ≠ p0 → p ≠ p1 → V1 (b + p) = V (b + p))
    (fx : VP1 (pb + x) = p1) (fy : VP1 (pb + y) = p0) (fo : ∀ i, i ≠ x → i ≠ y → VP1 (pb + i) = VP (pb + i)) :
    hs_AB H V1 VP1 q b pb f := by
  obtain ⟨hA, hB⟩ := h
  have a0 := hA p0 h0 h0'
  have a1 := hA p1 h1 h1'
  rw [ex] at a0
  rw [ey] at a1
  constructor
  · intro p hp hp'
    by_cases c0 : p = p0
    · rw [c0, e0]; exact ⟨a1.1, a1.2.1, a1.2.2.1, fy⟩
    · by_cases c1 : p = p1
      · rw [c1, e1]; exact ⟨a0.1, a0.2.1, a0.2.2.1, fx⟩
      · rw [eo p c0 c1]
        have a := hA p hp hp'
        refine ⟨a.1, a.2.1, a.2.2.1, ?_⟩
        rw [fo (V (b + p)) (fun e => by rw [e] at a; omega) (fun e => by rw [e] at a; omega)]
        exact a.2.2.2
  · intro i hi hi' hq
    by_cases cx : i = x
    · rw [cx, fx]; exact ⟨h1, h1', e1⟩
    · by_cases cy : i = y
      · rw [cy, fy]; exact ⟨h0, h0', e0⟩
      · rw [fo i cx cy]
        have a := hB i hi hi' hq
        refine ⟨a.1, a.2.1, ?_⟩
        rw [eo (VP (pb + i)) (fun e => cx (by rw [← a.2.2, e, ex])) (fun e => cy (by rw [← a.2.2, e, ey]))]
        exact a.2.2
theorem hs_up_ord {K V V1 : Int → Int} {w b f p0 p1 x y : Int} (hW : hs_AW K V w b f p0) (hG : hs_AG K V w b f p0)
    (h0 : 1 ≤ p0) (h0' : p0 < f) (hp : p1 = hs_pa w p0) (lt : K x < K y)
    (ey : V (b + p1) = y)
    (e0 : V1 (b + p0) = y) (e1 : V1 (b + p1) = x) (eo : ∀ p, p ≠ p0 → p ≠ p1 → V1 (b + p) = V (b + p)) :
    hs_AW K V1 w b f p1 ∧ hs_AG K V1 w b f p1 ∧ hs_AD K V1 w b f p1 := by
  have l0 := hs_pa_lt w h0
  refine ⟨?_, ?_, ?_⟩
  · intro p hp1 hpf n1 n2
    have l := hs_pa_lt w hp1
    by_cases c : p = p0
    · rw [c] at n2; exact absurd hp.symm n2
    · rw [eo p c n1]
      by_cases d : hs_pa w p = p0
      · rw [d, e0, ← ey, hp]
        exact hG h0 p hp1 hpf d
      · rw [eo _ d n2]
        exact hW p hp1 hpf c d
  · intro g1 p hp1 hpf n2
    have l1 := hs_pa_lt w g1
    have l := hs_pa_lt w hp1
    rw [eo (hs_pa w p1) (by omega) (by omega)]
    have a := hW p1 g1 (by omega) (by omega) (by omega)
    rw [ey] at a
    by_cases c : p = p0
    · rw [c, e0]; exact a
    · rw [eo p c (by omega)]
      have a2 := hW p hp1 hpf c (by omega)
      rw [n2, ey] at a2
      omega
  · intro p hp1 hpf n2
    have l := hs_pa_lt w hp1
    rw [e1]
    by_cases c : p = p0
    · rw [c, e0]; exact lt
    · rw [eo p c (by omega)]
      have a2 := hW p hp1 hpf c (by omega)
      rw [n2, ey] at a2
      omega
theorem hs_dn_ord {K V V1 : Int → Int} {w b f p0 p1 x y : Int} (hW : hs_AW K V w b f p0) (hG : hs_AG K V w b f p0)
    (h0 : 0 ≤ p0) (h1 : 1 ≤ p1) (h1' : p1 < f) (hp : hs_pa w p1 = p0) (lt : K y < K x)
    (hm : ∀ p, 1 ≤ p → p < f → hs_pa w p = p0 → p ≠ p1 → K y < K (V (b + p)))
    (ey : V (b + p1) = y)
    (e0 : V1 (b + p0) = y) (e1 : V1 (b + p1) = x) (eo : ∀ p, p ≠ p0 → p ≠ p1 → V1 (b + p) = V (b + p)) :
    hs_AW K V1 w b f p1 ∧ hs_AG K V1 w b f p1 ∧ hs_AE K V1 w b p1 := by
  have l0 := hs_pa_lt w h1
  refine ⟨?_, ?_, ?_⟩
  · intro p hp1 hpf n1 n2
    have l := hs_pa_lt w hp1
    by_cases c : p = p0
    · subst c
      rw [e0, eo (hs_pa w p) (by omega) n2]
      have a := hG hp1 p1 h1 h1' hp
      rw [ey] at a
      exact a
    · rw [eo p c n1]
      by_cases d : hs_pa w p = p0
      · rw [d, e0]
        exact hm p hp1 hpf d n1
      · rw [eo _ d n2]
        exact hW p hp1 hpf c d
  · intro g1 p hp1 hpf n2
    have l := hs_pa_lt w hp1
    rw [hp, e0, eo p (by omega) (by omega)]
    have a := hW p hp1 hpf (by omega) (by omega)
    rw [n2, ey] at a
    exact a
  · intro _
    rw [hp, e0, e1]
    exact lt
theorem hs_AO_min {K S : Int → Int} {w b f : Int} (h : hs_AO K S w b f) : ∀ (n m : Nat), m ≤ n → (m : Int) < f → K (S b) ≤ K (S (b + m)) := by
  intro n
  induction n with
  | zero =>
    intro m hm _
    have : m = 0 := by omega
    subst this
    rw [show b + ((0 : Nat) : Int) = b by omega]
    exact Int.le_refl _
  | succ n ih =>
    intro m hm hf
    by_cases c : m = 0
    · subst c
      rw [show b + ((0 : Nat) : Int) = b by omega]
      exact Int.le_refl _
    · have l := hs_pa_lt w (p := (m : Int)) (by omega)
      have a := h (m : Int) (by omega) hf
      have a2 := ih (hs_pa w (m : Int)).toNat (by omega) (by omega)
      rw [Int.toNat_of_nonneg l.1] at a2
      omega
/-- one array heap as it must be -/
def hs_AH (K H S F P : Int → Int) (w q : Int) : Prop :=
  F (w * 4 + q) = hs_c H q ∧ hs_AB H S P q ((w * 4 + q) * 24) (w * 24) (F (w * 4 + q)) ∧ hs_AO K S w ((w * 4 + q) * 24) (F (w * 4 + q))
theorem hs_AH_congr {K K' H H' S S' F F' P P' : Int → Int} {w q : Int} (h : hs_AH K H S F P w q)
    (hH : ∀ i, 0 ≤ i → i < 24 → (H' i = q ↔ H i = q)) (hK : ∀ i, 0 ≤ i → i < 24 → H i = q → K' i = K i)
    (hS : ∀ p, 0 ≤ p → p < 24 → S' ((w * 4 + q) * 24 + p) = S ((w * 4 + q) * 24 + p)) (hF : F' (w * 4 + q) = F (w * 4 + q))
    (hP : ∀ i, 0 ≤ i → i < 24 → H i = q → P' (w * 24 + i) = P (w * 24 + i)) : hs_AH K' H' S' F' P' w q := by
  obtain ⟨hc, ⟨hA, hB⟩, hO⟩ := h
  have hr := hs_c_r H q
  unfold hs_AH
  rw [hF, hs_c_congr hH]
  refine ⟨hc, ⟨?_, ?_⟩, ?_⟩
  · intro p h0 h1
    have a := hA p h0 h1
    rw [hS p h0 (by omega)]
    refine ⟨a.1, a.2.1, (hH _ a.1 a.2.1).mpr a.2.2.1, ?_⟩
    rw [hP _ a.1 a.2.1 a.2.2.1]; exact a.2.2.2
  · intro i h0 h1 e
    have e' := (hH i h0 h1).mp e
    have a := hB i h0 h1 e'
    rw [hP i h0 h1 e', hS _ a.1 (by omega)]
    exact a
  · intro p h0 h1
    have l := hs_pa_lt w h0
    have a := hA p (by omega) h1
    have a2 := hA (hs_pa w p) l.1 (by omega)
    rw [hS p (by omega) (by omega), hS _ l.1 (by omega), hK _ a.1 a.2.1 a.2.2.1, hK _ a2.1 a2.2.1 a2.2.2.1]
    exact hO p h0 h1
theorem hs_AH_mn {K H S F P : Int → Int} {w q : Int} (h : hs_AH K H S F P w q) :
    hs_mn K H q (if F (w * 4 + q) = 0 then -1 else S ((w * 4 + q) * 24)) := by
  obtain ⟨hc, ⟨hA, hB⟩, hO⟩ := h
  have hr := hs_c_r H q
  by_cases c : F (w * 4 + q) = 0
  · rw [if_pos c]
    exact Or.inl ⟨rfl, fun i h0 h1 => hs_c_0 (by omega) h0 h1⟩
  · rw [if_neg c]
    have a := hA 0 (by omega) (by omega)
    rw [Int.add_zero] at a
    refine Or.inr ⟨a.1, a.2.1, a.2.2.1, fun i h0 h1 e => ?_⟩
    have a2 := hB i h0 h1 e
    have a3 := hs_AO_min hO _ (P (w * 24 + i)).toNat (Nat.le_refl _) (by omega)
    rw [Int.toNat_of_nonneg a2.1, a2.2.2] at a3
    exact a3
/-- what a change within one heap leaves alone -/
def hs_fS (S S' : Int → Int) (b : Int) : Prop := ∀ j, S' j = S j ∨ (b ≤ j ∧ j < b + 24 ∧ 0 ≤ S' j ∧ S' j < 24)
def hs_fP (H P P' : Int → Int) (q pb : Int) : Prop := ∀ j, P' j = P j ∨ ∃ i, 0 ≤ i ∧ i < 24 ∧ H i = q ∧ j = pb + i
theorem hs_fS_refl {S : Int → Int} {b : Int} : hs_fS S S b := fun _ => Or.inl rfl
theorem hs_fS_trans {S S' S'' : Int → Int} {b : Int} (h : hs_fS S S' b) (h' : hs_fS S' S'' b) : hs_fS S S'' b := by
  intro j
  rcases h' j with e | e
  · rcases h j with e2 | e2
    · exact Or.inl (e.trans e2)
    · rw [← e] at e2; exact Or.inr e2
  · exact Or.inr e
theorem hs_fS_u {S : Int → Int} {b p x : Int} (h0 : 0 ≤ p) (h1 : p < 24) (h2 : 0 ≤ x) (h3 : x < 24) : hs_fS S (hs_u S (b + p) x) b := by
  intro j
  by_cases e : j = b + p
  · rw [hs_ue e]; exact Or.inr ⟨by omega, by omega, h2, h3⟩
  · exact Or.inl (hs_un e)
theorem hs_fP_refl {H P : Int → Int} {q pb : Int} : hs_fP H P P q pb := fun _ => Or.inl rfl
theorem hs_fP_trans {H P P' P'' : Int → Int} {q pb : Int} (h : hs_fP H P P' q pb) (h' : hs_fP H P' P'' q pb) : hs_fP H P P'' q pb := by
  intro j
  rcases h' j with e | e
  · rcases h j with e2 | e2
    · exact Or.inl (e.trans e2)
    · exact Or.inr e2
  · exact Or.inr e
theorem hs_fP_u {H P : Int → Int} {q pb x v : Int} (h2 : 0 ≤ x) (h3 : x < 24) (h : H x = q) : hs_fP H P (hs_u P (pb + x) v) q pb := by
  intro j
  by_cases e : j = pb + x
  · exact Or.inr ⟨x, h2, h3, h, e⟩
  · exact Or.inl (hs_un e)
/-- the state of a sift: item x has left its slot p0 -/
def hs_SI (K H S P : Int → Int) (w q b pb f p0 x : Int) : Prop :=
  hs_AB H (hs_u S (b + p0) x) (hs_u P (pb + x) p0) q b pb f ∧ hs_AW K (hs_u S (b + p0) x) w b f p0 ∧ hs_AG K (hs_u S (b + p0) x) w b f p0 ∧ 0 ≤ p0 ∧ p0 < f
theorem hs_SI_facts {H S P : Int → Int} {q b pb f p0 p1 x : Int} (hB : hs_AB H (hs_u S (b + p0) x) (hs_u P (pb + x) p0) q b pb f)
    (h0 : 0 ≤ p0) (h0' : p0 < f) (h1 : 0 ≤ p1) (h1' : p1 < f) (hne : p1 ≠ p0) :
    0 ≤ x ∧ x < 24 ∧ H x = q ∧ 0 ≤ S (b + p1) ∧ S (b + p1) < 24 ∧ H (S (b + p1)) = q ∧ S (b + p1) ≠ x ∧ P (pb + S (b + p1)) = p1 := by
  have a := hB.1 p0 h0 h0'
  rw [hs_us, hs_us] at a
  have a1 := hB.1 p1 h1 h1'
  rw [hs_un (by omega : b + p1 ≠ b + p0)] at a1
  have hx : S (b + p1) ≠ x := by
    intro e
    rw [e, hs_us] at a1
    omega
  rw [hs_un (by omega : pb + S (b + p1) ≠ pb + x)] at a1
  exact ⟨a.1, a.2.1, a.2.2.1, a1.1, a1.2.1, a1.2.2.1, hx, a1.2.2.2⟩
theorem hs_SI_mv {H S P : Int → Int} {q b pb f p0 p1 x : Int} (hB : hs_AB H (hs_u S (b + p0) x) (hs_u P (pb + x) p0) q b pb f)
    (h0 : 0 ≤ p0) (h0' : p0 < f) (h1 : 0 ≤ p1) (h1' : p1 < f) (hne : p1 ≠ p0) :
    hs_AB H (hs_u (hs_u S (b + p0) (S (b + p1))) (b + p1) x) (hs_u (hs_u P (pb + S (b + p1)) p0) (pb + x) p1) q b pb f := by
  have a := hs_SI_facts hB h0 h0' h1 h1' hne
  refine hs_AB_swap (p0 := p0) (p1 := p1) (x := x) (y := S (b + p1)) hB h0 h0' h1 h1' (fun e => hne e.symm) hs_us (hs_un (by omega)) ?_ hs_us ?_ hs_us ?_ ?_
  · rw [hs_un (by omega), hs_us]
  · intro p c0 c1
    rw [hs_un (by omega), hs_un (by omega), hs_un (by omega)]
  · rw [hs_un (by omega), hs_us]
  · intro i c0 c1
    rw [hs_un (by omega), hs_un (by omega), hs_un (by omega)]
theorem hs_SI_up {K H S P : Int → Int} {w q b pb f p0 x : Int} (hI : hs_Inj K) (h : hs_SI K H S P w q b pb f p0 x) (h0 : 1 ≤ p0)
    (hc : ¬ K (S (b + hs_pa w p0)) < K x) :
    hs_SI K H (hs_u S (b + p0) (S (b + hs_pa w p0))) (hs_u P (pb + S (b + hs_pa w p0)) p0) w q b pb f (hs_pa w p0) x ∧
    hs_AD K (hs_u (hs_u S (b + p0) (S (b + hs_pa w p0))) (b + hs_pa w p0) x) w b f (hs_pa w p0) := by
  obtain ⟨hB, hW, hG, _, h0'⟩ := h
  have l := hs_pa_lt w h0
  have a := hs_SI_facts hB (by omega) h0' l.1 (by omega) (by omega)
  have lt : K x < K (S (b + hs_pa w p0)) := by
    have : K x ≠ K (S (b + hs_pa w p0)) := fun e => a.2.2.2.2.2.2.1 (hI _ _ a.1 a.2.1 a.2.2.2.1 a.2.2.2.2.1 e).symm
    omega
  have m := hs_up_ord (V1 := hs_u (hs_u S (b + p0) (S (b + hs_pa w p0))) (b + hs_pa w p0) x) hW hG h0 h0' rfl lt (hs_un (by omega)) (by rw [hs_un (by omega), hs_us]) hs_us (fun p c0 c1 => by rw [hs_un (by omega), hs_un (by omega), hs_un (by omega)])
  exact ⟨⟨hs_SI_mv hB (by omega) h0' l.1 (by omega) (by omega), m.1, m.2.1, l.1, by omega⟩, m.2.2⟩
theorem hs_SI_dn {K H S P : Int → Int} {w q b pb f p0 p1 x : Int} (h : hs_SI K H S P w q b pb f p0 x) (h1 : 1 ≤ p1) (h1' : p1 < f) (hp : hs_pa w p1 = p0)
    (lt : K (S (b + p1)) < K x) (hm : ∀ p, 1 ≤ p → p < f → hs_pa w p = p0 → p ≠ p1 → K (S (b + p1)) < K (S (b + p))) :
    hs_SI K H (hs_u S (b + p0) (S (b + p1))) (hs_u P (pb + S (b + p1)) p0) w q b pb f p1 x ∧
    hs_AE K (hs_u (hs_u S (b + p0) (S (b + p1))) (b + p1) x) w b p1 := by
  obtain ⟨hB, hW, hG, h0, h0'⟩ := h
  have l := hs_pa_lt w h1
  have m := hs_dn_ord (V1 := hs_u (hs_u S (b + p0) (S (b + p1))) (b + p1) x) hW hG h0 h1 h1' hp lt (fun p a1 a2 a3 a4 => by
    have l2 := hs_pa_lt w a1
    rw [hs_un (by omega)]
    exact hm p a1 a2 a3 a4) (hs_un (by omega)) (by rw [hs_un (by omega), hs_us]) hs_us (fun p c0 c1 => by rw [hs_un (by omega), hs_un (by omega), hs_un (by omega)])
  exact ⟨⟨hs_SI_mv hB h0 h0' (by omega) h1' (by omega), m.1, m.2.1, by omega, h1'⟩, m.2.2⟩
end HS02
end
section
section HS03
/-! engines 2 and 3: trees that lean to the left, pure; D: the nodes of a queue, k: their order, G: their parents, e: a node whose children are cut off -/
def hs_LO (D : Int → Prop) (k G L R : Int → Int) (e : Int) : Prop := ∀ n, D n →
  (n ≠ e → (L n = -1 ∨ (D (L n) ∧ G (L n) = n)) ∧ (R n = -1 ∨ (D (R n) ∧ G (R n) = n)) ∧ (L n = R n → L n = -1)) ∧
  (G n = -1 ∨ (D (G n) ∧ G n ≠ e ∧ k (G n) < k n ∧ (L (G n) = n ∨ R (G n) = n)))
def hs_rank (N : Int → Int) (x : Int) : Int := if x = -1 then 0 else N x
def hs_LK (L R N : Int → Int) (n : Int) : Prop := ¬ hs_i (hs_rank N (L n)) < hs_i (hs_rank N (R n)) ∧ N n = hs_rank N (R n) + 1
/-- within D alone, and then to -1 or a node of D -/
def hs_fr (D : Int → Prop) (A A' : Int → Int) : Prop := ∀ j, A' j = A j ∨ (D j ∧ (A' j = -1 ∨ D (A' j)))
def hs_fn (D : Int → Prop) (A A' : Int → Int) : Prop := ∀ j, A' j = A j ∨ D j
theorem hs_fr_refl {D : Int → Prop} {A : Int → Int} : hs_fr D A A := fun _ => Or.inl rfl
theorem hs_fr_trans {D : Int → Prop} {A A' A'' : Int → Int} (h : hs_fr D A A') (h' : hs_fr D A' A'') : hs_fr D A A'' := by
  intro j
  rcases h' j with e | e
  · rcases h j with e2 | e2
    · exact Or.inl (e.trans e2)
    · rw [← e] at e2; exact Or.inr e2
  · exact Or.inr e
theorem hs_fr_u {D : Int → Prop} {A : Int → Int} {x v : Int} (hx : D x) (hv : v = -1 ∨ D v) : hs_fr D A (hs_u A x v) := by
  intro j
  by_cases e : j = x
  · rw [hs_ue e, e]; exact Or.inr ⟨hx, hv⟩
  · exact Or.inl (hs_un e)
theorem hs_fn_refl {D : Int → Prop} {A : Int → Int} : hs_fn D A A := fun _ => Or.inl rfl
theorem hs_fn_trans {D : Int → Prop} {A A' A'' : Int → Int} (h : hs_fn D A A') (h' : hs_fn D A' A'') : hs_fn D A A'' := by
  intro j
  rcases h' j with e | e
  · rcases h j with e2 | e2
    · exact Or.inl (e.trans e2)
    · exact Or.inr e2
  · exact Or.inr e
theorem hs_fn_u {D : Int → Prop} {A : Int → Int} {x v : Int} (hx : D x) : hs_fn D A (hs_u A x v) := by
  intro j
  by_cases e : j = x
  · exact Or.inr (by rw [e]; exact hx)
  · exact Or.inl (hs_un e)
/-- a walk up: V marks the nodes that may be wrong, a chain by G -/
def hs_V (D V : Int → Prop) (k G : Int → Int) (e : Int) : Prop :=
  (∀ n, V n → D n ∧ n ≠ e) ∧ (∀ n m, V n → V m → k m < k n → G n ≠ -1 ∧ k m ≤ k (G n)) ∧ (∀ n, V n → G n = -1 ∨ V (G n))
def hs_LI (z : Int) (D V : Int → Prop) (k G L R N : Int → Int) (e v : Int) : Prop :=
  hs_LO D k G L R e ∧ (v = -1 ∨ (D v ∧ (V v ∨ ((∀ m, ¬ V m) ∧ e = -1)))) ∧
  (z = 0 → ∀ n, D n → n ≠ e → ¬ hs_LK L R N n → v ≠ -1 ∧ ((V n ∧ k n ≤ k v) ∨ n = v))
theorem hs_LO_swap {D : Int → Prop} {k G L R : Int → Int} {e v : Int} (h : hs_LO D k G L R e) : hs_LO D k G (hs_u L v (R v)) (hs_u R v (L v)) e := by
  intro n hn
  have a := h n hn
  refine ⟨fun he => ?_, ?_⟩
  · have b := a.1 he
    by_cases c : n = v
    · subst c
      rw [hs_us, hs_us]
      exact ⟨b.2.1, b.1, fun x => by rw [x]; exact b.2.2 x.symm⟩
    · rw [hs_un c, hs_un c]; exact b
  · rcases a.2 with b | ⟨b1, b2, b3, b4⟩
    · exact Or.inl b
    · refine Or.inr ⟨b1, b2, b3, ?_⟩
      by_cases c : G n = v
      · rw [c] at b4 ⊢
        rw [hs_us, hs_us]
        exact b4.symm
      · rw [hs_un c, hs_un c]; exact b4
theorem hs_LK_eq {L R N L' R' N' : Int → Int} {n : Int} (eL : L' n = L n) (eR : R' n = R n) (eN : N' n = N n) (el : L n = -1 ∨ N' (L n) = N (L n)) (er : R n = -1 ∨ N' (R n) = N (R n)) :
    hs_LK L' R' N' n ↔ hs_LK L R N n := by
  have rl : hs_rank N' (L n) = hs_rank N (L n) := by
    unfold hs_rank
    split
    · rfl
    · rcases el with c | c
      · contradiction
      · exact c
  have rr : hs_rank N' (R n) = hs_rank N (R n) := by
    unfold hs_rank
    split
    · rfl
    · rcases er with c | c
      · contradiction
      · exact c
  unfold hs_LK
  rw [eL, eR, eN, rl, rr]
/-- one step of the walk up -/
theorem hs_LI_step {z : Int} {D V : Int → Prop} {k G L R N L' R' : Int → Int} {e v : Int} (hm : ∀ n, D n → n ≠ -1) (hk : ∀ n m, D n → D m → k n = k m → n = m) (hV : hs_V D V k G e)
    (h : hs_LI z D V k G L R N e v) (hv : v ≠ -1)
    (hs : (L' = hs_u L v (R v) ∧ R' = hs_u R v (L v) ∧ (z = 0 → hs_i (hs_rank N (L v)) < hs_i (hs_rank N (R v)))) ∨ (L' = L ∧ R' = R ∧ (z = 0 → ¬ hs_i (hs_rank N (L v)) < hs_i (hs_rank N (R v))))) :
    hs_LI z D V k G L' R' (hs_u N v (hs_rank N (R' v) + 1)) e (G v) ∧ hs_fr D L L' ∧ hs_fr D R R' := by
  obtain ⟨hO, hd, hK⟩ := h
  rcases hd with hd | ⟨hd, hd2⟩
  · exact absurd hd hv
  have hve : v ≠ e := by
    rcases hd2 with c | c
    · exact (hV.1 v c).2
    · rw [c.2]; exact hv
  have hav := (hO v hd).1 hve
  have hL1 : L v = -1 ∨ D (L v) := by rcases hav.1 with c | c; exact Or.inl c; exact Or.inr c.1
  have hR1 : R v = -1 ∨ D (R v) := by rcases hav.2.1 with c | c; exact Or.inl c; exact Or.inr c.1
  have hO' : hs_LO D k G L' R' e := by
    rcases hs with ⟨rfl, rfl, _⟩ | ⟨rfl, rfl, _⟩
    · exact hs_LO_swap hO
    · exact hO
  have hfr : hs_fr D L L' ∧ hs_fr D R R' := by
    rcases hs with ⟨rfl, rfl, _⟩ | ⟨rfl, rfl, _⟩
    · exact ⟨hs_fr_u hd hR1, hs_fr_u hd hL1⟩
    · exact ⟨hs_fr_refl, hs_fr_refl⟩
  have hav' := (hO' v hd).1 hve
  have hGv : G v = -1 ∨ D (G v) := by rcases (hO v hd).2 with c | c; exact Or.inl c; exact Or.inr c.1
  have hnv : ∀ x, D x → G x = v → x ≠ v := by
    intro x hx e2 e3
    subst e3
    rcases (hO x hx).2 with c | c
    · exact hv (e2 ▸ c)
    · have := c.2.2.1; rw [e2] at this; omega
  refine ⟨⟨hO', ?_, ?_⟩, hfr⟩
  · by_cases c : G v = -1
    · exact Or.inl c
    · refine Or.inr ⟨by rcases hGv with d | d; exact absurd d c; exact d, ?_⟩
      rcases hd2 with d | d
      · left
        rcases hV.2.2 v d with f | f
        · exact absurd f c
        · exact f
      · exact Or.inr d
  · intro hz n hn hne hbad
    -- n is not v: v is right now
    have hnn : n ≠ v := by
      intro e3
      subst e3
      apply hbad
      have rl : hs_rank (hs_u N n (hs_rank N (R' n) + 1)) (L' n) = hs_rank N (L' n) := by
        unfold hs_rank
        split
        · rfl
        · rcases hav'.1 with c | c
          · contradiction
          · exact hs_un (hnv _ c.1 c.2)
      have rr : hs_rank (hs_u N n (hs_rank N (R' n) + 1)) (R' n) = hs_rank N (R' n) := by
        unfold hs_rank
        split
        · rfl
        · rcases hav'.2.1 with c | c
          · contradiction
          · exact hs_un (hnv _ c.1 c.2)
      refine ⟨?_, ?_⟩
      · rw [rl, rr]
        rcases hs with ⟨rfl, rfl, c⟩ | ⟨rfl, rfl, c⟩
        · rw [hs_us, hs_us]
          exact Int32.lt_asymm (c hz)
        · exact c hz
      · rw [rr, hs_us]
    have eL : L' n = L n := by
      rcases hs with ⟨rfl, rfl, _⟩ | ⟨rfl, rfl, _⟩
      · exact hs_un hnn
      · rfl
    have eR : R' n = R n := by
      rcases hs with ⟨rfl, rfl, _⟩ | ⟨rfl, rfl, _⟩
      · exact hs_un hnn
      · rfl
    by_cases hp : n = G v
    · exact ⟨fun c => hm n hn (hp.trans c), Or.inr hp⟩
    · have han := (hO n hn).1 hne
      have hbad0 : ¬ hs_LK L R N n := by
        intro c
        apply hbad
        refine (hs_LK_eq eL eR (hs_un hnn) ?_ ?_).mpr c
        · rcases han.1 with d | d
          · exact Or.inl d
          · exact Or.inr (hs_un (fun x => hp (by rw [← x]; exact d.2.symm)))
        · rcases han.2.1 with d | d
          · exact Or.inl d
          · exact Or.inr (hs_un (fun x => hp (by rw [← x]; exact d.2.symm)))
      have b := (hK hz n hn hne hbad0).2
      rcases b with ⟨b1, b2⟩ | b
      · rcases hd2 with d | d
        · -- n is in V, below v
          by_cases hlt : k n < k v
          · have c := hV.2.1 v n d b1 hlt
            exact ⟨c.1, Or.inl ⟨b1, c.2⟩⟩
          · -- k n = k v: then v < n by neither; use chain from n
            have hkk : k n = k v := by omega
            exfalso
            exact hnn (hk n v hn hd hkk)
        · exact absurd b1 (d.1 n)
      · exact absurd b hnn
/-! the meld: t the tail, a and b what is still to be melded, Z the other roots -/
def hs_MI (z : Int) (D V Z : Int → Prop) (k G L R U N : Int → Int) (e t p a b : Int) : Prop :=
  hs_LO D k G L (hs_u R t (-1)) e ∧
  (a = -1 ∨ (D a ∧ G a = -1 ∧ (e = -1 ∨ k e < k a) ∧ (t = -1 ∨ k t < k a))) ∧
  (b = -1 ∨ (D b ∧ G b = -1 ∧ (e = -1 ∨ k e < k b) ∧ (t = -1 ∨ k t < k b))) ∧
  (a = b → a = -1) ∧
  (∀ n, D n → n ≠ a → n ≠ b → U n = G n) ∧
  hs_V D V k G e ∧ (∀ n, V n → t ≠ -1 ∧ k n ≤ k t) ∧ (t = -1 ∨ V t) ∧
  ((t = -1 ∧ p = -1) ∨ (t ≠ -1 ∧ D p ∧ G p = -1 ∧ p ≠ a ∧ p ≠ b)) ∧
  (∀ n, D n → G n = -1 → n = p ∨ n = a ∨ n = b ∨ Z n) ∧
  (∀ n, Z n → D n ∧ G n = -1 ∧ n ≠ a ∧ n ≠ b ∧ n ≠ p) ∧
  (z = 0 → ∀ n, D n → n ≠ e → ¬ hs_LK L R N n → V n)
theorem hs_MI_comm {z : Int} {D V Z : Int → Prop} {k G L R U N : Int → Int} {e t p a b : Int} (h : hs_MI z D V Z k G L R U N e t p a b) : hs_MI z D V Z k G L R U N e t p b a := by
  obtain ⟨h1, h2, h3, h4, h5, h6, h7, h8, h9, h10, h11, h12⟩ := h
  refine ⟨h1, h3, h2, fun x => ?_, fun n x y w => h5 n x w y, h6, h7, h8, ?_, ?_, ?_, h12⟩
  · have := h4 x.symm
    rw [x]; exact this
  · rcases h9 with c | ⟨c1, c2, c3, c4, c5⟩
    · exact Or.inl c
    · exact Or.inr ⟨c1, c2, c3, c5, c4⟩
  · intro n x y
    rcases h10 n x y with c | c | c | c
    · exact Or.inl c
    · exact Or.inr (Or.inr (Or.inl c))
    · exact Or.inr (Or.inl c)
    · exact Or.inr (Or.inr (Or.inr c))
  · intro n x
    have c := h11 n x
    exact ⟨c.1, c.2.1, c.2.2.2.1, c.2.2.1, c.2.2.2.2⟩
/-- the lesser root a goes below the tail; then the meld goes on with its right child -/
theorem hs_MI_step {z : Int} {D V Z : Int → Prop} {k G L R U N R1 : Int → Int} {e t p a b : Int} (hm : ∀ n, D n → n ≠ -1)
    (h : hs_MI z D V Z k G L R U N e t p a b) (ha : a ≠ -1) (hb : b ≠ -1) (lt : k a < k b)
    (hR : (t = -1 ∧ R1 = R) ∨ (t ≠ -1 ∧ R1 = hs_u R t a)) :
    hs_MI z D (fun n => V n ∨ n = a) Z k (hs_u (hs_u G (R a) (-1)) a t) L R1 (hs_u U a t) N e a (if t = -1 then a else p) (R a) b ∧ R1 a = R a ∧ hs_fr D R R1 ∧ D a ∧ (t = -1 ∨ (D t ∧ k t < k a)) ∧ (e = -1 ∨ k e < k a) ∧ (R a = -1 ∨ (D (R a) ∧ k a < k (R a))) := by
  obtain ⟨h1, h2, h3, h4, h5, h6, h7, h8, h9, h10, h11, h12⟩ := h
  obtain ⟨a1, a2, a3, a4⟩ : D a ∧ G a = -1 ∧ (e = -1 ∨ k e < k a) ∧ (t = -1 ∨ k t < k a) := by
    rcases h2 with c | c
    · exact absurd c ha
    · exact c
  obtain ⟨b1, b2, b3, b4⟩ : D b ∧ G b = -1 ∧ (e = -1 ∨ k e < k b) ∧ (t = -1 ∨ k t < k b) := by
    rcases h3 with c | c
    · exact absurd c hb
    · exact c
  have hab : a ≠ b := fun c => ha (h4 c)
  have hta : t ≠ a := by
    intro c
    rcases a4 with d | d
    · exact ha (c ▸ d)
    · rw [c] at d; omega
  have hae : a ≠ e := by
    intro c
    rcases a3 with d | d
    · exact ha (c.trans d)
    · rw [c] at d; omega
  have hDt : t = -1 ∨ D t := by
    rcases h8 with c | c
    · exact Or.inl c
    · exact Or.inr (h6.1 t c).1
  have eRa : R1 a = R a := by
    rcases hR with ⟨_, c⟩ | ⟨_, c⟩
    · rw [c]
    · rw [c]; exact hs_un (fun x => hta x.symm)
  have hoa := (h1 a a1).1 hae
  rw [hs_un (fun x => hta x.symm)] at hoa
  -- the right child of a
  have hra : R a = -1 ∨ (D (R a) ∧ G (R a) = a ∧ k a < k (R a)) := by
    rcases hoa.2.1 with c | c
    · exact Or.inl c
    · refine Or.inr ⟨c.1, c.2, ?_⟩
      rcases (h1 (R a) c.1).2 with d | d
      · exact absurd (c.2.symm.trans d) ha
      · rw [c.2] at d; exact d.2.2.1
  have hRaa : R a ≠ a := by
    intro c
    rcases hra with d | d
    · exact ha (c ▸ d)
    · rw [c] at d; omega
  have gA : hs_u (hs_u G (R a) (-1)) a t a = t := hs_us
  have gO : ∀ n, n ≠ a → n ≠ R a → hs_u (hs_u G (R a) (-1)) a t n = G n := fun n x y => by rw [hs_un x, hs_un y]
  have gR : ∀ n, n ≠ a → n = R a → hs_u (hs_u G (R a) (-1)) a t n = -1 := fun n x y => by rw [hs_un x, hs_ue y]
  have hbR : b ≠ R a := by
    intro c
    rcases hra with d | d
    · exact hb (c.trans d)
    · rw [← c, b2] at d
      exact ha d.2.1.symm
  have hpa : ∀ n, V n → n ≠ a ∧ n ≠ R a := by
    intro n hn
    have c := h7 n hn
    have d : k t < k a := by rcases a4 with d | d; exact absurd d c.1; exact d
    refine ⟨fun x => ?_, fun x => ?_⟩
    · rw [x] at c; omega
    · rcases hra with f | f
      · exact hm n (h6.1 n hn).1 (x.trans f)
      · rw [x] at c; omega
  have hZ : ∀ n, D n → G n = -1 → n ≠ R a := by
    intro n x y w
    rcases hra with f | f
    · exact hm n x (w.trans f)
    · rw [← w, y] at f
      exact ha f.2.1.symm
  have hR1 : ∀ n, n ≠ t → R1 n = R n := by
    intro n x
    rcases hR with ⟨_, c⟩ | ⟨_, c⟩
    · rw [c]
    · rw [c]; exact hs_un x
  refine ⟨⟨?_, ?_, ?_, ?_, ?_, ?_, ?_, ?_, ?_, ?_, ?_, ?_⟩, eRa, ?_, a1, ?_, a3, ?_⟩
  · -- the forest
    intro n hn
    have c := h1 n hn
    have hLn : n ≠ e → L n = -1 ∨ (D (L n) ∧ hs_u (hs_u G (R a) (-1)) a t (L n) = n) := by
      intro he
      rcases (c.1 he).1 with d | d
      · exact Or.inl d
      · refine Or.inr ⟨d.1, ?_⟩
        rw [gO _ ?_ ?_]
        · exact d.2
        · intro x; rw [x, a2] at d; exact hm n hn d.2.symm
        · intro x
          have y : a = n := by
            rcases hra with f | f
            · exact absurd (x.trans f) (hm _ d.1)
            · rw [← f.2.1, ← x]; exact d.2
          have w := (hoa.2.2 (by rw [y] at x ⊢; exact x))
          rw [y] at w
          exact hm _ d.1 w
    refine ⟨fun he => ⟨hLn he, ?_, ?_⟩, ?_⟩
    · by_cases ca : n = a
      · left; exact hs_ue ca
      · rw [hs_un ca]
        by_cases ct : n = t
        · right
          have ht : t ≠ -1 := fun x => hm n hn (ct.trans x)
          have : R1 n = a := by
            rcases hR with ⟨x, _⟩ | ⟨_, x⟩
            · exact absurd x ht
            · rw [x]; exact hs_ue ct
          rw [this]
          exact ⟨a1, gA.trans ct.symm⟩
        · rw [hR1 n ct]
          have d := (c.1 he).2.1
          rw [hs_un ct] at d
          rcases d with d | d
          · exact Or.inl d
          · refine Or.inr ⟨d.1, ?_⟩
            rw [gO _ ?_ ?_]
            · exact d.2
            · intro x; rw [x, a2] at d; exact hm n hn d.2.symm
            · intro x
              rcases hra with f | f
              · exact hm _ d.1 (x.trans f)
              · exact ca (by rw [← f.2.1, ← x]; exact d.2.symm)
    · intro x
      by_cases ca : n = a
      · rw [hs_ue ca] at x; exact x
      · rw [hs_un ca] at x
        by_cases ct : n = t
        · have ht : t ≠ -1 := fun y => hm n hn (ct.trans y)
          have : R1 n = a := by
            rcases hR with ⟨y, _⟩ | ⟨_, y⟩
            · exact absurd y ht
            · rw [y]; exact hs_ue ct
          rw [this] at x
          rcases (c.1 he).1 with d | d
          · exact d
          · rw [x, a2] at d; exact absurd d.2.symm (hm n hn)
        · rw [hR1 n ct] at x
          have d := (c.1 he).2.2
          rw [hs_un ct] at d
          exact d x
    · by_cases ca : n = a
      · rw [ca, gA]
        rcases a4 with d | d
        · exact Or.inl d
        · by_cases ht : t = -1
          · exact Or.inl ht
          · right
            have hVt : V t := by rcases h8 with f | f; exact absurd f ht; exact f
            refine ⟨(h6.1 t hVt).1, (h6.1 t hVt).2, d, Or.inr ?_⟩
            rw [hs_un hta]
            rcases hR with ⟨y, _⟩ | ⟨_, y⟩
            · exact absurd y ht
            · rw [y]; exact hs_us
      · by_cases cr : n = R a
        · exact Or.inl (gR n ca cr)
        · rw [gO n ca cr]
          rcases c.2 with d | ⟨d1, d2, d3, d4⟩
          · exact Or.inl d
          · refine Or.inr ⟨d1, d2, d3, ?_⟩
            rcases d4 with d4 | d4
            · exact Or.inl d4
            · right
              have gt : G n ≠ t := by
                intro x
                rw [x, hs_us] at d4
                exact hm n hn d4.symm
              rw [hs_un gt] at d4
              by_cases ga : G n = a
              · rw [ga] at d4; exact absurd d4.symm cr
              · rw [hs_un ga, hR1 _ gt]; exact d4
  · rcases hra with c | c
    · exact Or.inl c
    · refine Or.inr ⟨c.1, gR _ hRaa rfl, ?_, Or.inr c.2.2⟩
      rcases a3 with d | d
      · exact Or.inl d
      · right; omega
  · exact Or.inr ⟨b1, by rw [gO b (fun x => hab x.symm) hbR]; exact b2, b3, Or.inr lt⟩
  · intro x; exact absurd x.symm hbR
  · intro n hn c d
    by_cases ca : n = a
    · rw [hs_ue ca, ca, gA]
    · rw [hs_un ca, gO n ca c]
      exact h5 n hn ca d
  · refine ⟨?_, ?_, ?_⟩
    · intro n hn
      rcases hn with c | c
      · exact h6.1 n c
      · rw [c]; exact ⟨a1, hae⟩
    · intro n m hn hm' hlt
      rcases hn with c | c
      · have w := hpa n c
        rw [gO n w.1 w.2]
        rcases hm' with d | d
        · exact h6.2.1 n m c d hlt
        · have f := h7 n c
          rw [d] at hlt
          rcases a4 with g | g
          · exact absurd g f.1
          · omega
      · rw [c, gA]
        rcases hm' with d | d
        · exact h7 m d
        · rw [d, c] at hlt; omega
    · intro n hn
      rcases hn with c | c
      · have w := hpa n c
        rw [gO n w.1 w.2]
        rcases h6.2.2 n c with d | d
        · exact Or.inl d
        · exact Or.inr (Or.inl d)
      · rw [c, gA]
        rcases h8 with d | d
        · exact Or.inl d
        · exact Or.inr (Or.inl d)
  · intro n hn
    refine ⟨ha, ?_⟩
    rcases hn with c | c
    · have f := h7 n c
      rcases a4 with g | g
      · exact absurd g f.1
      · omega
    · rw [c]; omega
  · exact Or.inr (Or.inr rfl)
  · right
    by_cases ht : t = -1
    · rw [if_pos ht]
      exact ⟨ha, a1, gA.trans ht, fun x => hRaa x.symm, hab⟩
    · rw [if_neg ht]
      rcases h9 with c | ⟨_, c2, c3, c4, c5⟩
      · exact absurd c.1 ht
      · exact ⟨ha, c2, by rw [gO p c4 (hZ p c2 c3)]; exact c3, hZ p c2 c3, c5⟩
  · intro n hn c
    by_cases ca : n = a
    · rw [ca, gA] at c
      left; rw [if_pos c]; exact ca
    · by_cases cr : n = R a
      · exact Or.inr (Or.inl cr)
      · rw [gO n ca cr] at c
        rcases h10 n hn c with d | d | d | d
        · rcases h9 with f | f
          · exact absurd (d.trans f.2) (hm n hn)
          · left; rw [if_neg f.1]; exact d
        · exact absurd d ca
        · exact Or.inr (Or.inr (Or.inl d))
        · exact Or.inr (Or.inr (Or.inr d))
  · intro n hn
    have c := h11 n hn
    refine ⟨c.1, by rw [gO n c.2.2.1 (hZ n c.1 c.2.1)]; exact c.2.1, hZ n c.1 c.2.1, c.2.2.2.1, ?_⟩
    by_cases ht : t = -1
    · rw [if_pos ht]; exact c.2.2.1
    · rw [if_neg ht]; exact c.2.2.2.2
  · intro hz n hn hne hbad
    by_cases ct : n = t
    · left
      rcases h8 with d | d
      · exact absurd (ct.trans d) (hm n hn)
      · rw [ct]; exact d
    · left
      apply h12 hz n hn hne
      intro hk
      apply hbad
      unfold hs_LK at hk ⊢
      rw [hR1 n ct]
      exact hk
  · rcases hR with ⟨_, c⟩ | ⟨c, d⟩
    · rw [c]; exact hs_fr_refl
    · rw [d]
      rcases hDt with f | f
      · exact absurd f c
      · exact hs_fr_u f (Or.inr a1)
  · rcases hDt with f | f
    · exact Or.inl f
    · rcases a4 with g | g
      · exact Or.inl g
      · exact Or.inr ⟨f, g⟩
  · rcases hra with c | c
    · exact Or.inl c
    · exact Or.inr ⟨c.1, c.2.2⟩
/-- one of the two is used up: the other goes below the tail -/
theorem hs_MI_end {z : Int} {D V Z : Int → Prop} {k G L R U N : Int → Int} {e t p r : Int} (hm : ∀ n, D n → n ≠ -1)
    (h : hs_MI z D V Z k G L R U N e t p r (-1)) (ht : t ≠ -1) {U1 : Int → Int} (hU : (r = -1 ∧ U1 = U) ∨ (r ≠ -1 ∧ U1 = hs_u U r t)) :
    ∃ G1 : Int → Int, hs_LI z D V k G1 L (hs_u R t r) N e t ∧ hs_V D V k G1 e ∧ (∀ n, D n → U1 n = G1 n) ∧ D p ∧ G1 p = -1 ∧ (∀ n, D n → G1 n = -1 → n = p ∨ Z n) ∧ (∀ n, Z n → G1 n = -1 ∧ n ≠ p) ∧ (∀ n, n ≠ r → G1 n = G n) ∧ D t ∧ (r = -1 ∨ D r) := by
  obtain ⟨h1, h2, h3, h4, h5, h6, h7, h8, h9, h10, h11, h12⟩ := h
  have hVt : V t := by rcases h8 with f | f; exact absurd f ht; exact f
  have hDt := h6.1 t hVt
  obtain ⟨_, p2, p3, p4, p5⟩ : t ≠ -1 ∧ D p ∧ G p = -1 ∧ p ≠ r ∧ p ≠ -1 := by
    rcases h9 with c | c
    · exact absurd c.1 ht
    · exact c
  have hr : r = -1 ∨ (D r ∧ G r = -1 ∧ k t < k r) := by
    rcases h2 with c | ⟨c1, c2, _, c4⟩
    · exact Or.inl c
    · rcases c4 with d | d
      · exact absurd d ht
      · exact Or.inr ⟨c1, c2, d⟩
  have hVr : ∀ n, V n → n ≠ r := by
    intro n hn x
    have c := h7 n hn
    rcases hr with d | d
    · exact hm n (h6.1 n hn).1 (x.trans d)
    · rw [x] at c; omega
  refine ⟨hs_u G r t, ⟨?_, Or.inr ⟨hDt.1, Or.inl hVt⟩, ?_⟩, ?_, ?_, p2, ?_, ?_, ?_, fun n x => hs_un x, hDt.1, ?_⟩
  · intro n hn
    have c := h1 n hn
    have key : ∀ x, D x → G x = n → hs_u G r t x = n := by
      intro x hx y
      rw [hs_un]
      · exact y
      · intro w
        rcases hr with d | d
        · exact hm x hx (w.trans d)
        · rw [w, d.2.1] at y; exact hm n hn y.symm
    refine ⟨fun he => ⟨?_, ?_, ?_⟩, ?_⟩
    · rcases (c.1 he).1 with d | d
      · exact Or.inl d
      · exact Or.inr ⟨d.1, key _ d.1 d.2⟩
    · by_cases ct : n = t
      · rw [hs_ue ct]
        rcases hr with d | d
        · exact Or.inl d
        · exact Or.inr ⟨d.1, hs_us.trans ct.symm⟩
      · have d := (c.1 he).2.1
        rw [hs_un ct] at d ⊢
        rcases d with d | d
        · exact Or.inl d
        · exact Or.inr ⟨d.1, key _ d.1 d.2⟩
    · intro x
      by_cases ct : n = t
      · rw [hs_ue ct] at x
        rcases (c.1 he).1 with d | d
        · exact d
        · rcases hr with f | f
          · exact x.trans f
          · rw [x, f.2.1] at d; exact absurd d.2.symm (hm n hn)
      · have d := (c.1 he).2.2
        rw [hs_un ct] at d x
        exact d x
    · by_cases cr : n = r
      · rw [hs_ue cr]
        right
        refine ⟨hDt.1, hDt.2, ?_, Or.inr (by rw [hs_us, cr])⟩
        rcases hr with d | d
        · exact absurd (cr.trans d) (hm n hn)
        · rw [cr]; exact d.2.2
      · rw [hs_un cr]
        rcases c.2 with d | ⟨d1, d2, d3, d4⟩
        · exact Or.inl d
        · refine Or.inr ⟨d1, d2, d3, ?_⟩
          rcases d4 with d4 | d4
          · exact Or.inl d4
          · right
            have gt : G n ≠ t := by
              intro x
              rw [x, hs_us] at d4
              exact hm n hn d4.symm
            rw [hs_un gt] at d4 ⊢
            exact d4
  · intro hz n hn hne hbad
    refine ⟨ht, Or.inl ?_⟩
    have hV : V n := by
      by_cases ct : n = t
      · rw [ct]; exact hVt
      · apply h12 hz n hn hne
        intro hk
        apply hbad
        unfold hs_LK at hk ⊢
        rw [hs_un ct]
        exact hk
    exact ⟨hV, (h7 n hV).2⟩
  · refine ⟨h6.1, ?_, ?_⟩
    · intro n m hn hm' hlt
      rw [hs_un (hVr n hn)]
      exact h6.2.1 n m hn hm' hlt
    · intro n hn
      rw [hs_un (hVr n hn)]
      exact h6.2.2 n hn
  · intro n hn
    by_cases cr : n = r
    · rw [hs_ue cr]
      rcases hU with ⟨c, _⟩ | ⟨_, c⟩
      · exact absurd (cr.trans c) (hm n hn)
      · rw [c]; exact hs_ue cr
    · rw [hs_un cr]
      rcases hU with ⟨_, c⟩ | ⟨_, c⟩
      · rw [c]; exact h5 n hn cr (hm n hn)
      · rw [c, hs_un cr]; exact h5 n hn cr (hm n hn)
  · rw [hs_un p4]; exact p3
  · intro n hn c
    by_cases cr : n = r
    · rw [hs_ue cr] at c; exact absurd c ht
    · rw [hs_un cr] at c
      rcases h10 n hn c with d | d | d | d
      · exact Or.inl d
      · exact absurd d cr
      · exact absurd d (hm n hn)
      · exact Or.inr d
  · intro n hn
    have c := h11 n hn
    exact ⟨by rw [hs_un c.2.2.1]; exact c.2.1, c.2.2.2.2⟩
  · rcases hr with d | d
    · exact Or.inl d
    · exact Or.inr d.1
end HS03
end
section
section HS04
/-! engine 6: a tournament, pure -/
def hs_bt (K : Int → Int) (x y : Int) : Int := if x = -1 then y else if y = -1 then x else if K x < K y then x else y
def hs_lf (H W : Int → Int) (q : Int) : Prop := ∀ i, 0 ≤ i → i < 24 → W (q * 48 + 24 + i) = if H i = q then i else -1
def hs_eqn (K W : Int → Int) (q n : Int) : Prop := W (q * 48 + n) = hs_bt K (W (q * 48 + 2 * n)) (W (q * 48 + 2 * n + 1))
def hs_TN (K H W : Int → Int) (q : Int) : Prop := hs_lf H W q ∧ ∀ n, 1 ≤ n → n < 24 → hs_eqn K W q n
def hs_hv : Nat → Int → Int
  | 0, p => p
  | t + 1, p => hs_hv t (p / 2)
theorem hs_hv_0 : ∀ t : Nat, hs_hv t 0 = 0 := by
  intro t
  induction t with
  | zero => rfl
  | succ t ih => exact ih
def hs_TS (K H W : Int → Int) (q p : Int) : Prop := hs_lf H W q ∧ ∀ n, 1 ≤ n → n < 24 → hs_eqn K W q n ∨ ∃ t : Nat, n = hs_hv t (p / 2)
theorem hs_bt_r {K : Int → Int} {x y : Int} : hs_bt K x y = x ∨ hs_bt K x y = y := by
  unfold hs_bt
  split
  · exact Or.inr rfl
  · split
    · exact Or.inl rfl
    · split
      · exact Or.inl rfl
      · exact Or.inr rfl
theorem hs_bt_le {K : Int → Int} {x y : Int} : (x ≠ -1 → hs_bt K x y ≠ -1 ∧ K (hs_bt K x y) ≤ K x) ∧ (y ≠ -1 → hs_bt K x y ≠ -1 ∧ K (hs_bt K x y) ≤ K y) := by
  unfold hs_bt
  split
  · rename_i h
    exact ⟨fun c => absurd h c, fun c => ⟨c, Int.le_refl _⟩⟩
  · split
    · rename_i h1 h
      exact ⟨fun c => ⟨c, Int.le_refl _⟩, fun c => absurd h c⟩
    · split
      · exact ⟨fun c => ⟨c, Int.le_refl _⟩, fun c => ⟨by assumption, by omega⟩⟩
      · exact ⟨fun c => ⟨by assumption, by omega⟩, fun c => ⟨c, Int.le_refl _⟩⟩
theorem hs_TS_step {K H W : Int → Int} {q p : Int} (h : hs_TS K H W q p) (h1 : 2 ≤ p) (h2 : p < 48) :
    hs_TS K H (hs_u W (q * 48 + p / 2) (hs_bt K (W (q * 48 + 2 * (p / 2))) (W (q * 48 + 2 * (p / 2) + 1)))) q (p / 2) := by
  obtain ⟨hl, hn⟩ := h
  refine ⟨?_, ?_⟩
  · intro i h0 h3
    rw [hs_un (by omega)]
    exact hl i h0 h3
  · intro n a b
    by_cases c : n = p / 2
    · left
      unfold hs_eqn
      rw [c, hs_us, hs_un (by omega), hs_un (by omega)]
    · by_cases d : 2 * n = p / 2 ∨ 2 * n + 1 = p / 2
      · right
        exact ⟨0, by show n = p / 2 / 2; omega⟩
      · rcases hn n a b with f | ⟨t, f⟩
        · left
          unfold hs_eqn at f ⊢
          rw [hs_un (by omega), hs_un (by omega), hs_un (by omega)]
          exact f
        · right
          cases t with
          | zero => exact absurd f c
          | succ t => exact ⟨t, f⟩
theorem hs_TS_end {K H W : Int → Int} {q p : Int} (h : hs_TS K H W q p) (h2 : p ≤ 1) (h0 : 0 ≤ p) : hs_TN K H W q := by
  refine ⟨h.1, fun n a b => ?_⟩
  rcases h.2 n a b with c | ⟨t, c⟩
  · exact c
  · have e : p / 2 = 0 := by omega
    rw [e, hs_hv_0] at c
    omega
theorem hs_TS_start {K H H' W : Int → Int} {q x s : Int} (h : hs_TN K H W q) (h0 : 0 ≤ x) (h1 : x < 24) (hH : ∀ i, 0 ≤ i → i < 24 → i ≠ x → (H' i = q ↔ H i = q)) (hs : s = if H' x = q then x else -1) :
    hs_TS K H' (hs_u W (q * 48 + (24 + x)) s) q (24 + x) := by
  obtain ⟨hl, hn⟩ := h
  refine ⟨?_, ?_⟩
  · intro i a b
    by_cases c : i = x
    · subst c
      rw [hs_ue (by omega)]; exact hs
    · rw [hs_un (by omega), hl i a b]
      by_cases d : H i = q
      · rw [if_pos d, if_pos ((hH i a b c).mpr d)]
      · rw [if_neg d, if_neg (fun z => d ((hH i a b c).mp z))]
  · intro n a b
    by_cases d : 2 * n = 24 + x ∨ 2 * n + 1 = 24 + x
    · right
      exact ⟨0, by show n = (24 + x) / 2; omega⟩
    · left
      have f := hn n a b
      unfold hs_eqn at f ⊢
      rw [hs_un (by omega), hs_un (by omega), hs_un (by omega)]
      exact f
theorem hs_TN_val {K H W : Int → Int} {q : Int} (h : hs_TN K H W q) : ∀ (m : Nat) (n : Int), 1 ≤ n → n < 48 → 48 - n ≤ m → W (q * 48 + n) = -1 ∨ (0 ≤ W (q * 48 + n) ∧ W (q * 48 + n) < 24 ∧ H (W (q * 48 + n)) = q) := by
  intro m
  induction m with
  | zero => intro n a b c; omega
  | succ m ih =>
    intro n a b c
    by_cases d : n < 24
    · have e := h.2 n a d
      unfold hs_eqn at e
      rw [e]
      have i1 := ih (2 * n) (by omega) (by omega) (by omega)
      have i2 := ih (2 * n + 1) (by omega) (by omega) (by omega)
      rw [show q * 48 + (2 * n + 1) = q * 48 + 2 * n + 1 by omega] at i2
      rcases hs_bt_r (K := K) (x := W (q * 48 + 2 * n)) (y := W (q * 48 + 2 * n + 1)) with f | f
      · rw [f]; exact i1
      · rw [f]; exact i2
    · have e := h.1 (n - 24) (by omega) (by omega)
      rw [show q * 48 + 24 + (n - 24) = q * 48 + n by omega] at e
      by_cases f : H (n - 24) = q
      · rw [if_pos f] at e
        right
        rw [e]; exact ⟨by omega, by omega, f⟩
      · rw [if_neg f] at e
        exact Or.inl e
theorem hs_TN_up {K H W : Int → Int} {q : Int} (h : hs_TN K H W q) : ∀ (m : Nat) (n : Int), 1 ≤ n → n < 48 → n ≤ m → W (q * 48 + n) ≠ -1 → W (q * 48 + 1) ≠ -1 ∧ K (W (q * 48 + 1)) ≤ K (W (q * 48 + n)) := by
  intro m
  induction m with
  | zero => intro n a b c; omega
  | succ m ih =>
    intro n a b c hn
    by_cases d : n = 1
    · rw [d] at hn ⊢
      exact ⟨hn, Int.le_refl _⟩
    · have e := h.2 (n / 2) (by omega) (by omega)
      unfold hs_eqn at e
      have g := hs_bt_le (K := K) (x := W (q * 48 + 2 * (n / 2))) (y := W (q * 48 + 2 * (n / 2) + 1))
      rw [← e] at g
      have g2 : W (q * 48 + n / 2) ≠ -1 ∧ K (W (q * 48 + n / 2)) ≤ K (W (q * 48 + n)) := by
        by_cases f : n = 2 * (n / 2)
        · have g3 := g.1
          rw [← f] at g3
          exact g3 hn
        · have g3 := g.2
          rw [show q * 48 + 2 * (n / 2) + 1 = q * 48 + n by omega] at g3
          exact g3 hn
      have i1 := ih (n / 2) (by omega) (by omega) (by omega) g2.1
      exact ⟨i1.1, by omega⟩
theorem hs_TN_mn {K H W : Int → Int} {q : Int} (h : hs_TN K H W q) : hs_mn K H q (W (q * 48 + 1)) := by
  have leaf : ∀ i, 0 ≤ i → i < 24 → H i = q → W (q * 48 + (24 + i)) = i := by
    intro i a b c
    have := h.1 i a b
    rw [if_pos c] at this
    rw [← Int.add_assoc]; exact this
  rcases hs_TN_val h 48 1 (by omega) (by omega) (by omega) with c | c
  · refine Or.inl ⟨c, fun i a b d => ?_⟩
    have e := leaf i a b d
    have g := hs_TN_up h 48 (24 + i) (by omega) (by omega) (by omega) (by omega)
    exact g.1 c
  · refine Or.inr ⟨c.1, c.2.1, c.2.2, fun i a b d => ?_⟩
    have e := leaf i a b d
    have g := hs_TN_up h 48 (24 + i) (by omega) (by omega) (by omega) (by omega)
    rw [e] at g
    exact g.2
theorem hs_TN_congr {K K' H H' W W' : Int → Int} {q : Int} (h : hs_TN K H W q) (hH : ∀ i, 0 ≤ i → i < 24 → (H' i = q ↔ H i = q)) (hK : ∀ i, 0 ≤ i → i < 24 → H i = q → K' i = K i)
    (hW : ∀ n, 0 ≤ n → n < 48 → W' (q * 48 + n) = W (q * 48 + n)) : hs_TN K' H' W' q := by
  refine ⟨?_, ?_⟩
  · intro i a b
    rw [show q * 48 + 24 + i = q * 48 + (24 + i) by omega, hW (24 + i) (by omega) (by omega), ← Int.add_assoc, h.1 i a b]
    by_cases d : H i = q
    · rw [if_pos d, if_pos ((hH i a b).mpr d)]
    · rw [if_neg d, if_neg (fun z => d ((hH i a b).mp z))]
  · intro n a b
    have e := h.2 n a b
    have v1 := hs_TN_val h 48 (2 * n) (by omega) (by omega) (by omega)
    have v2 := hs_TN_val h 48 (2 * n + 1) (by omega) (by omega) (by omega)
    unfold hs_eqn at e ⊢
    rw [hW n (by omega) (by omega), hW (2 * n) (by omega) (by omega), Int.add_assoc, hW (2 * n + 1) (by omega) (by omega)]
    rw [Int.add_assoc] at e
    rw [e]
    unfold hs_bt
    by_cases c1 : W (q * 48 + 2 * n) = -1
    · rw [if_pos c1, if_pos c1]
    · rw [if_neg c1, if_neg c1]
      by_cases c2 : W (q * 48 + (2 * n + 1)) = -1
      · rw [if_pos c2, if_pos c2]
      · rw [if_neg c2, if_neg c2]
        rcases v1 with x | x
        · exact absurd x c1
        · rcases v2 with y | y
          · exact absurd y c2
          · rw [hK _ x.1 x.2.1 x.2.2, hK _ y.1 y.2.1 y.2.2]
end HS04
end
section
section HS05
/-! engine 4: a pairing heap, pure; G: parents, O: falls from sibling to sibling; e: an item whose children are being paired, r the first of them that is left -/
def hs_PO (D : Int → Prop) (k G O C X B : Int → Int) (e r : Int) : Prop := ∀ i, D i →
  (i ≠ e → C i = -1 ∨ (D (C i) ∧ G (C i) = i ∧ B (C i) = i)) ∧
  (G i ≠ -1 → X i = -1 ∨ (D (X i) ∧ G (X i) = G i ∧ B (X i) = i ∧ O (X i) < O i)) ∧
  (G i = -1 ∨ (D (G i) ∧ k (G i) < k i ∧ (i = r ∨ (B i = G i ∧ G i ≠ e ∧ C (G i) = i) ∨ (D (B i) ∧ G (B i) = G i ∧ X (B i) = i))))
theorem hs_nomax {S : Int → Prop} {O : Int → Int} (hS : ∀ i, S i → 0 ≤ i ∧ i < 24) (h : ∀ i, S i → ∃ j, S j ∧ O i < O j) : ∀ i, ¬ S i := by
  have main : ∀ (n : Nat) (i : Int), S i → 23 - hs_rk O i ≤ n → False := by
    intro n
    induction n with
    | zero =>
      intro i hi hn
      obtain ⟨j, hj, hlt⟩ := h i hi
      have a := hs_rk_lt (hS i hi).1 (hS i hi).2 hlt
      have b := hs_rk_r O (hS j hj).1 (hS j hj).2
      omega
    | succ n ih =>
      intro i hi hn
      obtain ⟨j, hj, hlt⟩ := h i hi
      have a := hs_rk_lt (hS i hi).1 (hS i hi).2 hlt
      exact ih j hj (by omega)
  intro i hi
  have b := hs_rk_r O (hS i hi).1 (hS i hi).2
  exact main 23 i hi (by omega)
/-- every child of e that is left comes behind r -/
theorem hs_PO_first {D : Int → Prop} {k G O C X B : Int → Int} {e r : Int} (hD : ∀ i, D i → 0 ≤ i ∧ i < 24) (h : hs_PO D k G O C X B e r) (he : e ≠ -1) :
    ∀ i, D i → G i = e → i = r ∨ (r ≠ -1 ∧ O i < O r) := by
  have main := hs_nomax (S := fun i => D i ∧ G i = e ∧ i ≠ r ∧ (r = -1 ∨ O r ≤ O i)) (O := O) (fun i hi => hD i hi.1) (by
    intro i ⟨h1, h2, h3, h4⟩
    rcases (h i h1).2.2 with c | ⟨c1, c2, c3⟩
    · exact absurd (h2.symm.trans c) he
    · rcases c3 with c3 | c3 | ⟨d1, d2, d3⟩
      · exact absurd c3 h3
      · exact absurd h2 c3.2.1
      · refine ⟨B i, ⟨d1, d2.trans h2, ?_, ?_⟩, ?_⟩
        · intro x
          have f := (h (B i) d1).2.1 (by rw [d2, h2]; exact he)
          rw [d3] at f
          rcases f with f | f
          · exact absurd f (by have := hD i h1; omega)
          · rcases h4 with g | g
            · have := hD (B i) d1; omega
            · rw [x] at f; omega
        · have f := (h (B i) d1).2.1 (by rw [d2, h2]; exact he)
          rw [d3] at f
          rcases f with f | f
          · exact absurd f (by have := hD i h1; omega)
          · rcases h4 with g | g
            · exact Or.inl g
            · right; omega
        · have f := (h (B i) d1).2.1 (by rw [d2, h2]; exact he)
          rw [d3] at f
          rcases f with f | f
          · exact absurd f (by have := hD i h1; omega)
          · exact f.2.2.2)
  intro i h1 h2
  by_cases c : i = r
  · exact Or.inl c
  · right
    have m := main i
    by_cases d : r = -1
    · exact absurd ⟨h1, h2, c, Or.inl d⟩ m
    · refine ⟨d, ?_⟩
      by_cases f : O r ≤ O i
      · exact absurd ⟨h1, h2, c, Or.inr f⟩ m
      · omega
/-- what stands at the roots' own links doesn't matter -/
theorem hs_PO_root {D : Int → Prop} {k G O C X B X' B' : Int → Int} {e r : Int} (h : hs_PO D k G O C X B e r)
    (hX : ∀ i, D i → G i ≠ -1 → X' i = X i) (hB : ∀ i, D i → G i ≠ -1 → B' i = B i) (hm : ∀ i, D i → i ≠ -1) : hs_PO D k G O C X' B' e r := by
  intro i hi
  obtain ⟨h1, h2, h3⟩ := h i hi
  refine ⟨fun he => ?_, fun hg => ?_, ?_⟩
  · rcases h1 he with c | c
    · exact Or.inl c
    · refine Or.inr ⟨c.1, c.2.1, ?_⟩
      rw [hB _ c.1 (by rw [c.2.1]; exact hm i hi)]; exact c.2.2
  · rw [hX i hi hg]
    rcases h2 hg with c | c
    · exact Or.inl c
    · refine Or.inr ⟨c.1, c.2.1, ?_, c.2.2.2⟩
      rw [hB _ c.1 (by rw [c.2.1]; exact hg)]; exact c.2.2.1
  · rcases h3 with c | ⟨c1, c2, c3⟩
    · exact Or.inl c
    · have hg : G i ≠ -1 := hm _ c1
      refine Or.inr ⟨c1, c2, ?_⟩
      rw [hB i hi hg]
      rcases c3 with c3 | c3 | c3
      · exact Or.inl c3
      · exact Or.inr (Or.inl c3)
      · refine Or.inr (Or.inr ⟨c3.1, c3.2.1, ?_⟩)
        rw [hX _ c3.1 (by rw [c3.2.1]; exact hg)]; exact c3.2.2
/-- the root b goes below the root a -/
theorem hs_PO_up {D : Int → Prop} {k G O C X B B' : Int → Int} {e r a b : Int} (hm : ∀ i, D i → i ≠ -1) (h : hs_PO D k G O C X B e r)
    (ha : D a) (hb : D b) (ga : G a = -1) (gb : G b = -1) (hae : a ≠ e) (hab : a ≠ b) (lt : k a < k b)
    (hB : (C a = -1 ∧ B' = hs_u B b a) ∨ (C a ≠ -1 ∧ B' = hs_u (hs_u B b a) (C a) b)) :
    hs_PO D k (hs_u G b a) (hs_u O b (if C a = -1 then 0 else O (C a) + 1)) (hs_u C a b) (hs_u X b (C a)) B' e r := by
  have hs : C a = -1 ∨ (D (C a) ∧ G (C a) = a ∧ B (C a) = a) := (h a ha).1 hae
  have hsb : C a ≠ b := by
    intro x
    rcases hs with c | c
    · exact hm b hb (x.symm.trans c)
    · rw [x, gb] at c; exact hm a ha c.2.1.symm
  have hsa : C a ≠ a := by
    intro x
    rcases hs with c | c
    · exact hm a ha (x.symm.trans c)
    · rw [x, ga] at c; exact hm a ha c.2.1.symm
  have bb : B' b = a := by
    rcases hB with ⟨_, x⟩ | ⟨_, x⟩
    · rw [x]; exact hs_us
    · rw [x, hs_un (fun y => hsb y.symm)]; exact hs_us
  have bs : C a ≠ -1 → B' (C a) = b := by
    intro y
    rcases hB with ⟨x, _⟩ | ⟨_, x⟩
    · exact absurd x y
    · rw [x]; exact hs_us
  have bo : ∀ i, i ≠ b → i ≠ C a → B' i = B i := by
    intro i x y
    rcases hB with ⟨_, w⟩ | ⟨_, w⟩
    · rw [w]; exact hs_un x
    · rw [w, hs_un y]; exact hs_un x
  intro i hi
  obtain ⟨h1, h2, h3⟩ := h i hi
  have him := hm i hi
  refine ⟨fun he => ?_, fun hg => ?_, ?_⟩
  · by_cases ca : i = a
    · rw [hs_ue ca]
      exact Or.inr ⟨hb, hs_us.trans ca.symm, bb.trans ca.symm⟩
    · rw [hs_un ca]
      rcases h1 he with c | c
      · exact Or.inl c
      · have n1 : C i ≠ b := fun x => by rw [x, gb] at c; exact him c.2.1.symm
        have n2 : C i ≠ C a := by
          intro x
          rcases hs with d | d
          · exact hm _ c.1 (x.trans d)
          · rw [x, d.2.1] at c; exact ca c.2.1.symm
        exact Or.inr ⟨c.1, by rw [hs_un n1]; exact c.2.1, by rw [bo _ n1 n2]; exact c.2.2⟩
  · by_cases cb : i = b
    · rw [hs_ue cb, hs_ue cb]
      rcases hs with c | c
      · exact Or.inl c
      · have hne : C a ≠ -1 := hm _ c.1
        refine Or.inr ⟨c.1, by rw [hs_un hsb]; exact c.2.1, by rw [bs hne, cb], ?_⟩
        rw [hs_un hsb, hs_ue cb, if_neg hne]; omega
    · rw [hs_un cb] at hg ⊢
      rw [hs_un cb]
      rcases h2 hg with c | c
      · exact Or.inl c
      · have n1 : X i ≠ b := fun x => by rw [x, gb] at c; exact hg c.2.1.symm
        have n2 : X i ≠ C a := by
          intro x
          rcases hs with d | d
          · exact hm _ c.1 (x.trans d)
          · rw [x, d.2.1, d.2.2] at c
            have y : a = i := c.2.2.1
            rw [← y] at c
            rw [ga] at c
            exact hm a ha c.2.1
        refine Or.inr ⟨c.1, by rw [hs_un n1]; exact c.2.1, by rw [bo _ n1 n2]; exact c.2.2.1, ?_⟩
        rw [hs_un n1, hs_un cb]; exact c.2.2.2
  · by_cases cb : i = b
    · rw [hs_ue cb]
      refine Or.inr ⟨ha, by rw [cb]; exact lt, Or.inr (Or.inl ⟨by rw [cb]; exact bb, hae, by rw [hs_us, cb]⟩)⟩
    · rw [hs_un cb]
      rcases h3 with c | ⟨c1, c2, c3⟩
      · exact Or.inl c
      · refine Or.inr ⟨c1, c2, ?_⟩
        have hg : G i ≠ -1 := hm _ c1
        by_cases cs : i = C a
        · right; right
          have hne : C a ≠ -1 := fun x => him (cs.trans x)
          rcases hs with d | d
          · exact absurd d hne
          · rw [cs, bs hne, d.2.1]
            exact ⟨hb, hs_us, hs_us⟩
        · rw [bo i cb cs]
          rcases c3 with c3 | c3 | c3
          · exact Or.inl c3
          · right; left
            refine ⟨c3.1, c3.2.1, ?_⟩
            have n : G i ≠ a := fun x => cs (by rw [← c3.2.2, x])
            rw [hs_un n]; exact c3.2.2
          · right; right
            have n : B i ≠ b := fun x => by rw [x, gb] at c3; exact hg c3.2.1.symm
            refine ⟨c3.1, by rw [hs_un n]; exact c3.2.1, by rw [hs_un n]; exact c3.2.2⟩
/-- the first one or two children of e that are left become roots -/
theorem hs_PO_cut {D : Int → Prop} {k G O C X B G' X' B' : Int → Int} {e r o s : Int} (hD : ∀ i, D i → 0 ≤ i ∧ i < 24) (h : hs_PO D k G O C X B e r)
    (he : e ≠ -1) (hr : D r) (gr : G r = e) (ho : o = X r) (hs : s = if o = -1 then -1 else X o)
    (hG : ∀ i, G' i = if i = r ∨ (i = o ∧ o ≠ -1) then -1 else G i)
    (hX : ∀ i, i ≠ r → i ≠ o → X' i = X i) (hB : ∀ i, i ≠ r → i ≠ o → B' i = B i) :
    hs_PO D k G' O C X' B' e s ∧ (o = -1 ∨ (D o ∧ G o = e ∧ o ≠ r)) ∧ (s = -1 ∨ (D s ∧ G' s = e)) := by
  have hm : ∀ i, D i → i ≠ -1 := fun i hi => by have := hD i hi; omega
  have hfirst := hs_PO_first hD h he
  have hgr : G r ≠ -1 := by rw [gr]; exact he
  have oo : o = -1 ∨ (D o ∧ G o = e ∧ B o = r ∧ O o < O r) := by
    rcases (h r hr).2.1 hgr with c | c
    · exact Or.inl (ho.trans c)
    · rw [← ho, gr] at c; exact Or.inr c
  have onr : o = -1 ∨ (D o ∧ G o = e ∧ o ≠ r) := by
    rcases oo with c | c
    · exact Or.inl c
    · exact Or.inr ⟨c.1, c.2.1, fun x => by rw [x] at c; omega⟩
  have gK : ∀ i, i ≠ r → i ≠ o → G' i = G i := by
    intro i x y
    rw [hG i, if_neg]
    intro w
    rcases w with w | w
    · exact x w
    · exact y w.1
  have ss : s = -1 ∨ (o ≠ -1 ∧ D s ∧ G s = e ∧ B s = o ∧ s ≠ r ∧ s ≠ o ∧ X o = s) := by
    rcases oo with c | c
    · rw [if_pos c] at hs; exact Or.inl hs
    · have co := hm o c.1
      rw [if_neg co] at hs
      rcases (h o c.1).2.1 (by rw [c.2.1]; exact he) with d | d
      · exact Or.inl (hs.trans d)
      · rw [← hs, c.2.1] at d
        refine Or.inr ⟨co, d.1, d.2.1, d.2.2.1, ?_, ?_, hs.symm⟩
        · intro x; rw [x] at d; omega
        · intro x; rw [x] at d; omega
  refine ⟨?_, onr, ?_⟩
  · intro i hi
    have him := hm i hi
    obtain ⟨h1, h2, h3⟩ := h i hi
    refine ⟨fun hie => ?_, fun hg => ?_, ?_⟩
    · rcases h1 hie with c | c
      · exact Or.inl c
      · have n1 : C i ≠ r := fun x => by rw [x, gr] at c; exact hie c.2.1.symm
        have n2 : C i ≠ o := by
          intro x
          rcases oo with d | d
          · exact hm _ c.1 (x.trans d)
          · rw [x, d.2.1] at c; exact hie c.2.1.symm
        exact Or.inr ⟨c.1, by rw [gK _ n1 n2]; exact c.2.1, by rw [hB _ n1 n2]; exact c.2.2⟩
    · have ir : i ≠ r := by
        intro x
        apply hg
        rw [hG i, if_pos (Or.inl x)]
      have io : i ≠ o := by
        intro x
        apply hg
        rw [hG i, if_pos (Or.inr ⟨x, fun y => him (x.trans y)⟩)]
      rw [gK i ir io] at hg ⊢
      rw [hX i ir io]
      rcases h2 hg with c | c
      · exact Or.inl c
      · have n1 : X i ≠ r := by
          intro x
          rw [x, gr] at c
          rcases hfirst i hi c.2.1.symm with d | d
          · exact ir d
          · omega
        have n2 : X i ≠ o := by
          intro x
          rcases oo with d | d
          · exact hm _ c.1 (x.trans d)
          · rw [x, d.2.2.1] at c; exact ir c.2.2.1.symm
        exact Or.inr ⟨c.1, by rw [gK _ n1 n2]; exact c.2.1, by rw [hB _ n1 n2]; exact c.2.2.1, c.2.2.2⟩
    · by_cases ir : i = r
      · left; rw [hG i, if_pos (Or.inl ir)]
      · by_cases io : i = o
        · left; rw [hG i, if_pos (Or.inr ⟨io, fun y => him (io.trans y)⟩)]
        · rw [gK i ir io]
          rcases h3 with c | ⟨c1, c2, c3⟩
          · exact Or.inl c
          · refine Or.inr ⟨c1, c2, ?_⟩
            rw [hB i ir io]
            rcases c3 with c3 | c3 | c3
            · exact absurd c3 ir
            · exact Or.inr (Or.inl c3)
            · by_cases b1 : B i = r
              · rw [b1, ← ho] at c3
                exact absurd c3.2.2.symm io
              · by_cases b2 : B i = o
                · left
                  rw [b2] at c3
                  have co := hm o c3.1
                  rw [if_neg co] at hs
                  rw [hs]; exact c3.2.2.symm
                · right; right
                  exact ⟨c3.1, by rw [gK _ b1 b2]; exact c3.2.1, by rw [hX _ b1 b2]; exact c3.2.2⟩
  · rcases ss with c | ⟨_, c1, c2, _, c4, c5, _⟩
    · exact Or.inl c
    · exact Or.inr ⟨c1, by rw [gK s c4 c5]; exact c2⟩
/-- the item e, without children, goes out of its list -/
theorem hs_PO_out {D D' : Int → Prop} {k G O C X B C' X' B' : Int → Int} {e b n : Int} (hD : ∀ i, D i → 0 ≤ i ∧ i < 24) (h : hs_PO D k G O C X B e (-1))
    (he : D e) (hD' : ∀ i, D' i ↔ D i ∧ i ≠ e) (ge : G e ≠ -1) (eb : b = B e) (en : n = X e)
    (hC : (C b = e ∧ C' = hs_u C b n ∧ X' = X) ∨ (C b ≠ e ∧ C' = C ∧ X' = hs_u X b n))
    (hB : (n = -1 ∧ B' = B) ∨ (n ≠ -1 ∧ B' = hs_u B n b)) : hs_PO D' k G O C' X' B' (-1) (-1) := by
  have hm : ∀ i, D i → i ≠ -1 := fun i hi => by have := hD i hi; omega
  have hem := hm e he
  have nope : ∀ i, D i → G i ≠ e := by
    intro i hi x
    rcases hs_PO_first hD h hem i hi x with c | c
    · exact hm i hi c
    · exact c.1 rfl
  obtain ⟨_, e2, e3⟩ := h e he
  obtain ⟨g1, g2, g3⟩ : D (G e) ∧ k (G e) < k e ∧ (e = -1 ∨ (B e = G e ∧ G e ≠ e ∧ C (G e) = e) ∨ (D (B e) ∧ G (B e) = G e ∧ X (B e) = e)) := by
    rcases e3 with c | c
    · exact absurd c ge
    · exact c
  have gne : G e ≠ e := nope e he
  -- back is the parent or a sibling
  have bb : (b = G e ∧ C b = e) ∨ (D b ∧ b ≠ e ∧ G b = G e ∧ X b = e ∧ C b ≠ e) := by
    rcases g3 with c | c | c
    · exact absurd c hem
    · left; rw [eb, c.1]; exact ⟨rfl, c.2.2⟩
    · right
      rw [← eb] at c
      have bne : b ≠ e := by
        intro x
        have d := (h e he).2.1 ge
        rw [x] at c
        rw [c.2.2] at d
        rcases d with d | d
        · exact hem d
        · omega
      refine ⟨c.1, bne, c.2.1, c.2.2, ?_⟩
      intro x
      rcases (h b c.1).1 bne with d | d
      · exact hem (x.symm.trans d)
      · rw [x] at d
        have y := d.2.1
        rw [← c.2.1] at y
        rcases (h b c.1).2.2 with f | f
        · exact hm b c.1 (y.symm.trans f)
        · rw [y] at f; omega
  have nn : n = -1 ∨ (D n ∧ G n = G e ∧ B n = e ∧ O n < O e) := by
    rcases e2 ge with c | c
    · exact Or.inl (en.trans c)
    · rw [← en] at c; exact Or.inr c
  have nne : n = -1 ∨ n ≠ e := by
    rcases nn with c | c
    · exact Or.inl c
    · exact Or.inr (fun x => by rw [x] at c; omega)
  have bn : n ≠ -1 → B' n = b := by
    intro x
    rcases hB with ⟨y, _⟩ | ⟨_, y⟩
    · exact absurd y x
    · rw [y]; exact hs_us
  have bo : ∀ i, D i → i ≠ n → B' i = B i := by
    intro i _ x
    rcases hB with ⟨_, y⟩ | ⟨_, y⟩
    · rw [y]
    · rw [y]; exact hs_un x
  have Dn : n ≠ -1 → D' n := by
    intro x
    rcases nn with c | c
    · exact absurd c x
    · exact (hD' n).mpr ⟨c.1, by rcases nne with d | d; exact absurd d x; exact d⟩
  have gb : ∀ i, D i → G i = i → False := by
    intro i hi x
    rcases (h i hi).2.2 with f | f
    · exact hm i hi (x.symm.trans f)
    · rw [x] at f; omega
  intro i hi'
  obtain ⟨hi, hie⟩ := (hD' i).mp hi'
  have him := hm i hi
  obtain ⟨h1, h2, h3⟩ := h i hi
  refine ⟨fun _ => ?_, fun hg => ?_, ?_⟩
  · -- children
    have old : C i ≠ e → C i = -1 ∨ (D' (C i) ∧ G (C i) = i ∧ B' (C i) = i) := by
      intro y
      rcases h1 hie with c | c
      · exact Or.inl c
      · refine Or.inr ⟨(hD' _).mpr ⟨c.1, y⟩, c.2.1, ?_⟩
        rw [bo _ c.1]
        · exact c.2.2
        · intro w
          rcases nn with d | d
          · exact hm _ c.1 (w.trans d)
          · rw [w, d.2.2.1] at c; exact hie c.2.2.symm
    rcases hC with ⟨c1, c2, _⟩ | ⟨c1, c2, _⟩
    · rw [c2]
      by_cases ib : i = b
      · rw [hs_ue ib]
        by_cases hn : n = -1
        · exact Or.inl hn
        · right
          refine ⟨Dn hn, ?_, by rw [bn hn, ib]⟩
          rcases nn with d | d
          · exact absurd d hn
          · rw [d.2.1, ib]
            rcases bb with f | f
            · exact f.1.symm
            · exact absurd c1 f.2.2.2.2
      · rw [hs_un ib]
        apply old
        intro x
        rcases h1 hie with d | d
        · exact hem (x.symm.trans d)
        · rw [x] at d
          exact ib (d.2.2.symm.trans eb.symm)
    · rw [c2]
      apply old
      intro x
      rcases h1 hie with d | d
      · exact hem (x.symm.trans d)
      · rw [x] at d
        rw [← d.2.2, ← eb] at x
        exact c1 x
  · -- next
    have old : X i ≠ e → X i = -1 ∨ (D' (X i) ∧ G (X i) = G i ∧ B' (X i) = i ∧ O (X i) < O i) := by
      intro y
      rcases h2 hg with c | c
      · exact Or.inl c
      · refine Or.inr ⟨(hD' _).mpr ⟨c.1, y⟩, c.2.1, ?_, c.2.2.2⟩
        rw [bo _ c.1]
        · exact c.2.2.1
        · intro w
          rcases nn with d | d
          · exact hm _ c.1 (w.trans d)
          · rw [w, d.2.2.1] at c; exact hie c.2.2.1.symm
    rcases hC with ⟨c1, _, c2⟩ | ⟨c1, _, c2⟩
    · rw [c2]
      apply old
      intro x
      rcases h2 hg with d | d
      · exact hem (x.symm.trans d)
      · rw [x] at d
        have ib : i = b := d.2.2.1.symm.trans eb.symm
        rcases bb with f | f
        · apply gb i hi
          rw [← d.2.1, ib]; exact f.1.symm
        · exact f.2.2.2.2 c1
    · rw [c2]
      by_cases ib : i = b
      · rw [hs_ue ib]
        by_cases hn : n = -1
        · exact Or.inl hn
        · right
          rcases nn with d | d
          · exact absurd d hn
          · rcases bb with f | f
            · exact absurd f.2 c1
            · refine ⟨Dn hn, by rw [d.2.1, ib]; exact f.2.2.1.symm, by rw [bn hn, ib], ?_⟩
              have w := (h b f.1).2.1 (by rw [f.2.2.1]; exact ge)
              rw [f.2.2.2.1] at w
              rcases w with w | w
              · exact absurd w hem
              · rw [ib]; omega
      · rw [hs_un ib]
        apply old
        intro x
        rcases h2 hg with d | d
        · exact hem (x.symm.trans d)
        · rw [x] at d
          exact ib (d.2.2.1.symm.trans eb.symm)
  · rcases h3 with c | ⟨c1, c2, c3⟩
    · exact Or.inl c
    · right
      refine ⟨(hD' _).mpr ⟨c1, nope i hi⟩, c2, Or.inr ?_⟩
      by_cases cn : i = n
      · have hn : n ≠ -1 := fun x => him (cn.trans x)
        rcases nn with d | d
        · exact absurd d hn
        · rw [cn, bn hn, d.2.1]
          rcases bb with f | f
          · left
            refine ⟨f.1, hm _ g1, ?_⟩
            rcases hC with ⟨_, x, _⟩ | ⟨x, _⟩
            · rw [x, ← f.1]; exact hs_us
            · exact absurd f.2 x
          · right
            refine ⟨(hD' b).mpr ⟨f.1, f.2.1⟩, f.2.2.1, ?_⟩
            rcases hC with ⟨x, _⟩ | ⟨_, _, x⟩
            · exact absurd x f.2.2.2.2
            · rw [x]; exact hs_us
      · rw [bo i hi cn]
        rcases c3 with c3 | c3 | c3
        · exact absurd c3 him
        · left
          refine ⟨c3.1, hm _ c1, ?_⟩
          rcases hC with ⟨x, y, _⟩ | ⟨_, y, _⟩
          · rw [y]
            by_cases w : G i = b
            · rw [← w, c3.2.2] at x; exact absurd x hie
            · rw [hs_un w]; exact c3.2.2
          · rw [y]; exact c3.2.2
        · right
          have w : B i ≠ e := fun y => cn (by rw [← c3.2.2, y]; exact en.symm)
          refine ⟨(hD' _).mpr ⟨c3.1, w⟩, c3.2.1, ?_⟩
          rcases hC with ⟨_, _, y⟩ | ⟨x0, _, y⟩
          · rw [y]; exact c3.2.2
          · rw [y]
            by_cases v : B i = b
            · rcases bb with f | f
              · exact absurd f.2 x0
              · rw [v, f.2.2.2.1] at c3; exact absurd c3.2.2.symm hie
            · rw [hs_un v]; exact c3.2.2
end HS05
end
section
section HS06
/-! engine 5: a binomial heap, pure; d: orders, G: parents, e: a root that was taken away, whose children are still to be added -/
def hs_BO (D : Int → Prop) (d G C X : Int → Int) (e : Int) : Prop := ∀ n, D n →
  0 ≤ d n ∧ d n ≤ 4 ∧
  ((C n = -1 ∧ d n = 0) ∨ (D (C n) ∧ G (C n) = n ∧ d (C n) = d n - 1)) ∧
  (G n ≠ -1 → (X n = -1 ∧ d n = 0) ∨ (D (X n) ∧ G (X n) = G n ∧ d (X n) = d n - 1)) ∧
  (G n = -1 ∨ (d n < d (G n) ∧ (G n = e ∨ D (G n)))) ∧
  (∀ m, D m → G m = G n → G n ≠ -1 → d m = d n → m = n)
def hs_BK (D : Int → Prop) (k G : Int → Int) (e : Int) : Prop := ∀ n, D n → G n = -1 ∨ G n = e ∨ k (G n) < k n
theorem hs_BO_link {D : Int → Prop} {d G C X : Int → Int} {e a b : Int} (hm : ∀ n, D n → n ≠ -1) (h : hs_BO D d G C X e)
    (ha : D a) (hb : D b) (ga : G a = -1) (gb : G b = -1) (hab : a ≠ b) (hd : d a = d b) (h3 : d a ≤ 3) :
    hs_BO D (hs_u d a (d a + 1)) (hs_u G b a) (hs_u C a b) (hs_u X b (C a)) e := by
  have hba : b ≠ a := fun x => hab x.symm
  have hnc : ∀ x n, D x → D n → G x = n → x ≠ a ∧ x ≠ b := by
    intro x n hx hn y
    refine ⟨fun w => ?_, fun w => ?_⟩
    · rw [w, ga] at y; exact hm n hn y.symm
    · rw [w, gb] at y; exact hm n hn y.symm
  intro n hn
  obtain ⟨h0, h4, hc, hx, hg, hu⟩ := h n hn
  obtain ⟨a0, a4, ac, _, _, _⟩ := h a ha
  obtain ⟨b0, b4, _, _, _, _⟩ := h b hb
  have hgx : ∀ x, G x ≠ -1 → x ≠ a ∧ x ≠ b := by
    intro x y
    exact ⟨fun w => y (by rw [w]; exact ga), fun w => y (by rw [w]; exact gb)⟩
  refine ⟨?_, ?_, ?_, ?_, ?_, ?_⟩
  · by_cases c : n = a
    · rw [hs_ue c]; omega
    · rw [hs_un c]; exact h0
  · by_cases c : n = a
    · rw [hs_ue c]; omega
    · rw [hs_un c]; exact h4
  · by_cases c : n = a
    · rw [hs_ue c, hs_ue c]
      exact Or.inr ⟨hb, hs_us.trans c.symm, by rw [hs_un hba]; omega⟩
    · rw [hs_un c, hs_un c]
      rcases hc with f | f
      · exact Or.inl f
      · have w := hnc _ n f.1 hn f.2.1
        exact Or.inr ⟨f.1, by rw [hs_un w.2]; exact f.2.1, by rw [hs_un w.1]; exact f.2.2⟩
  · intro hg'
    by_cases c : n = b
    · rw [hs_ue c, hs_ue c, c, hs_un hba]
      rcases ac with f | f
      · left; exact ⟨f.1, by omega⟩
      · right
        have w := hnc _ a f.1 ha f.2.1
        exact ⟨f.1, by rw [hs_un w.2]; exact f.2.1, by rw [hs_un w.1]; omega⟩
    · rw [hs_un c] at hg' ⊢
      have w0 := hgx n hg'
      rw [hs_un c, hs_un w0.1]
      rcases hx hg' with f | f
      · exact Or.inl f
      · right
        have w := hgx (X n) (by rw [f.2.1]; exact hg')
        exact ⟨f.1, by rw [hs_un w.2]; exact f.2.1, by rw [hs_un w.1]; exact f.2.2⟩
  · by_cases c : n = b
    · rw [hs_ue c, c, hs_un hba, hs_us]
      right; exact ⟨by omega, Or.inr ha⟩
    · rw [hs_un c]
      rcases hg with f | f
      · exact Or.inl f
      · by_cases gn : G n = -1
        · exact Or.inl gn
        right
        have w0 := hgx n gn
        rw [hs_un w0.1]
        refine ⟨?_, f.2⟩
        by_cases cg : G n = a
        · rw [hs_ue cg]; rw [cg] at f; omega
        · rw [hs_un cg]; exact f.1
  · intro m hm' e1 e2 e3
    by_cases cn : n = b
    · by_cases cm : m = b
      · rw [cm, cn]
      · exfalso
        rw [hs_ue cn, hs_un cm] at e1
        have w := hgx m (by rw [e1]; exact hm a ha)
        rw [cn, hs_un w.1, hs_un hba] at e3
        rcases (h m hm').2.2.2.2.1 with f | f
        · rw [e1] at f; exact hm a ha f
        · rw [e1] at f; omega
    · by_cases cm : m = b
      · exfalso
        rw [hs_un cn, hs_ue cm] at e1
        rw [hs_un cn] at e2
        have w := hgx n e2
        rw [cm, hs_un w.1, hs_un hba] at e3
        rcases hg with f | f
        · exact e2 f
        · rw [← e1] at f; omega
      · rw [hs_un cn, hs_un cm] at e1
        rw [hs_un cn] at e2
        have w := hgx n e2
        have w2 := hgx m (by rw [e1]; exact e2)
        rw [hs_un w.1, hs_un w2.1] at e3
        exact hu m hm' e1 e2 e3
theorem hs_BK_link {D : Int → Prop} {k G : Int → Int} {e a b : Int} (h : hs_BK D k G e) (lt : k a < k b) : hs_BK D k (hs_u G b a) e := by
  intro n hn
  by_cases c : n = b
  · rw [hs_ue c, c]; exact Or.inr (Or.inr lt)
  · rw [hs_un c]; exact h n hn
/-- the root e goes, its children wait -/
theorem hs_BO_cut {D D' : Int → Prop} {d G C X : Int → Int} {e : Int} (hm : ∀ n, D n → n ≠ -1) (h : hs_BO D d G C X (-1)) (he : D e) (ge : G e = -1)
    (hD' : ∀ i, D' i ↔ D i ∧ i ≠ e) : hs_BO D' d G C X e := by
  intro n hn
  obtain ⟨hn, hne⟩ := (hD' n).mp hn
  obtain ⟨h0, h4, hc, hx, hg, hu⟩ := h n hn
  refine ⟨h0, h4, ?_, fun y => ?_, ?_, fun m hm' => hu m ((hD' m).mp hm').1⟩
  · rcases hc with f | f
    · exact Or.inl f
    · refine Or.inr ⟨(hD' _).mpr ⟨f.1, fun x => ?_⟩, f.2⟩
      rw [x, ge] at f; exact hm n hn f.2.1.symm
  · rcases hx y with f | f
    · exact Or.inl f
    · refine Or.inr ⟨(hD' _).mpr ⟨f.1, fun x => ?_⟩, f.2⟩
      rw [x, ge] at f; exact y f.2.1.symm
  · rcases hg with f | ⟨f1, f2⟩
    · exact Or.inl f
    · by_cases gn : G n = -1
      · exact Or.inl gn
      refine Or.inr ⟨f1, ?_⟩
      by_cases c : G n = e
      · exact Or.inl c
      · right
        rcases f2 with g | g
        · exact absurd g gn
        · exact (hD' _).mpr ⟨g, c⟩
/-- the child c of the root that went becomes a root -/
theorem hs_BO_float {D : Int → Prop} {d G C X : Int → Int} {e c : Int} (hm : ∀ n, D n → n ≠ -1) (h : hs_BO D d G C X e) (hc : D c) (gc : G c = e) (hne : ¬ D e)
    (hmax : ∀ n, D n → G n = e → d n ≤ d c) : hs_BO D d (hs_u G c (-1)) C X e := by
  intro n hn
  obtain ⟨h0, h4, h5, hx, hg, hu⟩ := h n hn
  refine ⟨h0, h4, ?_, fun y => ?_, ?_, ?_⟩
  · rcases h5 with f | f
    · exact Or.inl f
    · refine Or.inr ⟨f.1, ?_, f.2.2⟩
      rw [hs_un]
      · exact f.2.1
      · intro x; rw [x, gc] at f; exact hne (by rw [f.2.1]; exact hn)
  · have nc : n ≠ c := fun x => y (hs_ue x)
    rw [hs_un nc] at y ⊢
    rcases hx y with f | f
    · exact Or.inl f
    · refine Or.inr ⟨f.1, ?_, f.2.2⟩
      rw [hs_un]
      · exact f.2.1
      · intro x
        rw [x, gc] at f
        have := hmax n hn f.2.1.symm
        omega
  · by_cases x : n = c
    · exact Or.inl (hs_ue x)
    · rw [hs_un x]; exact hg
  · intro m hm' e1 e2 e3
    have nc : n ≠ c := fun x => e2 (hs_ue x)
    rw [hs_un nc] at e1 e2
    have mc : m ≠ c := by
      intro x
      rw [hs_ue x] at e1
      exact e2 e1.symm
    rw [hs_un mc] at e1
    exact hu m hm' e1 e2 e3
/-! the items' nodes -/
def hs_PM (NI IN : Int → Int) : Prop := ∀ i, 0 ≤ i → i < 24 → 0 ≤ NI i ∧ NI i < 24 ∧ 0 ≤ IN i ∧ IN i < 24 ∧ NI (IN i) = i ∧ IN (NI i) = i
theorem hs_PM_swap {NI IN NI1 IN1 : Int → Int} {v p x y : Int} (h : hs_PM NI IN) (v0 : 0 ≤ v) (v1 : v < 24) (p0 : 0 ≤ p) (p1 : p < 24) (hvp : v ≠ p)
    (ex : NI v = x) (ey : NI p = y) (e0 : NI1 v = y) (e1 : NI1 p = x) (eo : ∀ n, n ≠ v → n ≠ p → NI1 n = NI n)
    (fx : IN1 x = p) (fy : IN1 y = v) (fo : ∀ i, i ≠ x → i ≠ y → IN1 i = IN i) : hs_PM NI1 IN1 := by
  have av := h v v0 v1
  have ap := h p p0 p1
  rw [ex] at av
  rw [ey] at ap
  intro i h0 h1
  have ai := h i h0 h1
  have n1 : 0 ≤ NI1 i ∧ NI1 i < 24 ∧ IN1 (NI1 i) = i := by
    by_cases c : i = v
    · rw [c, e0]; exact ⟨ap.1, ap.2.1, fy⟩
    · by_cases c2 : i = p
      · rw [c2, e1]; exact ⟨av.1, av.2.1, fx⟩
      · rw [eo i c c2]
        refine ⟨ai.1, ai.2.1, ?_⟩
        rw [fo (NI i) (fun z => by rw [z] at ai; omega) (fun z => by rw [z] at ai; omega)]
        exact ai.2.2.2.2.2
  have n2 : 0 ≤ IN1 i ∧ IN1 i < 24 ∧ NI1 (IN1 i) = i := by
    by_cases c : i = x
    · rw [c, fx]; exact ⟨p0, p1, e1⟩
    · by_cases c2 : i = y
      · rw [c2, fy]; exact ⟨v0, v1, e0⟩
      · rw [fo i c c2]
        refine ⟨ai.2.2.1, ai.2.2.2.1, ?_⟩
        rw [eo (IN i) (fun z => c (by rw [← ex, ← z]; exact ai.2.2.2.2.1.symm)) (fun z => c2 (by rw [← ey, ← z]; exact ai.2.2.2.2.1.symm))]
        exact ai.2.2.2.2.1
  exact ⟨n1.1, n1.2.1, n2.1, n2.2.1, n2.2.2, n1.2.2⟩
/-- item x on its way up has left node v -/
def hs_RI (D : Int → Prop) (K H G NI IN : Int → Int) (q v x : Int) : Prop :=
  hs_PM (hs_u NI v x) (hs_u IN x v) ∧ (∀ n, D n ↔ 0 ≤ n ∧ n < 24 ∧ H (hs_u NI v x n) = q) ∧
  (∀ n, D n → n ≠ v → G n ≠ -1 → G n ≠ v → K (hs_u NI v x (G n)) < K (hs_u NI v x n)) ∧
  (G v ≠ -1 → ∀ n, D n → G n = v → K (hs_u NI v x (G v)) < K (hs_u NI v x n)) ∧ D v
theorem hs_RI_step {D : Int → Prop} {K H d G C X NI IN : Int → Int} {q v x : Int} (hO : hs_BO D d G C X (-1)) (h : hs_RI D K H G NI IN q v x) (hv : G v ≠ -1) :
    hs_RI D K H G (hs_u NI v (NI (G v))) (hs_u IN (NI (G v)) v) q (G v) x ∧ 0 ≤ NI (G v) ∧ NI (G v) < 24 ∧ d v < d (G v) ∧ D (G v) := by
  obtain ⟨hP, hD, h1, h2, hDv⟩ := h
  have hg : d v < d (G v) ∧ D (G v) := by
    rcases (hO v hDv).2.2.2.2.1 with c | ⟨c, c2⟩
    · exact absurd c hv
    · rcases c2 with c2 | c2
      · exact absurd c2 hv
      · exact ⟨c, c2⟩
  obtain ⟨hdlt, hDp⟩ := hg
  have hvp : v ≠ G v := fun z => by rw [← z] at hdlt; omega
  have rv := (hD v).mp hDv
  have rp := (hD (G v)).mp hDp
  have xr := hP v rv.1 rv.2.1
  rw [hs_us] at xr rv
  have yr := hP (G v) rp.1 rp.2.1
  rw [hs_un (fun z => hvp z.symm)] at yr rp
  have hyx : NI (G v) ≠ x := by
    intro z
    rw [z, hs_us] at yr
    exact hvp yr.2.2.2.2.2
  have E : ∀ n, hs_u (hs_u NI v (NI (G v))) (G v) x n = if n = G v then x else if n = v then NI (G v) else hs_u NI v x n := by
    intro n
    by_cases c : n = G v
    · rw [if_pos c, hs_ue c]
    · rw [if_neg c, hs_un c]
      by_cases c2 : n = v
      · rw [if_pos c2, hs_ue c2]
      · rw [if_neg c2, hs_un c2, hs_un c2]
  have Ep : hs_u (hs_u NI v (NI (G v))) (G v) x (G v) = x := hs_us
  have Ev : hs_u (hs_u NI v (NI (G v))) (G v) x v = NI (G v) := by rw [hs_un hvp, hs_us]
  have Eo : ∀ n, n ≠ v → n ≠ G v → hs_u (hs_u NI v (NI (G v))) (G v) x n = hs_u NI v x n := by
    intro n c c2
    rw [hs_un c2, hs_un c, hs_un c]
  have Oy : hs_u NI v x (G v) = NI (G v) := hs_un (fun z => hvp z.symm)
  refine ⟨⟨?_, ?_, ?_, ?_, hDp⟩, yr.1, yr.2.1, hdlt, hDp⟩
  · refine hs_PM_swap (v := v) (p := G v) (x := x) (y := NI (G v)) hP rv.1 rv.2.1 rp.1 rp.2.1 hvp hs_us Oy Ev Ep Eo hs_us ?_ ?_
    · rw [hs_un hyx, hs_us]
    · intro i c c2
      rw [hs_un c, hs_un c2, hs_un c]
  · intro n
    rw [hD n]
    by_cases c : n = G v
    · rw [c, Ep, Oy]
      exact ⟨fun z => ⟨z.1, z.2.1, rv.2.2⟩, fun z => ⟨z.1, z.2.1, rp.2.2⟩⟩
    · by_cases c2 : n = v
      · rw [c2, Ev, hs_us]
        exact ⟨fun z => ⟨z.1, z.2.1, rp.2.2⟩, fun z => ⟨z.1, z.2.1, rv.2.2⟩⟩
      · rw [Eo n c2 c]
  · intro n hn c1 c2 c3
    have c4 : n ≠ v := fun z => c3 (by rw [z])
    rw [Eo n c4 c1]
    by_cases c5 : G n = v
    · rw [c5, Ev, ← Oy]
      exact h2 hv n hn c5
    · rw [Eo _ c5 c3]
      exact h1 n hn c4 c2 c5
  · intro c n hn c2
    have hg2 : d (G v) < d (G (G v)) := by
      rcases (hO (G v) hDp).2.2.2.2.1 with f | f
      · exact absurd f c
      · exact f.1
    have g1 : G (G v) ≠ v := fun z => by rw [z] at hg2; omega
    have g2 : G (G v) ≠ G v := fun z => by rw [z] at hg2; omega
    rw [Eo _ g1 g2]
    have A := h1 (G v) hDp (fun z => hvp z.symm) c g1
    rw [Oy] at A
    by_cases c3 : n = v
    · rw [c3, Ev]; exact A
    · have n2 : n ≠ G v := fun z => by rw [z] at c2; exact g2 c2
      rw [Eo n c3 n2]
      have B := h1 n hn c3 (by rw [c2]; exact hv) (by rw [c2]; exact fun z => hvp z.symm)
      rw [c2, Oy] at B
      omega
/-! the trees of a queue, as the digits of its count -/
def hs_pw (o : Int) : Int := if o = 0 then 1 else if o = 1 then 2 else if o = 2 then 4 else if o = 3 then 8 else if o = 4 then 16 else 32
def hs_b1 (x w : Int) : Int := if x = -1 then 0 else w
def hs_tv (T : Int → Int) (q : Int) : Int := hs_b1 (T (q * 5)) 1 + hs_b1 (T (q * 5 + 1)) 2 + hs_b1 (T (q * 5 + 2)) 4 + hs_b1 (T (q * 5 + 3)) 8 + hs_b1 (T (q * 5 + 4)) 16
theorem hs_b1_r (x w : Int) (h : 0 ≤ w) : 0 ≤ hs_b1 x w ∧ hs_b1 x w ≤ w := by
  unfold hs_b1; split <;> omega
theorem hs_o5 {P : Int → Prop} (h0 : P 0) (h1 : P 1) (h2 : P 2) (h3 : P 3) (h4 : P 4) : ∀ o, 0 ≤ o → o ≤ 4 → P o := by
  intro o a b
  rcases (by omega : o = 0 ∨ o = 1 ∨ o = 2 ∨ o = 3 ∨ o = 4) with e | e | e | e | e <;> subst e <;> assumption
theorem hs_tv_u (T : Int → Int) (q v : Int) : ∀ o, 0 ≤ o → o ≤ 4 → hs_tv (hs_u T (q * 5 + o) v) q = hs_tv T q + (hs_b1 v (hs_pw o) - hs_b1 (T (q * 5 + o)) (hs_pw o)) := by
  refine hs_o5 ?_ ?_ ?_ ?_ ?_
  · unfold hs_tv
    rw [hs_ue (by omega : q * 5 = q * 5 + 0), hs_un (by omega), hs_un (by omega), hs_un (by omega), hs_un (by omega), Int.add_zero]
    show _ = _ + (hs_b1 v 1 - hs_b1 (T (q * 5)) 1)
    omega
  · unfold hs_tv
    rw [hs_un (by omega), hs_us, hs_un (by omega), hs_un (by omega), hs_un (by omega)]
    show _ = _ + (hs_b1 v 2 - hs_b1 (T (q * 5 + 1)) 2)
    omega
  · unfold hs_tv
    rw [hs_un (by omega), hs_un (by omega), hs_us, hs_un (by omega), hs_un (by omega)]
    show _ = _ + (hs_b1 v 4 - hs_b1 (T (q * 5 + 2)) 4)
    omega
  · unfold hs_tv
    rw [hs_un (by omega), hs_un (by omega), hs_un (by omega), hs_us, hs_un (by omega)]
    show _ = _ + (hs_b1 v 8 - hs_b1 (T (q * 5 + 3)) 8)
    omega
  · unfold hs_tv
    rw [hs_un (by omega), hs_un (by omega), hs_un (by omega), hs_un (by omega), hs_us]
    show _ = _ + (hs_b1 v 16 - hs_b1 (T (q * 5 + 4)) 16)
    omega
theorem hs_tv_r (T : Int → Int) (q : Int) : 0 ≤ hs_tv T q := by
  unfold hs_tv
  have h0 := hs_b1_r (T (q * 5)) 1 (by omega)
  have h1 := hs_b1_r (T (q * 5 + 1)) 2 (by omega)
  have h2 := hs_b1_r (T (q * 5 + 2)) 4 (by omega)
  have h3 := hs_b1_r (T (q * 5 + 3)) 8 (by omega)
  have h4 := hs_b1_r (T (q * 5 + 4)) 16 (by omega)
  omega
theorem hs_pw_s : ∀ o, 0 ≤ o → o ≤ 4 → hs_pw (o + 1) = hs_pw o + hs_pw o ∧ 1 ≤ hs_pw o :=
  hs_o5 (by decide) (by decide) (by decide) (by decide) (by decide)
end HS06
end
section
section HS07
/-! the leaning tree of a queue -/
def hs_LD (H : Int → Int) (w q n : Int) : Prop := w * 24 ≤ n ∧ n < w * 24 + 24 ∧ H (n - w * 24) = q
def hs_Lk (K : Int → Int) (w n : Int) : Int := K (n - w * 24)
def hs_LT (K H T L R U N : Int → Int) (w q : Int) : Prop :=
  hs_LO (hs_LD H w q) (hs_Lk K w) U L R (-1) ∧
  (∀ n, hs_LD H w q n → U n = -1 → T (w * 4 + q) = n) ∧
  (T (w * 4 + q) = -1 ∨ (hs_LD H w q (T (w * 4 + q)) ∧ U (T (w * 4 + q)) = -1)) ∧
  (w = 0 → ∀ n, hs_LD H w q n → hs_LK L R N n)
theorem hs_LO_congr {D D' : Int → Prop} {k k' G G' L L' R R' : Int → Int} {e : Int} (h : hs_LO D k G L R e) (hD : ∀ n, D' n ↔ D n) (hk : ∀ n, D n → k' n = k n)
    (hG : ∀ n, D n → G' n = G n) (hL : ∀ n, D n → L' n = L n) (hR : ∀ n, D n → R' n = R n) : hs_LO D' k' G' L' R' e := by
  intro n hn
  have hn := (hD n).mp hn
  obtain ⟨h1, h2⟩ := h n hn
  refine ⟨fun he => ?_, ?_⟩
  · obtain ⟨a, b, c⟩ := h1 he
    rw [hL n hn, hR n hn]
    refine ⟨?_, ?_, c⟩
    · rcases a with a | a
      · exact Or.inl a
      · exact Or.inr ⟨(hD _).mpr a.1, by rw [hG _ a.1]; exact a.2⟩
    · rcases b with a | a
      · exact Or.inl a
      · exact Or.inr ⟨(hD _).mpr a.1, by rw [hG _ a.1]; exact a.2⟩
  · rw [hG n hn]
    rcases h2 with a | ⟨a1, a2, a3, a4⟩
    · exact Or.inl a
    · refine Or.inr ⟨(hD _).mpr a1, a2, by rw [hk _ a1, hk n hn]; exact a3, ?_⟩
      rw [hL _ a1, hR _ a1]; exact a4
theorem hs_LK_congr {D : Int → Prop} {L L' R R' N N' : Int → Int} {n : Int} (hL : L' n = L n) (hR : R' n = R n) (hN : ∀ n, D n → N' n = N n) (hn : D n) (dl : L n = -1 ∨ D (L n)) (dr : R n = -1 ∨ D (R n)) (h : hs_LK L R N n) : hs_LK L' R' N' n := by
  refine (hs_LK_eq hL hR (hN n hn) ?_ ?_).mpr h
  · rcases dl with c | c
    · exact Or.inl c
    · exact Or.inr (hN _ c)
  · rcases dr with c | c
    · exact Or.inl c
    · exact Or.inr (hN _ c)
theorem hs_LO_ch {D : Int → Prop} {k G L R : Int → Int} {e n : Int} (h : hs_LO D k G L R e) (hn : D n) (he : n ≠ e) : (L n = -1 ∨ D (L n)) ∧ (R n = -1 ∨ D (R n)) := by
  obtain ⟨a, b, _⟩ := (h n hn).1 he
  refine ⟨?_, ?_⟩
  · rcases a with c | c
    · exact Or.inl c
    · exact Or.inr c.1
  · rcases b with c | c
    · exact Or.inl c
    · exact Or.inr c.1
theorem hs_LD_m {H : Int → Int} {w q : Int} (hw : 0 ≤ w) : ∀ n, hs_LD H w q n → n ≠ -1 := by
  intro n h
  have := h.1
  omega
theorem hs_Lk_inj {K H : Int → Int} {w : Int} (hK : hs_Inj K) {n m : Int} (h0 : w * 24 ≤ n) (h1 : n < w * 24 + 24) (h2 : w * 24 ≤ m) (h3 : m < w * 24 + 24) (h : hs_Lk K w n = hs_Lk K w m) : n = m := by
  have := hK (n - w * 24) (m - w * 24) (by omega) (by omega) (by omega) (by omega) h
  omega
theorem hs_LT_congr {K K' H H' T T' L L' R R' U U' N N' : Int → Int} {w q : Int} (hw : 0 ≤ w) (h : hs_LT K H T L R U N w q)
    (hH : ∀ i, 0 ≤ i → i < 24 → (H' i = q ↔ H i = q)) (hK : ∀ i, 0 ≤ i → i < 24 → H i = q → K' i = K i)
    (hT : T' (w * 4 + q) = T (w * 4 + q)) (hL : ∀ n, hs_LD H w q n → L' n = L n) (hR : ∀ n, hs_LD H w q n → R' n = R n)
    (hU : ∀ n, hs_LD H w q n → U' n = U n) (hN : ∀ n, hs_LD H w q n → N' n = N n) : hs_LT K' H' T' L' R' U' N' w q := by
  obtain ⟨h1, h2, h3, h4⟩ := h
  have hD : ∀ n, hs_LD H' w q n ↔ hs_LD H w q n := by
    intro n
    constructor
    · intro c; exact ⟨c.1, c.2.1, (hH _ (by have := c.1; omega) (by have := c.2.1; omega)).mp c.2.2⟩
    · intro c; exact ⟨c.1, c.2.1, (hH _ (by have := c.1; omega) (by have := c.2.1; omega)).mpr c.2.2⟩
  refine ⟨hs_LO_congr h1 hD (fun n c => hK _ (by have := c.1; omega) (by have := c.2.1; omega) c.2.2) hU hL hR, ?_, ?_, ?_⟩
  · intro n hn c
    have hn := (hD n).mp hn
    rw [hU n hn] at c
    rw [hT]; exact h2 n hn c
  · rw [hT]
    rcases h3 with c | c
    · exact Or.inl c
    · exact Or.inr ⟨(hD _).mpr c.1, by rw [hU _ c.1]; exact c.2⟩
  · intro hz n hn
    have hn := (hD n).mp hn
    have c := hs_LO_ch h1 hn (hs_LD_m hw n hn)
    exact hs_LK_congr (hL n hn) (hR n hn) hN hn c.1 c.2 (h4 hz n hn)
theorem hs_LT_mn {K H T L R U N : Int → Int} {w q : Int} (hw : 0 ≤ w) (h : hs_LT K H T L R U N w q) :
    hs_mn K H q (if T (w * 4 + q) = -1 then -1 else T (w * 4 + q) - w * 24) := by
  obtain ⟨h1, h2, h3, h4⟩ := h
  have main : ∀ (m : Nat) (n : Int), hs_LD H w q n → hs_rk K (n - w * 24) ≤ m → T (w * 4 + q) ≠ -1 ∧ hs_Lk K w (T (w * 4 + q)) ≤ hs_Lk K w n := by
    intro m
    induction m with
    | zero =>
      intro n hn hr
      rcases (h1 n hn).2 with c | c
      · rw [h2 n hn c]; exact ⟨hs_LD_m hw n hn, Int.le_refl _⟩
      · have a := hs_rk_lt (f := K) (i := U n - w * 24) (j := n - w * 24) (by have := c.1.1; omega) (by have := c.1.2.1; omega) c.2.2.1
        have b := hs_rk_r K (i := U n - w * 24) (by have := c.1.1; omega) (by have := c.1.2.1; omega)
        omega
    | succ m ih =>
      intro n hn hr
      rcases (h1 n hn).2 with c | c
      · rw [h2 n hn c]; exact ⟨hs_LD_m hw n hn, Int.le_refl _⟩
      · have a := hs_rk_lt (f := K) (i := U n - w * 24) (j := n - w * 24) (by have := c.1.1; omega) (by have := c.1.2.1; omega) c.2.2.1
        have b := ih (U n) c.1 (by omega)
        have d := c.2.2.1
        exact ⟨b.1, by omega⟩
  have all : ∀ i, 0 ≤ i → i < 24 → H i = q → T (w * 4 + q) ≠ -1 ∧ hs_Lk K w (T (w * 4 + q)) ≤ K i := by
    intro i a b c
    have e : w * 24 + i - w * 24 = i := by omega
    have r := hs_rk_r K (i := i) a b
    have := main 23 (w * 24 + i) ⟨by omega, by omega, by rw [e]; exact c⟩ (by rw [e]; omega)
    unfold hs_Lk at this ⊢
    rw [e] at this
    exact this
  by_cases c : T (w * 4 + q) = -1
  · rw [if_pos c]
    exact Or.inl ⟨rfl, fun i a b d => (all i a b d).1 c⟩
  · rw [if_neg c]
    rcases h3 with d | d
    · exact absurd d c
    · exact Or.inr ⟨by have := d.1.1; omega, by have := d.1.2.1; omega, d.1.2.2, fun i a b e => (all i a b e).2⟩
/-- what a meld gives -/
def hs_ME (z : Int) (D Z : Int → Prop) (k G0 G L R U N : Int → Int) (e a b r : Int) : Prop :=
  hs_LO D k G L R e ∧ (∀ n, D n → U n = G n) ∧ ((r = -1 ∧ a = -1 ∧ b = -1) ∨ (D r ∧ G r = -1 ∧ (r = a ∨ r = b))) ∧
  (∀ n, D n → G n = -1 → n = r ∨ Z n) ∧ (∀ n, Z n → G n = -1 ∧ n ≠ r) ∧
  (z = 0 → ∀ n, D n → n ≠ e → hs_LK L R N n) ∧ (e = -1 ∨ G e = G0 e)
/-- a new node beside the tree of its queue -/
theorem hs_LT_add {K H T L R U N : Int → Int} {w q i : Int} (hw : 0 ≤ w) (h : hs_LT K H T L R U N w q) (i0 : 0 ≤ i) (i1 : i < 24) (hi : H i ≠ q) :
    hs_MI w (hs_LD (hs_u H i q) w q) (fun _ => False) (fun _ => False) (hs_Lk K w) (hs_u U (w * 24 + i) (-1)) (hs_u L (w * 24 + i) (-1)) (hs_u R (w * 24 + i) (-1)) (hs_u U (w * 24 + i) (-1)) (hs_u N (w * 24 + i) 1) (-1) (-1) (-1) (T (w * 4 + q)) (w * 24 + i) := by
  obtain ⟨h1, h2, h3, h4⟩ := h
  have hnew : hs_LD (hs_u H i q) w q (w * 24 + i) := ⟨by omega, by omega, hs_ue (by omega)⟩
  have hold : ∀ n, hs_LD H w q n → hs_LD (hs_u H i q) w q n ∧ n ≠ w * 24 + i := by
    intro n hn
    have hne : n - w * 24 ≠ i := fun x => hi (by rw [← x]; exact hn.2.2)
    exact ⟨⟨hn.1, hn.2.1, by rw [hs_un hne]; exact hn.2.2⟩, by omega⟩
  have hinv : ∀ n, hs_LD (hs_u H i q) w q n → n ≠ w * 24 + i → hs_LD H w q n := by
    intro n hn c
    refine ⟨hn.1, hn.2.1, ?_⟩
    have := hn.2.2
    rw [hs_un (by omega)] at this
    exact this
  have hm := hs_LD_m (H := hs_u H i q) (q := q) hw
  refine ⟨?_, ?_, ?_, ?_, ?_, ?_, ?_, Or.inl rfl, Or.inl ⟨rfl, rfl⟩, ?_, fun n c => c.elim, ?_⟩
  · intro n hn
    have n1 : n ≠ -1 := hm n hn
    by_cases c : n = w * 24 + i
    · refine ⟨fun _ => ⟨Or.inl (hs_ue c), Or.inl (by rw [hs_un n1]; exact hs_ue c), fun _ => hs_ue c⟩, Or.inl (hs_ue c)⟩
    · have ho := hinv n hn c
      obtain ⟨a, b⟩ := h1 n ho
      rw [hs_un c, hs_un n1, hs_un c, hs_un c]
      obtain ⟨a1, a2, a3⟩ := a n1
      refine ⟨fun _ => ⟨?_, ?_, a3⟩, ?_⟩
      · rcases a1 with d | d
        · exact Or.inl d
        · have g := hold _ d.1
          exact Or.inr ⟨g.1, by rw [hs_un g.2]; exact d.2⟩
      · rcases a2 with d | d
        · exact Or.inl d
        · have g := hold _ d.1
          exact Or.inr ⟨g.1, by rw [hs_un g.2]; exact d.2⟩
      · rcases b with d | ⟨d1, d2, d3, d4⟩
        · exact Or.inl d
        · have g := hold _ d1
          exact Or.inr ⟨g.1, d2, d3, by rw [hs_un g.2, hs_un d2, hs_un g.2]; exact d4⟩
  · rcases h3 with c | c
    · exact Or.inl c
    · have g := hold _ c.1
      exact Or.inr ⟨g.1, by rw [hs_un g.2]; exact c.2, Or.inl rfl, Or.inl rfl⟩
  · exact Or.inr ⟨hnew, hs_us, Or.inl rfl, Or.inl rfl⟩
  · intro x
    rcases h3 with c | c
    · exact c
    · exact absurd x (hold _ c.1).2
  · intro n _ _ _; rfl
  · exact ⟨fun n c => c.elim, fun n m c => c.elim, fun n c => c.elim⟩
  · exact fun n c => c.elim
  · intro n hn c
    by_cases d : n = w * 24 + i
    · exact Or.inr (Or.inr (Or.inl d))
    · rw [hs_un d] at c
      exact Or.inr (Or.inl (h2 n (hinv n hn d) c).symm)
  · intro hz n hn _ hbad
    apply hbad
    by_cases c : n = w * 24 + i
    · unfold hs_LK
      rw [hs_ue c, hs_ue c, hs_ue c]
      refine ⟨?_, by unfold hs_rank; rw [if_pos rfl]; rfl⟩
      unfold hs_rank
      rw [if_pos rfl]
      exact Int32.lt_irrefl
    · have ho := hinv n hn c
      have d := hs_LO_ch h1 ho (hs_LD_m hw n ho)
      exact hs_LK_congr (D := hs_LD H w q) (hs_un c) (hs_un c) (fun m hm' => hs_un (hold m hm').2) ho d.1 d.2 (h4 hz n ho)
theorem hs_LT_of {K H T L R U N G0 G : Int → Int} {w q a b r : Int} (hw : 0 ≤ w) (h : hs_ME w (hs_LD H w q) (fun _ => False) (hs_Lk K w) G0 G L R U N (-1) a b r) (hT : T (w * 4 + q) = r) : hs_LT K H T L R U N w q := by
  obtain ⟨h1, h2, h3, h4, h5, h6, _⟩ := h
  refine ⟨hs_LO_congr h1 (fun _ => Iff.rfl) (fun _ _ => rfl) h2 (fun _ _ => rfl) (fun _ _ => rfl), ?_, ?_, fun hz n hn => h6 hz n hn (hs_LD_m hw n hn)⟩
  · intro n hn c
    rw [h2 n hn] at c
    rcases h4 n hn c with d | d
    · rw [hT, d]
    · exact d.elim
  · rw [hT]
    rcases h3 with c | c
    · exact Or.inl c.1
    · exact Or.inr ⟨c.1, by rw [h2 _ c.1]; exact c.2.1⟩
/-- the children of a node that goes -/
theorem hs_LT_drop {K H T L R U N : Int → Int} {w q i : Int} (hw : 0 ≤ w) (h : hs_LT K H T L R U N w q) (i0 : 0 ≤ i) (i1 : i < 24) (hi : H i = q) :
    hs_MI w (hs_LD H w q) (fun _ => False) (fun n => n = T (w * 4 + q)) (hs_Lk K w) (fun n => if n = L (w * 24 + i) ∨ n = R (w * 24 + i) then -1 else U n) L R U N (w * 24 + i) (-1) (-1) (L (w * 24 + i)) (R (w * 24 + i)) := by
  obtain ⟨h1, h2, h3, h4⟩ := h
  have hm := hs_LD_m (H := H) (q := q) hw
  have hD : hs_LD H w q (w * 24 + i) := ⟨by omega, by omega, by rw [show w * 24 + i - w * 24 = i by omega]; exact hi⟩
  obtain ⟨⟨c1, c2, c3⟩, cU⟩ : ((L (w * 24 + i) = -1 ∨ (hs_LD H w q (L (w * 24 + i)) ∧ U (L (w * 24 + i)) = w * 24 + i)) ∧ (R (w * 24 + i) = -1 ∨ (hs_LD H w q (R (w * 24 + i)) ∧ U (R (w * 24 + i)) = w * 24 + i)) ∧ (L (w * 24 + i) = R (w * 24 + i) → L (w * 24 + i) = -1)) ∧ _ := ⟨(h1 _ hD).1 (hm _ hD), (h1 _ hD).2⟩
  generalize hE : w * 24 + i = E at *
  have kid : ∀ n, hs_LD H w q n → (n = L E ∨ n = R E) → U n = E ∧ hs_Lk K w E < hs_Lk K w n := by
    intro n hn x
    have u : U n = E := by
      rcases x with x | x
      · rcases c1 with c | c
        · exact absurd (x.trans c) (hm n hn)
        · rw [x]; exact c.2
      · rcases c2 with c | c
        · exact absurd (x.trans c) (hm n hn)
        · rw [x]; exact c.2
    refine ⟨u, ?_⟩
    rcases (h1 n hn).2 with c | c
    · rw [u] at c; exact absurd c (hm E hD)
    · rw [u] at c; exact c.2.2.1
  have gk : ∀ n, (n = L E ∨ n = R E) → (fun n => if n = L E ∨ n = R E then -1 else U n) n = -1 := fun n x => if_pos x
  have go : ∀ n, ¬ (n = L E ∨ n = R E) → (fun n => if n = L E ∨ n = R E then -1 else U n) n = U n := fun n x => if_neg x
  refine ⟨?_, ?_, ?_, c3, ?_, ?_, fun n c => c.elim, Or.inl rfl, Or.inl ⟨rfl, rfl⟩, ?_, ?_, ?_⟩
  · intro n hn
    have n1 : n ≠ -1 := hm n hn
    obtain ⟨a, b⟩ := h1 n hn
    obtain ⟨a1, a2, a3⟩ := a n1
    rw [hs_un n1]
    have key : n ≠ E → ∀ x, hs_LD H w q x → U x = n → (fun n => if n = L E ∨ n = R E then -1 else U n) x = n := by
      intro he x hx y
      rw [go x]
      · exact y
      · intro z
        exact he (y.symm.trans (kid x hx z).1)
    refine ⟨fun he => ⟨?_, ?_, a3⟩, ?_⟩
    · rcases a1 with d | d
      · exact Or.inl d
      · exact Or.inr ⟨d.1, key he _ d.1 d.2⟩
    · rcases a2 with d | d
      · exact Or.inl d
      · exact Or.inr ⟨d.1, key he _ d.1 d.2⟩
    · by_cases x : n = L E ∨ n = R E
      · exact Or.inl (gk n x)
      · rw [go n x]
        rcases b with d | ⟨d1, d2, d3, d4⟩
        · exact Or.inl d
        · right
          refine ⟨d1, ?_, d3, by rw [hs_un d2]; exact d4⟩
          intro y
          rw [y] at d4
          apply x
          rcases d4 with f | f
          · exact Or.inl f.symm
          · exact Or.inr f.symm
  · rcases c1 with c | c
    · exact Or.inl c
    · exact Or.inr ⟨c.1, gk _ (Or.inl rfl), Or.inr (kid _ c.1 (Or.inl rfl)).2, Or.inl rfl⟩
  · rcases c2 with c | c
    · exact Or.inl c
    · exact Or.inr ⟨c.1, gk _ (Or.inr rfl), Or.inr (kid _ c.1 (Or.inr rfl)).2, Or.inl rfl⟩
  · intro n hn x y
    exact (go n (fun z => z.elim x y)).symm
  · exact ⟨fun n c => c.elim, fun n m c => c.elim, fun n c => c.elim⟩
  · intro n hn c
    by_cases x : n = L E ∨ n = R E
    · rcases x with x | x
      · exact Or.inr (Or.inl x)
      · exact Or.inr (Or.inr (Or.inl x))
    · rw [go n x] at c
      exact Or.inr (Or.inr (Or.inr (h2 n hn c).symm))
  · intro n hn
    rcases h3 with c | c
    · exfalso
      have : U E = -1 ∨ U E ≠ -1 := by omega
      have main := hs_LT_mn hw ⟨h1, h2, Or.inl c, h4⟩
      rw [if_pos c] at main
      rcases main with f | f
      · exact f.2 i i0 i1 hi
      · omega
    · have hx : ¬ (n = L E ∨ n = R E) := by
        intro x
        rw [← hn] at c
        have := (kid n c.1 x).1
        rw [c.2] at this
        exact hm E hD this.symm
      rw [← hn] at c
      refine ⟨c.1, by rw [go n hx]; exact c.2, fun x => hx (Or.inl x), fun x => hx (Or.inr x), hm n c.1⟩
  · intro hz n hn _ hbad
    exact absurd (h4 hz n hn) hbad
/-- the root went: what was melded of its children is the tree -/
theorem hs_LT_drop0 {K H T T' L R U N G0 G : Int → Int} {w q i a b r : Int} (hw : 0 ≤ w)
    (h : hs_ME w (hs_LD H w q) (fun n => n = T (w * 4 + q)) (hs_Lk K w) G0 G L R U N (w * 24 + i) a b r) (i0 : 0 ≤ i) (i1 : i < 24) (hi : H i = q)
    (hr : T (w * 4 + q) = w * 24 + i) (hT : T' (w * 4 + q) = r) (hq : q ≠ -1) : hs_LT K (hs_u H i (-1)) T' L R U N w q := by
  obtain ⟨h1, h2, h3, h4, h5, h6, _⟩ := h
  have hm := hs_LD_m (H := H) (q := q) hw
  have hD : ∀ n, hs_LD (hs_u H i (-1)) w q n ↔ hs_LD H w q n ∧ n ≠ w * 24 + i := by
    intro n
    constructor
    · intro c
      have hne : n - w * 24 ≠ i := fun x => by have := c.2.2; rw [hs_ue x] at this; exact hq this.symm
      exact ⟨⟨c.1, c.2.1, by have := c.2.2; rw [hs_un hne] at this; exact this⟩, by omega⟩
    · intro c
      exact ⟨c.1.1, c.1.2.1, by rw [hs_un (by omega)]; exact c.1.2.2⟩
  have gE : G (w * 24 + i) = -1 := (h5 _ hr.symm).1
  refine ⟨?_, ?_, ?_, ?_⟩
  · intro n hn
    obtain ⟨hn, hne⟩ := (hD n).mp hn
    obtain ⟨a1, a2⟩ := h1 n hn
    obtain ⟨b1, b2, b3⟩ := a1 hne
    refine ⟨fun _ => ⟨?_, ?_, b3⟩, ?_⟩
    · rcases b1 with c | c
      · exact Or.inl c
      · exact Or.inr ⟨(hD _).mpr ⟨c.1, fun x => by rw [x, gE] at c; exact hm n hn c.2.symm⟩, by rw [h2 _ c.1]; exact c.2⟩
    · rcases b2 with c | c
      · exact Or.inl c
      · exact Or.inr ⟨(hD _).mpr ⟨c.1, fun x => by rw [x, gE] at c; exact hm n hn c.2.symm⟩, by rw [h2 _ c.1]; exact c.2⟩
    · rw [h2 n hn]
      rcases a2 with c | ⟨c1, c2, c3⟩
      · exact Or.inl c
      · exact Or.inr ⟨(hD _).mpr ⟨c1, c2⟩, hm _ c1, c3⟩
  · intro n hn c
    obtain ⟨hn, hne⟩ := (hD n).mp hn
    rw [h2 n hn] at c
    rcases h4 n hn c with d | d
    · rw [hT, d]
    · exact absurd (d.trans hr) hne
  · rw [hT]
    rcases h3 with c | c
    · exact Or.inl c.1
    · have := (h5 _ hr.symm).2
      exact Or.inr ⟨(hD _).mpr ⟨c.1, fun x => this x.symm⟩, by rw [h2 _ c.1]; exact c.2.1⟩
  · intro hz n hn
    obtain ⟨hn, hne⟩ := (hD n).mp hn
    exact h6 hz n hn hne
/-- what was melded of its children stands in its place -/
theorem hs_LT_drop1 {K H T L R U N G0 G L2 R2 U2 : Int → Int} {w q i a b r p : Int} (hw : 0 ≤ w)
    (h : hs_ME w (hs_LD H w q) (fun n => n = T (w * 4 + q)) (hs_Lk K w) G0 G L R U N (w * 24 + i) a b r) (i0 : 0 ≤ i) (i1 : i < 24) (hi : H i = q)
    (hq : q ≠ -1) (hp : p = G (w * 24 + i)) (hp1 : p ≠ -1) (hk : r = -1 ∨ hs_Lk K w (w * 24 + i) < hs_Lk K w r)
    (hT : T (w * 4 + q) = -1 ∨ hs_LD H w q (T (w * 4 + q)))
    (hLR : (L p = w * 24 + i ∧ L2 = hs_u L p r ∧ R2 = R) ∨ (L p ≠ w * 24 + i ∧ L2 = L ∧ R2 = hs_u R p r))
    (hU : (r = -1 ∧ U2 = U) ∨ (r ≠ -1 ∧ U2 = hs_u U r p)) :
    hs_LI w (hs_LD (hs_u H i (-1)) w q) (fun _ => False) (hs_Lk K w) U2 L2 R2 N (-1) p ∧
    (∀ n, hs_LD (hs_u H i (-1)) w q n → U2 n = -1 → T (w * 4 + q) = n) ∧
    (T (w * 4 + q) = -1 ∨ (hs_LD (hs_u H i (-1)) w q (T (w * 4 + q)) ∧ U2 (T (w * 4 + q)) = -1)) ∧
    hs_LD (hs_u H i (-1)) w q p ∧ (r = -1 ∨ hs_LD (hs_u H i (-1)) w q r) := by
  obtain ⟨h1, h2, h3, h4, h5, h6, _⟩ := h
  have hm := hs_LD_m (H := H) (q := q) hw
  have hD : ∀ n, hs_LD (hs_u H i (-1)) w q n ↔ hs_LD H w q n ∧ n ≠ w * 24 + i := by
    intro n
    constructor
    · intro c
      have hne : n - w * 24 ≠ i := fun x => by have := c.2.2; rw [hs_ue x] at this; exact hq this.symm
      exact ⟨⟨c.1, c.2.1, by have := c.2.2; rw [hs_un hne] at this; exact this⟩, by omega⟩
    · intro c
      exact ⟨c.1.1, c.1.2.1, by rw [hs_un (by omega)]; exact c.1.2.2⟩
  have hDE : hs_LD H w q (w * 24 + i) := ⟨by omega, by omega, by rw [show w * 24 + i - w * 24 = i by omega]; exact hi⟩
  generalize hE : w * 24 + i = E at *
  obtain ⟨p1, p2, p3, p4⟩ : hs_LD H w q p ∧ p ≠ E ∧ hs_Lk K w p < hs_Lk K w E ∧ (L p = E ∨ R p = E) := by
    rcases (h1 E hDE).2 with c | c
    · exact absurd (hp.trans c) hp1
    · rw [← hp] at c; exact c
  have hr : r = -1 ∨ (hs_LD H w q r ∧ G r = -1 ∧ r ≠ E ∧ r ≠ p) := by
    rcases h3 with c | c
    · exact Or.inl c.1
    · rcases hk with d | d
      · exact absurd d (hm _ c.1)
      · refine Or.inr ⟨c.1, c.2.1, fun x => by rw [x] at d; omega, fun x => by rw [x] at d; omega⟩
  have hnr : ∀ n, hs_LD H w q n → G n ≠ -1 → n ≠ r := by
    intro n hn x y
    rcases hr with c | c
    · exact hm n hn (y.trans c)
    · rw [y] at x; exact x c.2.1
  have uo : ∀ n, hs_LD H w q n → n ≠ r → U2 n = G n := by
    intro n hn x
    rcases hU with ⟨_, y⟩ | ⟨_, y⟩
    · rw [y]; exact h2 n hn
    · rw [y, hs_un x]; exact h2 n hn
  have ur : r ≠ -1 → U2 r = p := by
    intro x
    rcases hU with ⟨y, _⟩ | ⟨_, y⟩
    · exact absurd y x
    · rw [y]; exact hs_us
  have lo : ∀ n, n ≠ p → L2 n = L n ∧ R2 n = R n := by
    intro n x
    rcases hLR with ⟨_, y, z⟩ | ⟨_, y, z⟩
    · rw [y, z]; exact ⟨hs_un x, rfl⟩
    · rw [y, z]; exact ⟨rfl, hs_un x⟩
  obtain ⟨b1, b2, b3⟩ := (h1 p p1).1 p2
  have kidp : ∀ x, hs_LD H w q x → G x = p → x ≠ E → hs_LD (hs_u H i (-1)) w q x ∧ U2 x = p := by
    intro x hx y z
    exact ⟨(hD x).mpr ⟨hx, z⟩, by rw [uo x hx (hnr x hx (by rw [y]; exact hp1))]; exact y⟩
  have kidr : r = -1 ∨ (hs_LD (hs_u H i (-1)) w q r ∧ U2 r = p) := by
    rcases hr with c | c
    · exact Or.inl c
    · exact Or.inr ⟨(hD r).mpr ⟨c.1, c.2.2.1⟩, ur (hm r c.1)⟩
  have hEm : E ≠ -1 := hm E hDE
  refine ⟨⟨?_, Or.inr ⟨(hD p).mpr ⟨p1, p2⟩, Or.inr ⟨fun _ c => c, rfl⟩⟩, ?_⟩, ?_, ?_, (hD p).mpr ⟨p1, p2⟩, ?_⟩
  · intro n hn
    obtain ⟨hn, hne⟩ := (hD n).mp hn
    obtain ⟨a1, a2⟩ := h1 n hn
    obtain ⟨c1, c2, c3⟩ := a1 hne
    refine ⟨fun _ => ?_, ?_⟩
    · by_cases cp : n = p
      · rw [cp]
        rcases hLR with ⟨x, y, z⟩ | ⟨x, y, z⟩
        · rw [y, z, hs_us]
          have hRp : R p ≠ E := fun v => hEm (by rw [← x]; exact b3 (x.trans v.symm))
          have k2 : R p = -1 ∨ (hs_LD (hs_u H i (-1)) w q (R p) ∧ U2 (R p) = p) := by
            rcases b2 with d | d
            · exact Or.inl d
            · exact Or.inr (kidp _ d.1 d.2 hRp)
          refine ⟨kidr, k2, ?_⟩
          intro v
          rcases hr with d | d
          · exact d
          · rcases b2 with f | f
            · exact v.trans f
            · rw [← v, d.2.1] at f; exact absurd f.2.symm hp1
        · rw [y, z, hs_us]
          have k2 : L p = -1 ∨ (hs_LD (hs_u H i (-1)) w q (L p) ∧ U2 (L p) = p) := by
            rcases b1 with d | d
            · exact Or.inl d
            · exact Or.inr (kidp _ d.1 d.2 x)
          refine ⟨k2, kidr, ?_⟩
          intro v
          rcases b1 with f | f
          · exact f
          · rcases hr with d | d
            · exact v.trans d
            · rw [v, d.2.1] at f; exact absurd f.2.symm hp1
      · rw [(lo n cp).1, (lo n cp).2]
        have key : ∀ x, hs_LD H w q x → G x = n → hs_LD (hs_u H i (-1)) w q x ∧ U2 x = n := by
          intro x hx y
          refine ⟨(hD x).mpr ⟨hx, fun v => ?_⟩, by rw [uo x hx (hnr x hx (by rw [y]; exact hm n hn))]; exact y⟩
          rw [v, ← hp] at y; exact cp y.symm
        refine ⟨?_, ?_, c3⟩
        · rcases c1 with d | d
          · exact Or.inl d
          · exact Or.inr (key _ d.1 d.2)
        · rcases c2 with d | d
          · exact Or.inl d
          · exact Or.inr (key _ d.1 d.2)
    · by_cases cr : n = r
      · have r1 : r ≠ -1 := fun x => hm n hn (cr.trans x)
        rw [cr, ur r1]
        right
        refine ⟨(hD p).mpr ⟨p1, p2⟩, hp1, ?_, ?_⟩
        · rcases hk with d | d
          · exact absurd d r1
          · omega
        · rcases hLR with ⟨_, y, _⟩ | ⟨_, _, z⟩
          · left; rw [y]; exact hs_us
          · right; rw [z]; exact hs_us
      · rw [uo n hn cr]
        rcases a2 with d | ⟨d1, d2, d3, d4⟩
        · exact Or.inl d
        · right
          refine ⟨(hD _).mpr ⟨d1, d2⟩, hm _ d1, d3, ?_⟩
          by_cases cp : G n = p
          · rw [cp] at d4 ⊢
            rcases hLR with ⟨x, y, z⟩ | ⟨x, y, z⟩
            · right; rw [z]
              rcases d4 with f | f
              · rw [x] at f; exact absurd f.symm hne
              · exact f
            · left; rw [y]
              rcases d4 with f | f
              · exact f
              · exfalso
                rcases p4 with g | g
                · exact x g
                · rw [g] at f; exact hne f.symm
          · rw [(lo _ cp).1, (lo _ cp).2]; exact d4
  · intro hz n hn _ hbad
    obtain ⟨hn, hne⟩ := (hD n).mp hn
    refine ⟨hp1, Or.inr ?_⟩
    apply Classical.byContradiction
    intro cp
    apply hbad
    have := h6 hz n hn hne
    unfold hs_LK at this ⊢
    rw [(lo n cp).1, (lo n cp).2]
    exact this
  · intro n hn c
    obtain ⟨hn, hne⟩ := (hD n).mp hn
    by_cases cr : n = r
    · rw [cr, ur (fun x => hm n hn (cr.trans x))] at c; exact absurd c hp1
    · rw [uo n hn cr] at c
      rcases h4 n hn c with d | d
      · exact absurd d cr
      · exact d.symm
  · rcases hT with c | c
    · exact Or.inl c
    · right
      have d := h5 _ rfl
      refine ⟨(hD _).mpr ⟨c, fun x => ?_⟩, by rw [uo _ c d.2]; exact d.1⟩
      rw [x, ← hp] at d; exact hp1 d.1
  · rcases kidr with c | c
    · exact Or.inl c
    · exact Or.inr c.1
end HS07
end
section
section HS08
/-! the pairing tree of a queue -/
def hs_PD (H : Int → Int) (q i : Int) : Prop := 0 ≤ i ∧ i < 24 ∧ H i = q
def hs_PT (K H T C X B : Int → Int) (q : Int) : Prop := ∃ G O : Int → Int,
  hs_PO (hs_PD H q) K G O C X B (-1) (-1) ∧ (∀ i, hs_PD H q i → G i = -1 → T q = i) ∧
  (T q = -1 ∨ (hs_PD H q (T q) ∧ G (T q) = -1 ∧ B (T q) = -1 ∧ X (T q) = -1))
theorem hs_PD_r {H : Int → Int} {q : Int} : ∀ i, hs_PD H q i → 0 ≤ i ∧ i < 24 := fun _ h => ⟨h.1, h.2.1⟩
theorem hs_PD_m {H : Int → Int} {q : Int} : ∀ i, hs_PD H q i → i ≠ -1 := fun i h => by have := h.1; omega
theorem hs_PO_congr {D D' : Int → Prop} {k k' G G' O O' C C' X X' B B' : Int → Int} {e r : Int} (h : hs_PO D k G O C X B e r) (hD : ∀ n, D' n ↔ D n) (hk : ∀ n, D n → k' n = k n)
    (hG : ∀ n, D n → G' n = G n) (hO : ∀ n, D n → O' n = O n) (hC : ∀ n, D n → C' n = C n) (hX : ∀ n, D n → X' n = X n) (hB : ∀ n, D n → B' n = B n) : hs_PO D' k' G' O' C' X' B' e r := by
  intro i hi
  have hi := (hD i).mp hi
  obtain ⟨h1, h2, h3⟩ := h i hi
  rw [hC i hi, hX i hi, hG i hi, hB i hi, hO i hi]
  refine ⟨fun he => ?_, fun hg => ?_, ?_⟩
  · rcases h1 he with c | c
    · exact Or.inl c
    · exact Or.inr ⟨(hD _).mpr c.1, by rw [hG _ c.1]; exact c.2.1, by rw [hB _ c.1]; exact c.2.2⟩
  · rcases h2 hg with c | c
    · exact Or.inl c
    · exact Or.inr ⟨(hD _).mpr c.1, by rw [hG _ c.1]; exact c.2.1, by rw [hB _ c.1]; exact c.2.2.1, by rw [hO _ c.1]; exact c.2.2.2⟩
  · rcases h3 with c | ⟨c1, c2, c3⟩
    · exact Or.inl c
    · refine Or.inr ⟨(hD _).mpr c1, by rw [hk _ c1, hk i hi]; exact c2, ?_⟩
      rw [hC _ c1]
      rcases c3 with c3 | c3 | c3
      · exact Or.inl c3
      · exact Or.inr (Or.inl c3)
      · exact Or.inr (Or.inr ⟨(hD _).mpr c3.1, by rw [hG _ c3.1]; exact c3.2.1, by rw [hX _ c3.1]; exact c3.2.2⟩)
theorem hs_PT_congr {K K' H H' T T' C C' X X' B B' : Int → Int} {q : Int} (h : hs_PT K H T C X B q)
    (hH : ∀ i, 0 ≤ i → i < 24 → (H' i = q ↔ H i = q)) (hK : ∀ i, 0 ≤ i → i < 24 → H i = q → K' i = K i)
    (hT : T' q = T q) (hC : ∀ n, hs_PD H q n → C' n = C n) (hX : ∀ n, hs_PD H q n → X' n = X n) (hB : ∀ n, hs_PD H q n → B' n = B n) : hs_PT K' H' T' C' X' B' q := by
  obtain ⟨G, O, h1, h2, h3⟩ := h
  have hD : ∀ n, hs_PD H' q n ↔ hs_PD H q n := by
    intro n
    constructor
    · intro c; exact ⟨c.1, c.2.1, (hH _ c.1 c.2.1).mp c.2.2⟩
    · intro c; exact ⟨c.1, c.2.1, (hH _ c.1 c.2.1).mpr c.2.2⟩
  refine ⟨G, O, hs_PO_congr h1 hD (fun n c => hK n c.1 c.2.1 c.2.2) (fun _ _ => rfl) (fun _ _ => rfl) hC hX hB, ?_, ?_⟩
  · intro i hi c
    rw [hT]; exact h2 i ((hD i).mp hi) c
  · rw [hT]
    rcases h3 with c | c
    · exact Or.inl c
    · exact Or.inr ⟨(hD _).mpr c.1, c.2.1, by rw [hB _ c.1]; exact c.2.2.1, by rw [hX _ c.1]; exact c.2.2.2⟩
theorem hs_PT_mn {K H T C X B : Int → Int} {q : Int} (h : hs_PT K H T C X B q) : hs_mn K H q (T q) := by
  obtain ⟨G, O, h1, h2, h3⟩ := h
  have main : ∀ (m : Nat) (n : Int), hs_PD H q n → hs_rk K n ≤ m → T q ≠ -1 ∧ K (T q) ≤ K n := by
    intro m
    induction m with
    | zero =>
      intro n hn hr
      rcases (h1 n hn).2.2 with c | c
      · rw [h2 n hn c]; exact ⟨hs_PD_m n hn, Int.le_refl _⟩
      · have a := hs_rk_lt (f := K) (i := G n) (j := n) c.1.1 c.1.2.1 c.2.1
        have b := hs_rk_r K (i := G n) c.1.1 c.1.2.1
        omega
    | succ m ih =>
      intro n hn hr
      rcases (h1 n hn).2.2 with c | c
      · rw [h2 n hn c]; exact ⟨hs_PD_m n hn, Int.le_refl _⟩
      · have a := hs_rk_lt (f := K) (i := G n) (j := n) c.1.1 c.1.2.1 c.2.1
        have b := ih (G n) c.1 (by omega)
        have d := c.2.1
        exact ⟨b.1, by omega⟩
  have all : ∀ i, 0 ≤ i → i < 24 → H i = q → T q ≠ -1 ∧ K (T q) ≤ K i := by
    intro i a b c
    have r := hs_rk_r K (i := i) a b
    exact main 23 i ⟨a, b, c⟩ (by omega)
  rcases h3 with c | c
  · exact Or.inl ⟨c, fun i a b d => (all i a b d).1 c⟩
  · exact Or.inr ⟨c.1.1, c.1.2.1, c.1.2.2, fun i a b d => (all i a b d).2⟩
/-- a linked list through X -/
def hs_seg (X : Int → Int) : Int → List Int → Prop
  | x, [] => x = -1
  | x, a :: l => x = a ∧ a ≠ -1 ∧ hs_seg X (X a) l
theorem hs_seg_u {X X' : Int → Int} : ∀ (l : List Int) (x : Int), (∀ a, a ∈ l → X' a = X a) → hs_seg X x l → hs_seg X' x l := by
  intro l
  induction l with
  | nil => intro x _ h; exact h
  | cons a l ih =>
    intro x h hs
    refine ⟨hs.1, hs.2.1, ?_⟩
    rw [h a (List.mem_cons_self ..)]
    exact ih _ (fun b hb => h b (List.mem_cons_of_mem _ hb)) hs.2.2
/-- the two passes: e's children; s: the tree root that stands aside; l: the list of the trees already paired; m: the whole so far -/
def hs_PP (D : Int → Prop) (k G O C X B : Int → Int) (e r s p m : Int) (l : List Int) : Prop :=
  hs_PO D k G O C X B e r ∧ D e ∧ (r = -1 ∨ (D r ∧ G r = e)) ∧
  hs_seg X p l ∧ l.Nodup ∧ (∀ t, t ∈ l → D t ∧ G t = -1 ∧ B t = -1 ∧ t ≠ e ∧ t ≠ s ∧ t ≠ m) ∧
  (m = -1 ∨ (D m ∧ G m = -1 ∧ B m = -1 ∧ X m = -1 ∧ m ≠ e ∧ m ≠ s)) ∧
  (∀ i, D i → G i = -1 → i = s ∨ i ∈ l ∨ i = m) ∧
  (D s ∧ G s = -1 ∧ B s = -1 ∧ X s = -1)
end HS08
end
section
section HS09
/-! the binomial trees of a queue -/
def hs_BD (H NI : Int → Int) (q n : Int) : Prop := 0 ≤ n ∧ n < 24 ∧ H (NI n) = q
/-- the roots stand in T, but for c and those that P marks -/
def hs_BR (D P : Int → Prop) (T d G : Int → Int) (q c : Int) : Prop :=
  (∀ n, D n → G n = -1 → n ≠ c → ¬ P n → T (q * 5 + d n) = n) ∧
  (∀ o, 0 ≤ o → o ≤ 4 → T (q * 5 + o) = -1 ∨ (D (T (q * 5 + o)) ∧ G (T (q * 5 + o)) = -1 ∧ d (T (q * 5 + o)) = o ∧ T (q * 5 + o) ≠ c ∧ ¬ P (T (q * 5 + o))))
def hs_BT (K H T C X U NI : Int → Int) (q : Int) : Prop := ∃ d : Int → Int,
  hs_BO (hs_BD H NI q) d U C X (-1) ∧ hs_BK (hs_BD H NI q) (fun n => K (NI n)) U (-1) ∧ hs_BR (hs_BD H NI q) (fun _ => False) T d U q (-1) ∧ hs_tv T q = hs_c H q
theorem hs_BO_congr {D D' : Int → Prop} {d d' G G' C C' X X' : Int → Int} {e : Int} (h : hs_BO D d G C X e) (hD : ∀ n, D' n ↔ D n)
    (hd : ∀ n, D n → d' n = d n) (he : d' e = d e ∨ e = -1) (hG : ∀ n, D n → G' n = G n) (hC : ∀ n, D n → C' n = C n) (hX : ∀ n, D n → G n ≠ -1 → X' n = X n) : hs_BO D' d' G' C' X' e := by
  intro n hn
  have hn := (hD n).mp hn
  obtain ⟨h0, h4, hc, hx, hg, hu⟩ := h n hn
  rw [hd n hn, hG n hn, hC n hn]
  refine ⟨h0, h4, ?_, fun y => ?_, ?_, ?_⟩
  · rcases hc with f | f
    · exact Or.inl f
    · exact Or.inr ⟨(hD _).mpr f.1, by rw [hG _ f.1]; exact f.2.1, by rw [hd _ f.1]; exact f.2.2⟩
  · rw [hX n hn y]
    rcases hx y with f | f
    · exact Or.inl f
    · exact Or.inr ⟨(hD _).mpr f.1, by rw [hG _ f.1]; exact f.2.1, by rw [hd _ f.1]; exact f.2.2⟩
  · rcases hg with f | ⟨f1, f2⟩
    · exact Or.inl f
    · by_cases y : G n = -1
      · exact Or.inl y
      · right
        rcases f2 with g | g
        · refine ⟨?_, Or.inl g⟩
          rcases he with z | z
          · rw [g, z, ← g]; exact f1
          · exact absurd (g.trans z) y
        · exact ⟨by rw [hd _ g]; exact f1, Or.inr ((hD _).mpr g)⟩
  · intro m hm e1 e2 e3
    have hm := (hD m).mp hm
    rw [hG m hm] at e1
    rw [hd m hm] at e3
    exact hu m hm e1 e2 e3
theorem hs_tv_congr {T T' : Int → Int} {q : Int} (h : ∀ o, 0 ≤ o → o ≤ 4 → T' (q * 5 + o) = T (q * 5 + o)) : hs_tv T' q = hs_tv T q := by
  have h0 := h 0 (by omega) (by omega)
  rw [Int.add_zero] at h0
  unfold hs_tv
  rw [h0, h 1 (by omega) (by omega), h 2 (by omega) (by omega), h 3 (by omega) (by omega), h 4 (by omega) (by omega)]
theorem hs_BT_congr {K K' H H' T T' C C' X X' U U' NI NI' : Int → Int} {q : Int} (h : hs_BT K H T C X U NI q)
    (hD : ∀ n, hs_BD H' NI' q n ↔ hs_BD H NI q n) (hH : ∀ i, 0 ≤ i → i < 24 → (H' i = q ↔ H i = q)) (hK : ∀ n, hs_BD H NI q n → K' (NI' n) = K (NI n))
    (hT : ∀ o, 0 ≤ o → o ≤ 4 → T' (q * 5 + o) = T (q * 5 + o)) (hC : ∀ n, hs_BD H NI q n → C' n = C n) (hX : ∀ n, hs_BD H NI q n → X' n = X n) (hU : ∀ n, hs_BD H NI q n → U' n = U n) : hs_BT K' H' T' C' X' U' NI' q := by
  obtain ⟨d, h1, h2, ⟨h3, h5⟩, h4⟩ := h
  refine ⟨d, hs_BO_congr h1 hD (fun _ _ => rfl) (Or.inl rfl) hU hC (fun n x _ => hX n x), ?_, ⟨?_, ?_⟩, by rw [hs_tv_congr hT, hs_c_congr hH]; exact h4⟩
  · intro n hn
    have hn := (hD n).mp hn
    rw [hU n hn]
    rcases h2 n hn with c | c | c
    · exact Or.inl c
    · exact Or.inl c
    · by_cases y : U n = -1
      · exact Or.inl y
      · right; right
        have hp : hs_BD H NI q (U n) := by
          rcases (h1 n hn).2.2.2.2.1 with f | ⟨_, f | f⟩
          · exact absurd f y
          · exact absurd f y
          · exact f
        show K' (NI' (U n)) < K' (NI' n)
        rw [hK _ hp, hK n hn]; exact c
  · intro n hn a b c
    have hn := (hD n).mp hn
    rw [hU n hn] at a
    have r := h1 n hn
    rw [hT _ r.1 r.2.1]
    exact h3 n hn a b c
  · intro o a b
    rw [hT o a b]
    rcases h5 o a b with c | c
    · exact Or.inl c
    · exact Or.inr ⟨(hD _).mpr c.1, by rw [hU _ c.1]; exact c.2.1, c.2.2⟩
/-- every item of the queue comes behind some root, or is one -/
theorem hs_BT_root {K H T C X U NI IN : Int → Int} {q : Int} (hP : hs_PM NI IN) (h : hs_BT K H T C X U NI q) :
    ∀ i, 0 ≤ i → i < 24 → H i = q → ∃ o, 0 ≤ o ∧ o ≤ 4 ∧ T (q * 5 + o) ≠ -1 ∧ K (NI (T (q * 5 + o))) ≤ K i := by
  obtain ⟨d, h1, h2, ⟨h3, h5⟩, h4⟩ := h
  have main : ∀ (m : Nat) (n : Int), hs_BD H NI q n → 4 - d n ≤ m → ∃ o, 0 ≤ o ∧ o ≤ 4 ∧ T (q * 5 + o) ≠ -1 ∧ K (NI (T (q * 5 + o))) ≤ K (NI n) := by
    have base : ∀ n, hs_BD H NI q n → U n = -1 → ∃ o, 0 ≤ o ∧ o ≤ 4 ∧ T (q * 5 + o) ≠ -1 ∧ K (NI (T (q * 5 + o))) ≤ K (NI n) := by
      intro n hn c
      have r := h1 n hn
      have e := h3 n hn c (by have := hn.1; omega) (fun x => x)
      refine ⟨d n, r.1, r.2.1, ?_, ?_⟩
      · rw [e]; have := hn.1; omega
      · rw [e]; exact Int.le_refl _
    have up : ∀ n, hs_BD H NI q n → U n ≠ -1 → hs_BD H NI q (U n) ∧ d n < d (U n) ∧ K (NI (U n)) < K (NI n) := by
      intro n hn c
      rcases (h1 n hn).2.2.2.2.1 with f | ⟨g, f | f⟩
      · exact absurd f c
      · exact absurd f c
      · refine ⟨f, g, ?_⟩
        rcases h2 n hn with y | y | y
        · exact absurd y c
        · exact absurd y c
        · exact y
    intro m
    induction m with
    | zero =>
      intro n hn hd
      by_cases c : U n = -1
      · exact base n hn c
      · have u := up n hn c
        have := (h1 _ u.1).2.1
        omega
    | succ m ih =>
      intro n hn hd
      by_cases c : U n = -1
      · exact base n hn c
      · have u := up n hn c
        obtain ⟨o, o1, o2, o3, o4⟩ := ih (U n) u.1 (by omega)
        exact ⟨o, o1, o2, o3, by omega⟩
  intro i a b c
  have p := hP i a b
  have hn : hs_BD H NI q (IN i) := ⟨p.2.2.1, p.2.2.2.1, by rw [p.2.2.2.2.1]; exact c⟩
  have := main 4 (IN i) hn (by have := (h1 _ hn).1; omega)
  rw [p.2.2.2.2.1] at this
  exact this
/-- a tree c of order o on its way into queue q -/
def hs_AT (D P : Int → Prop) (k d G T C X U : Int → Int) (q e c o tot : Int) : Prop :=
  hs_BO D d G C X e ∧ hs_BK D k G e ∧ hs_BR D P T d G q c ∧ D c ∧ G c = -1 ∧ d c = o ∧ ¬ P c ∧ (∀ n, D n → n ≠ c → U n = G n) ∧ hs_tv T q + hs_pw o = tot
theorem hs_AT_o {D P : Int → Prop} {k d G T C X U : Int → Int} {q e c o tot : Int} (h : hs_AT D P k d G T C X U q e c o tot) : 0 ≤ o ∧ o ≤ 4 := by
  obtain ⟨h1, _, _, h4, _, h6, _, _, _⟩ := h
  have := h1 c h4
  rw [h6] at this
  exact ⟨this.1, this.2.1⟩
theorem hs_AT_end {D P : Int → Prop} {k d G T C X U : Int → Int} {q e c o tot : Int} (hm : ∀ n, D n → n ≠ -1) (h : hs_AT D P k d G T C X U q e c o tot) (hT : T (q * 5 + o) = -1) :
    hs_BO D d G C (hs_u X c (-1)) e ∧ hs_BR D P (hs_u T (q * 5 + o) c) d G q (-1) ∧ (∀ n, D n → hs_u U c (-1) n = G n) ∧ hs_tv (hs_u T (q * 5 + o) c) q = tot := by
  have ho := hs_AT_o h
  obtain ⟨h1, h2, ⟨h3, h3'⟩, h4, h5, h6, h7, h8, h9⟩ := h
  refine ⟨?_, ⟨?_, ?_⟩, ?_, ?_⟩
  · refine hs_BO_congr h1 (fun _ => Iff.rfl) (fun _ _ => rfl) (Or.inl rfl) (fun _ _ => rfl) (fun _ _ => rfl) (fun n _ x => hs_un (fun y => x (by rw [y]; exact h5)))
  · intro n hn a _ b
    by_cases x : n = c
    · rw [x, h6]; exact hs_us
    · have w := h3 n hn a x b
      rw [hs_un]
      · exact w
      · intro y
        rw [y, hT] at w
        exact hm n hn w.symm
  · intro o' a b
    by_cases x : o' = o
    · rw [x, hs_us]
      exact Or.inr ⟨h4, h5, h6, hm c h4, h7⟩
    · rw [hs_un (by omega)]
      rcases h3' o' a b with y | y
      · exact Or.inl y
      · exact Or.inr ⟨y.1, y.2.1, y.2.2.1, hm _ y.1, y.2.2.2.2⟩
  · intro n hn
    by_cases x : n = c
    · rw [hs_ue x, x]; exact h5.symm
    · rw [hs_un x]; exact h8 n hn x
  · rw [hs_tv_u T q c o ho.1 ho.2, hT]
    unfold hs_b1
    rw [if_neg (hm c h4), if_pos rfl]
    omega
theorem hs_AT_step {D P : Int → Prop} {k d G T C X U : Int → Int} {q e c o tot a b : Int} (hm : ∀ n, D n → n ≠ -1) (h : hs_AT D P k d G T C X U q e c o tot)
    (htot : tot ≤ 24) (hT : T (q * 5 + o) ≠ -1) (hab : (a = T (q * 5 + o) ∧ b = c) ∨ (a = c ∧ b = T (q * 5 + o))) (lt : k a < k b) (he : e = -1 ∨ ¬ D e) :
    hs_AT D P k (hs_u d a (o + 1)) (hs_u G b a) (hs_u T (q * 5 + o) (-1)) (hs_u C a b) (hs_u X b (C a)) (hs_u U b a) q e a (o + 1) tot ∧
    D a ∧ D b ∧ (C a = -1 ∨ D (C a)) ∧ ¬ P a ∧ ¬ P b ∧ G a = -1 ∧ G b = -1 ∧ o ≤ 3 := by
  have ho := hs_AT_o h
  obtain ⟨h1, h2, ⟨h3, h3'⟩, h4, h5, h6, h7, h8, h9⟩ := h
  obtain ⟨t1, t2, t3, t4, t5⟩ : D (T (q * 5 + o)) ∧ G (T (q * 5 + o)) = -1 ∧ d (T (q * 5 + o)) = o ∧ T (q * 5 + o) ≠ c ∧ ¬ P (T (q * 5 + o)) := by
    rcases h3' o ho.1 ho.2 with x | x
    · exact absurd x hT
    · exact x
  have htv : hs_tv (hs_u T (q * 5 + o) (-1)) q + hs_pw (o + 1) = tot := by
    have e1 := hs_tv_u T q (-1) o ho.1 ho.2
    have e2 := (hs_pw_s o ho.1 ho.2).1
    unfold hs_b1 at e1
    rw [if_pos rfl, if_neg hT] at e1
    omega
  have o3 : o ≤ 3 := by
    apply Classical.byContradiction
    intro x
    have y : o = 4 := by omega
    have z := hs_tv_r (hs_u T (q * 5 + o) (-1)) q
    rw [y] at htv z
    have : hs_pw (4 + 1) = 32 := by decide
    omega
  obtain ⟨ha, hb, ga, gb, hne, da, db, pa, pb⟩ : D a ∧ D b ∧ G a = -1 ∧ G b = -1 ∧ a ≠ b ∧ d a = o ∧ d b = o ∧ ¬ P a ∧ ¬ P b := by
    rcases hab with ⟨x, y⟩ | ⟨x, y⟩
    · rw [x, y]; exact ⟨t1, h4, t2, h5, t4, t3, h6, t5, h7⟩
    · rw [x, y]; exact ⟨h4, t1, h5, t2, fun z => t4 z.symm, h6, t3, h7, t5⟩
  have hk := hs_BO_link hm h1 ha hb ga gb hne (by omega) (by omega)
  rw [da] at hk
  refine ⟨⟨hk, hs_BK_link h2 lt, ⟨?_, ?_⟩, ha, ?_, hs_us, pa, ?_, htv⟩, ha, hb, ?_, pa, pb, ga, gb, o3⟩
  · intro n hn x y z
    have nb : n ≠ b := by
      intro w
      rw [hs_ue w] at x
      exact hm a ha x
    rw [hs_un nb] at x
    rw [hs_un y]
    have nc : n ≠ c ∧ n ≠ T (q * 5 + o) := by
      rcases hab with ⟨v, w⟩ | ⟨v, w⟩
      · rw [← v, ← w]; exact ⟨nb, y⟩
      · rw [← v, ← w]; exact ⟨y, nb⟩
    have w := h3 n hn x nc.1 z
    rw [hs_un]
    · exact w
    · intro v
      rw [v] at w
      exact nc.2 w.symm
  · intro o' x y
    by_cases z : o' = o
    · rw [z, hs_us]; exact Or.inl rfl
    · rw [hs_un (by omega)]
      rcases h3' o' x y with w | w
      · exact Or.inl w
      · right
        have n1 : T (q * 5 + o') ≠ a := by
          intro v
          have := w.2.2.1
          rw [v, da] at this
          exact z this.symm
        have n2 : T (q * 5 + o') ≠ b := by
          intro v
          have := w.2.2.1
          rw [v, db] at this
          exact z this.symm
        exact ⟨w.1, by rw [hs_un n2]; exact w.2.1, by rw [hs_un n1]; exact w.2.2.1, n1, w.2.2.2.2⟩
  · rw [hs_un hne]; exact ga
  · intro n hn x
    by_cases y : n = b
    · rw [hs_ue y, hs_ue y]
    · rw [hs_un y, hs_un y]
      apply h8 n hn
      rcases hab with ⟨v, w⟩ | ⟨v, w⟩
      · rw [← w]; exact y
      · rw [← v]; exact x
  · rcases (h1 a ha).2.2.1 with x | x
    · exact Or.inl x.1
    · exact Or.inr x.1
end HS09
section HS09b
/-- a new node: a tree of order 0 -/
theorem hs_BT_add {K H T C X U NI IN : Int → Int} {q i : Int} (hP : hs_PM NI IN) (h : hs_BT K H T C X U NI q) (i0 : 0 ≤ i) (i1 : i < 24) (hi : H i ≠ q) :
    ∃ d, hs_AT (hs_BD (hs_u H i q) NI q) (fun _ => False) (fun n => K (NI n)) (hs_u d (IN i) 0) (hs_u U (IN i) (-1)) T (hs_u C (IN i) (-1)) X U q (-1) (IN i) 0 (hs_c (hs_u H i q) q) := by
  obtain ⟨d, h1, h2, ⟨h3, h5⟩, h4⟩ := h
  have p := hP i i0 i1
  have hnew : hs_BD (hs_u H i q) NI q (IN i) := ⟨p.2.2.1, p.2.2.2.1, by rw [p.2.2.2.2.1]; exact hs_us⟩
  have hold : ∀ n, hs_BD H NI q n → hs_BD (hs_u H i q) NI q n ∧ n ≠ IN i := by
    intro n hn
    have hne : NI n ≠ i := fun x => hi (by rw [← x]; exact hn.2.2)
    refine ⟨⟨hn.1, hn.2.1, by rw [hs_un hne]; exact hn.2.2⟩, fun x => hne ?_⟩
    rw [x]; exact p.2.2.2.2.1
  have hinv : ∀ n, hs_BD (hs_u H i q) NI q n → n ≠ IN i → hs_BD H NI q n := by
    intro n hn c
    refine ⟨hn.1, hn.2.1, ?_⟩
    have hne : NI n ≠ i := fun x => c (by rw [← x]; exact (hP n hn.1 hn.2.1).2.2.2.2.2.symm)
    have := hn.2.2
    rw [hs_un hne] at this
    exact this
  have hm : ∀ n, hs_BD H NI q n → n ≠ -1 := fun n c => by have := c.1; omega
  refine ⟨d, ?_, ?_, ⟨?_, ?_⟩, hnew, hs_us, hs_us, fun x => x, fun n _ x => (hs_un x).symm, ?_⟩
  · intro n hn
    by_cases c : n = IN i
    · rw [hs_ue c, hs_ue c, hs_ue c]
      refine ⟨by omega, by omega, Or.inl ⟨rfl, rfl⟩, fun x => absurd rfl x, Or.inl rfl, fun _ _ _ x => absurd rfl x⟩
    · have ho := hinv n hn c
      obtain ⟨a0, a4, ac, ax, ag, au⟩ := h1 n ho
      rw [hs_un c, hs_un c, hs_un c]
      refine ⟨a0, a4, ?_, fun y => ?_, ?_, ?_⟩
      · rcases ac with f | f
        · exact Or.inl f
        · have g := hold _ f.1
          exact Or.inr ⟨g.1, by rw [hs_un g.2]; exact f.2.1, by rw [hs_un g.2]; exact f.2.2⟩
      · rcases ax y with f | f
        · exact Or.inl f
        · have g := hold _ f.1
          exact Or.inr ⟨g.1, by rw [hs_un g.2]; exact f.2.1, by rw [hs_un g.2]; exact f.2.2⟩
      · rcases ag with f | ⟨f1, f | f⟩
        · exact Or.inl f
        · exact Or.inl f
        · have g := hold _ f
          exact Or.inr ⟨by rw [hs_un g.2]; exact f1, Or.inr g.1⟩
      · intro m hm' e1 e2 e3
        have mc : m ≠ IN i := by
          intro x
          rw [hs_ue x] at e1
          exact e2 e1.symm
        rw [hs_un mc] at e1 e3
        exact au m (hinv m hm' mc) e1 e2 e3
  · intro n hn
    by_cases c : n = IN i
    · exact Or.inl (hs_ue c)
    · rw [hs_un c]; exact h2 n (hinv n hn c)
  · intro n hn a b c
    have ho := hinv n hn b
    rw [hs_un b] at a ⊢
    exact h3 n ho a (hm n ho) (fun x => x)
  · intro o a b
    rcases h5 o a b with c | c
    · exact Or.inl c
    · have g := hold _ c.1
      exact Or.inr ⟨g.1, by rw [hs_un g.2]; exact c.2.1, by rw [hs_un g.2]; exact c.2.2.1, g.2, fun x => x⟩
  · rw [hs_c_upd H i0 i1, if_pos rfl, if_neg hi, h4]
    show _ + 1 = _
    omega
/-- back to the queue's own form -/
theorem hs_BT_of {K H T C X U NI d G : Int → Int} {q : Int} (h1 : hs_BO (hs_BD H NI q) d G C X (-1)) (h2 : hs_BK (hs_BD H NI q) (fun n => K (NI n)) G (-1))
    (h3 : hs_BR (hs_BD H NI q) (fun _ => False) T d G q (-1)) (hU : ∀ n, hs_BD H NI q n → U n = G n) (h4 : hs_tv T q = hs_c H q) : hs_BT K H T C X U NI q := by
  refine ⟨d, hs_BO_congr h1 (fun _ => Iff.rfl) (fun _ _ => rfl) (Or.inl rfl) hU (fun _ _ => rfl) (fun _ _ _ => rfl), ?_, ⟨?_, ?_⟩, h4⟩
  · intro n hn
    rw [hU n hn]
    exact h2 n hn
  · intro n hn a b c
    rw [hU n hn] at a
    exact h3.1 n hn a b c
  · intro o a b
    rcases h3.2 o a b with c | c
    · exact Or.inl c
    · exact Or.inr ⟨c.1, by rw [hU _ c.1]; exact c.2.1, c.2.2⟩
end HS09b
end
section
section HS10
/-- the children of the root e that went are added one by one: c the next, o its order -/
def hs_PL (D : Int → Prop) (k d G T C X U : Int → Int) (q e c o tot : Int) : Prop :=
  hs_BO D d G C X e ∧ hs_BK D k G e ∧ hs_BR D (fun n => G n = e) T d G q (-1) ∧ (∀ n, D n → U n = G n) ∧ (¬ D e ∧ e ≠ -1) ∧
  ((o = -1 ∧ c = -1) ∨ (0 ≤ o ∧ D c ∧ G c = e ∧ d c = o)) ∧ (∀ n, D n → G n = e → d n ≤ o) ∧ hs_tv T q + (hs_pw (o + 1) - 1) = tot
theorem hs_PL_at {D : Int → Prop} {k d G T C X U : Int → Int} {q e c o tot : Int} (hm : ∀ n, D n → n ≠ -1) (h : hs_PL D k d G T C X U q e c o tot) (hc : c ≠ -1) :
    hs_AT D (fun n => G n = e ∧ n ≠ c) k d (hs_u G c (-1)) T C X U q e c o (hs_tv T q + hs_pw o) ∧ hs_tv T q + hs_pw o ≤ tot ∧ 0 ≤ o ∧ o ≤ 4 ∧
    ((X c = -1 ∧ o = 0) ∨ (1 ≤ o ∧ D (X c) ∧ G (X c) = e ∧ d (X c) = o - 1 ∧ X c ≠ c)) := by
  obtain ⟨h1, h2, ⟨h3, h3'⟩, h4, ⟨h5, h5'⟩, h6, h7, h8⟩ := h
  obtain ⟨o0, c1, c2, c3⟩ : 0 ≤ o ∧ D c ∧ G c = e ∧ d c = o := by
    rcases h6 with x | x
    · exact absurd x.2 hc
    · exact x
  have o4 : o ≤ 4 := by have := (h1 c c1).2.1; omega
  have ps := hs_pw_s o o0 o4
  refine ⟨⟨hs_BO_float hm h1 c1 c2 h5 (fun n a b => by rw [c3]; exact h7 n a b), ?_, ⟨?_, ?_⟩, c1, hs_us, c3, fun x => x.2 rfl, fun n hn x => by rw [hs_un x]; exact h4 n hn, rfl⟩, by omega, o0, o4, ?_⟩
  · intro n hn
    by_cases x : n = c
    · exact Or.inl (hs_ue x)
    · rw [hs_un x]; exact h2 n hn
  · intro n hn a b _
    rw [hs_un b] at a
    exact h3 n hn a (hm n hn) (fun x => h5' (x.symm.trans a))
  · intro o' a b
    rcases h3' o' a b with x | x
    · exact Or.inl x
    · right
      have n1 : T (q * 5 + o') ≠ c := by
        intro y
        have := x.2.1
        rw [y, c2] at this
        exact h5' this
      exact ⟨x.1, by rw [hs_un n1]; exact x.2.1, x.2.2.1, n1, fun y => h5' (y.1.symm.trans x.2.1)⟩
  · rcases (h1 c c1).2.2.2.1 (by rw [c2]; exact h5') with x | x
    · left; exact ⟨x.1, by omega⟩
    · right
      have := (h1 _ x.1).1
      exact ⟨by omega, x.1, by rw [x.2.1]; exact c2, by omega, fun y => by rw [y] at x; omega⟩
theorem hs_PL_next {D : Int → Prop} {k d G T C X U d' G' T' C' X' U' : Int → Int} {q e c o tot : Int} (hm : ∀ n, D n → n ≠ -1) (h : hs_PL D k d G T C X U q e c o tot) (hc : c ≠ -1)
    (b1 : hs_BO D d' G' C' X' e) (b2 : hs_BK D k G' e) (b3 : hs_BR D (fun n => G n = e ∧ n ≠ c) T' d' G' q (-1)) (b4 : ∀ n, D n → U' n = G' n) (b5 : hs_tv T' q = hs_tv T q + hs_pw o)
    (kp : ∀ n, G n = e ∧ n ≠ c → G' n = hs_u G c (-1) n ∧ d' n = d n ∧ X' n = X n) (ke : ∀ n, D n → G' n = e → hs_u G c (-1) n = e) :
    hs_PL D k d' G' T' C' X' U' q e (X c) (o - 1) tot := by
  have ha := hs_PL_at hm h hc
  obtain ⟨h1, h2, ⟨h3, h3'⟩, h4, ⟨h5, h5'⟩, h6, h7, h8⟩ := h
  obtain ⟨_, _, o0, o4, hx⟩ := ha
  obtain ⟨_, c1, c2, c3⟩ : 0 ≤ o ∧ D c ∧ G c = e ∧ d c = o := by
    rcases h6 with x | x
    · exact absurd x.2 hc
    · exact x
  have ke2 : ∀ n, D n → G' n = e → G n = e ∧ n ≠ c := by
    intro n hn x
    have y := ke n hn x
    by_cases z : n = c
    · rw [hs_ue z] at y; exact absurd y.symm h5'
    · rw [hs_un z] at y; exact ⟨y, z⟩
  refine ⟨b1, b2, ⟨?_, ?_⟩, b4, ⟨h5, h5'⟩, ?_, ?_, ?_⟩
  · intro n hn a b _
    refine b3.1 n hn a b (fun x => ?_)
    have y := (kp n x).1
    rw [hs_un x.2, x.1, a] at y
    exact h5' y.symm
  · intro o' a b
    rcases b3.2 o' a b with x | x
    · exact Or.inl x
    · exact Or.inr ⟨x.1, x.2.1, x.2.2.1, x.2.2.2.1, fun y => h5' (y.symm.trans x.2.1)⟩
  · rcases hx with x | ⟨x1, x2, x3, x4, x5⟩
    · left; exact ⟨by omega, x.1⟩
    · right
      have y := kp (X c) ⟨x3, x5⟩
      rw [hs_un x5] at y
      exact ⟨by omega, x2, y.1.trans x3, by rw [y.2.1]; exact x4⟩
  · intro n hn x
    have y := ke2 n hn x
    rw [(kp n y).2.1]
    have z := h7 n hn y.1
    have : d n ≠ o := by
      intro w
      exact y.2 ((h1 c c1).2.2.2.2.2 n hn (by rw [y.1, c2]) (by rw [c2]; exact h5') (by rw [w, c3]))
    omega
  · have := (hs_pw_s o o0 o4).1
    rw [show o - 1 + 1 = o by omega, b5]
    omega
theorem hs_PL_end {K H T C X U NI d G : Int → Int} {q e o c : Int} (h : hs_PL (hs_BD H NI q) (fun n => K (NI n)) d G T C X U q e c o (hs_c H q)) (hc : c = -1) : hs_BT K H T C X U NI q := by
  obtain ⟨h1, h2, ⟨h3, h3'⟩, h4, ⟨h5, h5'⟩, h6, h7, h8⟩ := h
  have ho : o = -1 := by
    rcases h6 with x | x
    · exact x.1
    · have := x.2.1.1; omega
  have none : ∀ n, hs_BD H NI q n → G n ≠ e := by
    intro n hn x
    have := h7 n hn x
    have := (h1 n hn).1
    omega
  refine hs_BT_of (d := d) (G := G) ?_ ?_ ⟨?_, ?_⟩ h4 ?_
  · intro n hn
    obtain ⟨a0, a4, ac, ax, ag, au⟩ := h1 n hn
    refine ⟨a0, a4, ac, ax, ?_, au⟩
    rcases ag with x | ⟨x, y | y⟩
    · exact Or.inl x
    · exact absurd y (none n hn)
    · exact Or.inr ⟨x, Or.inr y⟩
  · intro n hn
    rcases h2 n hn with x | x | x
    · exact Or.inl x
    · exact absurd x (none n hn)
    · exact Or.inr (Or.inr x)
  · intro n hn a b _
    exact h3 n hn a b (none n hn)
  · intro o' a b
    rcases h3' o' a b with x | x
    · exact Or.inl x
    · exact Or.inr ⟨x.1, x.2.1, x.2.2.1, x.2.2.2.1, fun y => y⟩
  · rw [ho] at h8
    have : hs_pw (-1 + 1) = 1 := by decide
    omega
/-- the root v with item i goes -/
theorem hs_BT_drop {K H T C X U NI NI' IN' d : Int → Int} {q i v : Int} (i0 : 0 ≤ i) (i1 : i < 24) (hi : H i = q) (hq : q ≠ -1)
    (h1 : hs_BO (hs_BD H NI q) d U C X (-1)) (h3 : hs_BR (hs_BD H NI q) (fun _ => False) T d U q (-1)) (h4 : hs_tv T q = hs_c H q)
    (hP : hs_PM NI' IN') (hv : NI' v = i) (hD : ∀ n, hs_BD H NI q n ↔ 0 ≤ n ∧ n < 24 ∧ H (NI' n) = q)
    (ho : ∀ n, hs_BD H NI q n → n ≠ v → U n ≠ -1 → U n ≠ v → K (NI' (U n)) < K (NI' n)) (hDv : hs_BD H NI q v) (uv : U v = -1) :
    hs_PL (hs_BD (hs_u H i (-1)) NI' q) (fun n => K (NI' n)) d U (hs_u T (q * 5 + d v) (-1)) C X U q v (C v) (d v - 1) (hs_c (hs_u H i (-1)) q) := by
  have hm : ∀ n, hs_BD H NI q n → n ≠ -1 := fun n c => by have := c.1; omega
  have hD' : ∀ n, hs_BD (hs_u H i (-1)) NI' q n ↔ hs_BD H NI q n ∧ n ≠ v := by
    intro n
    rw [hD n]
    constructor
    · intro c
      have hne : NI' n ≠ i := fun x => by have := c.2.2; rw [hs_ue x] at this; exact hq this.symm
      refine ⟨⟨c.1, c.2.1, by have := c.2.2; rw [hs_un hne] at this; exact this⟩, fun x => hne (by rw [x]; exact hv)⟩
    · intro c
      have hne : NI' n ≠ i := by
        intro x
        apply c.2
        have e1 := (hP n c.1.1 c.1.2.1).2.2.2.2.2
        have e2 := (hP v hDv.1 hDv.2.1).2.2.2.2.2
        rw [x] at e1
        rw [hv] at e2
        omega
      exact ⟨c.1.1, c.1.2.1, by rw [hs_un hne]; exact c.1.2.2⟩
  have rv := h1 v hDv
  have hTv : T (q * 5 + d v) = v := h3.1 v hDv uv (hm v hDv) (fun x => x)
  refine ⟨hs_BO_cut hm h1 hDv uv hD', ?_, ⟨?_, ?_⟩, fun _ _ => rfl, ⟨fun x => ((hD' v).mp x).2 rfl, hm v hDv⟩, ?_, ?_, ?_⟩
  · intro n hn
    obtain ⟨hn, hne⟩ := (hD' n).mp hn
    by_cases x : U n = -1
    · exact Or.inl x
    · by_cases y : U n = v
      · exact Or.inr (Or.inl y)
      · exact Or.inr (Or.inr (ho n hn hne x y))
  · intro n hn a b _
    obtain ⟨hn, hne⟩ := (hD' n).mp hn
    have w := h3.1 n hn a b (fun x => x)
    rw [hs_un]
    · exact w
    · intro x
      rw [x, hTv] at w
      exact hne w.symm
  · intro o a b
    by_cases x : o = d v
    · rw [x, hs_us]; exact Or.inl rfl
    · rw [hs_un (by omega)]
      rcases h3.2 o a b with y | y
      · exact Or.inl y
      · right
        refine ⟨(hD' _).mpr ⟨y.1, fun z => ?_⟩, y.2.1, y.2.2.1, y.2.2.2.1, fun z => ?_⟩
        · have := y.2.2.1
          rw [z] at this
          exact x this.symm
        · have := y.2.1
          rw [z] at this
          exact hm v hDv this
  · rcases rv.2.2.1 with x | x
    · left; exact ⟨by omega, x.1⟩
    · right
      have := (h1 _ x.1).1
      refine ⟨by omega, (hD' _).mpr ⟨x.1, fun z => ?_⟩, x.2.1, x.2.2⟩
      rw [z] at x; omega
  · intro n hn x
    obtain ⟨hn, hne⟩ := (hD' n).mp hn
    rcases (h1 n hn).2.2.2.2.1 with y | y
    · rw [x] at y; exact absurd y (hm v hDv)
    · rw [x] at y; omega
  · rw [hs_tv_u T q (-1) (d v) rv.1 rv.2.1, hTv, hs_c_upd H i0 i1, if_neg (fun x => hq x.symm), if_pos hi, h4]
    unfold hs_b1
    rw [if_pos rfl, if_neg (hm v hDv), show d v - 1 + 1 = d v by omega]
    omega
end HS10
end
section
section HS11
/-- two trees paired: t above f -/
def hs_UP (D : Int → Prop) (k G C X B G' O' C' X' B' : Int → Int) (e r a b t f : Int) : Prop :=
  hs_PO D k G' O' C' X' B' e r ∧ ((t = a ∧ f = b) ∨ (t = b ∧ f = a)) ∧ (t = -1 → f = -1) ∧ (f = -1 ∨ (D f ∧ G' f = t)) ∧
  (∀ n, n ≠ f → G' n = G n ∧ X' n = X n) ∧ (∀ n, D n → G n = -1 → n ≠ f → B' n = B n) ∧
  hs_fr D C C' ∧ hs_fr D X X' ∧ hs_fr D B B'
theorem hs_UP_nil {D : Int → Prop} {k G O C X B : Int → Int} {e r a b t f : Int} (h : hs_PO D k G O C X B e r) (hf : f = -1) (hab : (t = a ∧ f = b) ∨ (t = b ∧ f = a)) :
    hs_UP D k G C X B G O C X B e r a b t f :=
  ⟨h, hab, fun _ => hf, Or.inl hf, fun _ _ => ⟨rfl, rfl⟩, fun _ _ _ _ => rfl, hs_fr_refl, hs_fr_refl, hs_fr_refl⟩
theorem hs_UP_go {D : Int → Prop} {k G O C X B B' : Int → Int} {e r a b t f : Int} (hm : ∀ i, D i → i ≠ -1) (h : hs_PO D k G O C X B e r)
    (ht : D t) (hf : D f) (gt : G t = -1) (gf : G f = -1) (hte : t ≠ e) (htf : t ≠ f) (lt : k t < k f) (hab : (t = a ∧ f = b) ∨ (t = b ∧ f = a))
    (hB : (C t = -1 ∧ B' = hs_u B f t) ∨ (C t ≠ -1 ∧ B' = hs_u (hs_u B f t) (C t) f)) :
    hs_UP D k G C X B (hs_u G f t) (hs_u O f (if C t = -1 then 0 else O (C t) + 1)) (hs_u C t f) (hs_u X f (C t)) B' e r a b t f := by
  have hs : C t = -1 ∨ (D (C t) ∧ G (C t) = t ∧ B (C t) = t) := (h t ht).1 hte
  refine ⟨hs_PO_up hm h ht hf gt gf hte htf lt hB, hab, fun x => absurd x (hm t ht), Or.inr ⟨hf, hs_us⟩, fun n x => ⟨hs_un x, hs_un x⟩, ?_, hs_fr_u ht (Or.inr hf), hs_fr_u hf ?_, ?_⟩
  · intro n hn gn x
    rcases hB with ⟨_, y⟩ | ⟨y, z⟩
    · rw [y]; exact hs_un x
    · rw [z, hs_un, hs_un x]
      intro w
      rcases hs with v | v
      · exact y v
      · rw [← w, gn] at v; exact hm t ht v.2.1.symm
  · rcases hs with v | v
    · exact Or.inl v
    · exact Or.inr v.1
  · rcases hB with ⟨_, y⟩ | ⟨y, z⟩
    · rw [y]; exact hs_fr_u hf (Or.inr ht)
    · rw [z]
      rcases hs with v | v
      · exact absurd v y
      · exact hs_fr_trans (hs_fr_u hf (Or.inr ht)) (hs_fr_u v.1 (Or.inr hf))
/-- the first pass: the first two children that are left are cut off .. -/
theorem hs_PP_cut {D : Int → Prop} {k G O C X B X1 B1 : Int → Int} {e r s p o : Int} {l : List Int} (hD : ∀ i, D i → 0 ≤ i ∧ i < 24) (h : hs_PP D k G O C X B e r s p (-1) l) (hr : r ≠ -1) (ho : o = X r)
    (hXB : (o = -1 ∧ X1 = hs_u X r (-1) ∧ B1 = hs_u B r (-1)) ∨ (o ≠ -1 ∧ X1 = hs_u (hs_u X o (-1)) r (-1) ∧ B1 = hs_u (hs_u B o (-1)) r (-1))) :
    hs_PO D k (fun i => if i = r ∨ (i = o ∧ o ≠ -1) then -1 else G i) O C X1 B1 e (if o = -1 then -1 else X o) ∧ D r ∧ G r = e ∧ r ≠ e ∧ (o = -1 ∨ (D o ∧ G o = e ∧ o ≠ e)) ∧ (r = o → r = -1) ∧
    ((if o = -1 then -1 else X o) = -1 ∨ (D (if o = -1 then -1 else X o) ∧ (fun i => if i = r ∨ (i = o ∧ o ≠ -1) then -1 else G i) (if o = -1 then -1 else X o) = e)) ∧
    hs_fr D X X1 ∧ hs_fr D B B1 := by
  have hm : ∀ i, D i → i ≠ -1 := fun i hi => by have := hD i hi; omega
  obtain ⟨h1, h2, h3, h4, h5, h6, h7, h8, h9⟩ := h
  obtain ⟨r1, r2⟩ : D r ∧ G r = e := by
    rcases h3 with c | c
    · exact absurd c hr
    · exact c
  have hX : ∀ i, i ≠ r → i ≠ o → X1 i = X i := by
    intro i x y
    rcases hXB with ⟨_, z, _⟩ | ⟨_, z, _⟩
    · rw [z]; exact hs_un x
    · rw [z, hs_un x]; exact hs_un y
  have hB : ∀ i, i ≠ r → i ≠ o → B1 i = B i := by
    intro i x y
    rcases hXB with ⟨_, _, z⟩ | ⟨_, _, z⟩
    · rw [z]; exact hs_un x
    · rw [z, hs_un x]; exact hs_un y
  have cut := hs_PO_cut (G' := fun i => if i = r ∨ (i = o ∧ o ≠ -1) then -1 else G i) (s := if o = -1 then -1 else X o) hD h1 (hm e h2) r1 r2 ho rfl (fun i => rfl) hX hB
  have ne : ∀ i, D i → G i = e → i ≠ e := by
    intro i hi x y
    rcases (h1 i hi).2.2 with c | c
    · rw [x] at c; exact hm e h2 c
    · rw [x, y] at c; omega
  have fx : hs_fr D X X1 := by
    rcases hXB with ⟨_, z, _⟩ | ⟨w, z, _⟩
    · rw [z]; exact hs_fr_u r1 (Or.inl rfl)
    · rw [z]
      rcases cut.2.1 with c | c
      · exact absurd c w
      · exact hs_fr_trans (hs_fr_u c.1 (Or.inl rfl)) (hs_fr_u r1 (Or.inl rfl))
  have fb : hs_fr D B B1 := by
    rcases hXB with ⟨_, _, z⟩ | ⟨w, _, z⟩
    · rw [z]; exact hs_fr_u r1 (Or.inl rfl)
    · rw [z]
      rcases cut.2.1 with c | c
      · exact absurd c w
      · exact hs_fr_trans (hs_fr_u c.1 (Or.inl rfl)) (hs_fr_u r1 (Or.inl rfl))
  refine ⟨cut.1, r1, r2, ne r r1 r2, ?_, ?_, cut.2.2, fx, fb⟩
  · rcases cut.2.1 with c | c
    · exact Or.inl c
    · exact Or.inr ⟨c.1, c.2.1, ne o c.1 c.2.1⟩
  · intro x
    rcases cut.2.1 with c | c
    · exact x.trans c
    · exact absurd x.symm c.2.2
/-- .. paired, and go to the head of the list -/
theorem hs_PP_push {D : Int → Prop} {k G O C X B X1 B1 G2 O2 C2 X2 B2 : Int → Int} {e r s p o t f : Int} {l : List Int} (hD : ∀ i, D i → 0 ≤ i ∧ i < 24) (h : hs_PP D k G O C X B e r s p (-1) l) (hr : r ≠ -1) (ho : o = X r)
    (hXB : (o = -1 ∧ X1 = hs_u X r (-1) ∧ B1 = hs_u B r (-1)) ∨ (o ≠ -1 ∧ X1 = hs_u (hs_u X o (-1)) r (-1) ∧ B1 = hs_u (hs_u B o (-1)) r (-1)))
    (hu : hs_UP D k (fun i => if i = r ∨ (i = o ∧ o ≠ -1) then -1 else G i) C X1 B1 G2 O2 C2 X2 B2 e (if o = -1 then -1 else X o) r o t f) :
    hs_PP D k G2 O2 C2 (hs_u X2 t p) B2 e (if o = -1 then -1 else X o) s t (-1) (t :: l) ∧ hs_c G2 e + 1 ≤ hs_c G e ∧ D t ∧ hs_fr D X2 (hs_u X2 t p) := by
  have hm : ∀ i, D i → i ≠ -1 := fun i hi => by have := hD i hi; omega
  have cut := hs_PP_cut hD h hr ho hXB
  obtain ⟨h1, h2, h3, h4, h5, h6, h7, h8, h9⟩ := h
  obtain ⟨_, r1, r2, r3, o1, ro, s1, _, _⟩ := cut
  obtain ⟨u1, u2, u3, u4, u5, u6, u7, u8, u9⟩ := hu
  have he := hm e h2
  have gr : ∀ i, G i = -1 → i ≠ r ∧ (o ≠ -1 → i ≠ o) := by
    intro i x
    refine ⟨fun y => ?_, fun z y => ?_⟩
    · rw [y, r2] at x; exact he x
    · rcases o1 with c | c
      · exact z c
      · rw [y, c.2.1] at x; exact he x
  have tt : t ≠ -1 := by
    intro x
    have y := u3 x
    rcases u2 with c | c
    · rw [← c.1] at hr; exact hr x
    · rw [← c.2] at hr; exact hr y
  have tro : t = r ∨ t = o := by
    rcases u2 with c | c
    · exact Or.inl c.1
    · exact Or.inr c.1
  have fro : f = r ∨ f = o := by
    rcases u2 with c | c
    · exact Or.inr c.2
    · exact Or.inl c.2
  have tf : t ≠ f := by
    intro x
    rcases u2 with c | c
    · exact hr (ro (by rw [← c.1, ← c.2]; exact x))
    · exact hr (ro (by rw [← c.1, ← c.2]; exact x.symm))
  have Dt : D t := by
    rcases tro with c | c
    · rw [c]; exact r1
    · rw [c]
      rcases o1 with d | d
      · exact absurd (c.trans d) tt
      · exact d.1
  have te : t ≠ e := by
    rcases tro with c | c
    · rw [c]; exact r3
    · rcases o1 with d | d
      · exact absurd (c.trans d) tt
      · rw [c]; exact d.2.2
  have Gt : G t = e := by
    rcases tro with c | c
    · rw [c]; exact r2
    · rcases o1 with d | d
      · exact absurd (c.trans d) tt
      · rw [c]; exact d.2.1
  have g1o : ∀ i, i ≠ r → (o ≠ -1 → i ≠ o) → (fun i => if i = r ∨ (i = o ∧ o ≠ -1) then -1 else G i) i = G i := by
    intro i x y
    exact if_neg (fun z => z.elim x (fun w => y w.2 w.1))
  have nf : ∀ i, D i → i ≠ r → (o ≠ -1 → i ≠ o) → i ≠ f := by
    intro i hi x y z
    rcases fro with c | c
    · exact x (z.trans c)
    · by_cases w : o = -1
      · exact hm i hi (z.trans (c.trans w))
      · exact y w (z.trans c)
  have nt : ∀ i, i ≠ r → (o ≠ -1 → i ≠ o) → i ≠ t := by
    intro i x y z
    rcases tro with c | c
    · exact x (z.trans c)
    · exact y (fun w => tt (c.trans w)) (z.trans c)
  have x1o : ∀ i, i ≠ r → (o ≠ -1 → i ≠ o) → X1 i = X i ∧ B1 i = B i := by
    intro i x y
    rcases hXB with ⟨_, z, w⟩ | ⟨v, z, w⟩
    · rw [z, w, hs_un x, hs_un x]; exact ⟨rfl, rfl⟩
    · rw [z, w, hs_un x, hs_un x, hs_un (y v), hs_un (y v)]; exact ⟨rfl, rfl⟩
  have b1t : B1 t = -1 := by
    rcases hXB with ⟨z, _, w⟩ | ⟨v, z, w⟩
    · rw [w]
      rcases tro with c | c
      · exact hs_ue c
      · exact absurd (c.trans z) tt
    · rw [w]
      by_cases c : t = r
      · exact hs_ue c
      · rw [hs_un c]
        rcases tro with d | d
        · exact absurd d c
        · exact hs_ue d
  have G1t : (fun i => if i = r ∨ (i = o ∧ o ≠ -1) then -1 else G i) t = -1 := by
    refine if_pos ?_
    rcases tro with c | c
    · exact Or.inl c
    · exact Or.inr ⟨c, fun w => tt (c.trans w)⟩
  have G2t : G2 t = -1 := by rw [(u5 t tf).1]; exact G1t
  have B2t : B2 t = -1 := by rw [u6 t Dt G1t tf]; exact b1t
  -- an old root is left alone
  have old : ∀ i, D i → G i = -1 → G2 i = -1 ∧ B2 i = B i ∧ hs_u X2 t p i = X i ∧ i ≠ t := by
    intro i hi x
    have y := gr i x
    have z := nf i hi y.1 y.2
    have w := g1o i y.1 y.2
    refine ⟨?_, ?_, ?_, nt i y.1 y.2⟩
    · rw [(u5 i z).1, w]; exact x
    · rw [u6 i hi (w.trans x) z]; exact (x1o i y.1 y.2).2
    · rw [hs_un (nt i y.1 y.2), (u5 i z).2]; exact (x1o i y.1 y.2).1
  refine ⟨⟨?_, h2, ?_, ?_, ?_, ?_, Or.inl rfl, ?_, ?_⟩, ?_, Dt, ?_⟩
  · refine hs_PO_root u1 (fun i _ x => hs_un (fun y => x (by rw [y]; exact G2t))) (fun _ _ _ => rfl) hm
  · rcases s1 with c | c
    · exact Or.inl c
    · right
      refine ⟨c.1, ?_⟩
      rw [(u5 _ ?_).1]
      · exact c.2
      · intro x
        have y := c.2
        rw [x] at y
        have z : (fun i => if i = r ∨ (i = o ∧ o ≠ -1) then -1 else G i) f = -1 := by
          refine if_pos ?_
          rcases fro with d | d
          · exact Or.inl d
          · exact Or.inr ⟨d, fun w => hm _ c.1 (x.trans (d.trans w))⟩
        exact he (y.symm.trans z)
  · refine ⟨rfl, tt, ?_⟩
    rw [hs_us]
    refine hs_seg_u l p (fun a ha => ?_) h4
    have y := h6 a ha
    exact (old a y.1 y.2.1).2.2.1
  · refine List.nodup_cons.mpr ⟨fun x => ?_, h5⟩
    have y := h6 t x
    rw [Gt] at y
    exact he y.2.1
  · intro a ha
    rcases List.mem_cons.mp ha with x | x
    · rw [x]
      refine ⟨Dt, G2t, B2t, te, fun y => ?_, tt⟩
      rw [← y, Gt] at h9
      exact he h9.2.1
    · have y := h6 a x
      have z := old a y.1 y.2.1
      exact ⟨y.1, z.1, z.2.1.trans y.2.2.1, y.2.2.2⟩
  · intro i hi x
    by_cases a : i = t
    · exact Or.inr (Or.inl (by rw [a]; exact List.mem_cons_self ..))
    · by_cases b : i = f
      · rcases u4 with c | c
        · exact absurd (b.trans c) (hm i hi)
        · rw [b, c.2] at x; exact absurd x tt
      · have nr : i ≠ r ∧ i ≠ o := by
          rcases u2 with c | c
          · rw [← c.1, ← c.2]; exact ⟨a, b⟩
          · rw [← c.1, ← c.2]; exact ⟨b, a⟩
        rw [(u5 i b).1, g1o i nr.1 (fun _ => nr.2)] at x
        rcases h8 i hi x with c | c | c
        · exact Or.inl c
        · exact Or.inr (Or.inl (List.mem_cons_of_mem _ c))
        · exact Or.inr (Or.inr c)
  · have z := old s h9.1 h9.2.1
    exact ⟨h9.1, z.1, z.2.1.trans h9.2.2.1, z.2.2.1.trans h9.2.2.2⟩
  · refine hs_sum_lt (k := r) (hD r r1).1 (n := 24) (by have := (hD r r1).2; omega) ?_ ?_
    · show (if G2 r = e then (1 : Int) else 0) + 1 ≤ (if G r = e then (1 : Int) else 0)
      rw [if_pos r2, if_neg]
      · omega
      · intro x
        by_cases y : r = f
        · rcases u4 with c | c
          · exact hr (y.trans c)
          · rw [y, c.2] at x; exact te x
        · rw [(u5 r y).1] at x
          have : (fun i => if i = r ∨ (i = o ∧ o ≠ -1) then -1 else G i) r = -1 := if_pos (Or.inl rfl)
          exact he (x.symm.trans this)
    · intro j j0 _
      show (if G2 j = e then (1 : Int) else 0) ≤ (if G j = e then (1 : Int) else 0)
      by_cases x : G2 j = e
      · rw [if_pos x]
        have : G j = e := by
          by_cases y : j = f
          · rcases u4 with c | c
            · omega
            · rw [y, c.2] at x; exact absurd x te
          · rw [(u5 j y).1] at x
            by_cases z : j = r ∨ (j = o ∧ o ≠ -1)
            · have w : (fun i => if i = r ∨ (i = o ∧ o ≠ -1) then -1 else G i) j = -1 := if_pos z
              exact absurd (x.symm.trans w) he
            · have w : (fun i => if i = r ∨ (i = o ∧ o ≠ -1) then -1 else G i) j = G j := if_neg z
              exact w.symm.trans x
        rw [if_pos this]; omega
      · rw [if_neg x]; split <;> omega
  · refine hs_fr_u Dt ?_
    cases l with
    | nil => exact Or.inl h4
    | cons a l =>
      right
      rw [h4.1]
      exact (h6 a (List.mem_cons_self ..)).1
/-- the second pass: the head of the list joins the whole -/
theorem hs_PP_pop {D : Int → Prop} {k G O C X B G2 O2 C2 X2 B2 : Int → Int} {e s p m t f : Int} {l : List Int} (hD : ∀ i, D i → 0 ≤ i ∧ i < 24) (h : hs_PP D k G O C X B e (-1) s p m (p :: l))
    (hu : hs_UP D k G C (hs_u X p (-1)) B G2 O2 C2 X2 B2 e (-1) m p t f) :
    hs_PP D k G2 O2 C2 X2 B2 e (-1) s (X p) t l := by
  have hm : ∀ i, D i → i ≠ -1 := fun i hi => by have := hD i hi; omega
  obtain ⟨h1, h2, h3, h4, h5, h6, h7, h8, h9⟩ := h
  obtain ⟨u1, u2, u3, u4, u5, u6, u7, u8, u9⟩ := hu
  have pl := h6 p (List.mem_cons_self ..)
  have nd := List.nodup_cons.mp h5
  have tt : t ≠ -1 := by
    intro x
    have y := u3 x
    rcases u2 with c | c
    · exact hm p pl.1 (c.2.symm.trans y)
    · exact hm p pl.1 (c.1.symm.trans x)
  have tin : t = m ∨ t = p := by
    rcases u2 with c | c
    · exact Or.inl c.1
    · exact Or.inr c.1
  have fin : f = m ∨ f = p := by
    rcases u2 with c | c
    · exact Or.inr c.2
    · exact Or.inl c.2
  have mp : m ≠ p := fun x => pl.2.2.2.2.2 x.symm
  have tf : t ≠ f := by
    intro x
    rcases u2 with c | c
    · exact mp (by rw [← c.1, ← c.2]; exact x)
    · exact mp (by rw [← c.1, ← c.2]; exact x.symm)
  have tm : D t ∧ G t = -1 ∧ B t = -1 ∧ hs_u X p (-1) t = -1 ∧ t ≠ e ∧ t ≠ s := by
    rcases tin with c | c
    · rcases h7 with d | d
      · exact absurd (c.trans d) tt
      · rw [c, hs_un mp]; exact d
    · rw [c, hs_us]; exact ⟨pl.1, pl.2.1, pl.2.2.1, rfl, pl.2.2.2.1, pl.2.2.2.2.1⟩
  have old : ∀ i, D i → G i = -1 → i ≠ m → i ≠ p → G2 i = -1 ∧ B2 i = B i ∧ X2 i = X i ∧ i ≠ t := by
    intro i hi x a b
    have nf : i ≠ f := by
      rcases fin with c | c
      · rw [c]; exact a
      · rw [c]; exact b
    refine ⟨by rw [(u5 i nf).1]; exact x, u6 i hi x nf, by rw [(u5 i nf).2]; exact hs_un b, ?_⟩
    rcases tin with c | c
    · rw [c]; exact a
    · rw [c]; exact b
  refine ⟨u1, h2, Or.inl rfl, ?_, nd.2, ?_, Or.inr ?_, ?_, ?_⟩
  · refine hs_seg_u l (X p) (fun a ha => ?_) h4.2.2
    have y := h6 a (List.mem_cons_of_mem _ ha)
    exact (old a y.1 y.2.1 y.2.2.2.2.2 (fun z => nd.1 (by rw [← z]; exact ha))).2.2.1
  · intro a ha
    have y := h6 a (List.mem_cons_of_mem _ ha)
    have z := old a y.1 y.2.1 y.2.2.2.2.2 (fun z => nd.1 (by rw [← z]; exact ha))
    exact ⟨y.1, z.1, z.2.1.trans y.2.2.1, y.2.2.2.1, y.2.2.2.2.1, z.2.2.2⟩
  · exact ⟨tm.1, by rw [(u5 t tf).1]; exact tm.2.1, by rw [u6 t tm.1 tm.2.1 tf]; exact tm.2.2.1, by rw [(u5 t tf).2]; exact tm.2.2.2.1, tm.2.2.2.2⟩
  · intro i hi x
    by_cases a : i = f
    · rcases u4 with c | c
      · exact absurd (a.trans c) (hm i hi)
      · rw [a, c.2] at x; exact absurd x tt
    · rw [(u5 i a).1] at x
      rcases h8 i hi x with c | c | c
      · exact Or.inl c
      · rcases List.mem_cons.mp c with d | d
        · right; right
          rcases u2 with g | g
          · exact absurd (d.trans g.2.symm) a
          · exact d.trans g.1.symm
        · exact Or.inr (Or.inl d)
      · right; right
        rcases u2 with g | g
        · exact c.trans g.1.symm
        · exact absurd (c.trans g.2.symm) a
  · have sm : s ≠ m := by
      intro x
      rcases h7 with d | d
      · exact hm s h9.1 (x.trans d)
      · exact d.2.2.2.2.2 x.symm
    have z := old s h9.1 h9.2.1 sm (fun x => pl.2.2.2.2.1 x.symm)
    exact ⟨h9.1, z.1, z.2.1.trans h9.2.2.1, z.2.2.1.trans h9.2.2.2⟩
end HS11
end
section
section HS12
/-! the binomial trees of queue b are added to those of queue a, order by order -/
theorem hs_sum_add {f g h : Int → Int} : ∀ n : Nat, (∀ j : Int, 0 ≤ j → j < n → h j = f j + g j) → hs_sum h n = hs_sum f n + hs_sum g n := by
  intro n
  induction n with
  | zero => intro _; rfl
  | succ n ih =>
    intro e
    have h1 := ih (fun j a b => e j a (by omega))
    have h2 := e (n : Int) (by omega) (by omega)
    show hs_sum h n + h (n : Int) = hs_sum f n + f (n : Int) + (hs_sum g n + g (n : Int))
    omega
theorem hs_c_join0 {H J : Int → Int} {a b : Int} (hab : a ≠ b) (h1 : ∀ i, H i = b → J i = a) (h2 : ∀ i, H i ≠ b → J i = H i) : hs_c J a = hs_c H a + hs_c H b ∧ hs_c J b = 0 := by
  constructor
  · refine hs_sum_add 24 fun j _ _ => ?_
    try dsimp only
    by_cases c : H j = b
    · rw [if_pos (h1 j c), if_pos c, if_neg (fun z => hab (z.symm.trans c))]; rfl
    · rw [h2 j c, if_neg c]; omega
  · have : hs_c J b = hs_sum (fun _ => 0) 24 := by
      refine hs_sum_congr 24 fun j _ _ => ?_
      try dsimp only
      by_cases c : H j = b
      · rw [if_neg (by rw [h1 j c]; exact hab)]
      · rw [if_neg (by rw [h2 j c]; exact c)]
    rw [this, hs_sum_const]; rfl
theorem hs_c_join (H : Int → Int) {a b : Int} (hab : a ≠ b) : hs_c (fun i => if H i = b then a else H i) a = hs_c H a + hs_c H b ∧ hs_c (fun i => if H i = b then a else H i) b = 0 :=
  hs_c_join0 hab (fun _ c => if_pos c) (fun _ c => if_neg c)
def hs_JL (D : Int → Prop) (k d G T C X U : Int → Int) (a b o tot : Int) : Prop :=
  hs_BO D d G C X (-1) ∧ hs_BK D k G (-1) ∧ hs_BR D (fun n => ∃ o', o ≤ o' ∧ o' ≤ 4 ∧ T (b * 5 + o') = n) T d G a (-1) ∧ (∀ n, D n → U n = G n) ∧
  (∀ o', 0 ≤ o' → o' < o → o' ≤ 4 → T (b * 5 + o') = -1) ∧
  (∀ o', o ≤ o' → o' ≤ 4 → T (b * 5 + o') = -1 ∨ (D (T (b * 5 + o')) ∧ G (T (b * 5 + o')) = -1 ∧ d (T (b * 5 + o')) = o')) ∧ hs_tv T a + hs_tv T b = tot
theorem hs_JL_skip {D : Int → Prop} {k d G T C X U : Int → Int} {a b o tot : Int} (hm : ∀ n, D n → n ≠ -1) (h : hs_JL D k d G T C X U a b o tot) (hT : T (b * 5 + o) = -1) : hs_JL D k d G T C X U a b (o + 1) tot := by
  obtain ⟨h1, h2, ⟨h3, h3'⟩, h4, h5, h6, h7⟩ := h
  have eqv : ∀ n, D n → (∃ o', o ≤ o' ∧ o' ≤ 4 ∧ T (b * 5 + o') = n) → ∃ o', o + 1 ≤ o' ∧ o' ≤ 4 ∧ T (b * 5 + o') = n := by
    intro n hn ⟨o', x, y, z⟩
    refine ⟨o', ?_, y, z⟩
    have : o' ≠ o := by
      intro e
      rw [e, hT] at z
      exact hm n hn z.symm
    omega
  refine ⟨h1, h2, ⟨?_, ?_⟩, h4, ?_, fun o' x y => h6 o' (by omega) y, h7⟩
  · intro n hn x y z
    exact h3 n hn x y (fun v => z (eqv n hn v))
  · intro o' x y
    rcases h3' o' x y with c | c
    · exact Or.inl c
    · refine Or.inr ⟨c.1, c.2.1, c.2.2.1, c.2.2.2.1, ?_⟩
      intro ⟨o2, u, v, w⟩
      exact c.2.2.2.2 ⟨o2, by omega, v, w⟩
  · intro o' x y z
    by_cases e : o' = o
    · rw [e]; exact hT
    · exact h5 o' x (by omega) z
theorem hs_JL_at {D : Int → Prop} {k d G T C X U : Int → Int} {a b o tot : Int} (hm : ∀ n, D n → n ≠ -1) (hab : a ≠ b) (h : hs_JL D k d G T C X U a b o tot) (o0 : 0 ≤ o) (o4 : o ≤ 4) (hT : T (b * 5 + o) ≠ -1) :
    hs_AT D (fun n => ∃ o', o + 1 ≤ o' ∧ o' ≤ 4 ∧ T (b * 5 + o') = n) k d G (hs_u T (b * 5 + o) (-1)) C X U a (-1) (T (b * 5 + o)) o (hs_tv T a + hs_pw o) ∧ hs_tv T a + hs_pw o ≤ tot ∧
    hs_tv (hs_u T (b * 5 + o) (-1)) b = hs_tv T b - hs_pw o := by
  obtain ⟨h1, h2, ⟨h3, h3'⟩, h4, h5, h6, h7⟩ := h
  obtain ⟨c1, c2, c3⟩ : D (T (b * 5 + o)) ∧ G (T (b * 5 + o)) = -1 ∧ d (T (b * 5 + o)) = o := by
    rcases h6 o (by omega) o4 with x | x
    · exact absurd x hT
    · exact x
  have ta : hs_tv (hs_u T (b * 5 + o) (-1)) a = hs_tv T a := hs_tv_congr (fun o' x y => hs_un (by omega))
  have tb : hs_tv (hs_u T (b * 5 + o) (-1)) b = hs_tv T b - hs_pw o := by
    rw [hs_tv_u T b (-1) o o0 o4]
    unfold hs_b1
    rw [if_pos rfl, if_neg hT]; omega
  have t0 := hs_tv_r (hs_u T (b * 5 + o) (-1)) b
  refine ⟨⟨h1, h2, ⟨?_, ?_⟩, c1, c2, c3, ?_, fun n hn _ => h4 n hn, by rw [ta]⟩, by omega, tb⟩
  · intro n hn x y z
    have r := h1 n hn
    rw [hs_un (by omega)]
    refine h3 n hn x (hm n hn) ?_
    · intro ⟨o', u1, u2, u3⟩
      by_cases e : o' = o
      · rw [e] at u3; exact y u3.symm
      · exact z ⟨o', by omega, u2, u3⟩
  · intro o' x y
    rw [hs_un (by omega)]
    rcases h3' o' x y with c | c
    · exact Or.inl c
    · refine Or.inr ⟨c.1, c.2.1, c.2.2.1, ?_, ?_⟩
      · intro v
        exact c.2.2.2.2 ⟨o, by omega, o4, v.symm⟩
      · intro ⟨o2, u, v, w⟩
        exact c.2.2.2.2 ⟨o2, by omega, v, w⟩
  · intro ⟨o', u1, u2, u3⟩
    rcases h6 o' (by omega) u2 with x | x
    · rw [u3] at x; exact hT x
    · rw [u3, c3] at x; omega
theorem hs_JL_next {D : Int → Prop} {k d G T C X U d' G' T' C' X' U' : Int → Int} {a b o tot : Int} (hab : a ≠ b) (h : hs_JL D k d G T C X U a b o tot) (o0 : 0 ≤ o) (o4 : o ≤ 4)
    (b1 : hs_BO D d' G' C' X' (-1)) (b2 : hs_BK D k G' (-1)) (b3 : hs_BR D (fun n => ∃ o', o + 1 ≤ o' ∧ o' ≤ 4 ∧ T (b * 5 + o') = n) T' d' G' a (-1)) (b4 : ∀ n, D n → U' n = G' n) (b5 : hs_tv T' a = hs_tv T a + hs_pw o)
    (kp : ∀ n, (∃ o', o + 1 ≤ o' ∧ o' ≤ 4 ∧ T (b * 5 + o') = n) → G' n = G n ∧ d' n = d n) (kt : ∀ o', 0 ≤ o' → o' ≤ 4 → T' (b * 5 + o') = hs_u T (b * 5 + o) (-1) (b * 5 + o')) (tb : hs_tv (hs_u T (b * 5 + o) (-1)) b = hs_tv T b - hs_pw o) :
    hs_JL D k d' G' T' C' X' U' a b (o + 1) tot := by
  obtain ⟨h1, h2, ⟨h3, h3'⟩, h4, h5, h6, h7⟩ := h
  have kt2 : ∀ o', 0 ≤ o' → o' ≤ 4 → o' ≠ o → T' (b * 5 + o') = T (b * 5 + o') := by
    intro o' x y z
    rw [kt o' x y, hs_un (by omega)]
  have eqv : ∀ n, (∃ o', o + 1 ≤ o' ∧ o' ≤ 4 ∧ T' (b * 5 + o') = n) ↔ ∃ o', o + 1 ≤ o' ∧ o' ≤ 4 ∧ T (b * 5 + o') = n := by
    intro n
    constructor
    · intro ⟨o', x, y, z⟩
      rw [kt2 o' (by omega) y (by omega)] at z
      exact ⟨o', x, y, z⟩
    · intro ⟨o', x, y, z⟩
      refine ⟨o', x, y, ?_⟩
      rw [kt2 o' (by omega) y (by omega)]; exact z
  refine ⟨b1, b2, ⟨?_, ?_⟩, b4, ?_, ?_, ?_⟩
  · intro n hn x y z
    exact b3.1 n hn x y (fun v => z ((eqv n).mpr v))
  · intro o' x y
    rcases b3.2 o' x y with c | c
    · exact Or.inl c
    · exact Or.inr ⟨c.1, c.2.1, c.2.2.1, c.2.2.2.1, fun v => c.2.2.2.2 ((eqv _).mp v)⟩
  · intro o' x y z
    by_cases e : o' = o
    · rw [e, kt o o0 o4]; exact hs_us
    · rw [kt2 o' x z e]; exact h5 o' x (by omega) z
  · intro o' x y
    rw [kt2 o' (by omega) y (by omega)]
    rcases h6 o' (by omega) y with c | c
    · exact Or.inl c
    · have k := kp (T (b * 5 + o')) ⟨o', x, y, rfl⟩
      exact Or.inr ⟨c.1, by rw [k.1]; exact c.2.1, by rw [k.2]; exact c.2.2⟩
  · rw [b5, hs_tv_congr kt, tb]; omega
theorem hs_BO_sub {D D' : Int → Prop} {d G C X : Int → Int} {n : Int} (hs : ∀ n, D n → D' n) (hu : ∀ m, D' m → G m = G n → G n ≠ -1 → D m)
    (h : 0 ≤ d n ∧ d n ≤ 4 ∧ ((C n = -1 ∧ d n = 0) ∨ (D (C n) ∧ G (C n) = n ∧ d (C n) = d n - 1)) ∧ (G n ≠ -1 → (X n = -1 ∧ d n = 0) ∨ (D (X n) ∧ G (X n) = G n ∧ d (X n) = d n - 1)) ∧ (G n = -1 ∨ (d n < d (G n) ∧ (G n = -1 ∨ D (G n)))) ∧ (∀ m, D m → G m = G n → G n ≠ -1 → d m = d n → m = n)) :
    0 ≤ d n ∧ d n ≤ 4 ∧ ((C n = -1 ∧ d n = 0) ∨ (D' (C n) ∧ G (C n) = n ∧ d (C n) = d n - 1)) ∧ (G n ≠ -1 → (X n = -1 ∧ d n = 0) ∨ (D' (X n) ∧ G (X n) = G n ∧ d (X n) = d n - 1)) ∧ (G n = -1 ∨ (d n < d (G n) ∧ (G n = -1 ∨ D' (G n)))) ∧ (∀ m, D' m → G m = G n → G n ≠ -1 → d m = d n → m = n) := by
  obtain ⟨h0, h4, hc, hx, hg, hq⟩ := h
  refine ⟨h0, h4, ?_, fun y => ?_, ?_, fun m hm a b c => hq m (hu m hm a b) a b c⟩
  · rcases hc with f | f
    · exact Or.inl f
    · exact Or.inr ⟨hs _ f.1, f.2⟩
  · rcases hx y with f | f
    · exact Or.inl f
    · exact Or.inr ⟨hs _ f.1, f.2⟩
  · rcases hg with f | ⟨f1, f | f⟩
    · exact Or.inl f
    · exact Or.inl f
    · exact Or.inr ⟨f1, Or.inr (hs _ f)⟩
theorem hs_BD_join {H NI : Int → Int} {a b : Int} (hab : a ≠ b) (n : Int) : hs_BD (fun i => if H i = b then a else H i) NI a n ↔ hs_BD H NI a n ∨ hs_BD H NI b n := by
  constructor
  · intro c
    have := c.2.2
    by_cases z : H (NI n) = b
    · exact Or.inr ⟨c.1, c.2.1, z⟩
    · dsimp only at this
      rw [if_neg z] at this
      exact Or.inl ⟨c.1, c.2.1, this⟩
  · intro c
    rcases c with c | c
    · refine ⟨c.1, c.2.1, ?_⟩
      dsimp only
      rw [if_neg (by rw [c.2.2]; exact hab)]; exact c.2.2
    · refine ⟨c.1, c.2.1, ?_⟩
      dsimp only
      rw [if_pos c.2.2]
theorem hs_JL_start {K H T C X U NI : Int → Int} {a b : Int} (hab : a ≠ b) (ha : hs_BT K H T C X U NI a) (hb : hs_BT K H T C X U NI b) :
    ∃ d, hs_JL (hs_BD (fun i => if H i = b then a else H i) NI a) (fun n => K (NI n)) d U T C X U a b 0 (hs_c (fun i => if H i = b then a else H i) a) := by
  obtain ⟨d1, a1, a2, ⟨a3, a3'⟩, a4⟩ := ha
  obtain ⟨d2, b1, b2, ⟨b3, b3'⟩, b4⟩ := hb
  have hD := hs_BD_join (H := H) (NI := NI) hab
  have DA : ∀ n, hs_BD H NI a n → (fun n => if H (NI n) = a then d1 n else d2 n) n = d1 n := fun n hn => if_pos hn.2.2
  have DB : ∀ n, hs_BD H NI b n → (fun n => if H (NI n) = a then d1 n else d2 n) n = d2 n := fun n hn => if_neg (fun z => hab (z.symm.trans hn.2.2))
  have pa := hs_BO_congr a1 (fun _ => Iff.rfl) DA (Or.inr rfl) (fun _ _ => rfl) (fun _ _ => rfl) (fun _ _ _ => rfl)
  have pb := hs_BO_congr b1 (fun _ => Iff.rfl) DB (Or.inr rfl) (fun _ _ => rfl) (fun _ _ => rfl) (fun _ _ _ => rfl)
  have upA : ∀ n, hs_BD H NI a n → U n ≠ -1 → hs_BD H NI a (U n) := by
    intro n hn c
    rcases (a1 n hn).2.2.2.2.1 with f | ⟨_, f | f⟩
    · exact absurd f c
    · exact absurd f c
    · exact f
  have upB : ∀ n, hs_BD H NI b n → U n ≠ -1 → hs_BD H NI b (U n) := by
    intro n hn c
    rcases (b1 n hn).2.2.2.2.1 with f | ⟨_, f | f⟩
    · exact absurd f c
    · exact absurd f c
    · exact f
  generalize hd : (fun n => if H (NI n) = a then d1 n else d2 n) = d at *
  refine ⟨d, ?_, ?_, ⟨?_, ?_⟩, fun _ _ => rfl, ?_, ?_, ?_⟩
  · intro n hn
    rcases (hD n).mp hn with c | c
    · refine hs_BO_sub (fun m x => (hD m).mpr (Or.inl x)) ?_ (pa n c)
      intro m hm' e1 e2
      rcases (hD m).mp hm' with f | f
      · exact f
      · have g := upB m f (by rw [e1]; exact e2)
        have g2 := upA n c e2
        rw [e1] at g
        exact absurd (g2.2.2.symm.trans g.2.2) hab
    · refine hs_BO_sub (fun m x => (hD m).mpr (Or.inr x)) ?_ (pb n c)
      intro m hm' e1 e2
      rcases (hD m).mp hm' with f | f
      · have g := upA m f (by rw [e1]; exact e2)
        have g2 := upB n c e2
        rw [e1] at g
        exact absurd (g.2.2.symm.trans g2.2.2) hab
      · exact f
  · intro n hn
    rcases (hD n).mp hn with c | c
    · exact a2 n c
    · exact b2 n c
  · intro n hn x y z
    rcases (hD n).mp hn with c | c
    · rw [DA n c]; exact a3 n c x y (fun v => v)
    · exfalso
      have r := pb n c
      have w := b3 n c x y (fun v => v)
      rw [← DB n c] at w
      exact z ⟨d n, r.1, r.2.1, w⟩
  · intro o x y
    rcases a3' o x y with c | c
    · exact Or.inl c
    · refine Or.inr ⟨(hD _).mpr (Or.inl c.1), c.2.1, by rw [DA _ c.1]; exact c.2.2.1, c.2.2.2.1, ?_⟩
      intro ⟨o', u, v, w⟩
      rcases b3' o' u v with g | g
      · rw [w] at g
        have := c.1.1; omega
      · rw [w] at g
        exact hab (c.1.2.2.symm.trans g.1.2.2)
  · intro o' x y z; omega
  · intro o' x y
    rcases b3' o' x y with c | c
    · exact Or.inl c
    · exact Or.inr ⟨(hD _).mpr (Or.inr c.1), c.2.1, by rw [DB _ c.1]; exact c.2.2.1⟩
  · rw [(hs_c_join H hab).1, a4, b4]
theorem hs_JL_end {K H T C X U NI d G : Int → Int} {a b : Int} (hab : a ≠ b) (h : hs_JL (hs_BD (fun i => if H i = b then a else H i) NI a) (fun n => K (NI n)) d G T C X U a b 5 (hs_c (fun i => if H i = b then a else H i) a)) :
    hs_BT K (fun i => if H i = b then a else H i) T C X U NI a ∧ hs_BT K (fun i => if H i = b then a else H i) T C X U NI b := by
  obtain ⟨h1, h2, ⟨h3, h3'⟩, h4, h5, h6, h7⟩ := h
  have tb : hs_tv T b = 0 := by
    unfold hs_tv hs_b1
    have e0 := h5 0 (by omega) (by omega) (by omega)
    rw [Int.add_zero] at e0
    rw [if_pos e0, if_pos (h5 1 (by omega) (by omega) (by omega)), if_pos (h5 2 (by omega) (by omega) (by omega)), if_pos (h5 3 (by omega) (by omega) (by omega)), if_pos (h5 4 (by omega) (by omega) (by omega))]
    rfl
  refine ⟨hs_BT_of (d := d) (G := G) h1 h2 ⟨?_, ?_⟩ h4 (by omega), ?_⟩
  · intro n hn x y _
    refine h3 n hn x y ?_
    intro ⟨o', u, v, _⟩
    omega
  · intro o x y
    rcases h3' o x y with c | c
    · exact Or.inl c
    · exact Or.inr ⟨c.1, c.2.1, c.2.2.1, c.2.2.2.1, fun v => v⟩
  · have none : ∀ n, ¬ hs_BD (fun i => if H i = b then a else H i) NI b n := by
      intro n hn
      have := hn.2.2
      dsimp only at this
      by_cases z : H (NI n) = b
      · rw [if_pos z] at this; exact hab this
      · rw [if_neg z] at this; exact z this
    refine ⟨d, fun n hn => absurd hn (none n), fun n hn => absurd hn (none n), ⟨fun n hn => absurd hn (none n), fun o x y => Or.inl (h5 o x (by omega) y)⟩, ?_⟩
    rw [tb, (hs_c_join H hab).2]
end HS12
end
section
section HS20
variable {gv1 gv2 gv3 gv4 gv5 gv6 gv7 gv8 gv9 gv10 gv11 gv12 gv13 gv14 gv15 gv16 gv17 gv18 gv19 gv20 gv21 gv22 : Nat → Int32}
/-! the walks of the small methods, by integers -/
theorem hs_l0 : hs_i 0 = 0 := by decide
theorem hs_l1 : hs_i 1 = 1 := by decide
theorem hs_lm1 : hs_i (-1) = -1 := by decide
theorem hs_1 (a : Int) : hs_i a + 1 = hs_i (a + 1) := by rw [← hs_l1]; exact hs_add a 1
theorem hs_s1 (a : Int) : hs_i a - 1 = hs_i (a - 1) := by rw [← hs_l1]; exact hs_sub a 1
theorem hs_m1 (a : Int) : hs_i a + (-1) = hs_i (a - 1) := by rw [← hs_lm1]; exact hs_add a (-1)
theorem hs_x4 (a b : Int) : hs_i a * 4 + hs_i b = hs_i (a * 4 + b) := by
  rw [show (4 : Int32) = hs_i 4 from by decide, hs_mul, hs_add]
theorem hs_x5 (a b : Int) : hs_i a * 5 + hs_i b = hs_i (a * 5 + b) := by
  rw [show (5 : Int32) = hs_i 5 from by decide, hs_mul, hs_add]
theorem hs_m24 (a : Int) : hs_i a * 24 = hs_i (a * 24) := by
  rw [show (24 : Int32) = hs_i 24 from by decide, hs_mul]
theorem hs_m48 (a : Int) : hs_i a * 48 = hs_i (a * 48) := by
  rw [show (48 : Int32) = hs_i 48 from by decide, hs_mul]
theorem hs_2m (a : Int) : 2 * hs_i a = hs_i (2 * a) := by
  rw [show (2 : Int32) = hs_i 2 from by decide, hs_mul]
theorem hs_p24 (a : Int) : 24 + hs_i a = hs_i (24 + a) := by
  rw [show (24 : Int32) = hs_i 24 from by decide, hs_add]
theorem hs_x24 (a b : Int) : hs_i a * 24 + hs_i b = hs_i (a * 24 + b) := by
  rw [hs_m24, hs_add]
theorem hs_rd {A : Int → Int} {x : Int32} {N : Nat} {P : Int32 → Prop} (n : Int) (hx : x = hs_i n) (h0 : 0 ≤ n) (h1 : n < N) (hN : N < 2147483648) (h : P (hs_i (A n))) :
    vp_in x N ∧ ∀ y, y = hs_e A x.toNatClampNeg → P y := by
  subst hx
  exact ⟨hs_in h0 h1 hN, nm_r (hs_get h0 (by omega)) h⟩
theorem hs_wr {A : Int → Int} {x c : Int32} {N : Nat} {P : (Nat → Int32) → Prop} (n v : Int) (hx : x = hs_i n) (hc : c = hs_i v) (h0 : 0 ≤ n) (h1 : n < N) (hN : N < 2147483648) (h : P (hs_e (hs_u A n v))) :
    vp_in x N ∧ ∀ y, y = upd (hs_e A) x.toNatClampNeg c → P y := by
  subst hx hc
  exact ⟨hs_in h0 h1 hN, nm_r (hs_put h0 (by omega)) h⟩
/-- all keys are in range -/
def hs_kr (k : Int → Int) : Prop := ∀ i, 0 ≤ i → i < 24 → -999 ≤ k i ∧ k i ≤ 999
theorem hs_cb {post : Int32 → Prop} {k : Int → Int} {i j : Int} (kr : hs_kr k) (i0 : 0 ≤ i) (i1 : i < 24) (j0 : 0 ≤ j) (j1 : j < 24)
    (ht : hs_K k i < hs_K k j → post 1) (hf : ¬ hs_K k i < hs_K k j → post 0) : wpX_comesBefore post (hs_e k, gv2, gv3, gv4, gv5, gv6, gv7, gv8, gv9, gv10, gv11, gv12, gv13, gv14, gv15, gv16, gv17, gv18, gv19, gv20, gv21, gv22) (hs_i i) (hs_i j) := by
  have a := kr i i0 i1
  have b := kr j j0 j1
  have e := hs_bef (k := k) i0 i1 j0 j1
  have vi : vp_in (hs_i i) 24 := hs_in i0 (by omega) (by decide)
  have vj : vp_in (hs_i j) 24 := hs_in j0 (by omega) (by decide)
  unfold wpX_comesBefore
  dsimp only
  rw [hs_get i0 (by omega), hs_get j0 (by omega)]
  refine ⟨vi, vj, hs_lt (k i) (k j) (fun c => ht (e.mp (Or.inl c))) (fun c => ⟨vi, vj, hs_eq (k i) (k j) (fun d => hs_le j i (fun g => hf (fun z => ?_)) (fun g => ht (e.mp (Or.inr ⟨d, g⟩)))) (fun d => hf (fun z => ?_))⟩)⟩
  · have := e.mpr z; omega
  · have := e.mpr z; omega
theorem hs_bet {post : Int32 → Prop} {k : Int → Int} {i j : Int} (kr : hs_kr k) (i0 : -1 ≤ i) (i1 : i < 24) (j0 : -1 ≤ j) (j1 : j < 24)
    (h : post (hs_i (hs_bt (hs_K k) i j))) : wpX_better post (hs_e k, gv2, gv3, gv4, gv5, gv6, gv7, gv8, gv9, gv10, gv11, gv12, gv13, gv14, gv15, gv16, gv17, gv18, gv19, gv20, gv21, gv22) (hs_i i) (hs_i j) := by
  unfold wpX_better
  dsimp only
  unfold hs_bt at h
  refine hs_eq i (-1) (fun c => ?_) (fun c => hs_eq j (-1) (fun d => ?_) (fun d => hs_cb kr (by omega) i1 (by omega) j1 (fun g => ?_) (fun g => ?_)))
  · rw [if_pos c] at h; exact h
  · rw [if_neg c, if_pos d] at h; exact h
  · rw [if_neg c, if_neg d, if_pos g] at h; exact br_f (by decide) h
  · rw [if_neg c, if_neg d, if_neg g] at h; exact br_t rfl h
theorem hs_isQ {post : Int32 → Prop} {q : Int} (hq : -2147483648 ≤ q ∧ q < 2147483648) (ht : 0 ≤ q → q ≤ 3 → post 1) (hf : ¬ (0 ≤ q ∧ q ≤ 3) → post 0) : wpX_isQueue post (hs_i q) := by
  unfold wpX_isQueue
  exact hs_lt q 0 (fun c => hf (by omega)) (fun c => hs_le 4 q (fun d => hf (by omega)) (fun d => ht c (by omega)))
theorem hs_isI {post : Int32 → Prop} {q : Int} (hq : -2147483648 ≤ q ∧ q < 2147483648) (ht : 0 ≤ q → q < 24 → post 1) (hf : ¬ (0 ≤ q ∧ q < 24) → post 0) : wpX_isItem post (hs_i q) := by
  unfold wpX_isItem
  exact hs_lt q 0 (fun c => hf (by omega)) (fun c => hs_le 24 q (fun d => hf (by omega)) (fun d => ht c (by omega)))
theorem hs_isE {post : Int32 → Prop} {q : Int} (hq : -2147483648 ≤ q ∧ q < 2147483648) (ht : 0 ≤ q → q ≤ 6 → post 1) (hf : ¬ (0 ≤ q ∧ q ≤ 6) → post 0) : wpX_isEngine post (hs_i q) := by
  unfold wpX_isEngine
  exact hs_lt q 0 (fun c => hf (by omega)) (fun c => hs_le 7 q (fun d => hf (by omega)) (fun d => ht c (by omega)))
theorem hs_isK {post : Int32 → Prop} {q : Int} (hq : -2147483648 ≤ q ∧ q < 2147483648) (ht : -999 ≤ q → q ≤ 999 → post 1) (hf : ¬ (-999 ≤ q ∧ q ≤ 999) → post 0) : wpX_isKey post (hs_i q) := by
  unfold wpX_isKey
  exact hs_lt q (-999) (fun c => hf (by omega)) (fun c => hs_lt 999 q (fun d => hf (by omega)) (fun d => ht c d))
/-! engines 0 and 1 -/
theorem hs_setSlot {post : SX → Prop} {S P : Int → Int} {w q p x : Int} (hw : 0 ≤ w) (hw' : w ≤ 1) (hq : 0 ≤ q) (hq' : q ≤ 3) (hp : 0 ≤ p) (hp' : p < 24) (hx : 0 ≤ x) (hx' : x < 24)
    (h : post (gv1, gv2, gv3, hs_e (hs_u S ((w * 4 + q) * 24 + p) x), gv5, hs_e (hs_u P (w * 24 + x) p), gv7, gv8, gv9, gv10, gv11, gv12, gv13, gv14, gv15, gv16, gv17, gv18, gv19, gv20, gv21, gv22)) : wpX_setSlot post (gv1, gv2, gv3, hs_e S, gv5, hs_e P, gv7, gv8, gv9, gv10, gv11, gv12, gv13, gv14, gv15, gv16, gv17, gv18, gv19, gv20, gv21, gv22) (hs_i w) (hs_i q) (hs_i p) (hs_i x) := by
  unfold wpX_setSlot
  dsimp only
  exact hs_wr ((w * 4 + q) * 24 + p) x (by rw [hs_x4, hs_x24]) rfl (by omega) (by omega) (by decide) (hs_wr (w * 24 + x) p (by rw [hs_x24]) rfl (by omega) (by omega) (by decide) h)
theorem hs_slotAbove {post : Int32 → Prop} {w p : Int} (hw : 0 ≤ w) (hw' : w ≤ 1) (hp : 1 ≤ p) (hp' : p < 24) (h : post (hs_i (hs_pa w p))) : wpX_slotAbove post (hs_i w) (hs_i p) := by
  unfold wpX_slotAbove
  unfold hs_pa at h
  refine hs_eq w 0 (fun c => ⟨by decide, ?_⟩) (fun c => ⟨by decide, ?_⟩)
  · rw [if_pos c] at h; rw [hs_s1, hs_div2 (by omega) (by omega)]; exact h
  · rw [if_neg c] at h; rw [hs_s1, hs_div4 (by omega) (by omega)]; exact h
theorem hs_su {post : SX → Prop} {k H : Int → Int} {w q f x : Int} (kr : hs_kr k) (hw : 0 ≤ w) (hw' : w ≤ 1) (hq : 0 ≤ q) (hq' : q ≤ 3) (hf : f ≤ 24) :
    ∀ (n : Nat) (p st : Int) (S P : Int → Int), hs_SI (hs_K k) H S P w q ((w * 4 + q) * 24) (w * 24) f p x → 0 ≤ st → st + p ≤ 23 → 24 - st < n →
    (∀ (S' P' : Int → Int) (p' : Int), hs_SI (hs_K k) H S' P' w q ((w * 4 + q) * 24) (w * 24) f p' x → hs_AE (hs_K k) (hs_u S' ((w * 4 + q) * 24 + p') x) w ((w * 4 + q) * 24) p' →
      (hs_AD (hs_K k) (hs_u S ((w * 4 + q) * 24 + p) x) w ((w * 4 + q) * 24) f p → hs_AD (hs_K k) (hs_u S' ((w * 4 + q) * 24 + p') x) w ((w * 4 + q) * 24) f p') →
      hs_fS S S' ((w * 4 + q) * 24) → hs_fP H P P' q (w * 24) → post (hs_e k, gv2, gv3, hs_e (hs_u S' ((w * 4 + q) * 24 + p') x), gv5, hs_e (hs_u P' (w * 24 + x) p'), gv7, gv8, gv9, gv10, gv11, gv12, gv13, gv14, gv15, gv16, gv17, gv18, gv19, gv20, gv21, gv22)) →
    wX_siftUp_26 post (hs_i w) (hs_i q) (hs_i x) (hs_i ((w * 4 + q) * 24)) n (hs_i p) (hs_i st) (hs_e k) gv2 gv3 (hs_e S) gv5 (hs_e P) gv7 gv8 gv9 gv10 gv11 gv12 gv13 gv14 gv15 gv16 gv17 gv18 gv19 gv20 gv21 gv22 := by
  intro n
  induction n with
  | zero => intro p st S P hI h0 h1 h2; have := hI.2.2.2.1; omega
  | succ n ih =>
    intro p st S P hI h0 h1 h2 hK
    have p0 := hI.2.2.2.1
    have pf := hI.2.2.2.2
    have ax := hI.1.1 p p0 pf
    rw [hs_us, hs_us] at ax
    have ex : hs_AE (hs_K k) (hs_u S ((w * 4 + q) * 24 + p) x) w ((w * 4 + q) * 24) p → wX_siftUp_91 post (hs_i w) (hs_i q) (hs_i x) (hs_i p) (hs_e k) gv2 gv3 (hs_e S) gv5 (hs_e P) gv7 gv8 gv9 gv10 gv11 gv12 gv13 gv14 gv15 gv16 gv17 gv18 gv19 gv20 gv21 gv22 := by
      intro hE
      unfold wX_siftUp_91
      exact hs_setSlot hw hw' hq hq' p0 (by omega) ax.1 ax.2.1 (hK S P p hI hE (fun z => z) hs_fS_refl hs_fP_refl)
    refine hs_le 24 st (fun c => absurd c (by omega)) (fun _ => ?_)
    refine hs_le p 0 (fun c => ex (fun z => absurd z (by omega))) (fun c => ?_)
    have l := hs_pa_lt w (p := p) (by omega)
    have fa := hs_SI_facts hI.1 p0 pf l.1 (by omega) (by omega)
    refine hs_slotAbove hw hw' (by omega) (by omega) ?_
    refine hs_rd ((w * 4 + q) * 24 + hs_pa w p) (hs_add _ _) (by omega) (by omega) (by decide) ?_
    refine hs_cb kr fa.2.2.2.1 fa.2.2.2.2.1 ax.1 ax.2.1 (fun d => br_f (by decide) (ex (fun _ => ?_))) (fun d => br_t rfl ?_)
    · rw [hs_un (by omega), hs_us]; exact d
    · have up := hs_SI_up (hs_K_inj k) hI (by omega) d
      refine hs_setSlot hw hw' hq hq' p0 (by omega) fa.2.2.2.1 fa.2.2.2.2.1 (nm_r (hs_1 st) (ih (hs_pa w p) (st + 1) _ _ up.1 (by omega) (by omega) (by omega) ?_))
      intro S' P' p' a1 a2 a3 a4 a5
      refine hK S' P' p' a1 a2 (fun _ => a3 up.2) (hs_fS_trans (hs_fS_u p0 (by omega) fa.2.2.2.1 fa.2.2.2.2.1) a4) (hs_fP_trans (hs_fP_u fa.2.2.2.1 fa.2.2.2.2.1 fa.2.2.2.2.2.1) a5)
end HS20
end
section
section HS21
variable {gv1 gv2 gv3 gv4 gv5 gv6 gv7 gv8 gv9 gv10 gv11 gv12 gv13 gv14 gv15 gv16 gv17 gv18 gv19 gv20 gv21 gv22 : Nat → Int32}
theorem hs_pa_ch {w c p : Int} (hw : 0 ≤ w) (hw' : w ≤ 1) (hc : 1 ≤ c) (hp : 0 ≤ p) : hs_pa w c = p ↔ (p * (if w = 0 then 2 else 4) + 1 ≤ c ∧ c < p * (if w = 0 then 2 else 4) + 1 + (if w = 0 then 2 else 4)) := by
  unfold hs_pa
  by_cases e : w = 0
  · simp only [if_pos e]; omega
  · simp only [if_neg e]; omega
/-- what leastBelow has found among the slots s .. c - 1 -/
def hs_LB (K S : Int → Int) (b s c r : Int) : Prop := (r = -1 ∧ c = s) ∨ (∃ c0, s ≤ c0 ∧ c0 < c ∧ r = S (b + c0) ∧ ∀ c', s ≤ c' → c' < c → c' ≠ c0 → K r < K (S (b + c')))
theorem hs_lbl {post : Int32 → Prop} {k S F : Int → Int} {w q f s d : Int} (kr : hs_kr k) (hw : 0 ≤ w) (hw' : w ≤ 1) (hq : 0 ≤ q) (hq' : q ≤ 3) (hF : F (w * 4 + q) = f) (f0 : 0 ≤ f) (f1 : f ≤ 24)
    (s0 : 1 ≤ s) (s1 : s ≤ 200) (d0 : 1 ≤ d) (d1 : d ≤ 4) (hS : ∀ p, s ≤ p → p < f → 0 ≤ S ((w * 4 + q) * 24 + p) ∧ S ((w * 4 + q) * 24 + p) < 24)
    (hi : ∀ p p', s ≤ p → p < f → s ≤ p' → p' < f → S ((w * 4 + q) * 24 + p) = S ((w * 4 + q) * 24 + p') → p = p')
    (hK : ∀ r c, hs_LB (hs_K k) S ((w * 4 + q) * 24) s c r → s ≤ c → (c = s ∨ c ≤ f) → (s + d ≤ c ∨ f ≤ c) → c ≤ s + d → post (hs_i r)) :
    ∀ (n : Nat) (m c : Int), hs_LB (hs_K k) S ((w * 4 + q) * 24) s c m → s ≤ c → (c = s ∨ c ≤ f) → c ≤ s + d → s + d - c < n →
    wX_leastBelow_28 post (hs_i (w * 4 + q)) (hs_i d) (hs_i s) (hs_e k) gv2 gv3 (hs_e S) (hs_e F) gv6 gv7 gv8 gv9 gv10 gv11 gv12 gv13 gv14 gv15 gv16 gv17 gv18 gv19 gv20 gv21 gv22 n (hs_i m) (hs_i c) := by
  intro n
  induction n with
  | zero => intro m c _ _ _ _ h; omega
  | succ n ih =>
    intro m c hL hc hcf hcd hn
    refine hs_le (s + d) c (fun x => hK m c hL hc hcf (Or.inl x) hcd) (fun x => ⟨hs_in (by omega) (by omega) (by decide), ?_⟩) (hs_add _ _)
    rw [hs_get (by omega) (by omega), hF]
    refine hs_le f c (fun y => hK m c hL hc hcf (Or.inr y) hcd) (fun y => ?_)
    refine hs_rd ((w * 4 + q) * 24 + c) (by rw [hs_x24]) (by omega) (by omega) (by decide) ?_
    have yr := hS c hc y
    have hm : m = -1 ∨ (0 ≤ m ∧ m < 24) := by
      rcases hL with z | ⟨c0, a1, a2, a3, _⟩
      · exact Or.inl z.1
      · rw [a3]; exact Or.inr (hS c0 a1 (by omega))
    refine hs_eq m (-1) (fun z => nm_r (hs_1 c) (ih _ _ ?_ (by omega) (by omega) (by omega) (by omega))) (fun z => ?_)
    · rcases hL with g | ⟨c0, a1, a2, a3, _⟩
      · exact Or.inr ⟨c, by omega, by omega, rfl, fun c' b1 b2 b3 => by omega⟩
      · have := hS c0 a1 (by omega); omega
    · rcases hL with g | ⟨c0, a1, a2, a3, a4⟩
      · exact absurd g.1 z
      · have mr : 0 ≤ m ∧ m < 24 := by rcases hm with g | g; exact absurd g z; exact g
        refine hs_cb kr yr.1 yr.2 mr.1 mr.2 (fun g => br_f (by decide) (nm_r (hs_1 c) (ih _ _ ?_ (by omega) (by omega) (by omega) (by omega)))) (fun g => br_t rfl (nm_r (hs_1 c) (ih _ _ ?_ (by omega) (by omega) (by omega) (by omega))))
        · refine Or.inr ⟨c, by omega, by omega, rfl, fun c' b1 b2 b3 => ?_⟩
          by_cases e : c' = c0
          · rw [e, ← a3]; exact g
          · have := a4 c' b1 (by omega) e; omega
        · refine Or.inr ⟨c0, a1, by omega, a3, fun c' b1 b2 b3 => ?_⟩
          by_cases e : c' = c
          · rw [e]
            have ne : hs_K k m ≠ hs_K k (S ((w * 4 + q) * 24 + c)) := by
              intro t
              have := hs_K_inj k _ _ mr.1 mr.2 yr.1 yr.2 t
              rw [a3] at this
              have := hi c0 c a1 (by omega) hc y this
              omega
            omega
          · exact a4 c' b1 (by omega) b3
theorem hs_lb {post : Int32 → Prop} {k S F : Int → Int} {w q f p : Int} (kr : hs_kr k) (hw : 0 ≤ w) (hw' : w ≤ 1) (hq : 0 ≤ q) (hq' : q ≤ 3) (hF : F (w * 4 + q) = f) (f0 : 0 ≤ f) (f1 : f ≤ 24)
    (p0 : 0 ≤ p) (p1 : p < 24) (hS : ∀ c, p < c → c < f → 0 ≤ S ((w * 4 + q) * 24 + c) ∧ S ((w * 4 + q) * 24 + c) < 24)
    (hi : ∀ c c', p < c → c < f → p < c' → c' < f → S ((w * 4 + q) * 24 + c) = S ((w * 4 + q) * 24 + c') → c = c')
    (hn : (∀ c, 1 ≤ c → c < f → hs_pa w c ≠ p) → post (hs_i (-1)))
    (hs : ∀ c, 1 ≤ c → c < f → hs_pa w c = p → (∀ c', 1 ≤ c' → c' < f → hs_pa w c' = p → c' ≠ c → hs_K k (S ((w * 4 + q) * 24 + c)) < hs_K k (S ((w * 4 + q) * 24 + c'))) → post (hs_i (S ((w * 4 + q) * 24 + c)))) :
    wpX_leastBelow post (hs_e k, gv2, gv3, hs_e S, hs_e F, gv6, gv7, gv8, gv9, gv10, gv11, gv12, gv13, gv14, gv15, gv16, gv17, gv18, gv19, gv20, gv21, gv22) (hs_i w) (hs_i q) (hs_i p) := by
  have key : ∀ d, d = (if w = 0 then (2 : Int) else 4) → ∃ n, wX_leastBelow_28 post (hs_i (w * 4 + q)) (hs_i d) (hs_i (p * d + 1)) (hs_e k) gv2 gv3 (hs_e S) (hs_e F) gv6 gv7 gv8 gv9 gv10 gv11 gv12 gv13 gv14 gv15 gv16 gv17 gv18 gv19 gv20 gv21 gv22 n (-1) (hs_i (p * d + 1)) := by
    intro d hd
    have hd1 : d = 2 ∨ d = 4 := by rw [hd]; split <;> omega
    have bnd : p * d + 1 ≤ 200 ∧ p + 1 ≤ p * d + 1 := by rcases hd1 with e | e <;> rw [e] <;> omega
    refine ⟨6, ?_⟩
    refine hs_lbl (f := f) kr hw hw' hq hq' hF f0 f1 (by omega) (by omega) (by omega) (by omega) (fun c a b => hS c (by omega) b) (fun c c' a b a' b' => hi c c' (by omega) b (by omega) b') ?_ 6 (-1) (p * d + 1) (Or.inl ⟨rfl, rfl⟩) (by omega) (Or.inl rfl) (by omega) (by omega)
    intro r c hL h1 h2 h3 h4
    have ch : ∀ c', 1 ≤ c' → (hs_pa w c' = p ↔ p * d + 1 ≤ c' ∧ c' < p * d + 1 + d) := by
      intro c' a
      rw [hd]; exact hs_pa_ch hw hw' a p0
    rcases hL with ⟨e, e2⟩ | ⟨c0, a1, a2, a3, a4⟩
    · rw [e]
      refine hn (fun c' a b e3 => ?_)
      have := (ch c' a).mp e3
      omega
    · rw [a3]
      refine hs c0 (by omega) (by omega) ((ch c0 (by omega)).mpr ⟨a1, by omega⟩) (fun c' a b e3 e4 => ?_)
      have := (ch c' a).mp e3
      rw [← a3]
      exact a4 c' this.1 (by omega) e4
  unfold wpX_leastBelow
  dsimp only
  refine nm_r (hs_x4 w q) ?_
  unfold wpX_widthOf
  refine hs_eq w 0 (fun e => ?_) (fun e => ?_)
  · refine nm_r (e' := hs_i (p * 2 + 1)) (by rw [show (2 : Int32) = hs_i 2 from by decide, hs_mul, hs_1]) ?_
    exact key 2 (if_pos e).symm
  · refine nm_r (e' := hs_i (p * 4 + 1)) (by rw [show (4 : Int32) = hs_i 4 from by decide, hs_mul, hs_1]) ?_
    exact key 4 (if_neg e).symm
theorem hs_sd {post : SX → Prop} {k H F : Int → Int} {w q f x : Int} (kr : hs_kr k) (hw : 0 ≤ w) (hw' : w ≤ 1) (hq : 0 ≤ q) (hq' : q ≤ 3) (hF : F (w * 4 + q) = f) (hf : f ≤ 24) :
    ∀ (n : Nat) (p st : Int) (S P : Int → Int), hs_SI (hs_K k) H S P w q ((w * 4 + q) * 24) (w * 24) f p x → hs_AE (hs_K k) (hs_u S ((w * 4 + q) * 24 + p) x) w ((w * 4 + q) * 24) p → 0 ≤ st → st ≤ p → 24 - st < n →
    (∀ (S' P' : Int → Int) (p' : Int), hs_SI (hs_K k) H S' P' w q ((w * 4 + q) * 24) (w * 24) f p' x → hs_AE (hs_K k) (hs_u S' ((w * 4 + q) * 24 + p') x) w ((w * 4 + q) * 24) p' →
      hs_AD (hs_K k) (hs_u S' ((w * 4 + q) * 24 + p') x) w ((w * 4 + q) * 24) f p' →
      hs_fS S S' ((w * 4 + q) * 24) → hs_fP H P P' q (w * 24) → post (hs_e k, gv2, gv3, hs_e (hs_u S' ((w * 4 + q) * 24 + p') x), hs_e F, hs_e (hs_u P' (w * 24 + x) p'), gv7, gv8, gv9, gv10, gv11, gv12, gv13, gv14, gv15, gv16, gv17, gv18, gv19, gv20, gv21, gv22)) →
    wX_siftDown_16 post (hs_i w) (hs_i q) (hs_i x) n (hs_i p) (hs_i st) (hs_e k) gv2 gv3 (hs_e S) (hs_e F) (hs_e P) gv7 gv8 gv9 gv10 gv11 gv12 gv13 gv14 gv15 gv16 gv17 gv18 gv19 gv20 gv21 gv22 := by
  intro n
  induction n with
  | zero => intro p st S P hI _ h0 h1 h2; have := hI.2.2.2.2; omega
  | succ n ih =>
    intro p st S P hI hE h0 h1 h2 hK
    have p0 := hI.2.2.2.1
    have pf := hI.2.2.2.2
    have ax := hI.1.1 p p0 pf
    rw [hs_us, hs_us] at ax
    have ex : hs_AD (hs_K k) (hs_u S ((w * 4 + q) * 24 + p) x) w ((w * 4 + q) * 24) f p → wX_siftDown_86 post (hs_i w) (hs_i q) (hs_i x) (hs_i p) (hs_e k) gv2 gv3 (hs_e S) (hs_e F) (hs_e P) gv7 gv8 gv9 gv10 gv11 gv12 gv13 gv14 gv15 gv16 gv17 gv18 gv19 gv20 gv21 gv22 := by
      intro hD
      unfold wX_siftDown_86
      exact hs_setSlot hw hw' hq hq' p0 (by omega) ax.1 ax.2.1 (hK S P p hI hE hD hs_fS_refl hs_fP_refl)
    have fa : ∀ c, p < c → c < f → _ := fun c a b => hs_SI_facts hI.1 p0 pf (by omega : 0 ≤ c) b (by omega : c ≠ p)
    refine hs_le 24 st (fun c => absurd c (by omega)) (fun _ => ?_)
    refine hs_lb (f := f) kr hw hw' hq hq' hF (by omega) hf p0 (by omega) (fun c a b => ⟨(fa c a b).2.2.2.1, (fa c a b).2.2.2.2.1⟩) (fun c c' a b a' b' e => ?_) (fun hn => ?_) (fun c a b e hm => ?_)
    · have e1 := (fa c a b).2.2.2.2.2.2.2
      have e2 := (fa c' a' b').2.2.2.2.2.2.2
      rw [e] at e1
      omega
    · exact br_t (by decide) (ex (fun c a b e => absurd e (hn c a b)))
    · have l := hs_pa_lt w a
      have fc := fa c (by omega) b
      have hne : ¬ hs_i (S ((w * 4 + q) * 24 + c)) = -1 := by
        rw [← hs_lm1, hs_eqI (by omega) (by omega)]; omega
      refine br_f hne (hs_cb kr ax.1 ax.2.1 fc.2.2.2.1 fc.2.2.2.2.1 (fun g => br_f (by decide) (ex ?_)) (fun g => br_t rfl ?_))
      · intro c' a' b' e'
        have l' := hs_pa_lt w a'
        rw [hs_us, hs_un (by omega)]
        by_cases z : c' = c
        · rw [z]; exact g
        · have := hm c' a' b' e' z; omega
      · have lt : hs_K k (S ((w * 4 + q) * 24 + c)) < hs_K k x := by
          have : hs_K k x ≠ hs_K k (S ((w * 4 + q) * 24 + c)) := fun z => fc.2.2.2.2.2.2.1 (hs_K_inj k _ _ ax.1 ax.2.1 fc.2.2.2.1 fc.2.2.2.2.1 z).symm
          omega
        have dn := hs_SI_dn hI a b e lt hm
        refine hs_rd (w * 24 + S ((w * 4 + q) * 24 + c)) (hs_x24 _ _) (by omega) (by omega) (by decide) ?_
        rw [fc.2.2.2.2.2.2.2]
        refine hs_setSlot hw hw' hq hq' p0 (by omega) fc.2.2.2.1 fc.2.2.2.2.1 (nm_r (hs_1 st) (ih c (st + 1) _ _ dn.1 dn.2 (by omega) (by omega) (by omega) ?_))
        intro S' P' p' a1 a2 a3 a4 a5
        exact hK S' P' p' a1 a2 a3 (hs_fS_trans (hs_fS_u p0 (by omega) fc.2.2.2.1 fc.2.2.2.2.1) a4) (hs_fP_trans (hs_fP_u fc.2.2.2.1 fc.2.2.2.2.1 fc.2.2.2.2.2.1) a5)
end HS21
end
section
section HS22
variable {gv1 gv2 gv3 gv4 gv5 gv6 gv7 gv8 gv9 gv10 gv11 gv12 gv13 gv14 gv15 gv16 gv17 gv18 gv19 gv20 gv21 gv22 : Nat → Int32}
def hs_AA (K H S F P : Int → Int) (w : Int) : Prop := ∀ q, 0 ≤ q → q ≤ 3 → hs_AH K H S F P w q
/-- another heap than (w, q) is left alone -/
theorem hs_AH_keep {K H H' H0 S S' F F' P P' : Int → Int} {w q w' q' : Int} (q0 : 0 ≤ q) (q1 : q ≤ 3) (q0' : 0 ≤ q') (q1' : q' ≤ 3) (hne : w' ≠ w ∨ q' ≠ q)
    (h : hs_AH K H S F P w' q') (hH : ∀ i, 0 ≤ i → i < 24 → (H' i = q' ↔ H i = q')) (fS : hs_fS S S' ((w * 4 + q) * 24)) (fF : ∀ j, j ≠ w * 4 + q → F' j = F j) (fP : hs_fP H0 P P' q (w * 24))
    (hd : w' = w → ∀ i, 0 ≤ i → i < 24 → H0 i = q → H i ≠ q') : hs_AH K H' S' F' P' w' q' := by
  refine hs_AH_congr h hH (fun _ _ _ _ => rfl) ?_ (fF _ (by omega)) ?_
  · intro p a b
    rcases fS ((w' * 4 + q') * 24 + p) with e | e
    · exact e
    · omega
  · intro i a b c
    rcases fP (w' * 24 + i) with e | ⟨j, j0, j1, j2, j3⟩
    · exact e
    · have e1 : w' = w := by omega
      have e2 : i = j := by omega
      subst e2
      exact absurd c (hd e1 i a b j2)
theorem hs_addA {post : SX → Prop} {k H S F P : Int → Int} {w q x : Int} (kr : hs_kr k) (hw : 0 ≤ w) (hw' : w ≤ 1) (hq : 0 ≤ q) (hq' : q ≤ 3) (x0 : 0 ≤ x) (x1 : x < 24) (hx : ¬ (0 ≤ H x))
    (h : hs_AA (hs_K k) H S F P w)
    (hK : ∀ S' F' P' : Int → Int, hs_AA (hs_K k) (hs_u H x q) S' F' P' w → hs_fS S S' ((w * 4 + q) * 24) → (∀ j, j ≠ w * 4 + q → F' j = F j) → hs_fP (hs_u H x q) P P' q (w * 24) → post (hs_e k, gv2, gv3, hs_e S', hs_e F', hs_e P', gv7, gv8, gv9, gv10, gv11, gv12, gv13, gv14, gv15, gv16, gv17, gv18, gv19, gv20, gv21, gv22)) :
    wpX_addToArrayHeap post (hs_e k, gv2, gv3, hs_e S, hs_e F, hs_e P, gv7, gv8, gv9, gv10, gv11, gv12, gv13, gv14, gv15, gv16, gv17, gv18, gv19, gv20, gv21, gv22) (hs_i w) (hs_i q) (hs_i x) := by
  have hh := h q hq hq'
  obtain ⟨hc, ⟨hA, hB⟩, hO⟩ := hh
  have cr := hs_c_r H q
  have cl := hs_c_lt (H := H) (q := q) x0 x1 (by omega)
  unfold wpX_addToArrayHeap
  dsimp only
  refine nm_r (hs_x4 w q) (hs_rd (w * 4 + q) rfl (by omega) (by omega) (by decide) ⟨hs_in (by omega) (by omega) (by decide), ?_⟩)
  rw [hs_get (by omega) (by omega), hs_1]
  refine hs_wr (w * 4 + q) (F (w * 4 + q) + 1) rfl rfl (by omega) (by omega) (by decide) ?_
  generalize hf : F (w * 4 + q) = f at *
  have hxS : ∀ p, 0 ≤ p → p < f → S ((w * 4 + q) * 24 + p) ≠ x := by
    intro p a b e
    have := (hA p a b).2.2.1
    rw [e] at this
    omega
  have hAB : hs_AB (hs_u H x q) (hs_u S ((w * 4 + q) * 24 + f) x) (hs_u P (w * 24 + x) f) q ((w * 4 + q) * 24) (w * 24) (f + 1) := by
    refine ⟨fun p a b => ?_, fun i a b e => ?_⟩
    · by_cases c : p = f
      · rw [c, hs_us, hs_us, hs_us]; exact ⟨x0, x1, rfl, rfl⟩
      · have z := hA p a (by omega)
        have z2 := hxS p a (by omega)
        rw [hs_un (by omega), hs_un z2, hs_un (by omega)]
        exact z
    · by_cases c : i = x
      · rw [c, hs_us]; exact ⟨by omega, by omega, hs_us⟩
      · rw [hs_un c] at e
        have z := hB i a b e
        rw [hs_un (by omega), hs_un (by omega)]
        exact ⟨z.1, by omega, z.2.2⟩
  have hSI : hs_SI (hs_K k) (hs_u H x q) (hs_u S ((w * 4 + q) * 24 + f) x) (hs_u P (w * 24 + x) f) w q ((w * 4 + q) * 24) (w * 24) (f + 1) f x := by
    unfold hs_SI
    rw [hs_self (hs_us (A := S)), hs_self (hs_us (A := P))]
    refine ⟨hAB, ?_, ?_, by omega, by omega⟩
    · intro p a b c d
      have l := hs_pa_lt w a
      rw [hs_un (by omega), hs_un (by omega)]
      exact hO p a (by omega)
    · intro _ p a b c
      have l := hs_pa_lt w a
      omega
  refine hs_setSlot hw hw' hq hq' (by omega) (by omega) x0 x1 ?_
  show wpX_siftUp _ _ _ _ _
  unfold wpX_siftUp
  dsimp only
  refine nm_r (by rw [hs_x4, hs_m24]) (hs_rd (w * 24 + x) (hs_x24 _ _) (by omega) (by omega) (by decide) ⟨25, ?_⟩)
  rw [hs_us]
  refine hs_su (f := f + 1) (H := hs_u H x q) kr hw hw' hq hq' (by omega) 25 f 0 _ _ hSI (by omega) (by omega) (by omega) ?_
  intro S' P' p' a1 a2 a3 a4 a5
  have hD := a3 (by
    intro p a b c
    have l := hs_pa_lt w a
    omega)
  have xr := a1.1.1 p' a1.2.2.2.1 a1.2.2.2.2
  have fS : hs_fS S (hs_u S' ((w * 4 + q) * 24 + p') x) ((w * 4 + q) * 24) := hs_fS_trans (hs_fS_trans (hs_fS_u (by omega) (by omega) x0 x1) a4) (hs_fS_u a1.2.2.2.1 (by have := a1.2.2.2.2; omega) x0 x1)
  have fP : hs_fP (hs_u H x q) P (hs_u P' (w * 24 + x) p') q (w * 24) := hs_fP_trans (hs_fP_trans (hs_fP_u x0 x1 hs_us) a5) (hs_fP_u x0 x1 hs_us)
  have fF : ∀ j, j ≠ w * 4 + q → hs_u F (w * 4 + q) (f + 1) j = F j := fun j e => hs_un e
  refine hK _ _ _ ?_ fS fF fP
  intro q' b0 b1
  by_cases e : q' = q
  · rw [e]
    unfold hs_AH
    rw [hs_us, hs_c_upd H x0 x1, if_pos rfl, if_neg (by omega)]
    exact ⟨by omega, a1.1, hs_AO_of a1.2.1 a2 hD⟩
  · refine hs_AH_keep hq hq' b0 b1 (Or.inr e) (h q' b0 b1) ?_ fS fF fP ?_
    · intro i c0 c1
      by_cases z : i = x
      · rw [hs_ue z, z]
        exact ⟨fun y => absurd y.symm e, fun y => by omega⟩
      · rw [hs_un z]
    · intro _ i c0 c1 z y
      by_cases t : i = x
      · rw [t] at y; omega
      · rw [hs_un t] at z; omega
theorem hs_dropA {post : SX → Prop} {k H S F P : Int → Int} {w q x : Int} (kr : hs_kr k) (hw : 0 ≤ w) (hw' : w ≤ 1) (hq : 0 ≤ q) (hq' : q ≤ 3) (x0 : 0 ≤ x) (x1 : x < 24) (hx : H x = q)
    (h : hs_AA (hs_K k) H S F P w)
    (hK : ∀ S' F' P' : Int → Int, hs_AA (hs_K k) (hs_u H x (-1)) S' F' P' w → hs_fS S S' ((w * 4 + q) * 24) → (∀ j, j ≠ w * 4 + q → F' j = F j) → hs_fP H P P' q (w * 24) → post (hs_e k, gv2, gv3, hs_e S', hs_e F', hs_e P', gv7, gv8, gv9, gv10, gv11, gv12, gv13, gv14, gv15, gv16, gv17, gv18, gv19, gv20, gv21, gv22)) :
    wpX_dropFromArrayHeap post (hs_e k, gv2, gv3, hs_e S, hs_e F, hs_e P, gv7, gv8, gv9, gv10, gv11, gv12, gv13, gv14, gv15, gv16, gv17, gv18, gv19, gv20, gv21, gv22) (hs_i w) (hs_i q) (hs_i x) := by
  have hh := h q hq hq'
  obtain ⟨hc, ⟨hA, hB⟩, hO⟩ := hh
  have cr := hs_c_r H q
  have cp := hs_c_pos (H := H) (q := q) x0 x1 hx
  have px := hB x x0 x1 hx
  have hF2 : hs_c (hs_u H x (-1)) q = hs_c H q - 1 := by
    rw [hs_c_upd H x0 x1, if_neg (by omega), if_pos hx]; omega
  have other : ∀ (S' P' : Int → Int) (g : Int), hs_fS S S' ((w * 4 + q) * 24) → hs_fP H P P' q (w * 24) → ∀ q', 0 ≤ q' → q' ≤ 3 → q' ≠ q → hs_AH (hs_K k) (hs_u H x (-1)) S' (hs_u F (w * 4 + q) g) P' w q' := by
    intro S' P' g fS fP q' b0 b1 e
    refine hs_AH_keep hq hq' b0 b1 (Or.inr e) (h q' b0 b1) ?_ fS (fun j z => hs_un z) fP (fun _ i c0 c1 z => by omega)
    intro i c0 c1
    by_cases z : i = x
    · rw [hs_ue z, z]
      exact ⟨fun y => by omega, fun y => by omega⟩
    · rw [hs_un z]
  unfold wpX_dropFromArrayHeap
  dsimp only
  refine nm_r (hs_x4 w q) (hs_rd (w * 24 + x) (hs_x24 _ _) (by omega) (by omega) (by decide) ⟨hs_in (by omega) (by omega) (by decide), ?_⟩)
  rw [hs_get (by omega) (by omega), hs_s1]
  refine hs_wr (w * 4 + q) (F (w * 4 + q) - 1) rfl rfl (by omega) (by omega) (by decide) ⟨hs_in (by omega) (by omega) (by decide), ?_⟩
  rw [hs_get (by omega) (by omega), hs_us]
  generalize hf : F (w * 4 + q) = f at *
  refine hs_rd ((w * 4 + q) * 24 + (f - 1)) (hs_x24 _ _) (by omega) (by omega) (by decide) ?_
  have ya := hA (f - 1) (by omega) (by omega)
  generalize hy : S ((w * 4 + q) * 24 + (f - 1)) = y at *
  refine hs_eq y x (fun e => ?_) (fun e => ?_)
  · -- the item stands in the last slot
    refine hK _ _ _ ?_ hs_fS_refl (fun j z => hs_un z) hs_fP_refl
    intro q' b0 b1
    by_cases z : q' = q
    · rw [z]
      unfold hs_AH
      rw [hs_us, hF2]
      refine ⟨by omega, ⟨fun p a b => ?_, fun i a b c => ?_⟩, fun p a b => hO p a (by omega)⟩
      · have v := hA p a (by omega)
        have ne : S ((w * 4 + q) * 24 + p) ≠ x := by
          intro t
          rw [t] at v
          rw [e] at ya
          omega
        rw [hs_un ne]; exact v
      · have ne : i ≠ x := by
          intro t
          rw [hs_ue t] at c; omega
        rw [hs_un ne] at c
        have v := hB i a b c
        refine ⟨v.1, ?_, v.2.2⟩
        have : P (w * 24 + i) ≠ f - 1 := by
          intro t
          rw [t, hy, e] at v
          exact ne v.2.2.symm
        omega
    · exact other S P _ hs_fS_refl hs_fP_refl q' b0 b1 z
  · generalize hp : P (w * 24 + x) = p at *
    have pne : p ≠ f - 1 := by
      intro t
      rw [t, hy] at px
      exact e px.2.2
    have hSI : hs_SI (hs_K k) (hs_u H x (-1)) (hs_u S ((w * 4 + q) * 24 + p) y) (hs_u P (w * 24 + y) p) w q ((w * 4 + q) * 24) (w * 24) (f - 1) p y := by
      unfold hs_SI
      rw [hs_self (hs_us (A := S)), hs_self (hs_us (A := P))]
      refine ⟨⟨fun p' a b => ?_, fun i a b c => ?_⟩, ?_, ?_, px.1, by omega⟩
      · by_cases z : p' = p
        · rw [z, hs_us, hs_us, hs_un e]; exact ⟨ya.1, ya.2.1, ya.2.2.1, rfl⟩
        · rw [hs_un (by omega)]
          have v := hA p' a (by omega)
          have n1 : S ((w * 4 + q) * 24 + p') ≠ x := by
            intro t
            rw [t, hp] at v; omega
          have n2 : S ((w * 4 + q) * 24 + p') ≠ y := by
            intro t
            rw [t] at v; omega
          rw [hs_un n1, hs_un (by omega)]; exact v
      · have ne : i ≠ x := by
          intro t
          rw [hs_ue t] at c; omega
        rw [hs_un ne] at c
        have v := hB i a b c
        by_cases z : i = y
        · rw [z, hs_us]; exact ⟨px.1, by omega, hs_us⟩
        · rw [hs_un (by omega)]
          have n1 : P (w * 24 + i) ≠ p := by
            intro t
            rw [t, px.2.2] at v
            exact ne v.2.2.symm
          have n2 : P (w * 24 + i) ≠ f - 1 := by
            intro t
            rw [t, hy] at v
            exact z v.2.2.symm
          rw [hs_un (by omega)]
          exact ⟨v.1, by omega, v.2.2⟩
      · intro p' a b c d
        have l := hs_pa_lt w a
        rw [hs_un (by omega), hs_un (by omega)]
        exact hO p' a (by omega)
      · intro g p' a b c
        have l := hs_pa_lt w a
        have l2 := hs_pa_lt w g
        rw [hs_un (by omega), hs_un (by omega)]
        have o1 := hO p' a (by omega)
        have o2 := hO p g (by omega)
        rw [c] at o1
        omega
    refine hs_setSlot hw hw' hq hq' px.1 (by omega) ya.1 ya.2.1 ?_
    show wpX_siftUp _ _ _ _ _
    unfold wpX_siftUp
    dsimp only
    refine nm_r (by rw [hs_x4, hs_m24]) (hs_rd (w * 24 + y) (hs_x24 _ _) (by omega) (by omega) (by decide) ⟨25, ?_⟩)
    rw [hs_us]
    refine hs_su (f := f - 1) (H := hs_u H x (-1)) kr hw hw' hq hq' (by omega) 25 p 0 _ _ hSI (by omega) (by omega) (by omega) ?_
    intro S' P' p' a1 a2 a3 a4 a5
    show wpX_siftDown _ _ _ _ _
    unfold wpX_siftDown
    dsimp only
    refine hs_rd (w * 24 + y) (hs_x24 _ _) (by omega) (by omega) (by decide) ⟨25, ?_⟩
    rw [hs_us]
    have hSI2 : hs_SI (hs_K k) (hs_u H x (-1)) (hs_u S' ((w * 4 + q) * 24 + p') y) (hs_u P' (w * 24 + y) p') w q ((w * 4 + q) * 24) (w * 24) (f - 1) p' y := by
      unfold hs_SI
      rw [hs_self (hs_us (A := S')), hs_self (hs_us (A := P'))]
      exact a1
    refine hs_sd (f := f - 1) (H := hs_u H x (-1)) kr hw hw' hq hq' hs_us (by omega) 25 p' 0 _ _ hSI2 (by rw [hs_self (hs_us (A := S'))]; exact a2) (by omega) (by have := a1.2.2.2.1; omega) (by omega) ?_
    intro S2 P2 p2 c1 c2 c3 c4 c5
    have hyq : H y = q := ya.2.2.1
    have fP1 : ∀ {A B : Int → Int}, hs_fP (hs_u H x (-1)) A B q (w * 24) → hs_fP H A B q (w * 24) := by
      intro A B z j
      rcases z j with t | ⟨i, t0, t1, t2, t3⟩
      · exact Or.inl t
      · refine Or.inr ⟨i, t0, t1, ?_, t3⟩
        by_cases r : i = x
        · rw [r]; exact hx
        · rw [hs_un r] at t2; exact t2
    have fS : hs_fS S (hs_u S2 ((w * 4 + q) * 24 + p2) y) ((w * 4 + q) * 24) :=
      hs_fS_trans (hs_fS_trans (hs_fS_trans (hs_fS_trans (hs_fS_u px.1 (by omega) ya.1 ya.2.1) a4) (hs_fS_u a1.2.2.2.1 (by have := a1.2.2.2.2; omega) ya.1 ya.2.1)) c4) (hs_fS_u c1.2.2.2.1 (by have := c1.2.2.2.2; omega) ya.1 ya.2.1)
    have fP : hs_fP H P (hs_u P2 (w * 24 + y) p2) q (w * 24) :=
      hs_fP_trans (hs_fP_trans (hs_fP_trans (hs_fP_trans (hs_fP_u ya.1 ya.2.1 hyq) (fP1 a5)) (hs_fP_u ya.1 ya.2.1 hyq)) (fP1 c5)) (hs_fP_u ya.1 ya.2.1 hyq)
    refine hK _ _ _ ?_ fS (fun j z => hs_un z) fP
    intro q' b0 b1
    by_cases z : q' = q
    · rw [z]
      unfold hs_AH
      rw [hs_us, hF2]
      exact ⟨by omega, c1.1, hs_AO_of c1.2.1 c2 c3⟩
    · exact other _ _ _ fS fP q' b0 b1 z
end HS22
end
section
section HS23
variable {gv1 gv2 gv3 gv4 gv5 gv6 gv7 gv8 gv9 gv10 gv11 gv12 gv13 gv14 gv15 gv16 gv17 gv18 gv19 gv20 gv21 gv22 : Nat → Int32}
/-! engines 2 and 3: the walks -/
theorem hs_rko {post : Int32 → Prop} {N : Int → Int} {x : Int} (hx : x = -1 ∨ (0 ≤ x ∧ x < 48)) (h : post (hs_i (hs_rank N x))) : wpX_rankOf post (gv1, gv2, gv3, gv4, gv5, gv6, gv7, gv8, gv9, gv10, hs_e N, gv12, gv13, gv14, gv15, gv16, gv17, gv18, gv19, gv20, gv21, gv22) (hs_i x) := by
  unfold wpX_rankOf
  dsimp only
  unfold hs_rank at h
  refine hs_eq x (-1) (fun c => ?_) (fun c => ⟨hs_in (by omega) (by omega) (by decide), ?_⟩)
  · rw [if_pos c] at h; exact h
  · rw [if_neg c] at h; rw [hs_get (by omega) (by omega)]; exact h
theorem hs_l69 {post : SX → Prop} {J : Int32 → Int32 → (Nat → Int32) → (Nat → Int32) → (Nat → Int32) → (Nat → Int32) → (Nat → Int32) → (Nat → Int32) → (Nat → Int32) → (Nat → Int32) → (Nat → Int32) → (Nat → Int32) → (Nat → Int32) → (Nat → Int32) → (Nat → Int32) → (Nat → Int32) → (Nat → Int32) → (Nat → Int32) → (Nat → Int32) → (Nat → Int32) → (Nat → Int32) → (Nat → Int32) → (Nat → Int32) → (Nat → Int32) → Prop}
    {w : Int32} {R U N : Int → Int} {v st : Int} (v0 : 0 ≤ v) (v1 : v < 48) (hr : R v = -1 ∨ (0 ≤ R v ∧ R v < 48))
    (h : J (hs_i (U v)) (hs_i (st + 1)) gv1 gv2 gv3 gv4 gv5 gv6 gv7 gv8 (hs_e R) (hs_e U) (hs_e (hs_u N v (hs_rank N (R v) + 1))) gv12 gv13 gv14 gv15 gv16 gv17 gv18 gv19 gv20 gv21 gv22) :
    wX_lean_69 post J w (hs_i v) (hs_i st) gv1 gv2 gv3 gv4 gv5 gv6 gv7 gv8 (hs_e R) (hs_e U) (hs_e N) gv12 gv13 gv14 gv15 gv16 gv17 gv18 gv19 gv20 gv21 gv22 := by
  unfold wX_lean_69
  refine ⟨hs_in v0 (by omega) (by decide), ?_⟩
  rw [hs_get (A := R) v0 (by omega)]
  refine hs_rko hr ?_
  exact hs_wr v (hs_rank N (R v) + 1) rfl (hs_1 _) v0 (by omega) (by decide) (hs_rd v rfl v0 (by omega) (by decide) (nm_r (hs_1 st) h))
theorem hs_ln {post : SX → Prop} {D V : Int → Prop} {K G U : Int → Int} {w e : Int} (hw : 0 ≤ w) (hw' : w ≤ 1) (hD : ∀ n, D n → w * 24 ≤ n ∧ n < w * 24 + 24) (hk : ∀ n m, D n → D m → hs_Lk K w n = hs_Lk K w m → n = m)
    (hV : hs_V D V (hs_Lk K w) G e) (hU : ∀ n, D n → U n = G n) :
    ∀ (n : Nat) (v st : Int) (L R N : Int → Int), hs_LI w D V (hs_Lk K w) G L R N e v → 0 ≤ st → (v = -1 ∨ hs_rk K (v - w * 24) + st ≤ 23) → 24 - st < n → st ≤ 24 →
    (∀ L' R' N' : Int → Int, hs_LI w D V (hs_Lk K w) G L' R' N' e (-1) → hs_fr D L L' → hs_fr D R R' → hs_fn D N N' → post (gv1, gv2, gv3, gv4, gv5, gv6, gv7, hs_e L', hs_e R', hs_e U, hs_e N', gv12, gv13, gv14, gv15, gv16, gv17, gv18, gv19, gv20, gv21, gv22)) →
    wX_lean_5 post (hs_i w) n (hs_i v) (hs_i st) gv1 gv2 gv3 gv4 gv5 gv6 gv7 (hs_e L) (hs_e R) (hs_e U) (hs_e N) gv12 gv13 gv14 gv15 gv16 gv17 gv18 gv19 gv20 gv21 gv22 := by
  intro n
  have hm : ∀ n, D n → n ≠ -1 := fun n hn => by have := hD n hn; omega
  induction n with
  | zero => intro v st L R N _ h0 _ h2 h3; omega
  | succ n ih =>
    intro v st L R N hI h0 h1 h2 h3 hK
    have fin : v = -1 → post (gv1, gv2, gv3, gv4, gv5, gv6, gv7, hs_e L, hs_e R, hs_e U, hs_e N, gv12, gv13, gv14, gv15, gv16, gv17, gv18, gv19, gv20, gv21, gv22) := fun c => hK L R N (by rw [c] at hI; exact hI) hs_fr_refl hs_fr_refl hs_fn_refl
    have rng : v ≠ -1 → 0 ≤ hs_rk K (v - w * 24) := by
      intro c
      have d : D v := by rcases hI.2.1 with x | x; exact absurd x c; exact x.1
      have := hD v d
      exact (hs_rk_r K (i := v - w * 24) (by omega) (by omega)).1
    have vb : -2147483648 ≤ v ∧ v < 2147483648 := by
      rcases hI.2.1 with x | x
      · omega
      · have := hD v x.1; omega
    refine hs_le 24 st (fun c => ?_) (fun c => hs_eq v (-1) (fun d => fin d) (fun d => ?_))
    · apply fin
      rcases h1 with x | x
      · exact x
      · apply Classical.byContradiction
        intro y
        have := rng y
        omega
    · have dv : D v := by rcases hI.2.1 with x | x; exact absurd x d; exact x.1
      have vr := hD v dv
      have hve : v ≠ e := by
        rcases hI.2.1 with x | x
        · exact absurd x d
        · rcases x.2 with y | y
          · exact (hV.1 v y).2
          · rw [y.2]; exact d
      have ch := (hI.1 v dv).1 hve
      have hL : L v = -1 ∨ (0 ≤ L v ∧ L v < 48) := by
        rcases ch.1 with x | x
        · exact Or.inl x
        · have := hD _ x.1; exact Or.inr ⟨by omega, by omega⟩
      have hR : R v = -1 ∨ (0 ≤ R v ∧ R v < 48) := by
        rcases ch.2.1 with x | x
        · exact Or.inl x
        · have := hD _ x.1; exact Or.inr ⟨by omega, by omega⟩
      have nxt : G v = -1 ∨ hs_rk K (G v - w * 24) + (st + 1) ≤ 23 := by
        rcases (hI.1 v dv).2 with x | x
        · exact Or.inl x
        · right
          have g := hD _ x.1
          have := hs_rk_lt (f := K) (i := G v - w * 24) (j := v - w * 24) (by omega) (by omega) x.2.2.1
          rcases h1 with y | y
          · exact absurd y d
          · omega
      have go : ∀ L' R' : Int → Int, ((L' = hs_u L v (R v) ∧ R' = hs_u R v (L v) ∧ (w = 0 → hs_i (hs_rank N (L v)) < hs_i (hs_rank N (R v)))) ∨ (L' = L ∧ R' = R ∧ (w = 0 → ¬ hs_i (hs_rank N (L v)) < hs_i (hs_rank N (R v))))) → (R' v = -1 ∨ (0 ≤ R' v ∧ R' v < 48)) →
          wX_lean_69 post (wX_lean_5 post (hs_i w) n) (hs_i w) (hs_i v) (hs_i st) gv1 gv2 gv3 gv4 gv5 gv6 gv7 (hs_e L') (hs_e R') (hs_e U) (hs_e N) gv12 gv13 gv14 gv15 gv16 gv17 gv18 gv19 gv20 gv21 gv22 := by
        intro L' R' hs hr
        have s := hs_LI_step hm hk hV hI d hs
        refine hs_l69 (by omega) (by omega) hr ?_
        rw [hU v dv]
        refine ih (G v) (st + 1) L' R' _ s.1 (by omega) nxt (by omega) (by omega) ?_
        intro L2 R2 N2 a1 a2 a3 a4
        exact hK L2 R2 N2 a1 (hs_fr_trans s.2.1 a2) (hs_fr_trans s.2.2 a3) (hs_fn_trans (hs_fn_u dv) a4)
      have sw : (w = 0 → hs_i (hs_rank N (L v)) < hs_i (hs_rank N (R v))) → wX_lean_53 post (wX_lean_5 post (hs_i w) n) (hs_i w) (hs_i v) (hs_i st) (hs_i (L v)) (hs_i (R v)) gv1 gv2 gv3 gv4 gv5 gv6 gv7 (hs_e L) (hs_e R) (hs_e U) (hs_e N) gv12 gv13 gv14 gv15 gv16 gv17 gv18 gv19 gv20 gv21 gv22 := by
        intro c2
        unfold wX_lean_53
        refine hs_wr v (R v) rfl rfl (by omega) (by omega) (by decide) (hs_wr v (L v) rfl rfl (by omega) (by omega) (by decide) ?_)
        exact go _ _ (Or.inl ⟨rfl, rfl, c2⟩) (by rw [hs_us]; exact hL)
      refine hs_rd v rfl (by omega) (by omega) (by decide) (hs_rd v rfl (by omega) (by omega) (by decide) ?_)
      refine hs_eq w 1 (fun c2 => sw (fun z => by omega)) (fun c2 => ?_)
      refine hs_rko hL (hs_rko hR ?_)
      exact br_c (fun z => go _ _ (Or.inr ⟨rfl, rfl, fun _ => Int32.not_lt.mpr z⟩) hR) (fun z => sw (fun _ => Int32.not_le.mp z))
end HS23
end
section
section HS24
variable {gv1 gv2 gv3 gv4 gv5 gv6 gv7 gv8 gv9 gv10 gv11 gv12 gv13 gv14 gv15 gv16 gv17 gv18 gv19 gv20 gv21 gv22 : Nat → Int32}
/-- one of the two is used up -/
theorem hs_m119 {post : Int32 → SX → Prop} {D V Z : Int → Prop} {kk G0 G L R U N : Int → Int} {w e t p r a0 b0 : Int} (hw : 0 ≤ w) (hw' : w ≤ 1) (hD : ∀ n, D n → w * 24 ≤ n ∧ n < w * 24 + 24) (hk : ∀ n m, D n → D m → hs_Lk (hs_K kk) w n = hs_Lk (hs_K kk) w m → n = m)
    (h : hs_MI w D V Z (hs_Lk (hs_K kk) w) G L R U N e t p r (-1)) (hp : (t = -1 ∧ ((r = a0 ∧ b0 = -1) ∨ (r = b0 ∧ a0 = -1))) ∨ (t ≠ -1 ∧ (p = a0 ∨ p = b0))) (he : e = -1 ∨ G e = G0 e)
    (hK : ∀ (G' L' R' U' N' : Int → Int) (r' : Int), hs_ME w D Z (hs_Lk (hs_K kk) w) G0 G' L' R' U' N' e a0 b0 r' → hs_fr D L L' → hs_fr D R R' → hs_fr D U U' → hs_fn D N N' → post (hs_i r') (hs_e kk, gv2, gv3, gv4, gv5, gv6, gv7, hs_e L', hs_e R', hs_e U', hs_e N', gv12, gv13, gv14, gv15, gv16, gv17, gv18, gv19, gv20, gv21, gv22)) :
    wX_meldLeaning_132 post (hs_i w) (hs_i p) (hs_i t) (hs_i r) (hs_e kk) gv2 gv3 gv4 gv5 gv6 gv7 (hs_e L) (hs_e R) (hs_e U) (hs_e N) gv12 gv13 gv14 gv15 gv16 gv17 gv18 gv19 gv20 gv21 gv22 := by
  have hm : ∀ n, D n → n ≠ -1 := fun n hn => by have := hD n hn; omega
  have hI := h
  obtain ⟨h1, h2, h3, h4, h5, h6, h7, h8, h9, h10, h11, h12⟩ := h
  have hr : r = -1 ∨ (D r ∧ G r = -1) := by
    rcases h2 with x | x
    · exact Or.inl x
    · exact Or.inr ⟨x.1, x.2.1⟩
  have ht : t = -1 ∨ D t := by
    rcases h8 with x | x
    · exact Or.inl x
    · exact Or.inr (h6.1 t x).1
  have rb : -2147483648 ≤ r ∧ r < 2147483648 := by
    rcases hr with x | x
    · omega
    · have := hD r x.1; omega
  have tb : -2147483648 ≤ t ∧ t < 2147483648 := by
    rcases ht with x | x
    · omega
    · have := hD t x; omega
  have go : ∀ U1 : Int → Int, ((r = -1 ∧ U1 = U) ∨ (r ≠ -1 ∧ U1 = hs_u U r t)) → wX_meldLeaning_149 post (hs_i w) (hs_i p) (hs_i t) (hs_i r) (hs_e kk) gv2 gv3 gv4 gv5 gv6 gv7 (hs_e L) (hs_e R) (hs_e U1) (hs_e N) gv12 gv13 gv14 gv15 gv16 gv17 gv18 gv19 gv20 gv21 gv22 := by
    intro U1 hU
    have fU : hs_fr D U U1 := by
      rcases hU with ⟨_, x⟩ | ⟨x, y⟩
      · rw [x]; exact hs_fr_refl
      · rw [y]
        rcases hr with z | z
        · exact absurd z x
        · exact hs_fr_u z.1 ht
    unfold wX_meldLeaning_149
    refine hs_eq t (-1) (fun c => ?_) (fun c => ?_)
    · refine hK G L R U1 N r ⟨?_, ?_, ?_, ?_, ?_, ?_, he⟩ hs_fr_refl hs_fr_refl fU hs_fn_refl
      · refine hs_LO_congr h1 (fun _ => Iff.rfl) (fun _ _ => rfl) (fun _ _ => rfl) (fun _ _ => rfl) (fun n hn => ?_)
        rw [hs_un]
        rw [c]; exact hm n hn
      · intro n hn
        rcases hU with ⟨x, y⟩ | ⟨x, y⟩
        · rw [y]; exact h5 n hn (by rw [x]; exact hm n hn) (hm n hn)
        · rw [y]
          by_cases z : n = r
          · rw [hs_ue z, z]
            rcases hr with v | v
            · exact absurd v x
            · rw [v.2]; exact c
          · rw [hs_un z]; exact h5 n hn z (hm n hn)
      · rcases hp with ⟨_, x⟩ | x
        · rcases hr with v | v
          · left
            rcases x with y | y
            · exact ⟨v, by rw [← y.1]; exact v, y.2⟩
            · exact ⟨v, y.2, by rw [← y.1]; exact v⟩
          · right
            refine ⟨v.1, v.2, ?_⟩
            rcases x with y | y
            · exact Or.inl y.1
            · exact Or.inr y.1
        · exact absurd c x.1
      · intro n hn x
        rcases h10 n hn x with y | y | y | y
        · rcases h9 with z | z
          · exact absurd (y.trans z.2) (hm n hn)
          · exact absurd c z.1
        · exact Or.inl y
        · exact absurd y (hm n hn)
        · exact Or.inr y
      · intro n hn
        have x := h11 n hn
        exact ⟨x.2.1, x.2.2.1⟩
      · intro z n hn hne
        apply Classical.byContradiction
        intro x
        exact (h7 n (h12 z n hn hne x)).1 c
    · obtain ⟨G1, e1, e2, e3, e4, e5, e6, e7, e8, e9, e10⟩ := hs_MI_end hm hI c hU
      have tr := hD t e9
      refine hs_wr t r rfl rfl (by omega) (by omega) (by decide) ?_
      unfold wpX_lean
      dsimp only
      refine ⟨25, ?_⟩
      rw [← hs_l0]
      have rk := hs_rk_r (hs_K kk) (i := t - w * 24) (by omega) (by omega)
      refine hs_ln hw hw' hD hk e2 e3 25 t 0 L _ N e1 (by omega) (Or.inr (by omega)) (by omega) (by omega) ?_
      intro L' R' N' a1 a2 a3 a4
      refine hK G1 L' R' U1 N' p ⟨a1.1, e3, Or.inr ⟨e4, e5, ?_⟩, e6, e7, ?_, ?_⟩ a2 (hs_fr_trans (hs_fr_u e9 e10) a3) fU a4
      · rcases hp with x | x
        · exact absurd x.1 c
        · exact x.2
      · intro z n hn hne
        apply Classical.byContradiction
        intro x
        exact (a1.2.2 z n hn hne x).1 rfl
      · rcases he with x | x
        · exact Or.inl x
        · by_cases y : e = -1
          · exact Or.inl y
          · right
            rw [← x]
            apply e8
            intro v
            rcases h2 with u | u
            · exact y (v.trans u)
            · rcases u.2.2.1 with g | g
              · exact y g
              · rw [v] at g; omega
  unfold wX_meldLeaning_132
  refine hs_eq r (-1) (fun c => go U (Or.inl ⟨c, rfl⟩)) (fun c => ?_) (by rfl) (by rfl) rb (by omega)
  have rr : D r := by
    rcases hr with x | x
    · exact absurd x c
    · exact x.1
  have := hD r rr
  exact hs_wr r t rfl rfl (by omega) (by omega) (by decide) (go _ (Or.inr ⟨c, rfl⟩))
theorem hs_md {post : Int32 → SX → Prop} {D Z : Int → Prop} {kk G0 L N : Int → Int} {w e a0 b0 : Int} (kr : hs_kr kk) (hw : 0 ≤ w) (hw' : w ≤ 1) (hD : ∀ n, D n → w * 24 ≤ n ∧ n < w * 24 + 24) (hk : ∀ n m, D n → D m → hs_Lk (hs_K kk) w n = hs_Lk (hs_K kk) w m → n = m) :
    ∀ (n : Nat) (V : Int → Prop) (G R U : Int → Int) (p t a b st : Int), hs_MI w D V Z (hs_Lk (hs_K kk) w) G L R U N e t p a b → 0 ≤ st → st ≤ 24 → (t = -1 ∧ st = 0 ∨ t ≠ -1 ∧ st ≤ hs_rk (hs_K kk) (t - w * 24) + 1) → 24 - st < n →
    ((t = -1 ∧ ((a = a0 ∧ b = b0) ∨ (a = b0 ∧ b = a0))) ∨ (t ≠ -1 ∧ (p = a0 ∨ p = b0))) → (e = -1 ∨ G e = G0 e) →
    (∀ (G' L' R' U' N' : Int → Int) (r' : Int), hs_ME w D Z (hs_Lk (hs_K kk) w) G0 G' L' R' U' N' e a0 b0 r' → hs_fr D L L' → hs_fr D R R' → hs_fr D U U' → hs_fn D N N' → post (hs_i r') (hs_e kk, gv2, gv3, gv4, gv5, gv6, gv7, hs_e L', hs_e R', hs_e U', hs_e N', gv12, gv13, gv14, gv15, gv16, gv17, gv18, gv19, gv20, gv21, gv22)) →
    wX_meldLeaning_21 post (hs_i w) (hs_i (w * 24)) n (hs_i p) (hs_i t) (hs_i a) (hs_i b) (hs_i st) (hs_e kk) gv2 gv3 gv4 gv5 gv6 gv7 (hs_e L) (hs_e R) (hs_e U) (hs_e N) gv12 gv13 gv14 gv15 gv16 gv17 gv18 gv19 gv20 gv21 gv22 := by
  have hm : ∀ n, D n → n ≠ -1 := fun n hn => by have := hD n hn; omega
  intro n
  induction n with
  | zero => intro V G R U p t a b st _ _ _ _ h; omega
  | succ n ih =>
    intro V G R U p t a b st hI s0 s1 s2 hn hp he hK
    have ha : a = -1 ∨ D a := by
      rcases hI.2.1 with x | x
      · exact Or.inl x
      · exact Or.inr x.1
    have hb : b = -1 ∨ D b := by
      rcases hI.2.2.1 with x | x
      · exact Or.inl x
      · exact Or.inr x.1
    have ab : -2147483648 ≤ a ∧ a < 2147483648 := by
      rcases ha with x | x
      · omega
      · have := hD a x; omega
    have bb : -2147483648 ≤ b ∧ b < 2147483648 := by
      rcases hb with x | x
      · omega
      · have := hD b x; omega
    have fin : a = -1 ∨ b = -1 → wX_meldLeaning_119 post (hs_i w) (hs_i p) (hs_i t) (hs_i a) (hs_i b) (hs_e kk) gv2 gv3 gv4 gv5 gv6 gv7 (hs_e L) (hs_e R) (hs_e U) (hs_e N) gv12 gv13 gv14 gv15 gv16 gv17 gv18 gv19 gv20 gv21 gv22 := by
      intro c
      unfold wX_meldLeaning_119
      refine hs_eq a (-1) (fun d => ?_) (fun d => ?_)
      · have hI2 := hs_MI_comm hI
        rw [d] at hI2
        refine hs_m119 hw hw' hD hk hI2 ?_ he hK
        rcases hp with ⟨x, y⟩ | x
        · left
          refine ⟨x, ?_⟩
          rcases y with y | y
          · exact Or.inr ⟨y.2, y.1.symm.trans d⟩
          · exact Or.inl ⟨y.2, y.1.symm.trans d⟩
        · exact Or.inr x
      · have d2 : b = -1 := by rcases c with x | x; exact absurd x d; exact x
        rw [d2] at hI
        refine hs_m119 hw hw' hD hk hI ?_ he hK
        rcases hp with ⟨x, y⟩ | x
        · left
          refine ⟨x, ?_⟩
          rcases y with y | y
          · exact Or.inl ⟨y.1, y.2.symm.trans d2⟩
          · exact Or.inr ⟨y.1, y.2.symm.trans d2⟩
        · exact Or.inr x
    have go : ∀ a b, hs_MI w D V Z (hs_Lk (hs_K kk) w) G L R U N e t p a b → a ≠ -1 → b ≠ -1 → hs_Lk (hs_K kk) w a < hs_Lk (hs_K kk) w b → st < 24 →
        ((t = -1 ∧ ((a = a0 ∧ b = b0) ∨ (a = b0 ∧ b = a0))) ∨ (t ≠ -1 ∧ (p = a0 ∨ p = b0))) →
        wX_meldLeaning_69 post (wX_meldLeaning_21 post (hs_i w) (hs_i (w * 24)) n) (hs_i w) (hs_i (w * 24)) (hs_i p) (hs_i t) (hs_i a) (hs_i b) (hs_i st) (hs_e kk) gv2 gv3 gv4 gv5 gv6 gv7 (hs_e L) (hs_e R) (hs_e U) (hs_e N) gv12 gv13 gv14 gv15 gv16 gv17 gv18 gv19 gv20 gv21 gv22 := by
      intro a b hI ha hb lt hst hp
      have tb : -2147483648 ≤ t ∧ t < 2147483648 := by
        rcases hI.2.2.2.2.2.2.2.1 with x | x
        · omega
        · have := hD t (hI.2.2.2.2.2.1.1 t x).1; omega
      have core : ∀ (R1 : Int → Int) (p1 : Int), ((t = -1 ∧ R1 = R) ∨ (t ≠ -1 ∧ R1 = hs_u R t a)) → p1 = (if t = -1 then a else p) →
          wX_meldLeaning_91 post (wX_meldLeaning_21 post (hs_i w) (hs_i (w * 24)) n) (hs_i w) (hs_i (w * 24)) (hs_i p1) (hs_i t) (hs_i a) (hs_i b) (hs_i st) (hs_e kk) gv2 gv3 gv4 gv5 gv6 gv7 (hs_e L) (hs_e R1) (hs_e U) (hs_e N) gv12 gv13 gv14 gv15 gv16 gv17 gv18 gv19 gv20 gv21 gv22 := by
        intro R1 p1 hR hp1
        obtain ⟨m1, m2, m3, m4, m5, m6, m7⟩ := hs_MI_step hm hI ha hb lt hR
        have ar := hD a m4
        unfold wX_meldLeaning_91
        refine hs_wr a t rfl rfl (by omega) (by omega) (by decide) (hs_rd a rfl (by omega) (by omega) (by decide) (nm_r (hs_1 st) ?_))
        rw [m2, hp1]
        refine ih _ _ R1 _ _ a (R a) b (st + 1) m1 (by omega) (by omega) (Or.inr ⟨ha, ?_⟩) (by omega) (Or.inr ⟨ha, ?_⟩) ?_ ?_
        · rcases m5 with x | x
          · rcases s2 with y | y
            · have := hs_rk_r (hs_K kk) (i := a - w * 24) (by omega) (by omega); omega
            · exact absurd x y.1
          · have tr := hD t x.1
            have := hs_rk_lt (f := hs_K kk) (i := t - w * 24) (j := a - w * 24) (by omega) (by omega) x.2
            rcases s2 with y | y
            · omega
            · omega
        · rcases hp with ⟨x, y⟩ | ⟨x, y⟩
          · rw [if_pos x]
            rcases y with y | y
            · exact Or.inl y.1
            · exact Or.inr y.1
          · rw [if_neg x]; exact y
        · rcases he with x | x
          · exact Or.inl x
          · by_cases y : e = -1
            · exact Or.inl y
            · right
              have n1 : e ≠ a := by
                intro v
                rcases m6 with u | u
                · exact y u
                · rw [v] at u; omega
              have n2 : e ≠ R a := by
                intro v
                rcases m7 with u | u
                · exact y (v.trans u)
                · rcases m6 with g | g
                  · exact y g
                  · rw [v] at g; omega
              rw [hs_un n1, hs_un n2]; exact x
        · intro G' L' R' U' N' r' c1 c2 c3 c4 c5
          exact hK G' L' R' U' N' r' c1 c2 (hs_fr_trans m3 c3) (hs_fr_trans (hs_fr_u m4 (by rcases m5 with x | x; exact Or.inl x; exact Or.inr x.1)) c4) c5
      unfold wX_meldLeaning_69
      refine hs_eq t (-1) (fun c => core R a (Or.inl ⟨c, rfl⟩) (if_pos c).symm) (fun c => ?_)
      have tr : D t := by
        rcases hI.2.2.2.2.2.2.2.1 with x | x
        · exact absurd x c
        · exact (hI.2.2.2.2.2.1.1 t x).1
      have := hD t tr
      exact hs_wr t a rfl rfl (by omega) (by omega) (by decide) (core _ p (Or.inr ⟨c, rfl⟩) (if_neg c).symm)
    refine hs_le 24 st (fun c => fin ?_) (fun c => hs_eq a (-1) (fun d => fin (Or.inl d)) (fun d => hs_eq b (-1) (fun f => fin (Or.inr f)) (fun f => ?_)))
    · -- all items are used up
      apply Classical.byContradiction
      intro x
      have da : D a := by rcases ha with y | y; exact absurd (Or.inl y) x; exact y
      have ar := hD a da
      rcases s2 with y | y
      · omega
      · rcases hI.2.1 with z | z
        · exact x (Or.inl z)
        · rcases z.2.2.2 with v | v
          · exact y.1 v
          · have tr : D t := by
              rcases hI.2.2.2.2.2.2.2.1 with u | u
              · exact absurd u y.1
              · exact (hI.2.2.2.2.2.1.1 t u).1
            have tr := hD t tr
            have g := hs_rk_lt (f := hs_K kk) (i := t - w * 24) (j := a - w * 24) (by omega) (by omega) v
            have g2 := hs_rk_r (hs_K kk) (i := a - w * 24) (by omega) (by omega)
            omega
    · have da : D a := by rcases ha with y | y; exact absurd y d; exact y
      have db : D b := by rcases hb with y | y; exact absurd y f; exact y
      have ar := hD a da
      have br := hD b db
      rw [hs_sub, hs_sub]
      refine hs_cb kr (by omega) (by omega) (by omega) (by omega) (fun g => br_f (by decide) ?_) (fun g => br_t rfl ?_)
      · refine go b a (hs_MI_comm hI) f d g (by omega) ?_
        rcases hp with ⟨x, y⟩ | x
        · left
          exact ⟨x, by rcases y with y | y; exact Or.inr ⟨y.2, y.1⟩; exact Or.inl ⟨y.2, y.1⟩⟩
        · exact Or.inr x
      · refine go a b hI d f ?_ (by omega) hp
        have ne : hs_Lk (hs_K kk) w a ≠ hs_Lk (hs_K kk) w b := fun z => d (hI.2.2.2.1 (hk a b da db z))
        have g' : ¬ hs_Lk (hs_K kk) w b < hs_Lk (hs_K kk) w a := g
        omega
end HS24
end
section
section HS25
variable {gv1 gv2 gv3 gv4 gv5 gv6 gv7 gv8 gv9 gv10 gv11 gv12 gv13 gv14 gv15 gv16 gv17 gv18 gv19 gv20 gv21 gv22 : Nat → Int32}
def hs_LL (K H T L R U N : Int → Int) (w : Int) : Prop := ∀ q, 0 ≤ q → q ≤ 3 → hs_LT K H T L R U N w q
/-- what a change within one leaning tree leaves alone -/
def hs_LF (D : Int → Prop) (L R U N L' R' U' N' : Int → Int) : Prop := hs_fr D L L' ∧ hs_fr D R R' ∧ hs_fr D U U' ∧ hs_fn D N N'
theorem hs_LF_trans {D : Int → Prop} {L R U N L1 R1 U1 N1 L2 R2 U2 N2 : Int → Int} (h : hs_LF D L R U N L1 R1 U1 N1) (h' : hs_LF D L1 R1 U1 N1 L2 R2 U2 N2) : hs_LF D L R U N L2 R2 U2 N2 :=
  ⟨hs_fr_trans h.1 h'.1, hs_fr_trans h.2.1 h'.2.1, hs_fr_trans h.2.2.1 h'.2.2.1, hs_fn_trans h.2.2.2 h'.2.2.2⟩
theorem hs_LT_keep {D : Int → Prop} {K H H' T T' L L' R R' U U' N N' : Int → Int} {w' q' : Int} (hw : 0 ≤ w') (h : hs_LT K H T L R U N w' q') (hH : ∀ i, 0 ≤ i → i < 24 → (H' i = q' ↔ H i = q'))
    (hT : T' (w' * 4 + q') = T (w' * 4 + q')) (hF : hs_LF D L R U N L' R' U' N') (hd : ∀ n, hs_LD H w' q' n → ¬ D n) : hs_LT K H' T' L' R' U' N' w' q' := by
  refine hs_LT_congr hw h hH (fun _ _ _ _ => rfl) hT ?_ ?_ ?_ ?_
  · intro n hn
    rcases hF.1 n with e | e
    · exact e
    · exact absurd e.1 (hd n hn)
  · intro n hn
    rcases hF.2.1 n with e | e
    · exact e
    · exact absurd e.1 (hd n hn)
  · intro n hn
    rcases hF.2.2.1 n with e | e
    · exact e
    · exact absurd e.1 (hd n hn)
  · intro n hn
    rcases hF.2.2.2 n with e | e
    · exact e
    · exact absurd e (hd n hn)
theorem hs_LD_r {H : Int → Int} {w q : Int} : ∀ n, hs_LD H w q n → w * 24 ≤ n ∧ n < w * 24 + 24 := fun _ h => ⟨h.1, h.2.1⟩
theorem hs_LD_k {K H : Int → Int} {w q : Int} (hK : hs_Inj K) : ∀ n m, hs_LD H w q n → hs_LD H w q m → hs_Lk K w n = hs_Lk K w m → n = m :=
  fun _ _ hn hm e => hs_Lk_inj (H := H) hK hn.1 hn.2.1 hm.1 hm.2.1 e
theorem hs_meld {post : Int32 → SX → Prop} {D Z : Int → Prop} {kk G0 L R U N : Int → Int} {w e a0 b0 : Int} (kr : hs_kr kk) (hw : 0 ≤ w) (hw' : w ≤ 1) (hD : ∀ n, D n → w * 24 ≤ n ∧ n < w * 24 + 24) (hk : ∀ n m, D n → D m → hs_Lk (hs_K kk) w n = hs_Lk (hs_K kk) w m → n = m)
    (h : hs_MI w D (fun _ => False) Z (hs_Lk (hs_K kk) w) G0 L R U N e (-1) (-1) a0 b0)
    (hK : ∀ (G' L' R' U' N' : Int → Int) (r' : Int), hs_ME w D Z (hs_Lk (hs_K kk) w) G0 G' L' R' U' N' e a0 b0 r' → hs_LF D L R U N L' R' U' N' → post (hs_i r') (hs_e kk, gv2, gv3, gv4, gv5, gv6, gv7, hs_e L', hs_e R', hs_e U', hs_e N', gv12, gv13, gv14, gv15, gv16, gv17, gv18, gv19, gv20, gv21, gv22)) :
    wpX_meldLeaning post (hs_e kk, gv2, gv3, gv4, gv5, gv6, gv7, hs_e L, hs_e R, hs_e U, hs_e N, gv12, gv13, gv14, gv15, gv16, gv17, gv18, gv19, gv20, gv21, gv22) (hs_i w) (hs_i a0) (hs_i b0) := by
  unfold wpX_meldLeaning
  dsimp only
  refine nm_r (hs_m24 w) ⟨25, ?_⟩
  rw [← hs_lm1, ← hs_l0]
  exact hs_md kr hw hw' hD hk 25 _ G0 R U (-1) (-1) a0 b0 0 h (by omega) (by omega) (Or.inl ⟨rfl, rfl⟩) (by omega) (Or.inl ⟨rfl, Or.inl ⟨rfl, rfl⟩⟩) (Or.inr rfl) (fun G' L' R' U' N' r' a b c d f => hK G' L' R' U' N' r' a ⟨b, c, d, f⟩)
theorem hs_addL {post : SX → Prop} {kk H T L R U N : Int → Int} {w q x : Int} (kr : hs_kr kk) (hw : 0 ≤ w) (hw' : w ≤ 1) (hq : 0 ≤ q) (hq' : q ≤ 3) (x0 : 0 ≤ x) (x1 : x < 24) (hx : ¬ (0 ≤ H x))
    (h : hs_LL (hs_K kk) H T L R U N w)
    (hK : ∀ T' L' R' U' N' : Int → Int, hs_LL (hs_K kk) (hs_u H x q) T' L' R' U' N' w → hs_LF (hs_LD (hs_u H x q) w q) L R U N L' R' U' N' → (∀ j, j ≠ w * 4 + q → T' j = T j) → (T' (w * 4 + q) = -1 ∨ hs_LD (hs_u H x q) w q (T' (w * 4 + q))) → post (hs_e kk, gv2, gv3, gv4, gv5, gv6, hs_e T', hs_e L', hs_e R', hs_e U', hs_e N', gv12, gv13, gv14, gv15, gv16, gv17, gv18, gv19, gv20, gv21, gv22)) :
    wpX_addToLeaning post (hs_e kk, gv2, gv3, gv4, gv5, gv6, hs_e T, hs_e L, hs_e R, hs_e U, hs_e N, gv12, gv13, gv14, gv15, gv16, gv17, gv18, gv19, gv20, gv21, gv22) (hs_i w) (hs_i q) (hs_i x) := by
  have hD : hs_LD (hs_u H x q) w q (w * 24 + x) := ⟨by omega, by omega, hs_ue (by omega)⟩
  unfold wpX_addToLeaning
  dsimp only
  refine nm_r (hs_x24 w x) ?_
  refine hs_wr (w * 24 + x) (-1) rfl hs_lm1.symm (by omega) (by omega) (by decide) ?_
  refine hs_wr (w * 24 + x) (-1) rfl hs_lm1.symm (by omega) (by omega) (by decide) ?_
  refine hs_wr (w * 24 + x) (-1) rfl hs_lm1.symm (by omega) (by omega) (by decide) ?_
  refine hs_wr (w * 24 + x) 1 rfl hs_l1.symm (by omega) (by omega) (by decide) ?_
  refine nm_r (hs_x4 w q) ⟨hs_in (by omega) (by omega) (by decide), ?_⟩
  rw [hs_get (by omega) (by omega)]
  refine hs_meld kr hw hw' hs_LD_r (hs_LD_k (hs_K_inj kk)) (hs_LT_add hw (h q hq hq') x0 x1 (by omega)) ?_
  intro G' L' R' U' N' r hE hF
  refine hs_wr (w * 4 + q) r rfl rfl (by omega) (by omega) (by decide) ?_
  have hF2 : hs_LF (hs_LD (hs_u H x q) w q) L R U N L' R' U' N' := hs_LF_trans ⟨hs_fr_u hD (Or.inl rfl), hs_fr_u hD (Or.inl rfl), hs_fr_u hD (Or.inl rfl), hs_fn_u hD⟩ hF
  refine hK _ _ _ _ _ ?_ hF2 (fun j z => hs_un z) ?_
  · intro q' b0 b1
    by_cases e : q' = q
    · rw [e]
      exact hs_LT_of hw hE hs_us
    · refine hs_LT_keep hw (h q' b0 b1) ?_ (hs_un (by omega)) hF2 ?_
      · intro i c0 c1
        by_cases z : i = x
        · rw [hs_ue z, z]
          exact ⟨fun y => absurd y.symm e, fun y => by omega⟩
        · rw [hs_un z]
      · intro n hn y
        have a := hn.2.2
        have b := y.2.2
        by_cases z : n - w * 24 = x
        · rw [z] at a; omega
        · rw [hs_un z] at b; omega
  · rw [hs_us]
    rcases hE.2.2.1 with y | y
    · exact Or.inl y.1
    · exact Or.inr y.1
theorem hs_dropL {post : SX → Prop} {kk H T L R U N : Int → Int} {w q x : Int} (kr : hs_kr kk) (hw : 0 ≤ w) (hw' : w ≤ 1) (hq : 0 ≤ q) (hq' : q ≤ 3) (x0 : 0 ≤ x) (x1 : x < 24) (hx : H x = q)
    (h : hs_LL (hs_K kk) H T L R U N w)
    (hK : ∀ T' L' R' U' N' : Int → Int, hs_LL (hs_K kk) (hs_u H x (-1)) T' L' R' U' N' w → hs_LF (hs_LD H w q) L R U N L' R' U' N' → (∀ j, j ≠ w * 4 + q → T' j = T j) → (T' (w * 4 + q) = -1 ∨ hs_LD H w q (T' (w * 4 + q))) → post (hs_e kk, gv2, gv3, gv4, gv5, gv6, hs_e T', hs_e L', hs_e R', hs_e U', hs_e N', gv12, gv13, gv14, gv15, gv16, gv17, gv18, gv19, gv20, gv21, gv22)) :
    wpX_dropFromLeaning post (hs_e kk, gv2, gv3, gv4, gv5, gv6, hs_e T, hs_e L, hs_e R, hs_e U, hs_e N, gv12, gv13, gv14, gv15, gv16, gv17, gv18, gv19, gv20, gv21, gv22) (hs_i w) (hs_i q) (hs_i x) := by
  have hD : hs_LD H w q (w * 24 + x) := ⟨by omega, by omega, by rw [show w * 24 + x - w * 24 = x by omega]; exact hx⟩
  have hT := h q hq hq'
  have hm := hs_LD_m (H := H) (q := q) hw
  obtain ⟨t1, t2, t3, t4⟩ := hT
  have ch := (t1 _ hD).1 (hm _ hD)
  have up := (t1 _ hD).2
  have sub : ∀ n, hs_LD (hs_u H x (-1)) w q n → hs_LD H w q n := by
    intro n hn
    refine ⟨hn.1, hn.2.1, ?_⟩
    have := hn.2.2
    by_cases z : n - w * 24 = x
    · rw [hs_ue z] at this; omega
    · rw [hs_un z] at this; exact this
  have keep : ∀ {T' L' R' U' N' : Int → Int}, hs_LT (hs_K kk) (hs_u H x (-1)) T' L' R' U' N' w q → hs_LF (hs_LD H w q) L R U N L' R' U' N' → (∀ j, j ≠ w * 4 + q → T' j = T j) → hs_LL (hs_K kk) (hs_u H x (-1)) T' L' R' U' N' w := by
    intro T' L' R' U' N' a b c q' b0 b1
    by_cases e : q' = q
    · rw [e]; exact a
    · refine hs_LT_keep hw (h q' b0 b1) ?_ (c _ (by omega)) b ?_
      · intro i c0 c1
        by_cases z : i = x
        · rw [hs_ue z, z]
          exact ⟨fun y => by omega, fun y => by omega⟩
        · rw [hs_un z]
      · intro n hn y
        exact e (hn.2.2.symm.trans y.2.2)
  unfold wpX_dropFromLeaning
  dsimp only
  refine nm_r (hs_x24 w x) ?_
  have MI := hs_LT_drop hw (h q hq hq') x0 x1 hx
  generalize hE : w * 24 + x = E at *
  have Er := hD.1
  have Er' := hD.2.1
  refine hs_rd E rfl (by omega) (by omega) (by decide) ⟨hs_in (by omega) (by omega) (by decide), ?_⟩
  rw [hs_get (A := L) (by omega) (by omega), hs_get (A := R) (by omega) (by omega)]
  refine ⟨hs_in (by omega) (by omega) (by decide), ?_⟩
  refine hs_meld kr hw hw' hs_LD_r (hs_LD_k (hs_K_inj kk)) MI ?_
  intro G' L' R' U' N' r hE2 hF
  have gE : G' E = U E := by
    rcases hE2.2.2.2.2.2.2 with z | z
    · exact absurd z (hm E hD)
    · rw [z]
      refine if_neg (fun y => ?_)
      rcases y with y | y
      · rcases ch.1 with v | v
        · exact hm E hD (y.trans v)
        · rw [← y] at v
          rcases up with u | u
          · exact hm E hD (v.2.symm.trans u)
          · rw [v.2] at u; omega
      · rcases ch.2.1 with v | v
        · exact hm E hD (y.trans v)
        · rw [← y] at v
          rcases up with u | u
          · exact hm E hD (v.2.symm.trans u)
          · rw [v.2] at u; omega
  have rD : r = -1 ∨ hs_LD H w q r := by
    rcases hE2.2.2.1 with y | y
    · exact Or.inl y.1
    · exact Or.inr y.1
  have rb : -2147483648 ≤ r ∧ r < 2147483648 := by
    rcases rD with y | y
    · omega
    · have := y.1; have := y.2.1; omega
  have ub : U E = -1 ∨ hs_LD H w q (U E) := by
    rcases up with u | u
    · exact Or.inl u
    · exact Or.inr u.1
  have ub2 : -2147483648 ≤ U E ∧ U E < 2147483648 := by
    rcases ub with y | y
    · omega
    · have := y.1; have := y.2.1; omega
  refine hs_eq (U E) (-1) (fun c => ?_) (fun c => ?_)
  · refine hs_wr (w * 4 + q) r (hs_x4 _ _) rfl (by omega) (by omega) (by decide) ?_
    have hr : T (w * 4 + q) = E := t2 E hD c
    refine hK _ _ _ _ _ (keep (hs_LT_drop0 (i := x) hw (by rw [hE]; exact hE2) x0 x1 hx (by rw [hE]; exact hr) hs_us (by omega)) hF (fun j z => hs_un z)) hF (fun j z => hs_un z) ?_
    rw [hs_us]; exact rD
  · have pD : hs_LD H w q (U E) := by
      rcases ub with y | y
      · exact absurd y c
      · exact y
    have p1 := pD.1
    have p2 := pD.2.1
    have hk : r = -1 ∨ hs_Lk (hs_K kk) w E < hs_Lk (hs_K kk) w r := by
      rcases hE2.2.2.1 with y | y
      · exact Or.inl y.1
      · right
        have kid : ∀ n, hs_LD H w q n → U n = E → hs_Lk (hs_K kk) w E < hs_Lk (hs_K kk) w n := by
          intro n hn z
          rcases (t1 n hn).2 with v | v
          · rw [z] at v; exact absurd v (hm E hD)
          · rw [z] at v; exact v.2.2.1
        rcases y.2.2 with z | z
        · rcases ch.1 with v | v
          · exact absurd (z.trans v) (hm r y.1)
          · rw [z]; exact kid _ v.1 v.2
        · rcases ch.2.1 with v | v
          · exact absurd (z.trans v) (hm r y.1)
          · rw [z]; exact kid _ v.1 v.2
    have hT1 : T (w * 4 + q) = -1 ∨ hs_LD H w q (T (w * 4 + q)) := by
      rcases t3 with y | y
      · exact Or.inl y
      · exact Or.inr y.1
    -- the last two steps
    have fin : ∀ L2 R2 : Int → Int, ((L' (U E) = E ∧ L2 = hs_u L' (U E) r ∧ R2 = R') ∨ (L' (U E) ≠ E ∧ L2 = L' ∧ R2 = hs_u R' (U E) r)) →
        wX_dropFromLeaning_90 post (hs_i w) (hs_i (U E)) (hs_i r) (hs_e kk) gv2 gv3 gv4 gv5 gv6 (hs_e T) (hs_e L2) (hs_e R2) (hs_e U') (hs_e N') gv12 gv13 gv14 gv15 gv16 gv17 gv18 gv19 gv20 gv21 gv22 := by
      intro L2 R2 hLR
      have fLR : hs_fr (hs_LD H w q) L' L2 ∧ hs_fr (hs_LD H w q) R' R2 := by
        rcases hLR with ⟨_, y, z⟩ | ⟨_, y, z⟩
        · rw [y, z]; exact ⟨hs_fr_u pD rD, hs_fr_refl⟩
        · rw [y, z]; exact ⟨hs_fr_refl, hs_fr_u pD rD⟩
      have core : ∀ U2 : Int → Int, ((r = -1 ∧ U2 = U') ∨ (r ≠ -1 ∧ U2 = hs_u U' r (U E))) →
          wX_dropFromLeaning_105 post (hs_i w) (hs_i (U E)) (hs_e kk) gv2 gv3 gv4 gv5 gv6 (hs_e T) (hs_e L2) (hs_e R2) (hs_e U2) (hs_e N') gv12 gv13 gv14 gv15 gv16 gv17 gv18 gv19 gv20 gv21 gv22 := by
        intro U2 hU
        have fU : hs_fr (hs_LD H w q) U' U2 := by
          rcases hU with ⟨_, y⟩ | ⟨y, z⟩
          · rw [y]; exact hs_fr_refl
          · rw [z]
            rcases rD with v | v
            · exact absurd v y
            · exact hs_fr_u v (Or.inr pD)
        obtain ⟨d1, d2, d3, d4, d5⟩ := hs_LT_drop1 (i := x) (p := U E) (L2 := L2) (R2 := R2) (U2 := U2) hw (by rw [hE]; exact hE2) x0 x1 hx (by omega) (by rw [hE]; exact gE.symm) c (by rw [hE]; exact hk) hT1 (by rw [hE]; exact hLR) hU
        have hF2 : hs_LF (hs_LD H w q) L R U N L2 R2 U2 N' := hs_LF_trans hF ⟨fLR.1, fLR.2, fU, hs_fn_refl⟩
        have T3 : T (w * 4 + q) = -1 ∨ hs_LD H w q (T (w * 4 + q)) := hT1
        unfold wX_dropFromLeaning_105
        refine hs_eq w 0 (fun z => ?_) (fun z => ?_)
        · unfold wpX_lean
          dsimp only
          refine ⟨25, ?_⟩
          rw [← hs_l0]
          have rk := hs_rk_r (hs_K kk) (i := U E - w * 24) (by omega) (by omega)
          have vv : hs_V (hs_LD (hs_u H x (-1)) w q) (fun _ => False) (hs_Lk (hs_K kk) w) U2 (-1) := ⟨fun n v => v.elim, fun n m v => v.elim, fun n v => v.elim⟩
          refine hs_ln hw hw' hs_LD_r (hs_LD_k (hs_K_inj kk)) vv (fun _ _ => rfl) 25 (U E) 0 L2 R2 N' d1 (by omega) (Or.inr (by omega)) (by omega) (by omega) ?_
          intro L3 R3 N3 a1 a2 a3 a4
          have wide : ∀ {A B : Int → Int}, hs_fr (hs_LD (hs_u H x (-1)) w q) A B → hs_fr (hs_LD H w q) A B := by
            intro A B v j
            rcases v j with u | u
            · exact Or.inl u
            · refine Or.inr ⟨sub j u.1, ?_⟩
              rcases u.2 with g | g
              · exact Or.inl g
              · exact Or.inr (sub _ g)
          have wide2 : ∀ {A B : Int → Int}, hs_fn (hs_LD (hs_u H x (-1)) w q) A B → hs_fn (hs_LD H w q) A B := by
            intro A B v j
            rcases v j with u | u
            · exact Or.inl u
            · exact Or.inr (sub j u)
          have hF3 : hs_LF (hs_LD H w q) L R U N L3 R3 U2 N3 := hs_LF_trans hF2 ⟨wide a2, wide a3, hs_fr_refl, wide2 a4⟩
          refine hK T L3 R3 U2 N3 (keep ⟨a1.1, d2, d3, fun v n hn => ?_⟩ hF3 (fun _ _ => rfl)) hF3 (fun _ _ => rfl) T3
          apply Classical.byContradiction
          intro u
          exact (a1.2.2 v n hn (hs_LD_m hw n hn) u).1 rfl
        · refine hK T L2 R2 U2 N' (keep ⟨d1.1, d2, d3, fun v => absurd v z⟩ hF2 (fun _ _ => rfl)) hF2 (fun _ _ => rfl) T3
      unfold wX_dropFromLeaning_90
      refine hs_eq r (-1) (fun z => core U' (Or.inl ⟨z, rfl⟩)) (fun z => ?_)
      have rr : hs_LD H w q r := by
        rcases rD with v | v
        · exact absurd v z
        · exact v
      have r1 := rr.1
      have r2 := rr.2.1
      exact hs_wr r (U E) rfl rfl (by omega) (by omega) (by decide) (core _ (Or.inr ⟨z, rfl⟩))
    dsimp only
    refine ⟨hs_in (by omega) (by omega) (by decide), ?_⟩
    rw [hs_get (A := L') (by omega) (by omega)]
    have une : U E ≠ E := by
      intro z
      rcases up with u | u
      · exact c u
      · rw [z] at u; omega
    have lb : L' (U E) = -1 ∨ hs_LD H w q (L' (U E)) := (hs_LO_ch hE2.1 pD une).1
    have lb2 : -2147483648 ≤ L' (U E) ∧ L' (U E) < 2147483648 := by
      rcases lb with y | y
      · omega
      · have := y.1; have := y.2.1; omega
    refine hs_eq (L' (U E)) E (fun z => ?_) (fun z => ?_)
    · exact hs_wr (U E) r rfl rfl (by omega) (by omega) (by decide) (fin _ _ (Or.inl ⟨z, rfl, rfl⟩))
    · exact hs_wr (U E) r rfl rfl (by omega) (by omega) (by decide) (fin _ _ (Or.inr ⟨z, rfl, rfl⟩))
theorem hs_LT_join {K H T L R U N : Int → Int} {w a b : Int} (hw : 0 ≤ w) (ha : hs_LT K H T L R U N w a) (hb : hs_LT K H T L R U N w b) (hab : a ≠ b) :
    hs_MI w (hs_LD (fun i => if H i = b then a else H i) w a) (fun _ => False) (fun _ => False) (hs_Lk K w) U L R U N (-1) (-1) (-1) (T (w * 4 + a)) (T (w * 4 + b)) := by
  have hD : ∀ n, hs_LD (fun i => if H i = b then a else H i) w a n ↔ hs_LD H w a n ∨ hs_LD H w b n := by
    intro n
    constructor
    · intro c
      have := c.2.2
      by_cases z : H (n - w * 24) = b
      · exact Or.inr ⟨c.1, c.2.1, z⟩
      · dsimp only at this
        rw [if_neg z] at this
        exact Or.inl ⟨c.1, c.2.1, this⟩
    · intro c
      rcases c with c | c
      · refine ⟨c.1, c.2.1, ?_⟩
        dsimp only
        rw [if_neg (by rw [c.2.2]; exact hab)]; exact c.2.2
      · refine ⟨c.1, c.2.1, ?_⟩
        dsimp only
        rw [if_pos c.2.2]
  have hm := hs_LD_m (H := fun i => if H i = b then a else H i) (q := a) hw
  obtain ⟨a1, a2, a3, a4⟩ := ha
  obtain ⟨b1, b2, b3, b4⟩ := hb
  refine ⟨?_, ?_, ?_, ?_, fun _ _ _ _ => rfl, ⟨fun n c => c.elim, fun n m c => c.elim, fun n c => c.elim⟩, fun n c => c.elim, Or.inl rfl, Or.inl ⟨rfl, rfl⟩, ?_, fun n c => c.elim, ?_⟩
  · intro n hn
    have n1 := hm n hn
    have key : ∀ q, hs_LO (hs_LD H w q) (hs_Lk K w) U L R (-1) → (∀ m, hs_LD H w q m → hs_LD (fun i => if H i = b then a else H i) w a m) → hs_LD H w q n →
        (n ≠ -1 → (L n = -1 ∨ (hs_LD (fun i => if H i = b then a else H i) w a (L n) ∧ U (L n) = n)) ∧ (hs_u R (-1) (-1) n = -1 ∨ (hs_LD (fun i => if H i = b then a else H i) w a (hs_u R (-1) (-1) n) ∧ U (hs_u R (-1) (-1) n) = n)) ∧ (L n = hs_u R (-1) (-1) n → L n = -1)) ∧
        (U n = -1 ∨ (hs_LD (fun i => if H i = b then a else H i) w a (U n) ∧ U n ≠ -1 ∧ hs_Lk K w (U n) < hs_Lk K w n ∧ (L (U n) = n ∨ hs_u R (-1) (-1) (U n) = n))) := by
      intro q hO hs hq
      obtain ⟨c1, c2⟩ := hO n hq
      obtain ⟨d1, d2, d3⟩ := c1 n1
      rw [hs_un n1]
      refine ⟨fun _ => ⟨?_, ?_, d3⟩, ?_⟩
      · rcases d1 with v | v
        · exact Or.inl v
        · exact Or.inr ⟨hs _ v.1, v.2⟩
      · rcases d2 with v | v
        · exact Or.inl v
        · exact Or.inr ⟨hs _ v.1, v.2⟩
      · rcases c2 with v | ⟨v1, v2, v3, v4⟩
        · exact Or.inl v
        · exact Or.inr ⟨hs _ v1, v2, v3, by rw [hs_un v2]; exact v4⟩
    rcases (hD n).mp hn with c | c
    · exact key a a1 (fun m x => (hD m).mpr (Or.inl x)) c
    · exact key b b1 (fun m x => (hD m).mpr (Or.inr x)) c
  · rcases a3 with c | c
    · exact Or.inl c
    · exact Or.inr ⟨(hD _).mpr (Or.inl c.1), c.2, Or.inl rfl, Or.inl rfl⟩
  · rcases b3 with c | c
    · exact Or.inl c
    · exact Or.inr ⟨(hD _).mpr (Or.inr c.1), c.2, Or.inl rfl, Or.inl rfl⟩
  · intro x
    rcases a3 with c | c
    · exact c
    · rcases b3 with d | d
      · exact x.trans d
      · have e1 := c.1.2.2
        have e2 := d.1.2.2
        rw [x] at e1
        exact absurd (e1.symm.trans e2) hab
  · intro n hn c
    rcases (hD n).mp hn with d | d
    · exact Or.inr (Or.inl (a2 n d c).symm)
    · exact Or.inr (Or.inr (Or.inl (b2 n d c).symm))
  · intro hz n hn _ hbad
    apply hbad
    rcases (hD n).mp hn with d | d
    · exact a4 hz n d
    · exact b4 hz n d
theorem hs_joinL {post : SX → Prop} {kk H T L R U N : Int → Int} {w a b : Int} (kr : hs_kr kk) (hw : 0 ≤ w) (hw' : w ≤ 1) (ha : 0 ≤ a) (ha' : a ≤ 3) (hb : 0 ≤ b) (hb' : b ≤ 3) (hab : a ≠ b)
    (h : hs_LL (hs_K kk) H T L R U N w)
    (hK : ∀ T' L' R' U' N' : Int → Int, hs_LL (hs_K kk) (fun i => if H i = b then a else H i) T' L' R' U' N' w → hs_LF (hs_LD (fun i => if H i = b then a else H i) w a) L R U N L' R' U' N' → (∀ j, j ≠ w * 4 + a → j ≠ w * 4 + b → T' j = T j) → (T' (w * 4 + a) = -1 ∨ hs_LD (fun i => if H i = b then a else H i) w a (T' (w * 4 + a))) → T' (w * 4 + b) = -1 → post (hs_e kk, gv2, gv3, gv4, gv5, gv6, hs_e T', hs_e L', hs_e R', hs_e U', hs_e N', gv12, gv13, gv14, gv15, gv16, gv17, gv18, gv19, gv20, gv21, gv22)) :
    wpX_joinLeaning post (hs_e kk, gv2, gv3, gv4, gv5, gv6, hs_e T, hs_e L, hs_e R, hs_e U, hs_e N, gv12, gv13, gv14, gv15, gv16, gv17, gv18, gv19, gv20, gv21, gv22) (hs_i w) (hs_i a) (hs_i b) := by
  unfold wpX_joinLeaning
  dsimp only
  refine nm_r (hs_x4 w a) (nm_r (hs_x4 w b) ⟨hs_in (by omega) (by omega) (by decide), hs_in (by omega) (by omega) (by decide), ?_⟩)
  rw [hs_get (x := w * 4 + a) (by omega) (by omega), hs_get (x := w * 4 + b) (by omega) (by omega)]
  refine hs_meld kr hw hw' hs_LD_r (hs_LD_k (hs_K_inj kk)) (hs_LT_join hw (h a ha ha') (h b hb hb') hab) ?_
  intro G' L' R' U' N' r hE hF
  refine hs_wr (w * 4 + a) r rfl rfl (by omega) (by omega) (by decide) (hs_wr (w * 4 + b) (-1) rfl hs_lm1.symm (by omega) (by omega) (by decide) ?_)
  have T1 : hs_u (hs_u T (w * 4 + a) r) (w * 4 + b) (-1) (w * 4 + a) = r := by rw [hs_un (by omega), hs_us]
  have T2 : ∀ j, j ≠ w * 4 + a → j ≠ w * 4 + b → hs_u (hs_u T (w * 4 + a) r) (w * 4 + b) (-1) j = T j := fun j x y => by rw [hs_un y, hs_un x]
  refine hK _ _ _ _ _ ?_ hF T2 ?_ hs_us
  · intro q b0 b1
    by_cases e : q = a
    · rw [e]; exact hs_LT_of hw hE T1
    · by_cases f : q = b
      · have none : ∀ n, ¬ hs_LD (fun i => if H i = b then a else H i) w b n := by
          intro n hn
          have := hn.2.2
          dsimp only at this
          by_cases z : H (n - w * 24) = b
          · rw [if_pos z] at this; exact hab this
          · rw [if_neg z] at this; exact z this
        rw [f]
        exact ⟨fun n hn => absurd hn (none n), fun n hn => absurd hn (none n), Or.inl hs_us, fun _ n hn => absurd hn (none n)⟩
      · refine hs_LT_keep hw (h q b0 b1) ?_ (T2 _ (by omega) (by omega)) hF ?_
        · intro i c0 c1
          try dsimp only
          by_cases z : H i = b
          · rw [if_pos z]; exact ⟨fun y => absurd y.symm e, fun y => absurd (y.symm.trans z) f⟩
          · rw [if_neg z]
        · intro n hn y
          have u := y.2.2
          have v := hn.2.2
          dsimp only at u
          by_cases z : H (n - w * 24) = b
          · exact f (v.symm.trans z)
          · rw [if_neg z] at u; exact e (v.symm.trans u)
  · rw [T1]
    rcases hE.2.2.1 with y | y
    · exact Or.inl y.1
    · exact Or.inr y.1
end HS25
end
section
section HS26
variable {gv1 gv2 gv3 gv4 gv5 gv6 gv7 gv8 gv9 gv10 gv11 gv12 gv13 gv14 gv15 gv16 gv17 gv18 gv19 gv20 gv21 gv22 : Nat → Int32}
/-! engine 4: the walks -/
theorem hs_pu48 {post : Int32 → SX → Prop} {C X B : Int → Int} {t f : Int} (t0 : 0 ≤ t) (t1 : t < 24) (f0 : 0 ≤ f) (f1 : f < 24) (hc : C t = -1 ∨ (0 ≤ C t ∧ C t < 24))
    (hK : ∀ B' : Int → Int, ((C t = -1 ∧ B' = hs_u B f t) ∨ (C t ≠ -1 ∧ B' = hs_u (hs_u B f t) (C t) f)) → post (hs_i t) (gv1, gv2, gv3, gv4, gv5, gv6, gv7, gv8, gv9, gv10, gv11, gv12, hs_e (hs_u C t f), hs_e (hs_u X f (C t)), hs_e B', gv16, gv17, gv18, gv19, gv20, gv21, gv22)) :
    wX_pairUp_48 post (hs_i t) (hs_i f) gv1 gv2 gv3 gv4 gv5 gv6 gv7 gv8 gv9 gv10 gv11 gv12 (hs_e C) (hs_e X) (hs_e B) gv16 gv17 gv18 gv19 gv20 gv21 gv22 := by
  unfold wX_pairUp_48
  refine hs_rd t rfl t0 (by omega) (by decide) (hs_wr f (C t) rfl rfl f0 (by omega) (by decide) (hs_wr f t rfl rfl f0 (by omega) (by decide) ?_))
  refine hs_eq (C t) (-1) (fun c => ?_) (fun c => ?_)
  · exact hs_wr t f rfl rfl t0 (by omega) (by decide) (hK _ (Or.inl ⟨c, rfl⟩))
  · exact hs_wr (C t) f rfl rfl (by omega) (by omega) (by decide) (hs_wr t f rfl rfl t0 (by omega) (by decide) (hK _ (Or.inr ⟨c, rfl⟩)))
theorem hs_pu {post : Int32 → SX → Prop} {D : Int → Prop} {kk G O C X B : Int → Int} {e r a b : Int} (kr : hs_kr kk) (hD : ∀ i, D i → 0 ≤ i ∧ i < 24) (h : hs_PO D (hs_K kk) G O C X B e r)
    (ha : a = -1 ∨ (D a ∧ G a = -1 ∧ a ≠ e)) (hb : b = -1 ∨ (D b ∧ G b = -1 ∧ b ≠ e)) (hab : a = b → a = -1)
    (hK : ∀ (G' O' C' X' B' : Int → Int) (t f : Int), hs_UP D (hs_K kk) G C X B G' O' C' X' B' e r a b t f → post (hs_i t) (hs_e kk, gv2, gv3, gv4, gv5, gv6, gv7, gv8, gv9, gv10, gv11, gv12, hs_e C', hs_e X', hs_e B', gv16, gv17, gv18, gv19, gv20, gv21, gv22)) :
    wpX_pairUp post (hs_e kk, gv2, gv3, gv4, gv5, gv6, gv7, gv8, gv9, gv10, gv11, gv12, hs_e C, hs_e X, hs_e B, gv16, gv17, gv18, gv19, gv20, gv21, gv22) (hs_i a) (hs_i b) := by
  have hm : ∀ i, D i → i ≠ -1 := fun i hi => by have := hD i hi; omega
  have ar : -2147483648 ≤ a ∧ a < 2147483648 := by
    rcases ha with x | x
    · omega
    · have := hD a x.1; omega
  have br : -2147483648 ≤ b ∧ b < 2147483648 := by
    rcases hb with x | x
    · omega
    · have := hD b x.1; omega
  have ch : ∀ t, D t → t ≠ e → C t = -1 ∨ (0 ≤ C t ∧ C t < 24) := by
    intro t ht hte
    rcases (h t ht).1 hte with x | x
    · exact Or.inl x
    · exact Or.inr (hD _ x.1)
  unfold wpX_pairUp
  dsimp only
  refine hs_eq a (-1) (fun c => ?_) (fun c => hs_eq b (-1) (fun d => ?_) (fun d => ?_))
  · unfold wX_pairUp_10
    exact hs_eq a (-1) (fun _ => hK G O C X B b a (hs_UP_nil h c (Or.inr ⟨rfl, rfl⟩))) (fun z => absurd c z)
  · unfold wX_pairUp_10
    exact hs_eq a (-1) (fun z => absurd z c) (fun z => hK G O C X B a b (hs_UP_nil h d (Or.inl ⟨rfl, rfl⟩)))
  · obtain ⟨a1, a2, a3⟩ : D a ∧ G a = -1 ∧ a ≠ e := by
      rcases ha with x | x
      · exact absurd x c
      · exact x
    obtain ⟨b1, b2, b3⟩ : D b ∧ G b = -1 ∧ b ≠ e := by
      rcases hb with x | x
      · exact absurd x d
      · exact x
    have ra := hD a a1
    have rb := hD b b1
    have ne : a ≠ b := fun z => c (hab z)
    refine hs_cb kr ra.1 ra.2 rb.1 rb.2 (fun g => br_f (by decide) ?_) (fun g => br_t rfl ?_)
    · unfold wX_pairUp_37
      refine br_f (by decide) (hs_pu48 ra.1 ra.2 rb.1 rb.2 (ch a a1 a3) (fun B' hB => ?_))
      exact hK _ _ _ _ B' a b (hs_UP_go hm h a1 b1 a2 b2 a3 ne g (Or.inl ⟨rfl, rfl⟩) hB)
    · unfold wX_pairUp_37
      have lt : hs_K kk b < hs_K kk a := by
        have : hs_K kk a ≠ hs_K kk b := fun z => ne (hs_K_inj kk a b ra.1 ra.2 rb.1 rb.2 z)
        omega
      refine br_t rfl (hs_pu48 rb.1 rb.2 ra.1 ra.2 (ch b b1 b3) (fun B' hB => ?_))
      exact hK _ _ _ _ B' b a (hs_UP_go hm h b1 a1 b2 a2 b3 (fun z => ne z.symm) lt (Or.inr ⟨rfl, rfl⟩) hB)
def hs_PF (D : Int → Prop) (C X B C' X' B' : Int → Int) : Prop := hs_fr D C C' ∧ hs_fr D X X' ∧ hs_fr D B B'
theorem hs_PF_refl {D : Int → Prop} {C X B : Int → Int} : hs_PF D C X B C X B := ⟨hs_fr_refl, hs_fr_refl, hs_fr_refl⟩
theorem hs_PF_trans {D : Int → Prop} {C X B C1 X1 B1 C2 X2 B2 : Int → Int} (h : hs_PF D C X B C1 X1 B1) (h' : hs_PF D C1 X1 B1 C2 X2 B2) : hs_PF D C X B C2 X2 B2 :=
  ⟨hs_fr_trans h.1 h'.1, hs_fr_trans h.2.1 h'.2.1, hs_fr_trans h.2.2 h'.2.2⟩
/-- the second pass -/
theorem hs_pc2 {post : Int32 → SX → Prop} {D : Int → Prop} {kk : Int → Int} {e s : Int} (kr : hs_kr kk) (hD : ∀ i, D i → 0 ≤ i ∧ i < 24) :
    ∀ (n : Nat) (G O C X B : Int → Int) (p m st : Int) (l : List Int), hs_PP D (hs_K kk) G O C X B e (-1) s p m l → 0 ≤ st → st + l.length ≤ 24 → 24 - st < n →
    (∀ (G' O' C' X' B' : Int → Int) (m' : Int), hs_PP D (hs_K kk) G' O' C' X' B' e (-1) s (-1) m' [] → hs_PF D C X B C' X' B' → post (hs_i m') (hs_e kk, gv2, gv3, gv4, gv5, gv6, gv7, gv8, gv9, gv10, gv11, gv12, hs_e (hs_u C' e (-1)), hs_e X', hs_e B', gv16, gv17, gv18, gv19, gv20, gv21, gv22)) →
    wX_pairChildrenOf_117 post (hs_i e) n (hs_i p) (hs_i m) (hs_i st) (hs_e kk) gv2 gv3 gv4 gv5 gv6 gv7 gv8 gv9 gv10 gv11 gv12 (hs_e C) (hs_e X) (hs_e B) gv16 gv17 gv18 gv19 gv20 gv21 gv22 := by
  have hm : ∀ i, D i → i ≠ -1 := fun i hi => by have := hD i hi; omega
  intro n
  induction n with
  | zero => intro G O C X B p m st l _ h0 h1 h2; omega
  | succ n ih =>
    intro G O C X B p m st l hP h0 h1 h2 hK
    have er := hD e hP.2.1
    have fin : l = [] → vp_in (hs_i e) 24 ∧ ∀ y, y = upd (hs_e C) (hs_i e).toNatClampNeg (-1) → post (hs_i m) (hs_e kk, gv2, gv3, gv4, gv5, gv6, gv7, gv8, gv9, gv10, gv11, gv12, y, hs_e X, hs_e B, gv16, gv17, gv18, gv19, gv20, gv21, gv22) := by
      intro z
      refine hs_wr e (-1) rfl hs_lm1.symm er.1 (by omega) (by decide) (hK G O C X B m ?_ hs_PF_refl)
      have hp : p = -1 := by
        have := hP.2.2.2.1
        rw [z] at this
        exact this
      rw [z, hp] at hP
      exact hP
    have pb : -2147483648 ≤ p ∧ p < 2147483648 := by
      cases l with
      | nil => have : p = -1 := hP.2.2.2.1; omega
      | cons a l =>
        have := hP.2.2.2.1.1
        have := hD a (hP.2.2.2.2.2.1 a (List.mem_cons_self ..)).1
        omega
    refine hs_le 24 st (fun c => fin ?_) (fun c => hs_eq p (-1) (fun d => fin ?_) (fun d => ?_))
    · cases l with
      | nil => rfl
      | cons a l => rw [List.length_cons] at h1; omega
    · cases l with
      | nil => rfl
      | cons a l => exact absurd (hP.2.2.2.1.1.symm.trans d) hP.2.2.2.1.2.1
    · cases l with
      | nil => exact absurd hP.2.2.2.1 d
      | cons a l =>
        have ea : p = a := hP.2.2.2.1.1
        subst ea
        have pl := hP.2.2.2.2.2.1 p (List.mem_cons_self ..)
        have pr := hD p pl.1
        refine hs_rd p rfl pr.1 (by omega) (by decide) (hs_wr p (-1) rfl hs_lm1.symm pr.1 (by omega) (by decide) ?_)
        have po : hs_PO D (hs_K kk) G O C (hs_u X p (-1)) B e (-1) := hs_PO_root hP.1 (fun i _ x => hs_un (fun y => x (by rw [y]; exact pl.2.1))) (fun _ _ _ => rfl) hm
        have ma : m = -1 ∨ (D m ∧ G m = -1 ∧ m ≠ e) := by
          rcases hP.2.2.2.2.2.2.1 with x | x
          · exact Or.inl x
          · exact Or.inr ⟨x.1, x.2.1, x.2.2.2.2.1⟩
        refine hs_pu kr hD po ma (Or.inr ⟨pl.1, pl.2.1, pl.2.2.2.1⟩) (fun z => absurd z.symm pl.2.2.2.2.2) ?_
        intro G' O' C' X' B' t f hU
        refine nm_r (hs_1 st) (ih G' O' C' X' B' (X p) t (st + 1) l (hs_PP_pop hD hP hU) (by omega) (by rw [List.length_cons] at h1; omega) (by omega) ?_)
        intro G2 O2 C2 X2 B2 m2 c1 c2
        exact hK G2 O2 C2 X2 B2 m2 c1 (hs_PF_trans ⟨hU.2.2.2.2.2.2.1, hs_fr_trans (hs_fr_u pl.1 (Or.inl rfl)) hU.2.2.2.2.2.2.2.1, hU.2.2.2.2.2.2.2.2⟩ c2)
/-- the first pass -/
theorem hs_pc1 {post : Int32 → SX → Prop} {D : Int → Prop} {kk : Int → Int} {e s : Int} (kr : hs_kr kk) (hD : ∀ i, D i → 0 ≤ i ∧ i < 24) :
    ∀ (n : Nat) (G O C X B : Int → Int) (r p st : Int) (l : List Int), hs_PP D (hs_K kk) G O C X B e r s p (-1) l → 0 ≤ st → st + hs_c G e ≤ 24 → l.length ≤ st → 24 - st < n →
    (∀ (G' O' C' X' B' : Int → Int) (m' : Int), hs_PP D (hs_K kk) G' O' C' X' B' e (-1) s (-1) m' [] → hs_PF D C X B C' X' B' → post (hs_i m') (hs_e kk, gv2, gv3, gv4, gv5, gv6, gv7, gv8, gv9, gv10, gv11, gv12, hs_e (hs_u C' e (-1)), hs_e X', hs_e B', gv16, gv17, gv18, gv19, gv20, gv21, gv22)) →
    wX_pairChildrenOf_12 post (hs_i e) n (hs_i r) (hs_i p) (hs_i st) (hs_e kk) gv2 gv3 gv4 gv5 gv6 gv7 gv8 gv9 gv10 gv11 gv12 (hs_e C) (hs_e X) (hs_e B) gv16 gv17 gv18 gv19 gv20 gv21 gv22 := by
  have hm : ∀ i, D i → i ≠ -1 := fun i hi => by have := hD i hi; omega
  intro n
  induction n with
  | zero =>
    intro G O C X B r p st l _ h0 h1 _ h2
    have := hs_c_r G e
    omega
  | succ n ih =>
    intro G O C X B r p st l hP h0 h1 hl h2 hK
    have cr := hs_c_r G e
    have fin : r = -1 → ∃ n117 : Nat, wX_pairChildrenOf_117 post (hs_i e) n117 (hs_i p) (-1) 0 (hs_e kk) gv2 gv3 gv4 gv5 gv6 gv7 gv8 gv9 gv10 gv11 gv12 (hs_e C) (hs_e X) (hs_e B) gv16 gv17 gv18 gv19 gv20 gv21 gv22 := by
      intro z
      rw [z] at hP
      refine ⟨25, ?_⟩
      rw [← hs_lm1, ← hs_l0]
      exact hs_pc2 kr hD 25 G O C X B p (-1) 0 l hP (by omega) (by omega) (by omega) hK
    have rr : r = -1 ∨ (D r ∧ G r = e) := hP.2.2.1
    have rb : -2147483648 ≤ r ∧ r < 2147483648 := by
      rcases rr with x | x
      · omega
      · have := hD r x.1; omega
    refine hs_le 24 st (fun c => fin ?_) (fun c => hs_eq r (-1) (fun d => fin d) (fun d => ?_))
    · rcases rr with x | x
      · exact x
      · have := hs_c_pos (H := G) (q := e) (hD r x.1).1 (hD r x.1).2 x.2
        omega
    · obtain ⟨r1, r2⟩ : D r ∧ G r = e := by
        rcases rr with x | x
        · exact absurd x d
        · exact x
      have rg := hD r r1
      -- what follows for o, the second child
      have core : ∀ (o : Int) (X1 B1 Y1 Z1 : Int → Int), o = X r → hs_u Y1 r (-1) = X1 → hs_u Z1 r (-1) = B1 →
          ((o = -1 ∧ X1 = hs_u X r (-1) ∧ B1 = hs_u B r (-1)) ∨ (o ≠ -1 ∧ X1 = hs_u (hs_u X o (-1)) r (-1) ∧ B1 = hs_u (hs_u B o (-1)) r (-1))) →
          wX_pairChildrenOf_68 post (wX_pairChildrenOf_12 post (hs_i e) n) (hs_i e) (hs_i (if o = -1 then -1 else X o)) (hs_i p) (hs_i st) (hs_i r) (hs_i o) (hs_e kk) gv2 gv3 gv4 gv5 gv6 gv7 gv8 gv9 gv10 gv11 gv12 (hs_e C) (hs_e Y1) (hs_e Z1) gv16 gv17 gv18 gv19 gv20 gv21 gv22 := by
        intro o X1 B1 Y1 Z1 ho hY hZ hXB
        have cut := hs_PP_cut hD hP d ho hXB
        unfold wX_pairChildrenOf_68
        refine hs_wr r (-1) rfl hs_lm1.symm rg.1 (by omega) (by decide) (hs_wr r (-1) rfl hs_lm1.symm rg.1 (by omega) (by decide) ?_)
        rw [hY, hZ]
        have g1 : (fun i => if i = r ∨ (i = o ∧ o ≠ -1) then -1 else G i) r = -1 := if_pos (Or.inl rfl)
        refine hs_pu kr hD cut.1 (Or.inr ⟨cut.2.1, g1, cut.2.2.2.1⟩) ?_ cut.2.2.2.2.2.1 ?_
        · rcases cut.2.2.2.2.1 with x | x
          · exact Or.inl x
          · exact Or.inr ⟨x.1, if_pos (Or.inr ⟨rfl, hm o x.1⟩), x.2.2⟩
        · intro G' O' C' X' B' t f hU
          have ps := hs_PP_push hD hP d ho hXB hU
          have tr := hD t ps.2.2.1
          refine hs_wr t p rfl rfl tr.1 (by omega) (by decide) (nm_r (hs_1 st) (ih G' O' C' _ B' _ t (st + 1) (t :: l) ps.1 (by omega) (by omega) (by rw [List.length_cons]; omega) (by omega) ?_))
          intro G2 O2 C2 X2 B2 m2 c1 c2
          refine hK G2 O2 C2 X2 B2 m2 c1 (hs_PF_trans ⟨hU.2.2.2.2.2.2.1, ?_, ?_⟩ c2)
          · exact hs_fr_trans (hs_fr_trans cut.2.2.2.2.2.2.2.1 hU.2.2.2.2.2.2.2.1) ps.2.2.2
          · exact hs_fr_trans cut.2.2.2.2.2.2.2.2 hU.2.2.2.2.2.2.2.2
      have or : X r = -1 ∨ D (X r) := by
        rcases (hP.1 r r1).2.1 (by rw [r2]; exact hm e hP.2.1) with x | x
        · exact Or.inl x
        · exact Or.inr x.1
      have ob : -2147483648 ≤ X r ∧ X r < 2147483648 := by
        rcases or with x | x
        · omega
        · have := hD _ x; omega
      refine hs_rd r rfl rg.1 (by omega) (by decide) ?_
      refine hs_eq (X r) (-1) (fun c2 => ?_) (fun c2 => ?_)
      · have := core (X r) _ _ X B rfl rfl rfl (Or.inl ⟨c2, rfl, rfl⟩)
        rw [if_pos c2, hs_lm1] at this
        exact this
      · have oD : D (X r) := by
          rcases or with x | x
          · exact absurd x c2
          · exact x
        have og := hD _ oD
        refine hs_rd (X r) rfl og.1 (by omega) (by decide) (hs_wr (X r) (-1) rfl hs_lm1.symm og.1 (by omega) (by decide) (hs_wr (X r) (-1) rfl hs_lm1.symm og.1 (by omega) (by decide) ?_))
        have := core (X r) _ _ (hs_u X (X r) (-1)) (hs_u B (X r) (-1)) rfl rfl rfl (Or.inr ⟨c2, rfl, rfl⟩)
        rw [if_neg c2] at this
        exact this
end HS26
end
section
section HS27
variable {gv1 gv2 gv3 gv4 gv5 gv6 gv7 gv8 gv9 gv10 gv11 gv12 gv13 gv14 gv15 gv16 gv17 gv18 gv19 gv20 gv21 gv22 : Nat → Int32}
def hs_PA (K H T C X B : Int → Int) : Prop := ∀ q, 0 ≤ q → q ≤ 3 → hs_PT K H T C X B q
theorem hs_PT_keep {D : Int → Prop} {K H H' T T' C C' X X' B B' : Int → Int} {q : Int} (h : hs_PT K H T C X B q) (hH : ∀ i, 0 ≤ i → i < 24 → (H' i = q ↔ H i = q)) (hT : T' q = T q)
    (hF : hs_PF D C X B C' X' B') (hd : ∀ n, hs_PD H q n → ¬ D n) : hs_PT K H' T' C' X' B' q := by
  refine hs_PT_congr h hH (fun _ _ _ _ => rfl) hT ?_ ?_ ?_
  · intro n hn
    rcases hF.1 n with e | e
    · exact e
    · exact absurd e.1 (hd n hn)
  · intro n hn
    rcases hF.2.1 n with e | e
    · exact e
    · exact absurd e.1 (hd n hn)
  · intro n hn
    rcases hF.2.2 n with e | e
    · exact e
    · exact absurd e.1 (hd n hn)
theorem hs_PT_add {K H T C X B G O : Int → Int} {q i : Int} (h : hs_PO (hs_PD H q) K G O C X B (-1) (-1)) (i0 : 0 ≤ i) (i1 : i < 24) (hi : H i ≠ q) :
    hs_PO (hs_PD (hs_u H i q) q) K (hs_u G i (-1)) O (hs_u C i (-1)) (hs_u X i (-1)) (hs_u B i (-1)) (-1) (-1) ∧ (∀ n, hs_PD H q n → hs_PD (hs_u H i q) q n ∧ n ≠ i) ∧ (∀ n, hs_PD (hs_u H i q) q n → n ≠ i → hs_PD H q n) ∧ hs_PD (hs_u H i q) q i := by
  have hold : ∀ n, hs_PD H q n → hs_PD (hs_u H i q) q n ∧ n ≠ i := by
    intro n hn
    have hne : n ≠ i := fun x => hi (by rw [← x]; exact hn.2.2)
    exact ⟨⟨hn.1, hn.2.1, by rw [hs_un hne]; exact hn.2.2⟩, hne⟩
  have hinv : ∀ n, hs_PD (hs_u H i q) q n → n ≠ i → hs_PD H q n := by
    intro n hn c
    refine ⟨hn.1, hn.2.1, ?_⟩
    have := hn.2.2
    rw [hs_un c] at this
    exact this
  refine ⟨?_, hold, hinv, ⟨i0, i1, hs_us⟩⟩
  intro n hn
  by_cases c : n = i
  · rw [hs_ue c, hs_ue c]
    exact ⟨fun _ => Or.inl rfl, fun x => absurd rfl x, Or.inl rfl⟩
  · have ho := hinv n hn c
    obtain ⟨h1, h2, h3⟩ := h n ho
    rw [hs_un c, hs_un c, hs_un c, hs_un c]
    refine ⟨fun he => ?_, fun hg => ?_, ?_⟩
    · rcases h1 he with d | d
      · exact Or.inl d
      · have g := hold _ d.1
        exact Or.inr ⟨g.1, by rw [hs_un g.2]; exact d.2.1, by rw [hs_un g.2]; exact d.2.2⟩
    · rcases h2 hg with d | d
      · exact Or.inl d
      · have g := hold _ d.1
        exact Or.inr ⟨g.1, by rw [hs_un g.2]; exact d.2.1, by rw [hs_un g.2]; exact d.2.2.1, d.2.2.2⟩
    · rcases h3 with d | ⟨d1, d2, d3⟩
      · exact Or.inl d
      · have g := hold _ d1
        refine Or.inr ⟨g.1, d2, ?_⟩
        rw [hs_un g.2]
        rcases d3 with d3 | d3 | d3
        · exact Or.inl d3
        · exact Or.inr (Or.inl d3)
        · have g2 := hold _ d3.1
          exact Or.inr (Or.inr ⟨g2.1, by rw [hs_un g2.2]; exact d3.2.1, by rw [hs_un g2.2]; exact d3.2.2⟩)
/-- two roots paired are one tree -/
theorem hs_PT_of {K H T C X B G C' X' B' G' O' : Int → Int} {q a b t f : Int} (hU : hs_UP (hs_PD H q) K G C X B G' O' C' X' B' (-1) (-1) a b t f) (hT : T q = t)
    (hr : ∀ i, hs_PD H q i → G i = -1 → i = a ∨ i = b) (ha : a = -1 ∨ (hs_PD H q a ∧ G a = -1 ∧ B a = -1 ∧ X a = -1)) (hb : b = -1 ∨ (hs_PD H q b ∧ G b = -1 ∧ B b = -1 ∧ X b = -1)) (hab : a = b → a = -1) : hs_PT K H T C' X' B' q := by
  obtain ⟨u1, u2, u3, u4, u5, u6, _⟩ := hU
  have hm := hs_PD_m (H := H) (q := q)
  have tab : t = -1 ∨ (hs_PD H q t ∧ G t = -1 ∧ B t = -1 ∧ X t = -1 ∧ t ≠ f) := by
    rcases u2 with c | c
    · rcases ha with d | d
      · exact Or.inl (c.1.trans d)
      · right
        rw [c.1, c.2]
        exact ⟨d.1, d.2.1, d.2.2.1, d.2.2.2, fun z => hm a d.1 (hab z)⟩
    · rcases hb with d | d
      · exact Or.inl (c.1.trans d)
      · right
        rw [c.1, c.2]
        exact ⟨d.1, d.2.1, d.2.2.1, d.2.2.2, fun z => hm b d.1 (z.trans (hab z.symm))⟩
  refine ⟨G', O', u1, ?_, ?_⟩
  · intro i hi c
    rw [hT]
    by_cases d : i = f
    · rcases u4 with g | g
      · exact absurd (d.trans g) (hm i hi)
      · rw [d, g.2] at c
        have := u3 c
        exact absurd (d.trans this) (hm i hi)
    · rw [(u5 i d).1] at c
      rcases hr i hi c with g | g
      · rcases u2 with v | v
        · rw [v.1]; exact g.symm
        · exact absurd (g.trans v.2.symm) d
      · rcases u2 with v | v
        · exact absurd (g.trans v.2.symm) d
        · rw [v.1]; exact g.symm
  · rw [hT]
    rcases tab with c | ⟨c1, c2, c3, c4, c5⟩
    · exact Or.inl c
    · exact Or.inr ⟨c1, by rw [(u5 t c5).1]; exact c2, by rw [u6 t c1 c2 c5]; exact c3, by rw [(u5 t c5).2]; exact c4⟩
theorem hs_UP_t {D : Int → Prop} {k G C X B G' O' C' X' B' : Int → Int} {e r a b t f : Int} (hU : hs_UP D k G C X B G' O' C' X' B' e r a b t f) (ha : a = -1 ∨ D a) (hb : b = -1 ∨ D b) : t = -1 ∨ D t := by
  rcases hU.2.1 with c | c
  · rw [c.1]; exact ha
  · rw [c.1]; exact hb
theorem hs_addP {post : SX → Prop} {kk H T C X B : Int → Int} {q x : Int} (kr : hs_kr kk) (hq : 0 ≤ q) (hq' : q ≤ 3) (x0 : 0 ≤ x) (x1 : x < 24) (hx : ¬ (0 ≤ H x))
    (h : hs_PA (hs_K kk) H T C X B)
    (hK : ∀ T' C' X' B' : Int → Int, hs_PA (hs_K kk) (hs_u H x q) T' C' X' B' → hs_PF (hs_PD (hs_u H x q) q) C X B C' X' B' → (∀ j, j ≠ q → T' j = T j) → (T' q = -1 ∨ hs_PD (hs_u H x q) q (T' q)) → post (hs_e kk, gv2, gv3, gv4, gv5, gv6, gv7, gv8, gv9, gv10, gv11, hs_e T', hs_e C', hs_e X', hs_e B', gv16, gv17, gv18, gv19, gv20, gv21, gv22)) :
    wpX_addToPairing post (hs_e kk, gv2, gv3, gv4, gv5, gv6, gv7, gv8, gv9, gv10, gv11, hs_e T, hs_e C, hs_e X, hs_e B, gv16, gv17, gv18, gv19, gv20, gv21, gv22) (hs_i q) (hs_i x) := by
  obtain ⟨G, O, t1, t2, t3⟩ := h q hq hq'
  obtain ⟨p1, p2, p3, p4⟩ := hs_PT_add (T := T) t1 x0 x1 (by omega)
  unfold wpX_addToPairing
  dsimp only
  refine hs_wr x (-1) rfl hs_lm1.symm x0 (by omega) (by decide) ?_
  refine hs_wr x (-1) rfl hs_lm1.symm x0 (by omega) (by decide) ?_
  refine hs_wr x (-1) rfl hs_lm1.symm x0 (by omega) (by decide) ⟨hs_in hq (by omega) (by decide), ?_⟩
  rw [hs_get (A := T) hq (by omega)]
  have hm := hs_PD_m (H := hs_u H x q) (q := q)
  have ta : T q = -1 ∨ (hs_PD (hs_u H x q) q (T q) ∧ hs_u G x (-1) (T q) = -1 ∧ hs_u B x (-1) (T q) = -1 ∧ hs_u X x (-1) (T q) = -1) := by
    rcases t3 with c | c
    · exact Or.inl c
    · have g := p2 _ c.1
      right
      rw [hs_un g.2, hs_un g.2, hs_un g.2]
      exact ⟨g.1, c.2⟩
  have tx : T q = x → T q = -1 := by
    intro z
    rcases t3 with c | c
    · exact c
    · exact absurd z (p2 _ c.1).2
  refine hs_pu kr hs_PD_r p1 ?_ (Or.inr ⟨p4, hs_us, by omega⟩) tx ?_
  · rcases ta with c | c
    · exact Or.inl c
    · exact Or.inr ⟨c.1, c.2.1, hm _ c.1⟩
  · intro G' O' C' X' B' t f hU
    refine hs_wr q t rfl rfl hq (by omega) (by decide) ?_
    have hF : hs_PF (hs_PD (hs_u H x q) q) C X B C' X' B' := ⟨hs_fr_trans (hs_fr_u p4 (Or.inl rfl)) hU.2.2.2.2.2.2.1, hs_fr_trans (hs_fr_u p4 (Or.inl rfl)) hU.2.2.2.2.2.2.2.1, hs_fr_trans (hs_fr_u p4 (Or.inl rfl)) hU.2.2.2.2.2.2.2.2⟩
    refine hK _ _ _ _ ?_ hF (fun j z => hs_un z) ?_
    · intro q' b0 b1
      by_cases e : q' = q
      · rw [e]
        refine hs_PT_of hU hs_us ?_ ta (Or.inr ⟨p4, hs_us, hs_us, hs_us⟩) tx
        intro i hi c
        by_cases d : i = x
        · exact Or.inr d
        · rw [hs_un d] at c
          exact Or.inl (t2 i (p3 i hi d) c).symm
      · refine hs_PT_keep (h q' b0 b1) ?_ (hs_un e) hF ?_
        · intro i c0 c1
          by_cases z : i = x
          · rw [hs_ue z, z]
            exact ⟨fun y => absurd y.symm e, fun y => by omega⟩
          · rw [hs_un z]
        · intro n hn y
          have a := hn.2.2
          have b := y.2.2
          by_cases z : n = x
          · rw [z] at a; omega
          · rw [hs_un z] at b; omega
    · rw [hs_us]
      refine hs_UP_t hU ?_ (Or.inr p4)
      rcases ta with c | c
      · exact Or.inl c
      · exact Or.inr c.1
theorem hs_PO_Ce {D : Int → Prop} {k G O C X B : Int → Int} {e r v : Int} (h : hs_PO D k G O C X B e r) : hs_PO D k G O (hs_u C e v) X B e r := by
  intro i hi
  obtain ⟨h1, h2, h3⟩ := h i hi
  refine ⟨fun he => by rw [hs_un he]; exact h1 he, h2, ?_⟩
  rcases h3 with c | ⟨c1, c2, c3⟩
  · exact Or.inl c
  · refine Or.inr ⟨c1, c2, ?_⟩
    rcases c3 with c3 | c3 | c3
    · exact Or.inl c3
    · exact Or.inr (Or.inl ⟨c3.1, c3.2.1, by rw [hs_un c3.2.1]; exact c3.2.2⟩)
    · exact Or.inr (Or.inr c3)
/-- the root e goes, its children are paired already -/
theorem hs_PO_out0 {D D' : Int → Prop} {k G O C X B : Int → Int} {e : Int} (hD : ∀ i, D i → 0 ≤ i ∧ i < 24) (h : hs_PO D k G O C X B e (-1)) (he : D e) (ge : G e = -1) (hD' : ∀ i, D' i ↔ D i ∧ i ≠ e) : hs_PO D' k G O C X B (-1) (-1) := by
  have hm : ∀ i, D i → i ≠ -1 := fun i hi => by have := hD i hi; omega
  have nope : ∀ i, D i → G i ≠ e := by
    intro i hi x
    rcases hs_PO_first hD h (hm e he) i hi x with c | c
    · exact hm i hi c
    · exact c.1 rfl
  intro i hi
  obtain ⟨hi, hie⟩ := (hD' i).mp hi
  obtain ⟨h1, h2, h3⟩ := h i hi
  refine ⟨fun _ => ?_, fun hg => ?_, ?_⟩
  · rcases h1 hie with c | c
    · exact Or.inl c
    · exact Or.inr ⟨(hD' _).mpr ⟨c.1, fun x => by rw [x, ge] at c; exact hm i hi c.2.1.symm⟩, c.2⟩
  · rcases h2 hg with c | c
    · exact Or.inl c
    · exact Or.inr ⟨(hD' _).mpr ⟨c.1, fun x => by rw [x, ge] at c; exact hg c.2.1.symm⟩, c.2⟩
  · rcases h3 with c | ⟨c1, c2, c3⟩
    · exact Or.inl c
    · refine Or.inr ⟨(hD' _).mpr ⟨c1, nope i hi⟩, c2, ?_⟩
      rcases c3 with c3 | c3 | c3
      · exact Or.inl c3
      · exact Or.inr (Or.inl ⟨c3.1, hm _ c1, c3.2.2⟩)
      · exact Or.inr (Or.inr ⟨(hD' _).mpr ⟨c3.1, fun x => by rw [x, ge] at c3; exact hm _ c1 c3.2.1.symm⟩, c3.2⟩)
theorem hs_dropP {post : SX → Prop} {kk H T C X B : Int → Int} {q x : Int} (kr : hs_kr kk) (hq : 0 ≤ q) (hq' : q ≤ 3) (x0 : 0 ≤ x) (x1 : x < 24) (hx : H x = q)
    (h : hs_PA (hs_K kk) H T C X B)
    (hK : ∀ T' C' X' B' : Int → Int, hs_PA (hs_K kk) (hs_u H x (-1)) T' C' X' B' → hs_PF (hs_PD H q) C X B C' X' B' → (∀ j, j ≠ q → T' j = T j) → (T' q = -1 ∨ hs_PD H q (T' q)) → post (hs_e kk, gv2, gv3, gv4, gv5, gv6, gv7, gv8, gv9, gv10, gv11, hs_e T', hs_e C', hs_e X', hs_e B', gv16, gv17, gv18, gv19, gv20, gv21, gv22)) :
    wpX_dropFromPairing post (hs_e kk, gv2, gv3, gv4, gv5, gv6, gv7, gv8, gv9, gv10, gv11, hs_e T, hs_e C, hs_e X, hs_e B, gv16, gv17, gv18, gv19, gv20, gv21, gv22) (hs_i q) (hs_i x) := by
  obtain ⟨G, O, t1, t2, t3⟩ := h q hq hq'
  have hm := hs_PD_m (H := H) (q := q)
  have xD : hs_PD H q x := ⟨x0, x1, hx⟩
  have hTq : hs_PD H q (T q) ∧ G (T q) = -1 ∧ B (T q) = -1 ∧ X (T q) = -1 := by
    rcases t3 with c | c
    · exfalso
      rcases hs_PT_mn (h q hq hq') with m | m
      · exact m.2 x x0 x1 hx
      · omega
    · exact c
  have hD' : ∀ i, hs_PD (hs_u H x (-1)) q i ↔ hs_PD H q i ∧ i ≠ x := by
    intro n
    constructor
    · intro c
      have hne : n ≠ x := fun z => by have := c.2.2; rw [hs_ue z] at this; omega
      exact ⟨⟨c.1, c.2.1, by have := c.2.2; rw [hs_un hne] at this; exact this⟩, hne⟩
    · intro c
      exact ⟨c.1.1, c.1.2.1, by rw [hs_un c.2]; exact c.1.2.2⟩
  have keep : ∀ {T' C' X' B' : Int → Int}, hs_PT (hs_K kk) (hs_u H x (-1)) T' C' X' B' q → hs_PF (hs_PD H q) C X B C' X' B' → (∀ j, j ≠ q → T' j = T j) → hs_PA (hs_K kk) (hs_u H x (-1)) T' C' X' B' := by
    intro T' C' X' B' a b c q' b0 b1
    by_cases e : q' = q
    · rw [e]; exact a
    · refine hs_PT_keep (h q' b0 b1) ?_ (c q' e) b ?_
      · intro i c0 c1
        by_cases z : i = x
        · rw [hs_ue z, z]
          exact ⟨fun y => by omega, fun y => by omega⟩
        · rw [hs_un z]
      · intro n hn y
        exact e (hn.2.2.symm.trans y.2.2)
  have xm : x ≠ -1 := by omega
  -- the first picture of the two passes
  have PP0 : hs_PP (hs_PD H q) (hs_K kk) G O C X B x (C x) (T q) (-1) (-1) [] := by
    refine ⟨?_, xD, ?_, rfl, List.nodup_nil, fun t ht => absurd ht (List.not_mem_nil), Or.inl rfl, fun i hi c => Or.inl (t2 i hi c).symm, hTq⟩
    · intro i hi
      obtain ⟨h1, h2, h3⟩ := t1 i hi
      refine ⟨fun _ => h1 (hm i hi), h2, ?_⟩
      rcases h3 with c | ⟨c1, c2, c3⟩
      · exact Or.inl c
      · refine Or.inr ⟨c1, c2, ?_⟩
        rcases c3 with c3 | c3 | c3
        · exact absurd c3 (hm i hi)
        · by_cases z : G i = x
          · left; rw [← c3.2.2, z]
          · exact Or.inr (Or.inl ⟨c3.1, z, c3.2.2⟩)
        · exact Or.inr (Or.inr c3)
    · rcases (t1 x xD).1 xm with c | c
      · exact Or.inl c
      · exact Or.inr ⟨c.1, c.2.1⟩
  unfold wpX_dropFromPairing
  dsimp only
  unfold wpX_pairChildrenOf
  dsimp only
  refine hs_rd x rfl x0 (by omega) (by decide) ⟨26, ?_⟩
  rw [← hs_lm1, ← hs_l0]
  have cr := hs_c_r G x
  refine hs_pc1 kr hs_PD_r 26 G O C X B (C x) (-1) 0 [] PP0 (by omega) (by omega) (by simp) (by omega) ?_
  intro G' O' C1 X1 B1 m hP hF
  obtain ⟨g1, _, _, _, _, _, g7, g8, g9⟩ := hP
  have g1 := hs_PO_Ce (v := -1) g1
  have hF1 : hs_PF (hs_PD H q) C X B (hs_u C1 x (-1)) X1 B1 := hs_PF_trans hF ⟨hs_fr_u xD (Or.inl rfl), hs_fr_refl, hs_fr_refl⟩
  generalize hC2 : hs_u C1 x (-1) = C2 at *
  have roots : ∀ i, hs_PD H q i → G' i = -1 → i = T q ∨ i = m := by
    intro i hi c
    rcases g8 i hi c with d | d | d
    · exact Or.inl d
    · exact absurd d (List.not_mem_nil)
    · exact Or.inr d
  have mD : m = -1 ∨ hs_PD H q m := by
    rcases g7 with c | c
    · exact Or.inl c
    · exact Or.inr c.1
  have mb : -2147483648 ≤ m ∧ m < 2147483648 := by
    rcases mD with c | c
    · omega
    · have := c.1; have := c.2.1; omega
  have bx : (G' x = -1 ∧ B1 x = -1) ∨ (G' x ≠ -1 ∧ hs_PD H q (B1 x)) := by
    by_cases c : G' x = -1
    · left
      refine ⟨c, ?_⟩
      rcases roots x xD c with d | d
      · rw [d]; exact g9.2.2.1
      · rcases g7 with f | f
        · exact absurd (d.trans f) xm
        · exact absurd d.symm f.2.2.2.2.1
    · right
      refine ⟨c, ?_⟩
      rcases (g1 x xD).2.2 with d | ⟨d1, d2, d3⟩
      · exact absurd d c
      · rcases d3 with d3 | d3 | d3
        · exact absurd d3 xm
        · rw [d3.1]; exact d1
        · exact d3.1
  have bb : -2147483648 ≤ B1 x ∧ B1 x < 2147483648 := by
    rcases bx with c | c
    · have := c.2; omega
    · have := c.2.1; have := c.2.2.1; omega
  dsimp only
  refine hs_rd x rfl x0 (by omega) (by decide) ?_
  refine hs_eq (B1 x) (-1) (fun c => ?_) (fun c => ?_)
  · have ge : G' x = -1 := by
      rcases bx with d | d
      · exact d.1
      · exact absurd c (hm _ d.2)
    have xT : x = T q := by
      rcases roots x xD ge with d | d
      · exact d
      · rcases g7 with f | f
        · exact absurd (d.trans f) xm
        · exact absurd d.symm f.2.2.2.2.1
    refine hs_wr q m rfl rfl hq (by omega) (by decide) ?_
    refine hK _ _ _ _ (keep ⟨G', O', hs_PO_out0 hs_PD_r g1 xD ge hD', ?_, ?_⟩ hF1 (fun j z => hs_un z)) hF1 (fun j z => hs_un z) (by rw [hs_us]; exact mD)
    · intro i hi d
      obtain ⟨hi, hie⟩ := (hD' i).mp hi
      rw [hs_us]
      rcases roots i hi d with f | f
      · exact absurd (f.trans xT.symm) hie
      · exact f.symm
    · rw [hs_us]
      rcases g7 with f | f
      · exact Or.inl f
      · exact Or.inr ⟨(hD' m).mpr ⟨f.1, f.2.2.2.2.1⟩, f.2.1, f.2.2.1, f.2.2.2.1⟩
  · obtain ⟨ge, bD⟩ : G' x ≠ -1 ∧ hs_PD H q (B1 x) := by
      rcases bx with d | d
      · exact absurd d.2 c
      · exact d
    have br := bD.1
    have br' := bD.2.1
    have nD : X1 x = -1 ∨ (hs_PD H q (X1 x) ∧ G' (X1 x) = G' x) := by
      rcases (g1 x xD).2.1 ge with d | d
      · exact Or.inl d
      · exact Or.inr ⟨d.1, d.2.1⟩
    have nD2 : X1 x = -1 ∨ hs_PD H q (X1 x) := by
      rcases nD with d | d
      · exact Or.inl d
      · exact Or.inr d.1
    have nb : -2147483648 ≤ X1 x ∧ X1 x < 2147483648 := by
      rcases nD2 with d | d
      · omega
      · have := d.1; have := d.2.1; omega
    have cb : C2 (B1 x) = -1 ∨ hs_PD H q (C2 (B1 x)) := by
      by_cases z : B1 x = x
      · rw [z, ← hC2, hs_us]; exact Or.inl rfl
      · rcases (g1 _ bD).1 z with d | d
        · exact Or.inl d
        · exact Or.inr d.1
    have cb2 : -2147483648 ≤ C2 (B1 x) ∧ C2 (B1 x) < 2147483648 := by
      rcases cb with d | d
      · omega
      · have := d.1; have := d.2.1; omega
    have sx : T q ≠ x := fun z => ge (by rw [← z]; exact g9.2.1)
    -- after the item has left its list
    have last : ∀ C3 X3 : Int → Int, ((C2 (B1 x) = x ∧ C3 = hs_u C2 (B1 x) (X1 x) ∧ X3 = X1) ∨ (C2 (B1 x) ≠ x ∧ C3 = C2 ∧ X3 = hs_u X1 (B1 x) (X1 x))) →
        wX_dropFromPairing_68 post (hs_i q) (hs_i m) (hs_i (B1 x)) (hs_i (X1 x)) (hs_e kk) gv2 gv3 gv4 gv5 gv6 gv7 gv8 gv9 gv10 gv11 (hs_e T) (hs_e C3) (hs_e X3) (hs_e B1) gv16 gv17 gv18 gv19 gv20 gv21 gv22 := by
      intro C3 X3 hCX
      have fCX : hs_fr (hs_PD H q) C2 C3 ∧ hs_fr (hs_PD H q) X1 X3 := by
        rcases hCX with ⟨_, y, z⟩ | ⟨_, y, z⟩
        · rw [y, z]; exact ⟨hs_fr_u bD nD2, hs_fr_refl⟩
        · rw [y, z]; exact ⟨hs_fr_refl, hs_fr_u bD nD2⟩
      have core : ∀ B3 : Int → Int, ((X1 x = -1 ∧ B3 = B1) ∨ (X1 x ≠ -1 ∧ B3 = hs_u B1 (X1 x) (B1 x))) → wX_dropFromPairing_83 post (hs_i q) (hs_i m) (hs_e kk) gv2 gv3 gv4 gv5 gv6 gv7 gv8 gv9 gv10 gv11 (hs_e T) (hs_e C3) (hs_e X3) (hs_e B3) gv16 gv17 gv18 gv19 gv20 gv21 gv22 := by
        intro B3 hB
        have fB : hs_fr (hs_PD H q) B1 B3 := by
          rcases hB with ⟨_, y⟩ | ⟨y, z⟩
          · rw [y]; exact hs_fr_refl
          · rw [z]
            rcases nD2 with v | v
            · exact absurd v y
            · exact hs_fr_u v (Or.inr bD)
        have po := hs_PO_out (b := B1 x) (n := X1 x) hs_PD_r g1 xD hD' ge rfl rfl hCX hB
        have rootB : ∀ i, hs_PD H q i → G' i = -1 → B3 i = B1 i := by
          intro i hi z
          rcases hB with ⟨_, y⟩ | ⟨y, v⟩
          · rw [y]
          · rw [v]
            refine hs_un (fun u => ?_)
            rcases nD with w | w
            · exact y w
            · rw [u, w.2] at z; exact ge z
        have rootX : ∀ i, hs_PD H q i → i ≠ x → G' i = -1 → X3 i = X1 i := by
          intro i hi hix z
          rcases hCX with ⟨_, _, y⟩ | ⟨y0, _, y⟩
          · rw [y]
          · rw [y]
            refine hs_un (fun u => ?_)
            -- back is a sibling, no root
            rcases (g1 x xD).2.2 with d | ⟨d1, d2, d3⟩
            · exact ge d
            · rcases d3 with d3 | d3 | d3
              · exact xm d3
              · apply y0; rw [d3.1]; exact d3.2.2
              · rw [u, d3.2.1] at z; exact ge z
        have ta : T q = -1 ∨ (hs_PD (hs_u H x (-1)) q (T q) ∧ G' (T q) = -1 ∧ B3 (T q) = -1 ∧ X3 (T q) = -1) :=
          Or.inr ⟨(hD' _).mpr ⟨g9.1, sx⟩, g9.2.1, by rw [rootB _ g9.1 g9.2.1]; exact g9.2.2.1, by rw [rootX _ g9.1 sx g9.2.1]; exact g9.2.2.2⟩
        have tb : m = -1 ∨ (hs_PD (hs_u H x (-1)) q m ∧ G' m = -1 ∧ B3 m = -1 ∧ X3 m = -1) := by
          rcases g7 with d | d
          · exact Or.inl d
          · exact Or.inr ⟨(hD' _).mpr ⟨d.1, d.2.2.2.2.1⟩, d.2.1, by rw [rootB _ d.1 d.2.1]; exact d.2.2.1, by rw [rootX _ d.1 d.2.2.2.2.1 d.2.1]; exact d.2.2.2.1⟩
        have tm : T q = m → T q = -1 := by
          intro z
          rcases g7 with d | d
          · exact z.trans d
          · exact absurd z.symm d.2.2.2.2.2
        have hm' := hs_PD_m (H := hs_u H x (-1)) (q := q)
        unfold wX_dropFromPairing_83
        refine ⟨hs_in hq (by omega) (by decide), ?_⟩
        rw [hs_get (A := T) hq (by omega)]
        refine hs_pu kr hs_PD_r po ?_ ?_ tm ?_
        · rcases ta with d | d
          · exact Or.inl d
          · exact Or.inr ⟨d.1, d.2.1, hm' _ d.1⟩
        · rcases tb with d | d
          · exact Or.inl d
          · exact Or.inr ⟨d.1, d.2.1, hm' _ d.1⟩
        · intro G4 O4 C4 X4 B4 t f hU
          refine hs_wr q t rfl rfl hq (by omega) (by decide) ?_
          have wide : ∀ {A Z : Int → Int}, hs_fr (hs_PD (hs_u H x (-1)) q) A Z → hs_fr (hs_PD H q) A Z := by
            intro A Z v j
            rcases v j with u | u
            · exact Or.inl u
            · refine Or.inr ⟨((hD' j).mp u.1).1, ?_⟩
              rcases u.2 with g | g
              · exact Or.inl g
              · exact Or.inr ((hD' _).mp g).1
          have hF4 : hs_PF (hs_PD H q) C X B C4 X4 B4 := hs_PF_trans (hs_PF_trans hF1 ⟨fCX.1, fCX.2, fB⟩) ⟨wide hU.2.2.2.2.2.2.1, wide hU.2.2.2.2.2.2.2.1, wide hU.2.2.2.2.2.2.2.2⟩
          refine hK _ _ _ _ (keep (hs_PT_of hU hs_us ?_ ta tb tm) hF4 (fun j z => hs_un z)) hF4 (fun j z => hs_un z) ?_
          · intro i hi z
            exact roots i ((hD' i).mp hi).1 z
          · rw [hs_us]
            rcases hU.2.1 with z | z
            · rw [z.1]; exact Or.inr g9.1
            · rw [z.1]; exact mD
      unfold wX_dropFromPairing_68
      refine hs_eq (X1 x) (-1) (fun d => core B1 (Or.inl ⟨d, rfl⟩)) (fun d => ?_)
      have nn : hs_PD H q (X1 x) := by
        rcases nD2 with v | v
        · exact absurd v d
        · exact v
      have n1 := nn.1
      have n2 := nn.2.1
      exact hs_wr (X1 x) (B1 x) rfl rfl n1 (by omega) (by decide) (core _ (Or.inr ⟨d, rfl⟩))
    refine hs_rd x rfl x0 (by omega) (by decide) ⟨hs_in br (by omega) (by decide), ?_⟩
    rw [hs_get (A := C2) br (by omega)]
    refine hs_eq (C2 (B1 x)) x (fun d => ?_) (fun d => ?_)
    · exact hs_wr (B1 x) (X1 x) rfl rfl br (by omega) (by decide) (last _ _ (Or.inl ⟨d, rfl, rfl⟩))
    · exact hs_wr (B1 x) (X1 x) rfl rfl br (by omega) (by decide) (last _ _ (Or.inr ⟨d, rfl, rfl⟩))
theorem hs_PO_sub {D D' : Int → Prop} {k G O C X B : Int → Int} {i : Int} (hs : ∀ n, D n → D' n) (h : (i ≠ -1 → C i = -1 ∨ (D (C i) ∧ G (C i) = i ∧ B (C i) = i)) ∧
  (G i ≠ -1 → X i = -1 ∨ (D (X i) ∧ G (X i) = G i ∧ B (X i) = i ∧ O (X i) < O i)) ∧
  (G i = -1 ∨ (D (G i) ∧ k (G i) < k i ∧ (i = -1 ∨ (B i = G i ∧ G i ≠ -1 ∧ C (G i) = i) ∨ (D (B i) ∧ G (B i) = G i ∧ X (B i) = i))))) :
  (i ≠ -1 → C i = -1 ∨ (D' (C i) ∧ G (C i) = i ∧ B (C i) = i)) ∧
  (G i ≠ -1 → X i = -1 ∨ (D' (X i) ∧ G (X i) = G i ∧ B (X i) = i ∧ O (X i) < O i)) ∧
  (G i = -1 ∨ (D' (G i) ∧ k (G i) < k i ∧ (i = -1 ∨ (B i = G i ∧ G i ≠ -1 ∧ C (G i) = i) ∨ (D' (B i) ∧ G (B i) = G i ∧ X (B i) = i)))) := by
  obtain ⟨h1, h2, h3⟩ := h
  refine ⟨fun he => ?_, fun hg => ?_, ?_⟩
  · rcases h1 he with c | c
    · exact Or.inl c
    · exact Or.inr ⟨hs _ c.1, c.2⟩
  · rcases h2 hg with c | c
    · exact Or.inl c
    · exact Or.inr ⟨hs _ c.1, c.2⟩
  · rcases h3 with c | ⟨c1, c2, c3⟩
    · exact Or.inl c
    · refine Or.inr ⟨hs _ c1, c2, ?_⟩
      rcases c3 with c3 | c3 | c3
      · exact Or.inl c3
      · exact Or.inr (Or.inl c3)
      · exact Or.inr (Or.inr ⟨hs _ c3.1, c3.2⟩)
theorem hs_joinP {post : SX → Prop} {kk H T C X B : Int → Int} {a b : Int} (kr : hs_kr kk) (ha : 0 ≤ a) (ha' : a ≤ 3) (hb : 0 ≤ b) (hb' : b ≤ 3) (hab : a ≠ b)
    (h : hs_PA (hs_K kk) H T C X B)
    (hK : ∀ T' C' X' B' : Int → Int, hs_PA (hs_K kk) (fun i => if H i = b then a else H i) T' C' X' B' → hs_PF (hs_PD (fun i => if H i = b then a else H i) a) C X B C' X' B' → (∀ j, j ≠ a → j ≠ b → T' j = T j) → (T' a = -1 ∨ hs_PD (fun i => if H i = b then a else H i) a (T' a)) → T' b = -1 → post (hs_e kk, gv2, gv3, gv4, gv5, gv6, gv7, gv8, gv9, gv10, gv11, hs_e T', hs_e C', hs_e X', hs_e B', gv16, gv17, gv18, gv19, gv20, gv21, gv22)) :
    wpX_joinPairing post (hs_e kk, gv2, gv3, gv4, gv5, gv6, gv7, gv8, gv9, gv10, gv11, hs_e T, hs_e C, hs_e X, hs_e B, gv16, gv17, gv18, gv19, gv20, gv21, gv22) (hs_i a) (hs_i b) := by
  obtain ⟨G1, O1, a1, a2, a3⟩ := h a ha ha'
  obtain ⟨G2, O2, b1, b2, b3⟩ := h b hb hb'
  have hD : ∀ n, hs_PD (fun i => if H i = b then a else H i) a n ↔ hs_PD H a n ∨ hs_PD H b n := by
    intro n
    constructor
    · intro c
      have := c.2.2
      by_cases z : H n = b
      · exact Or.inr ⟨c.1, c.2.1, z⟩
      · dsimp only at this
        rw [if_neg z] at this
        exact Or.inl ⟨c.1, c.2.1, this⟩
    · intro c
      rcases c with c | c
      · refine ⟨c.1, c.2.1, ?_⟩
        dsimp only
        rw [if_neg (by rw [c.2.2]; exact hab)]; exact c.2.2
      · refine ⟨c.1, c.2.1, ?_⟩
        dsimp only
        rw [if_pos c.2.2]
  have hm := hs_PD_m (H := fun i => if H i = b then a else H i) (q := a)
  have GA : ∀ n, hs_PD H a n → (fun n => if H n = a then G1 n else G2 n) n = G1 n := fun n hn => if_pos hn.2.2
  have GB : ∀ n, hs_PD H b n → (fun n => if H n = a then G1 n else G2 n) n = G2 n := fun n hn => if_neg (fun z => hab (z.symm.trans hn.2.2))
  have OA : ∀ n, hs_PD H a n → (fun n => if H n = a then O1 n else O2 n) n = O1 n := fun n hn => if_pos hn.2.2
  have OB : ∀ n, hs_PD H b n → (fun n => if H n = a then O1 n else O2 n) n = O2 n := fun n hn => if_neg (fun z => hab (z.symm.trans hn.2.2))
  have pa := hs_PO_congr a1 (fun _ => Iff.rfl) (fun _ _ => rfl) GA OA (fun _ _ => rfl) (fun _ _ => rfl) (fun _ _ => rfl)
  have pb := hs_PO_congr b1 (fun _ => Iff.rfl) (fun _ _ => rfl) GB OB (fun _ _ => rfl) (fun _ _ => rfl) (fun _ _ => rfl)
  generalize hG : (fun n => if H n = a then G1 n else G2 n) = G at *
  generalize hO : (fun n => if H n = a then O1 n else O2 n) = O at *
  have po : hs_PO (hs_PD (fun i => if H i = b then a else H i) a) (hs_K kk) G O C X B (-1) (-1) := by
    intro n hn
    rcases (hD n).mp hn with c | c
    · exact hs_PO_sub (fun m x => (hD m).mpr (Or.inl x)) (pa n c)
    · exact hs_PO_sub (fun m x => (hD m).mpr (Or.inr x)) (pb n c)
  have ta : T a = -1 ∨ (hs_PD (fun i => if H i = b then a else H i) a (T a) ∧ G (T a) = -1 ∧ B (T a) = -1 ∧ X (T a) = -1) := by
    rcases a3 with c | c
    · exact Or.inl c
    · exact Or.inr ⟨(hD _).mpr (Or.inl c.1), by rw [GA _ c.1]; exact c.2.1, c.2.2⟩
  have tb : T b = -1 ∨ (hs_PD (fun i => if H i = b then a else H i) a (T b) ∧ G (T b) = -1 ∧ B (T b) = -1 ∧ X (T b) = -1) := by
    rcases b3 with c | c
    · exact Or.inl c
    · exact Or.inr ⟨(hD _).mpr (Or.inr c.1), by rw [GB _ c.1]; exact c.2.1, c.2.2⟩
  have tm : T a = T b → T a = -1 := by
    intro z
    rcases a3 with c | c
    · exact c
    · rcases b3 with d | d
      · exact z.trans d
      · have e1 := c.1.2.2
        have e2 := d.1.2.2
        rw [z] at e1
        exact absurd (e1.symm.trans e2) hab
  unfold wpX_joinPairing
  dsimp only
  refine ⟨hs_in ha (by omega) (by decide), hs_in hb (by omega) (by decide), ?_⟩
  rw [hs_get (x := a) ha (by omega), hs_get (x := b) hb (by omega)]
  refine hs_pu kr hs_PD_r po ?_ ?_ tm ?_
  · rcases ta with d | d
    · exact Or.inl d
    · exact Or.inr ⟨d.1, d.2.1, hm _ d.1⟩
  · rcases tb with d | d
    · exact Or.inl d
    · exact Or.inr ⟨d.1, d.2.1, hm _ d.1⟩
  · intro G' O' C' X' B' t f hU
    refine hs_wr a t rfl rfl ha (by omega) (by decide) (hs_wr b (-1) rfl hs_lm1.symm hb (by omega) (by decide) ?_)
    have hF : hs_PF (hs_PD (fun i => if H i = b then a else H i) a) C X B C' X' B' := ⟨hU.2.2.2.2.2.2.1, hU.2.2.2.2.2.2.2.1, hU.2.2.2.2.2.2.2.2⟩
    have T1 : hs_u (hs_u T a t) b (-1) a = t := by rw [hs_un hab, hs_us]
    have T2 : ∀ j, j ≠ a → j ≠ b → hs_u (hs_u T a t) b (-1) j = T j := fun j x y => by rw [hs_un y, hs_un x]
    refine hK _ _ _ _ ?_ hF T2 ?_ hs_us
    · intro q b0 b1'
      by_cases e : q = a
      · rw [e]
        refine hs_PT_of hU T1 ?_ ta tb tm
        intro i hi c
        rcases (hD i).mp hi with d | d
        · rw [GA i d] at c; exact Or.inl (a2 i d c).symm
        · rw [GB i d] at c; exact Or.inr (b2 i d c).symm
      · by_cases f' : q = b
        · have none : ∀ n, ¬ hs_PD (fun i => if H i = b then a else H i) b n := by
            intro n hn
            have := hn.2.2
            dsimp only at this
            by_cases z : H n = b
            · rw [if_pos z] at this; exact hab this
            · rw [if_neg z] at this; exact z this
          rw [f']
          exact ⟨G, O, fun n hn => absurd hn (none n), fun n hn => absurd hn (none n), Or.inl hs_us⟩
        · refine hs_PT_keep (h q b0 b1') ?_ (T2 q e f') hF ?_
          · intro i c0 c1
            by_cases z : H i = b
            · rw [if_pos z]; exact ⟨fun y => absurd y.symm e, fun y => absurd (y.symm.trans z) f'⟩
            · rw [if_neg z]
          · intro n hn y
            have u := y.2.2
            have v := hn.2.2
            dsimp only at u
            by_cases z : H n = b
            · exact f' (v.symm.trans z)
            · rw [if_neg z] at u; exact e (v.symm.trans u)
    · rw [T1]
      refine hs_UP_t hU ?_ ?_
      · rcases ta with d | d
        · exact Or.inl d
        · exact Or.inr d.1
      · rcases tb with d | d
        · exact Or.inl d
        · exact Or.inr d.1
end HS27
end
section
section HS28
variable {gv1 gv2 gv3 gv4 gv5 gv6 gv7 gv8 gv9 gv10 gv11 gv12 gv13 gv14 gv15 gv16 gv17 gv18 gv19 gv20 gv21 gv22 : Nat → Int32}
/-! engine 5: the walks -/
theorem hs_lk {post : Int32 → SX → Prop} {kk NI C X U : Int → Int} {a b : Int} (kr : hs_kr kk) (a0 : 0 ≤ a) (a1 : a < 24) (b0 : 0 ≤ b) (b1 : b < 24) (na0 : 0 ≤ NI a) (na1 : NI a < 24) (nb0 : 0 ≤ NI b) (nb1 : NI b < 24) (ne : NI a ≠ NI b)
    (hK : ∀ t f, ((t = a ∧ f = b) ∨ (t = b ∧ f = a)) → hs_K kk (NI t) < hs_K kk (NI f) → post (hs_i t) (hs_e kk, gv2, gv3, gv4, gv5, gv6, gv7, gv8, gv9, gv10, gv11, gv12, gv13, gv14, gv15, gv16, hs_e (hs_u C t f), hs_e (hs_u X f (C t)), hs_e (hs_u U f t), hs_e NI, gv21, gv22)) :
    wpX_linkTrees post (hs_e kk, gv2, gv3, gv4, gv5, gv6, gv7, gv8, gv9, gv10, gv11, gv12, gv13, gv14, gv15, gv16, hs_e C, hs_e X, hs_e U, hs_e NI, gv21, gv22) (hs_i a) (hs_i b) := by
  have go : ∀ t f, 0 ≤ t → t < 24 → 0 ≤ f → f < 24 → ((t = a ∧ f = b) ∨ (t = b ∧ f = a)) → hs_K kk (NI t) < hs_K kk (NI f) → wX_linkTrees_37 post (hs_i t) (hs_i f) (hs_e kk) gv2 gv3 gv4 gv5 gv6 gv7 gv8 gv9 gv10 gv11 gv12 gv13 gv14 gv15 gv16 (hs_e C) (hs_e X) (hs_e U) (hs_e NI) gv21 gv22 := by
    intro t f t0 t1 f0 f1 h lt
    unfold wX_linkTrees_37
    refine hs_wr f t rfl rfl f0 (by omega) (by decide) ⟨hs_in t0 (by omega) (by decide), ?_⟩
    rw [hs_get (A := C) t0 (by omega)]
    exact hs_wr f (C t) rfl rfl f0 (by omega) (by decide) (hs_wr t f rfl rfl t0 (by omega) (by decide) (hK t f h lt))
  unfold wpX_linkTrees
  dsimp only
  refine ⟨hs_in a0 (by omega) (by decide), hs_in b0 (by omega) (by decide), ?_⟩
  rw [hs_get (A := NI) (x := a) a0 (by omega), hs_get (A := NI) (x := b) b0 (by omega)]
  refine hs_cb kr na0 na1 nb0 nb1 (fun g => br_f (by decide) ?_) (fun g => br_t rfl ?_)
  · unfold wX_linkTrees_26
    exact br_f (by decide) (go a b a0 a1 b0 b1 (Or.inl ⟨rfl, rfl⟩) g)
  · unfold wX_linkTrees_26
    have lt : hs_K kk (NI b) < hs_K kk (NI a) := by
      have : hs_K kk (NI a) ≠ hs_K kk (NI b) := fun z => ne (hs_K_inj kk _ _ na0 na1 nb0 nb1 z)
      omega
    exact br_t rfl (go b a b0 b1 a0 a1 (Or.inr ⟨rfl, rfl⟩) lt)
def hs_BF (D : Int → Prop) (q : Int) (T C X U T' C' X' U' : Int → Int) : Prop := hs_fr D C C' ∧ hs_fr D X X' ∧ hs_fr D U U' ∧ (∀ j, T' j = T j ∨ (q * 5 ≤ j ∧ j < q * 5 + 5 ∧ (T' j = -1 ∨ D (T' j))))
theorem hs_BF_trans {D : Int → Prop} {q : Int} {T C X U T1 C1 X1 U1 T2 C2 X2 U2 : Int → Int} (h : hs_BF D q T C X U T1 C1 X1 U1) (h' : hs_BF D q T1 C1 X1 U1 T2 C2 X2 U2) : hs_BF D q T C X U T2 C2 X2 U2 := by
  refine ⟨hs_fr_trans h.1 h'.1, hs_fr_trans h.2.1 h'.2.1, hs_fr_trans h.2.2.1 h'.2.2.1, fun j => ?_⟩
  rcases h'.2.2.2 j with e | e
  · rcases h.2.2.2 j with f | f
    · exact Or.inl (e.trans f)
    · rw [← e] at f; exact Or.inr f
  · exact Or.inr e
theorem hs_at {post : SX → Prop} {D P : Int → Prop} {kk NI : Int → Int} {q e tot : Int} (kr : hs_kr kk) (hq : 0 ≤ q) (hq' : q ≤ 3) (hD : ∀ n, D n → 0 ≤ n ∧ n < 24) (hN : ∀ n, D n → 0 ≤ NI n ∧ NI n < 24) (hI : ∀ n m, D n → D m → NI n = NI m → n = m) (htot : tot ≤ 24) (he : e = -1 ∨ ¬ D e) :
    ∀ (n : Nat) (d G T C X U : Int → Int) (c o : Int), hs_AT D P (fun n => hs_K kk (NI n)) d G T C X U q e c o tot → 5 - o < n →
    (∀ d' G' T' C' X' U' : Int → Int, hs_BO D d' G' C' X' e → hs_BK D (fun n => hs_K kk (NI n)) G' e → hs_BR D P T' d' G' q (-1) → (∀ n, D n → U' n = G' n) → hs_tv T' q = tot →
      (∀ n, P n → G' n = G n ∧ d' n = d n ∧ X' n = X n) → (∀ n, D n → G' n = e → G n = e) → hs_BF D q T C X U T' C' X' U' → post (hs_e kk, gv2, gv3, gv4, gv5, gv6, gv7, gv8, gv9, gv10, gv11, gv12, gv13, gv14, gv15, hs_e T', hs_e C', hs_e X', hs_e U', hs_e NI, gv21, gv22)) →
    wX_addTree_6 post (hs_i q) n (hs_i c) (hs_i o) (hs_e kk) gv2 gv3 gv4 gv5 gv6 gv7 gv8 gv9 gv10 gv11 gv12 gv13 gv14 gv15 (hs_e T) (hs_e C) (hs_e X) (hs_e U) (hs_e NI) gv21 gv22 := by
  have hm : ∀ n, D n → n ≠ -1 := fun n hn => by have := hD n hn; omega
  intro n
  induction n with
  | zero =>
    intro d G T C X U c o hA hn
    have := hs_AT_o hA
    omega
  | succ n ih =>
    intro d G T C X U c o hA hn hK
    have ho := hs_AT_o hA
    have cD := hA.2.2.2.1
    have cr := hD c cD
    have tr := hA.2.2.1.2 o ho.1 ho.2
    have tb : -2147483648 ≤ T (q * 5 + o) ∧ T (q * 5 + o) < 2147483648 := by
      rcases tr with x | x
      · omega
      · have := hD _ x.1; omega
    refine hs_le 5 o (fun z => absurd z (by omega)) (fun _ => hs_rd (q * 5 + o) (hs_x5 _ _) (by omega) (by omega) (by decide) ?_)
    refine hs_eq (T (q * 5 + o)) (-1) (fun z => ?_) (fun z => ?_)
    · have en := hs_AT_end hm hA z
      refine hs_wr (q * 5 + o) c (hs_x5 _ _) rfl (by omega) (by omega) (by decide) (hs_wr c (-1) rfl hs_lm1.symm cr.1 (by omega) (by decide) (hs_wr c (-1) rfl hs_lm1.symm cr.1 (by omega) (by decide) ?_))
      refine hK d G _ C _ _ en.1 hA.2.1 en.2.1 en.2.2.1 en.2.2.2 ?_ (fun _ _ x => x) ⟨hs_fr_refl, hs_fr_u cD (Or.inl rfl), hs_fr_u cD (Or.inl rfl), fun j => ?_⟩
      · intro m hm'
        refine ⟨rfl, rfl, hs_un (fun x => ?_)⟩
        rw [x] at hm'
        exact hA.2.2.2.2.2.2.1 hm'
      · by_cases x : j = q * 5 + o
        · rw [hs_ue x]
          exact Or.inr ⟨by omega, by omega, Or.inr cD⟩
        · exact Or.inl (hs_un x)
    · have tD := tr.resolve_left z
      have tg := hD _ tD.1
      refine hs_wr (q * 5 + o) (-1) (hs_x5 _ _) hs_lm1.symm (by omega) (by omega) (by decide) ?_
      refine hs_lk kr tg.1 tg.2 cr.1 cr.2 (hN _ tD.1).1 (hN _ tD.1).2 (hN _ cD).1 (hN _ cD).2 (fun x => tD.2.2.2.1 (hI _ _ tD.1 cD x)) ?_
      intro t f htf lt
      obtain ⟨s1, s2, s3, s4, s5, s6, s7, s8, s9⟩ := hs_AT_step hm hA htot z htf lt he
      refine nm_r (hs_1 o) (ih _ _ _ _ _ _ t (o + 1) s1 (by omega) ?_)
      intro d' G' T' C' X' U' a1 a2 a3 a4 a5 a6 a7 a8
      refine hK d' G' T' C' X' U' a1 a2 a3 a4 a5 ?_ ?_ (hs_BF_trans ⟨hs_fr_u s2 (Or.inr s3), hs_fr_u s3 s4, hs_fr_u s3 (Or.inr s2), fun j => ?_⟩ a8)
      · intro m hm'
        have y := a6 m hm'
        have n1 : m ≠ t := fun x => s5 (by rw [← x]; exact hm')
        have n2 : m ≠ f := fun x => s6 (by rw [← x]; exact hm')
        rw [hs_un n2, hs_un n1, hs_un n2] at y
        exact y
      · intro m hm' x
        have y := a7 m hm' x
        by_cases w : m = f
        · rw [hs_ue w] at y
          rcases he with v | v
          · exact absurd (y.trans v) (hm t s2)
          · rw [← y] at v; exact absurd s2 v
        · rw [hs_un w] at y; exact y
      · by_cases x : j = q * 5 + o
        · rw [hs_ue x]
          exact Or.inr ⟨by omega, by omega, Or.inl rfl⟩
        · exact Or.inl (hs_un x)
theorem hs_oo {post : Int32 → Prop} {D : Int → Prop} {d G C X : Int → Int} {e v : Int} (hD : ∀ n, D n → 0 ≤ n ∧ n < 24) (h : hs_BO D d G C X e) (hv : D v) (hp : post (hs_i (d v))) :
    wpX_orderOf post (gv1, gv2, gv3, gv4, gv5, gv6, gv7, gv8, gv9, gv10, gv11, gv12, gv13, gv14, gv15, gv16, hs_e C, hs_e X, gv19, gv20, gv21, gv22) (hs_i v) := by
  have hm : ∀ n, D n → n ≠ -1 := fun n hn => by have := hD n hn; omega
  have vr := hD v hv
  have hv' := h v hv
  have loop : ∀ (n : Nat) (c o : Int), ((c = -1 ∧ o = d v) ∨ (D c ∧ G c = v ∧ o + d c + 1 = d v)) → 0 ≤ o → o ≤ 4 → 4 - o < n → wX_orderOf_12 post gv1 gv2 gv3 gv4 gv5 gv6 gv7 gv8 gv9 gv10 gv11 gv12 gv13 gv14 gv15 gv16 (hs_e C) (hs_e X) gv19 gv20 gv21 gv22 n (hs_i o) (hs_i c) (hs_i o) := by
    intro n
    induction n with
    | zero => intro c o _ a b c2; omega
    | succ n ih =>
      intro c o hc o0 o4 hn
      have fin : c = -1 → post (hs_i o) := by
        intro z
        rcases hc with x | x
        · rw [x.2]; exact hp
        · exact absurd z (hm c x.1)
      have cb : -2147483648 ≤ c ∧ c < 2147483648 := by
        rcases hc with x | x
        · omega
        · have := hD c x.1; omega
      refine hs_le 4 o (fun z => fin ?_) (fun z => hs_eq c (-1) fin (fun y => ?_))
      · rcases hc with x | x
        · exact x.1
        · have := (h c x.1).1; omega
      · obtain ⟨c1, c2, c3⟩ := hc.resolve_left (fun x => y x.1)
        have cr := hD c c1
        refine nm_r (hs_1 o) (hs_rd c rfl cr.1 (by omega) (by decide) (nm_r (hs_1 o) (ih (X c) (o + 1) ?_ (by omega) (by omega) (by omega))))
        rcases (h c c1).2.2.2.1 (by rw [c2]; exact hm v hv) with x | x
        · left; exact ⟨x.1, by omega⟩
        · right; exact ⟨x.1, by rw [x.2.1]; exact c2, by omega⟩
  unfold wpX_orderOf
  dsimp only
  refine hs_rd v rfl vr.1 (by omega) (by decide) ⟨6, ?_⟩
  rw [← hs_l0]
  refine loop 6 (C v) 0 ?_ (by omega) (by omega) (by omega)
  rcases hv'.2.2.1 with x | x
  · left; exact ⟨x.1, by omega⟩
  · right; exact ⟨x.1, x.2.1, by omega⟩
def hs_BA (K H T C X U NI : Int → Int) : Prop := ∀ q, 0 ≤ q → q ≤ 3 → hs_BT K H T C X U NI q
theorem hs_BT_keep {D : Int → Prop} {K H H' T T' C C' X X' U U' NI NI' : Int → Int} {q q' : Int} (h : hs_BT K H T C X U NI q') (hne : q' ≠ q) (hH : ∀ i, 0 ≤ i → i < 24 → (H' i = q' ↔ H i = q'))
    (hD : ∀ n, hs_BD H' NI' q' n ↔ hs_BD H NI q' n) (hN : ∀ n, hs_BD H NI q' n → NI' n = NI n) (hF : hs_BF D q T C X U T' C' X' U') (hd : ∀ n, hs_BD H NI q' n → ¬ D n) : hs_BT K H' T' C' X' U' NI' q' := by
  refine hs_BT_congr h hD hH (fun n hn => by rw [hN n hn]) ?_ ?_ ?_ ?_
  · intro o a b
    rcases hF.2.2.2 (q' * 5 + o) with e | e
    · exact e
    · omega
  · intro n hn
    rcases hF.1 n with e | e
    · exact e
    · exact absurd e.1 (hd n hn)
  · intro n hn
    rcases hF.2.1 n with e | e
    · exact e
    · exact absurd e.1 (hd n hn)
  · intro n hn
    rcases hF.2.2.1 n with e | e
    · exact e
    · exact absurd e.1 (hd n hn)
theorem hs_BD_r {H NI : Int → Int} {q : Int} : ∀ n, hs_BD H NI q n → 0 ≤ n ∧ n < 24 := fun _ h => ⟨h.1, h.2.1⟩
theorem hs_BD_m {H NI : Int → Int} {q : Int} : ∀ n, hs_BD H NI q n → n ≠ -1 := fun n h => by have := h.1; omega
theorem hs_PM_inj {NI IN : Int → Int} (hP : hs_PM NI IN) {n m : Int} (n0 : 0 ≤ n) (n1 : n < 24) (m0 : 0 ≤ m) (m1 : m < 24) (h : NI n = NI m) : n = m := by
  have a := (hP n n0 n1).2.2.2.2.2
  have b := (hP m m0 m1).2.2.2.2.2
  rw [h] at a
  omega
theorem hs_addB {post : SX → Prop} {kk H T C X U NI IN : Int → Int} {q x : Int} (kr : hs_kr kk) (hq : 0 ≤ q) (hq' : q ≤ 3) (x0 : 0 ≤ x) (x1 : x < 24) (hx : ¬ (0 ≤ H x)) (hP : hs_PM NI IN)
    (h : hs_BA (hs_K kk) H T C X U NI)
    (hK : ∀ T' C' X' U' : Int → Int, hs_BA (hs_K kk) (hs_u H x q) T' C' X' U' NI → hs_BF (hs_BD (hs_u H x q) NI q) q T C X U T' C' X' U' → post (hs_e kk, gv2, gv3, gv4, gv5, gv6, gv7, gv8, gv9, gv10, gv11, gv12, gv13, gv14, gv15, hs_e T', hs_e C', hs_e X', hs_e U', hs_e NI, hs_e IN, gv22)) :
    wpX_addToBinomial post (hs_e kk, gv2, gv3, gv4, gv5, gv6, gv7, gv8, gv9, gv10, gv11, gv12, gv13, gv14, gv15, hs_e T, hs_e C, hs_e X, hs_e U, hs_e NI, hs_e IN, gv22) (hs_i q) (hs_i x) := by
  have p := hP x x0 x1
  obtain ⟨d, hA⟩ := hs_BT_add hP (h q hq hq') x0 x1 (by omega)
  have cr := hs_c_r (hs_u H x q) q
  have nD := hA.2.2.2.1
  unfold wpX_addToBinomial
  dsimp only
  refine hs_rd x rfl x0 (by omega) (by decide) (hs_wr (IN x) (-1) rfl hs_lm1.symm p.2.2.1 (by omega) (by decide) ?_)
  unfold wpX_addTree
  dsimp only
  refine ⟨6, ?_⟩
  rw [← hs_l0]
  refine hs_at kr hq hq' hs_BD_r (fun n hn => ⟨(hP n hn.1 hn.2.1).1, (hP n hn.1 hn.2.1).2.1⟩) (fun n m hn hm e => hs_PM_inj hP hn.1 hn.2.1 hm.1 hm.2.1 e) (by omega) (Or.inl rfl) 6 _ _ _ _ _ _ (IN x) 0 hA (by omega) ?_
  intro d' G' T' C' X' U' a1 a2 a3 a4 a5 a6 a7 a8
  have hF : hs_BF (hs_BD (hs_u H x q) NI q) q T C X U T' C' X' U' := hs_BF_trans ⟨hs_fr_u nD (Or.inl rfl), hs_fr_refl, hs_fr_refl, fun _ => Or.inl rfl⟩ a8
  refine hK _ _ _ _ ?_ hF
  intro q' b0 b1
  by_cases e : q' = q
  · rw [e]
    exact hs_BT_of a1 a2 a3 a4 a5
  · have hH : ∀ i, 0 ≤ i → i < 24 → (hs_u H x q i = q' ↔ H i = q') := by
      intro i c0 c1
      by_cases z : i = x
      · rw [hs_ue z, z]
        exact ⟨fun y => absurd y.symm e, fun y => by omega⟩
      · rw [hs_un z]
    refine hs_BT_keep (h q' b0 b1) e hH ?_ (fun _ _ => rfl) hF ?_
    · intro n
      constructor
      · intro c; exact ⟨c.1, c.2.1, (hH _ (hP n c.1 c.2.1).1 (hP n c.1 c.2.1).2.1).mp c.2.2⟩
      · intro c; exact ⟨c.1, c.2.1, (hH _ (hP n c.1 c.2.1).1 (hP n c.1 c.2.1).2.1).mpr c.2.2⟩
    · intro n hn y
      have a := hn.2.2
      have b := y.2.2
      by_cases z : NI n = x
      · rw [z] at a; omega
      · rw [hs_un z] at b; omega
end HS28
end
section
section HS29
variable {gv1 gv2 gv3 gv4 gv5 gv6 gv7 gv8 gv9 gv10 gv11 gv12 gv13 gv14 gv15 gv16 gv17 gv18 gv19 gv20 gv21 gv22 : Nat → Int32}
theorem hs_ra {post : SX → Prop} {D : Int → Prop} {kk H d U C X : Int → Int} {q x : Int} (hD : ∀ n, D n → 0 ≤ n ∧ n < 24) (hO : hs_BO D d U C X (-1)) (x0 : 0 ≤ x) (x1 : x < 24) :
    ∀ (n : Nat) (NI IN : Int → Int) (v st : Int), hs_RI D (hs_K kk) H U NI IN q v x → 0 ≤ st → st ≤ d v → 5 - st < n →
    (∀ (NI' IN' : Int → Int) (v' : Int), hs_RI D (hs_K kk) H U NI' IN' q v' x → U v' = -1 → (∀ j, NI' j = NI j ∨ D j) → post (gv1, gv2, gv3, gv4, gv5, gv6, gv7, gv8, gv9, gv10, gv11, gv12, gv13, gv14, gv15, gv16, gv17, gv18, hs_e U, hs_e (hs_u NI' v' x), hs_e (hs_u IN' x v'), gv22)) →
    wX_raiseToRoot_9 post (hs_i x) n (hs_i v) (hs_i st) gv1 gv2 gv3 gv4 gv5 gv6 gv7 gv8 gv9 gv10 gv11 gv12 gv13 gv14 gv15 gv16 gv17 gv18 (hs_e U) (hs_e NI) (hs_e IN) gv22 := by
  intro n
  induction n with
  | zero =>
    intro NI IN v st hR h0 h1 h2
    have := (hO v hR.2.2.2.2).2.1
    omega
  | succ n ih =>
    intro NI IN v st hR h0 h1 h2 hK
    have dv := hR.2.2.2.2
    have vr := hD v dv
    have d4 := (hO v dv).2.1
    have ub : U v = -1 ∨ D (U v) := by
      rcases (hO v dv).2.2.2.2.1 with y | ⟨_, y | y⟩
      · exact Or.inl y
      · exact Or.inl y
      · exact Or.inr y
    have ub2 : -2147483648 ≤ U v ∧ U v < 2147483648 := by
      rcases ub with y | y
      · omega
      · have := hD _ y; omega
    refine hs_le 5 st (fun c => absurd c (by omega)) (fun c => ⟨hs_in vr.1 (by omega) (by decide), ?_⟩)
    rw [hs_get (A := U) vr.1 (by omega)]
    refine hs_eq (U v) (-1) (fun c => ?_) (fun c => ?_)
    · unfold wX_raiseToRoot_66
      exact hs_wr v x rfl rfl vr.1 (by omega) (by decide) (hs_wr x v rfl rfl x0 (by omega) (by decide) (hK NI IN v hR c (fun _ => Or.inl rfl)))
    · obtain ⟨s1, s2, s3, s4, s5⟩ := hs_RI_step hO hR c
      have pr := hD _ s5
      refine ⟨hs_in vr.1 (by omega) (by decide), nm_r rfl (hs_rd (U v) rfl pr.1 (by omega) (by decide) ?_)⟩
      refine hs_wr v (NI (U v)) rfl rfl vr.1 (by omega) (by decide) (hs_wr (NI (U v)) v rfl rfl s2 (by omega) (by decide) (nm_r (hs_1 st) ?_))
      refine ih _ _ (U v) (st + 1) s1 (by omega) (by omega) (by omega) ?_
      intro NI' IN' v' a1 a2 a3
      refine hK NI' IN' v' a1 a2 (fun j => ?_)
      rcases a3 j with e | e
      · by_cases z : j = v
        · exact Or.inr (by rw [z]; exact dv)
        · rw [hs_un z] at e; exact Or.inl e
      · exact Or.inr e
theorem hs_dl {post : SX → Prop} {D : Int → Prop} {kk NI : Int → Int} {q e tot : Int} (kr : hs_kr kk) (hq : 0 ≤ q) (hq' : q ≤ 3) (hD : ∀ n, D n → 0 ≤ n ∧ n < 24) (hN : ∀ n, D n → 0 ≤ NI n ∧ NI n < 24) (hI : ∀ n m, D n → D m → NI n = NI m → n = m) (htot : tot ≤ 24) :
    ∀ (n : Nat) (d G T C X U : Int → Int) (c o : Int), hs_PL D (fun n => hs_K kk (NI n)) d G T C X U q e c o tot → o + 1 < n →
    (∀ (d' G' T' C' X' U' : Int → Int) (o' : Int), hs_PL D (fun n => hs_K kk (NI n)) d' G' T' C' X' U' q e (-1) o' tot → hs_BF D q T C X U T' C' X' U' → post (hs_e kk, gv2, gv3, gv4, gv5, gv6, gv7, gv8, gv9, gv10, gv11, gv12, gv13, gv14, gv15, hs_e T', hs_e C', hs_e X', hs_e U', hs_e NI, gv21, gv22)) →
    wX_dropFromBinomial_45 post (hs_i q) n (hs_i c) (hs_i o) (hs_e kk) gv2 gv3 gv4 gv5 gv6 gv7 gv8 gv9 gv10 gv11 gv12 gv13 gv14 gv15 (hs_e T) (hs_e C) (hs_e X) (hs_e U) (hs_e NI) gv21 gv22 := by
  have hm : ∀ n, D n → n ≠ -1 := fun n hn => by have := hD n hn; omega
  intro n
  induction n with
  | zero =>
    intro d G T C X U c o hL hn
    rcases hL.2.2.2.2.2.1 with y | y
    · omega
    · omega
  | succ n ih =>
    intro d G T C X U c o hL hn hK
    have fin : c = -1 → post (hs_e kk, gv2, gv3, gv4, gv5, gv6, gv7, gv8, gv9, gv10, gv11, gv12, gv13, gv14, gv15, hs_e T, hs_e C, hs_e X, hs_e U, hs_e NI, gv21, gv22) := by
      intro z
      rw [z] at hL
      exact hK d G T C X U o hL ⟨hs_fr_refl, hs_fr_refl, hs_fr_refl, fun _ => Or.inl rfl⟩
    have co := hL.2.2.2.2.2.1
    have cb : -2147483648 ≤ c ∧ c < 2147483648 := by
      rcases co with y | y
      · omega
      · have := hD c y.2.1; omega
    have ob : -1 ≤ o ∧ o ≤ 4 := by
      rcases co with y | y
      · omega
      · have := (hL.1 c y.2.1).2.1; omega
    refine hs_lt o 0 (fun z => fin ?_) (fun z => hs_eq c (-1) fin (fun y => ?_))
    · rcases co with y | y
      · exact y.2
      · omega
    · obtain ⟨_, c1, c2, c3⟩ := co.resolve_left (fun x => y x.2)
      have cr := hD c c1
      obtain ⟨a1, a2, a3, a4, a5⟩ := hs_PL_at hm hL y
      refine hs_rd c rfl cr.1 (by omega) (by decide) ?_
      unfold wpX_addTree
      dsimp only
      refine ⟨6, ?_⟩
      refine hs_at kr hq hq' hD hN hI (by omega) (Or.inr hL.2.2.2.2.1.1) 6 _ _ _ _ _ _ c o a1 (by omega) ?_
      intro d' G' T' C' X' U' b1 b2 b3 b4 b5 b6 b7 b8
      refine nm_r (hs_m1 o) (ih d' G' T' C' X' U' (X c) (o - 1) (hs_PL_next hm hL y b1 b2 b3 b4 b5 b6 b7) (by omega) ?_)
      intro d2 G2 T2 C2 X2 U2 o2 e1 e2
      exact hK d2 G2 T2 C2 X2 U2 o2 e1 (hs_BF_trans b8 e2)
theorem hs_dropB {post : SX → Prop} {kk H T C X U NI IN : Int → Int} {q x : Int} (kr : hs_kr kk) (hq : 0 ≤ q) (hq' : q ≤ 3) (x0 : 0 ≤ x) (x1 : x < 24) (hx : H x = q) (hP : hs_PM NI IN)
    (h : hs_BA (hs_K kk) H T C X U NI)
    (hK : ∀ T' C' X' U' NI' IN' : Int → Int, hs_BA (hs_K kk) (hs_u H x (-1)) T' C' X' U' NI' → hs_PM NI' IN' → hs_BF (hs_BD H NI q) q T C X U T' C' X' U' → post (hs_e kk, gv2, gv3, gv4, gv5, gv6, gv7, gv8, gv9, gv10, gv11, gv12, gv13, gv14, gv15, hs_e T', hs_e C', hs_e X', hs_e U', hs_e NI', hs_e IN', gv22)) :
    wpX_dropFromBinomial post (hs_e kk, gv2, gv3, gv4, gv5, gv6, gv7, gv8, gv9, gv10, gv11, gv12, gv13, gv14, gv15, hs_e T, hs_e C, hs_e X, hs_e U, hs_e NI, hs_e IN, gv22) (hs_i q) (hs_i x) := by
  have p := hP x x0 x1
  obtain ⟨d, t1, t2, t3, t4⟩ := h q hq hq'
  have xD : hs_BD H NI q (IN x) := ⟨p.2.2.1, p.2.2.2.1, by rw [p.2.2.2.2.1]; exact hx⟩
  have up : ∀ n, hs_BD H NI q n → U n ≠ -1 → hs_BD H NI q (U n) ∧ hs_K kk (NI (U n)) < hs_K kk (NI n) := by
    intro n hn c
    refine ⟨?_, ?_⟩
    · rcases (t1 n hn).2.2.2.2.1 with f | ⟨_, f | f⟩
      · exact absurd f c
      · exact absurd f c
      · exact f
    · rcases t2 n hn with f | f | f
      · exact absurd f c
      · exact absurd f c
      · exact f
  have RI0 : hs_RI (hs_BD H NI q) (hs_K kk) H U NI IN q (IN x) x := by
    unfold hs_RI
    rw [hs_self p.2.2.2.2.1, hs_self (rfl : IN x = IN x)]
    refine ⟨hP, fun n => Iff.rfl, fun n hn _ c _ => (up n hn c).2, fun c n hn e => ?_, xD⟩
    have a := (up n hn (by rw [e]; exact hs_BD_m _ xD)).2
    have b := (up _ xD c).2
    rw [e] at a
    omega
  have cr := hs_c_r (hs_u H x (-1)) q
  unfold wpX_dropFromBinomial
  dsimp only
  unfold wpX_raiseToRoot
  dsimp only
  refine hs_rd x rfl x0 (by omega) (by decide) ⟨7, ?_⟩
  rw [← hs_l0]
  refine hs_ra hs_BD_r t1 x0 x1 7 NI IN (IN x) 0 RI0 (by omega) (t1 _ xD).1 (by omega) ?_
  intro NI' IN' v hR uv fN
  obtain ⟨r1, r2, r3, r4, r5⟩ := hR
  have vr := hs_BD_r v r5
  have dv := t1 v r5
  dsimp only
  refine hs_rd x rfl x0 (by omega) (by decide) ?_
  rw [hs_us]
  refine hs_oo hs_BD_r t1 r5 ?_
  refine hs_wr (q * 5 + d v) (-1) (hs_x5 _ _) hs_lm1.symm (by omega) (by omega) (by decide) (hs_rd v rfl vr.1 (by omega) (by decide) (nm_r (hs_s1 _) ⟨7, ?_⟩))
  have PL0 := hs_BT_drop (K := hs_K kk) (NI' := hs_u NI' v x) (IN' := hs_u IN' x v) x0 x1 hx (by omega) t1 t3 t4 r1 hs_us r2 r3 r5 uv
  have NIr : ∀ n, hs_BD (hs_u H x (-1)) (hs_u NI' v x) q n → 0 ≤ hs_u NI' v x n ∧ hs_u NI' v x n < 24 := fun n hn => ⟨(r1 n hn.1 hn.2.1).1, (r1 n hn.1 hn.2.1).2.1⟩
  refine hs_dl kr hq hq' hs_BD_r NIr (fun n m hn hm e => hs_PM_inj r1 hn.1 hn.2.1 hm.1 hm.2.1 e) (by omega) 7 _ _ _ _ _ _ _ _ PL0 (by omega) ?_
  intro d' G' T' C' X' U' o' e1 e2
  have sub : ∀ n, hs_BD (hs_u H x (-1)) (hs_u NI' v x) q n → hs_BD H NI q n := by
    intro n hn
    refine (r2 n).mpr ⟨hn.1, hn.2.1, ?_⟩
    have := hn.2.2
    by_cases z : hs_u NI' v x n = x
    · rw [hs_ue z] at this; omega
    · rw [hs_un z] at this; exact this
  have wide : ∀ {A B : Int → Int}, hs_fr (hs_BD (hs_u H x (-1)) (hs_u NI' v x) q) A B → hs_fr (hs_BD H NI q) A B := by
    intro A B y j
    rcases y j with u | u
    · exact Or.inl u
    · refine Or.inr ⟨sub j u.1, ?_⟩
      rcases u.2 with g | g
      · exact Or.inl g
      · exact Or.inr (sub _ g)
  have hF : hs_BF (hs_BD H NI q) q T C X U T' C' X' U' := by
    refine ⟨wide e2.1, wide e2.2.1, wide e2.2.2.1, fun j => ?_⟩
    rcases e2.2.2.2 j with y | y
    · by_cases z : j = q * 5 + d v
      · rw [hs_ue z] at y
        exact Or.inr ⟨by omega, by omega, Or.inl y⟩
      · rw [hs_un z] at y; exact Or.inl y
    · refine Or.inr ⟨y.1, y.2.1, ?_⟩
      rcases y.2.2 with g | g
      · exact Or.inl g
      · exact Or.inr (sub _ g)
  have NIo : ∀ n, ¬ hs_BD H NI q n → hs_u NI' v x n = NI n := by
    intro n hn
    have nv : n ≠ v := fun z => hn (by rw [z]; exact r5)
    rw [hs_un nv]
    rcases fN n with y | y
    · exact y
    · exact absurd y hn
  refine hK T' C' X' U' _ _ ?_ r1 hF
  intro q' b0 b1
  by_cases e : q' = q
  · rw [e]; exact hs_PL_end e1 rfl
  · refine hs_BT_keep (h q' b0 b1) e ?_ ?_ ?_ hF ?_
    · intro i c0 c1
      by_cases z : i = x
      · rw [hs_ue z, z]
        exact ⟨fun y => by omega, fun y => by omega⟩
      · rw [hs_un z]
    · intro n
      constructor
      · intro c
        have nD : ¬ hs_BD H NI q n := by
          intro y
          have g := ((r2 n).mp y).2.2
          have c2 := c.2.2
          by_cases z : hs_u NI' v x n = x
          · rw [hs_ue z] at c2; omega
          · rw [hs_un z] at c2; omega
        have c2 := c.2.2
        rw [NIo n nD] at c2
        by_cases z : NI n = x
        · rw [hs_ue z] at c2; omega
        · rw [hs_un z] at c2; exact ⟨c.1, c.2.1, c2⟩
      · intro c
        have nD : ¬ hs_BD H NI q n := fun y => e (c.2.2.symm.trans y.2.2)
        refine ⟨c.1, c.2.1, ?_⟩
        rw [NIo n nD]
        have z : NI n ≠ x := fun y => by have := c.2.2; rw [y] at this; omega
        rw [hs_un z]; exact c.2.2
    · intro n hn
      exact NIo n (fun y => e (hn.2.2.symm.trans y.2.2))
    · intro n hn y
      exact e (hn.2.2.symm.trans y.2.2)
def hs_BJ (D : Int → Prop) (a b : Int) (T C X U T' C' X' U' : Int → Int) : Prop := hs_fr D C C' ∧ hs_fr D X X' ∧ hs_fr D U U' ∧ (∀ j, T' j = T j ∨ (((a * 5 ≤ j ∧ j < a * 5 + 5) ∨ (b * 5 ≤ j ∧ j < b * 5 + 5)) ∧ (T' j = -1 ∨ D (T' j))))
theorem hs_jl {post : SX → Prop} {D : Int → Prop} {kk NI : Int → Int} {a b tot : Int} (kr : hs_kr kk) (ha : 0 ≤ a) (ha' : a ≤ 3) (hb : 0 ≤ b) (hb' : b ≤ 3) (hab : a ≠ b) (hD : ∀ n, D n → 0 ≤ n ∧ n < 24) (hN : ∀ n, D n → 0 ≤ NI n ∧ NI n < 24) (hI : ∀ n m, D n → D m → NI n = NI m → n = m) (htot : tot ≤ 24) :
    ∀ (n : Nat) (d G T C X U : Int → Int) (o : Int), hs_JL D (fun n => hs_K kk (NI n)) d G T C X U a b o tot → 0 ≤ o → o ≤ 5 → 5 - o < n →
    (∀ d' G' T' C' X' U' : Int → Int, hs_JL D (fun n => hs_K kk (NI n)) d' G' T' C' X' U' a b 5 tot → hs_BJ D a b T C X U T' C' X' U' → post (hs_e kk, gv2, gv3, gv4, gv5, gv6, gv7, gv8, gv9, gv10, gv11, gv12, gv13, gv14, gv15, hs_e T', hs_e C', hs_e X', hs_e U', hs_e NI, gv21, gv22)) →
    wX_joinBinomial_2 post (hs_i a) (hs_i b) n (hs_i o) (hs_e kk) gv2 gv3 gv4 gv5 gv6 gv7 gv8 gv9 gv10 gv11 gv12 gv13 gv14 gv15 (hs_e T) (hs_e C) (hs_e X) (hs_e U) (hs_e NI) gv21 gv22 := by
  have hm : ∀ n, D n → n ≠ -1 := fun n hn => by have := hD n hn; omega
  intro n
  induction n with
  | zero => intro d G T C X U o _ h0 h1 h2; omega
  | succ n ih =>
    intro d G T C X U o hJ h0 h1 h2 hK
    refine hs_le 5 o (fun z => ?_) (fun z => hs_rd (b * 5 + o) (hs_x5 _ _) (by omega) (by omega) (by decide) ?_)
    · have e : o = 5 := by omega
      rw [e] at hJ
      exact hK d G T C X U hJ ⟨hs_fr_refl, hs_fr_refl, hs_fr_refl, fun _ => Or.inl rfl⟩
    · have tr := hJ.2.2.2.2.2.1 o (by omega) (by omega)
      have tb : -2147483648 ≤ T (b * 5 + o) ∧ T (b * 5 + o) < 2147483648 := by
        rcases tr with x | x
        · omega
        · have := hD _ x.1; omega
      refine hs_eq (T (b * 5 + o)) (-1) (fun y => nm_r (hs_1 o) (ih d G T C X U (o + 1) (hs_JL_skip hm hJ y) (by omega) (by omega) (by omega) hK)) (fun y => ?_)
      refine hs_wr (b * 5 + o) (-1) (hs_x5 _ _) hs_lm1.symm (by omega) (by omega) (by decide) ?_
      obtain ⟨a1, a2, a3⟩ := hs_JL_at hm hab hJ h0 (by omega) y
      unfold wpX_addTree
      dsimp only
      refine ⟨6, ?_⟩
      refine hs_at kr ha ha' hD hN hI (by omega) (Or.inl rfl) 6 _ _ _ _ _ _ _ o a1 (by omega) ?_
      intro d' G' T' C' X' U' b1 b2 b3 b4 b5 b6 b7 b8
      refine nm_r (hs_1 o) (ih d' G' T' C' X' U' (o + 1) (hs_JL_next hab hJ h0 (by omega) b1 b2 b3 b4 b5 (fun n hn => ⟨(b6 n hn).1, (b6 n hn).2.1⟩) ?_ a3) (by omega) (by omega) (by omega) ?_)
      · intro o' c0 c1
        rcases b8.2.2.2 (b * 5 + o') with e | e
        · exact e
        · omega
      · intro d2 G2 T2 C2 X2 U2 c1 c2
        refine hK d2 G2 T2 C2 X2 U2 c1 ⟨hs_fr_trans b8.1 c2.1, hs_fr_trans b8.2.1 c2.2.1, hs_fr_trans b8.2.2.1 c2.2.2.1, fun j => ?_⟩
        rcases c2.2.2.2 j with e | e
        · rcases b8.2.2.2 j with f | f
          · by_cases g : j = b * 5 + o
            · rw [hs_ue g] at f
              exact Or.inr ⟨Or.inr ⟨by omega, by omega⟩, Or.inl (e.trans f)⟩
            · rw [hs_un g] at f
              exact Or.inl (e.trans f)
          · rw [← e] at f
            exact Or.inr ⟨Or.inl ⟨f.1, f.2.1⟩, f.2.2⟩
        · exact Or.inr e
theorem hs_joinB {post : SX → Prop} {kk H T C X U NI IN : Int → Int} {a b : Int} (kr : hs_kr kk) (ha : 0 ≤ a) (ha' : a ≤ 3) (hb : 0 ≤ b) (hb' : b ≤ 3) (hab : a ≠ b) (hP : hs_PM NI IN)
    (h : hs_BA (hs_K kk) H T C X U NI)
    (hK : ∀ T' C' X' U' : Int → Int, hs_BA (hs_K kk) (fun i => if H i = b then a else H i) T' C' X' U' NI → hs_BJ (hs_BD (fun i => if H i = b then a else H i) NI a) a b T C X U T' C' X' U' → post (hs_e kk, gv2, gv3, gv4, gv5, gv6, gv7, gv8, gv9, gv10, gv11, gv12, gv13, gv14, gv15, hs_e T', hs_e C', hs_e X', hs_e U', hs_e NI, gv21, gv22)) :
    wpX_joinBinomial post (hs_e kk, gv2, gv3, gv4, gv5, gv6, gv7, gv8, gv9, gv10, gv11, gv12, gv13, gv14, gv15, hs_e T, hs_e C, hs_e X, hs_e U, hs_e NI, gv21, gv22) (hs_i a) (hs_i b) := by
  obtain ⟨d, hJ⟩ := hs_JL_start hab (h a ha ha') (h b hb hb')
  have cr := hs_c_r (fun i => if H i = b then a else H i) a
  unfold wpX_joinBinomial
  dsimp only
  refine ⟨7, ?_⟩
  rw [← hs_l0]
  refine hs_jl kr ha ha' hb hb' hab hs_BD_r (fun n hn => ⟨(hP n hn.1 hn.2.1).1, (hP n hn.1 hn.2.1).2.1⟩) (fun n m hn hm e => hs_PM_inj hP hn.1 hn.2.1 hm.1 hm.2.1 e) cr.2 7 _ _ _ _ _ _ 0 hJ (by omega) (by omega) (by omega) ?_
  intro d' G' T' C' X' U' c1 c2
  have en := hs_JL_end hab c1
  refine hK T' C' X' U' ?_ c2
  intro q b0 b1
  by_cases e : q = a
  · rw [e]; exact en.1
  · by_cases f : q = b
    · rw [f]; exact en.2
    · have hH : ∀ i, ((fun i => if H i = b then a else H i) i = q ↔ H i = q) := by
        intro i
        by_cases z : H i = b
        · have w : (fun i => if H i = b then a else H i) i = a := if_pos z
          rw [w]; exact ⟨fun y => absurd y.symm e, fun y => absurd (y.symm.trans z) f⟩
        · have w : (fun i => if H i = b then a else H i) i = H i := if_neg z
          rw [w]
      have nd : ∀ n, hs_BD H NI q n → ¬ hs_BD (fun i => if H i = b then a else H i) NI a n := by
        intro n hn y
        rcases (hs_BD_join hab n).mp y with u | u
        · exact e (hn.2.2.symm.trans u.2.2)
        · exact f (hn.2.2.symm.trans u.2.2)
      refine hs_BT_congr (h q b0 b1) ?_ (fun i _ _ => hH i) (fun _ _ => rfl) ?_ ?_ ?_ ?_
      · intro n
        constructor
        · intro c; exact ⟨c.1, c.2.1, (hH _).mp c.2.2⟩
        · intro c; exact ⟨c.1, c.2.1, (hH _).mpr c.2.2⟩
      · intro o x y
        rcases c2.2.2.2 (q * 5 + o) with u | u
        · exact u
        · omega
      · intro n hn
        rcases c2.1 n with u | u
        · exact u
        · exact absurd u.1 (nd n hn)
      · intro n hn
        rcases c2.2.1 n with u | u
        · exact u
        · exact absurd u.1 (nd n hn)
      · intro n hn
        rcases c2.2.2.1 n with u | u
        · exact u
        · exact absurd u.1 (nd n hn)
end HS29
end
section
section HS30
variable {gv1 gv2 gv3 gv4 gv5 gv6 gv7 gv8 gv9 gv10 gv11 gv12 gv13 gv14 gv15 gv16 gv17 gv18 gv19 gv20 gv21 gv22 : Nat → Int32}
def hs_rg (A : Int → Int) (n lo hi : Int) : Prop := ∀ j, 0 ≤ j → j < n → lo ≤ A j ∧ A j ≤ hi
/-! engine 6: the walks -/
def hs_TA (K H W : Int → Int) : Prop := ∀ q, 0 ≤ q → q ≤ 3 → hs_TN K H W q
def hs_fW (W W' : Int → Int) (q : Int) : Prop := ∀ j, W' j = W j ∨ (q * 48 ≤ j ∧ j < q * 48 + 48 ∧ -1 ≤ W' j ∧ W' j ≤ 23)
theorem hs_fW_trans {W W1 W2 : Int → Int} {q : Int} (h : hs_fW W W1 q) (h' : hs_fW W1 W2 q) : hs_fW W W2 q := by
  intro j
  rcases h' j with e | e
  · rcases h j with f | f
    · exact Or.inl (e.trans f)
    · rw [← e] at f; exact Or.inr f
  · exact Or.inr e
theorem hs_fW_u {W : Int → Int} {q p v : Int} (p0 : 0 ≤ p) (p1 : p < 48) (v0 : -1 ≤ v) (v1 : v ≤ 23) : hs_fW W (hs_u W (q * 48 + p) v) q := by
  intro j
  by_cases e : j = q * 48 + p
  · rw [hs_ue e]; exact Or.inr ⟨by omega, by omega, v0, v1⟩
  · exact Or.inl (hs_un e)
theorem hs_fW_rg {W W' : Int → Int} {q : Int} (h : hs_rg W 192 (-1) 23) (hF : hs_fW W W' q) : hs_rg W' 192 (-1) 23 := by
  intro j a b
  rcases hF j with e | e
  · rw [e]; exact h j a b
  · exact e.2.2
theorem hs_TN_keep {K H H' W W' : Int → Int} {q q' : Int} (h : hs_TN K H W q') (hne : q' ≠ q) (hH : ∀ i, 0 ≤ i → i < 24 → (H' i = q' ↔ H i = q')) (hF : hs_fW W W' q) : hs_TN K H' W' q' := by
  refine hs_TN_congr h hH (fun _ _ _ _ => rfl) ?_
  intro n a b
  rcases hF (q' * 48 + n) with e | e
  · exact e
  · omega
theorem hs_seatl {post : SX → Prop} {kk H : Int → Int} {q : Int} (kr : hs_kr kk) (hq : 0 ≤ q) (hq' : q ≤ 3) :
    ∀ (n : Nat) (W : Int → Int) (p st : Int), hs_TS (hs_K kk) H W q p → hs_rg W 192 (-1) 23 → 1 ≤ p → 0 ≤ st → ((st = 0 ∧ p ≤ 47) ∨ (1 ≤ st ∧ p + st ≤ 24)) → 24 - st < n →
    (∀ W' : Int → Int, hs_TN (hs_K kk) H W' q → hs_fW W W' q → post (hs_e kk, gv2, gv3, gv4, gv5, gv6, gv7, gv8, gv9, gv10, gv11, gv12, gv13, gv14, gv15, gv16, gv17, gv18, gv19, gv20, gv21, hs_e W')) →
    wX_seat_26 post (hs_i (q * 48)) n (hs_i p) (hs_i st) (hs_e kk) gv2 gv3 gv4 gv5 gv6 gv7 gv8 gv9 gv10 gv11 gv12 gv13 gv14 gv15 gv16 gv17 gv18 gv19 gv20 gv21 (hs_e W) := by
  intro n
  induction n with
  | zero => intro W p st _ _ p1 s0 hs hn; omega
  | succ n ih =>
    intro W p st hT hR p1 s0 hs hn hK
    refine hs_le 24 st (fun c => absurd c (by omega)) (fun c => hs_le p 1 (fun d => hK W (hs_TS_end hT (by omega) (by omega)) (fun _ => Or.inl rfl)) (fun d => ⟨by decide, nm_r (hs_div2 (by omega) (by omega)) ?_⟩))
    have r1 := hR (q * 48 + 2 * (p / 2)) (by omega) (by omega)
    have r2 := hR (q * 48 + 2 * (p / 2) + 1) (by omega) (by omega)
    rw [hs_2m, hs_add, hs_1, hs_add]
    refine ⟨hs_in (by omega) (by omega) (by decide), hs_in (by omega) (by omega) (by decide), ?_⟩
    rw [hs_get (x := q * 48 + 2 * (p / 2)) (by omega) (by omega), hs_get (x := q * 48 + 2 * (p / 2) + 1) (by omega) (by omega)]
    refine hs_bet kr r1.1 (by omega) r2.1 (by omega) ?_
    refine hs_wr (q * 48 + p / 2) _ rfl rfl (by omega) (by omega) (by decide) (nm_r (hs_1 st) ?_)
    have br : -1 ≤ hs_bt (hs_K kk) (W (q * 48 + 2 * (p / 2))) (W (q * 48 + 2 * (p / 2) + 1)) ∧ hs_bt (hs_K kk) (W (q * 48 + 2 * (p / 2))) (W (q * 48 + 2 * (p / 2) + 1)) ≤ 23 := by
      rcases hs_bt_r (K := hs_K kk) (x := W (q * 48 + 2 * (p / 2))) (y := W (q * 48 + 2 * (p / 2) + 1)) with e | e
      · rw [e]; exact r1
      · rw [e]; exact r2
    have fw := hs_fW_u (W := W) (q := q) (p := p / 2) (by omega) (by omega) br.1 br.2
    refine ih _ (p / 2) (st + 1) (hs_TS_step hT (by omega) (by omega)) (hs_fW_rg hR fw) (by omega) (by omega) (by omega) (by omega) ?_
    intro W' a1 a2
    exact hK W' a1 (hs_fW_trans fw a2)
theorem hs_seat {post : SX → Prop} {kk H H' W : Int → Int} {q x s : Int} (kr : hs_kr kk) (hq : 0 ≤ q) (hq' : q ≤ 3) (x0 : 0 ≤ x) (x1 : x < 24) (h : hs_TN (hs_K kk) H W q) (hR : hs_rg W 192 (-1) 23)
    (hH : ∀ i, 0 ≤ i → i < 24 → i ≠ x → (H' i = q ↔ H i = q)) (hs : s = if H' x = q then x else -1)
    (hK : ∀ W' : Int → Int, hs_TN (hs_K kk) H' W' q → hs_fW W W' q → post (hs_e kk, gv2, gv3, gv4, gv5, gv6, gv7, gv8, gv9, gv10, gv11, gv12, gv13, gv14, gv15, gv16, gv17, gv18, gv19, gv20, gv21, hs_e W')) :
    wpX_seat post (hs_e kk, gv2, gv3, gv4, gv5, gv6, gv7, gv8, gv9, gv10, gv11, gv12, gv13, gv14, gv15, gv16, gv17, gv18, gv19, gv20, gv21, hs_e W) (hs_i q) (hs_i x) (hs_i s) := by
  have sr : -1 ≤ s ∧ s ≤ 23 := by rw [hs]; split <;> omega
  unfold wpX_seat
  dsimp only
  refine nm_r (hs_m48 q) (nm_r (hs_p24 x) (hs_wr (q * 48 + (24 + x)) s (hs_add _ _) rfl (by omega) (by omega) (by decide) ⟨25, ?_⟩))
  rw [← hs_l0]
  have fw := hs_fW_u (W := W) (q := q) (p := 24 + x) (by omega) (by omega) sr.1 sr.2
  refine hs_seatl kr hq hq' 25 _ (24 + x) 0 (hs_TS_start h x0 x1 hH hs) (hs_fW_rg hR fw) (by omega) (by omega) (by omega) (by omega) ?_
  intro W' a1 a2
  exact hK W' a1 (hs_fW_trans fw a2)
theorem hs_jtl {post : SX → Prop} {kk H : Int → Int} {a b : Int} (kr : hs_kr kk) (ha : 0 ≤ a) (ha' : a ≤ 3) (hb : 0 ≤ b) (hb' : b ≤ 3) (hab : a ≠ b) :
    ∀ (n : Nat) (W : Int → Int) (i : Int), hs_TA (hs_K kk) (fun j => if j < i ∧ H j = b then a else H j) W → hs_rg W 192 (-1) 23 → 0 ≤ i → i ≤ 24 → 24 - i < n →
    (∀ W' : Int → Int, hs_TA (hs_K kk) (fun j => if H j = b then a else H j) W' → hs_rg W' 192 (-1) 23 → post (hs_e kk, gv2, gv3, gv4, gv5, gv6, gv7, gv8, gv9, gv10, gv11, gv12, gv13, gv14, gv15, gv16, gv17, gv18, gv19, gv20, gv21, hs_e W')) →
    wX_joinTournaments_2 post (hs_i a) (hs_i b) n (hs_i i) (hs_e kk) gv2 gv3 gv4 gv5 gv6 gv7 gv8 gv9 gv10 gv11 gv12 gv13 gv14 gv15 gv16 gv17 gv18 gv19 gv20 gv21 (hs_e W) := by
  intro n
  induction n with
  | zero => intro W i _ _ a b c; omega
  | succ n ih =>
    intro W i hT hR i0 i1 hn hK
    refine hs_le 24 i (fun c => ?_) (fun c => ?_)
    · refine hK W (fun q q0 q1 => hs_TN_congr (hT q q0 q1) (fun j j0 j1 => ?_) (fun _ _ _ _ => rfl) (fun _ _ _ => rfl)) hR
      by_cases z : H j = b
      · rw [if_pos z, if_pos ⟨by omega, z⟩]
      · rw [if_neg z, if_neg (fun y => z y.2)]
    · have lf := (hT b hb hb').1 i i0 (by omega)
      have Hi : (fun j => if j < i ∧ H j = b then a else H j) i = H i := if_neg (fun y => by omega)
      rw [show (fun j => if j < i ∧ H j = b then a else H j) i = H i from Hi] at lf
      have wr := hR (b * 48 + 24 + i) (by omega) (by omega)
      rw [hs_m48, show (24 : Int32) = hs_i 24 from by decide, hs_add, hs_add]
      refine ⟨hs_in (by omega) (by omega) (by decide), ?_⟩
      rw [hs_get (x := b * 48 + 24 + i) (by omega) (by omega)]
      refine hs_eq (W (b * 48 + 24 + i)) (-1) (fun d => nm_r (hs_1 i) (ih W (i + 1) ?_ hR (by omega) (by omega) (by omega) hK)) (fun d => ?_)
      · intro q q0 q1
        refine hs_TN_congr (hT q q0 q1) (fun j j0 j1 => ?_) (fun _ _ _ _ => rfl) (fun _ _ _ => rfl)
        have hib : H i ≠ b := by
          intro z
          rw [if_pos z] at lf
          omega
        by_cases z : H j = b
        · by_cases y : j < i
          · rw [if_pos ⟨by omega, z⟩, if_pos ⟨y, z⟩]
          · have : j ≠ i := fun e => hib (by rw [← e]; exact z)
            rw [if_neg (fun v => by omega), if_neg (fun v => y v.1)]
        · rw [if_neg (fun v => z v.2), if_neg (fun v => z v.2)]
      · have hib : H i = b := by
          apply Classical.byContradiction
          intro z
          rw [if_neg z] at lf
          exact d lf
        have nxt : ∀ j, 0 ≤ j → j < 24 → ∀ q, ((fun j => if j < i + 1 ∧ H j = b then a else H j) j = q ↔ hs_u (fun j => if j < i ∧ H j = b then a else H j) i a j = q) := by
          intro j j0 j1 q
          by_cases e : j = i
          · rw [hs_ue e]
            have w : (fun j => if j < i + 1 ∧ H j = b then a else H j) j = a := if_pos ⟨by omega, by rw [e]; exact hib⟩
            rw [w]
          · rw [hs_un e]
            by_cases y : j < i
            · by_cases z : H j = b
              · have w1 : (fun j => if j < i + 1 ∧ H j = b then a else H j) j = a := if_pos ⟨by omega, z⟩
                have w2 : (fun j => if j < i ∧ H j = b then a else H j) j = a := if_pos ⟨y, z⟩
                rw [w1]; dsimp only at w2; rw [w2]
              · have w1 : (fun j => if j < i + 1 ∧ H j = b then a else H j) j = H j := if_neg (fun v => z v.2)
                have w2 : (fun j => if j < i ∧ H j = b then a else H j) j = H j := if_neg (fun v => z v.2)
                rw [w1]; dsimp only at w2; rw [w2]
            · have w1 : (fun j => if j < i + 1 ∧ H j = b then a else H j) j = H j := if_neg (fun v => by omega)
              have w2 : (fun j => if j < i ∧ H j = b then a else H j) j = H j := if_neg (fun v => y v.1)
              rw [w1]; dsimp only at w2; rw [w2]
        generalize hHi : (fun j => if j < i ∧ H j = b then a else H j) = Hc at *
        refine hs_seat (H' := hs_u Hc i a) kr ha ha' i0 (by omega) (hT a ha ha') hR (fun j _ _ e => by rw [hs_un e]) (by rw [hs_us, if_pos rfl]) ?_
        intro W1 e1 e2
        have hR1 := hs_fW_rg hR e2
        have tb : hs_TN (hs_K kk) Hc W1 b := hs_TN_keep (hT b hb hb') (fun z => hab z.symm) (fun _ _ _ => Iff.rfl) e2
        show wpX_seat _ _ _ _ (-1)
        rw [← hs_lm1]
        refine hs_seat (H' := hs_u Hc i a) kr hb hb' i0 (by omega) tb hR1 (fun j _ _ e => by rw [hs_un e]) (by rw [hs_us, if_neg hab]) ?_
        intro W2 f1 f2
        refine nm_r (hs_1 i) (ih W2 (i + 1) ?_ (hs_fW_rg hR1 f2) (by omega) (by omega) (by omega) hK)
        intro q q0 q1
        refine hs_TN_congr (H := hs_u Hc i a) ?_ (fun j j0 j1 => nxt j j0 j1 q) (fun _ _ _ _ => rfl) (fun _ _ _ => rfl)
        by_cases z : q = b
        · rw [z]; exact f1
        · refine hs_TN_keep (H := hs_u Hc i a) (W := W1) ?_ z (fun _ _ _ => Iff.rfl) f2
          by_cases y : q = a
          · rw [y]; exact e1
          · refine hs_TN_keep (hT q q0 q1) y ?_ e2
            intro j j0 j1
            by_cases e : j = i
            · rw [hs_ue e, e, Hi, hib]
              exact ⟨fun v => absurd v.symm y, fun v => absurd v.symm z⟩
            · rw [hs_un e]
theorem hs_joinT {post : SX → Prop} {kk H W : Int → Int} {a b : Int} (kr : hs_kr kk) (ha : 0 ≤ a) (ha' : a ≤ 3) (hb : 0 ≤ b) (hb' : b ≤ 3) (hab : a ≠ b) (hT : hs_TA (hs_K kk) H W) (hR : hs_rg W 192 (-1) 23)
    (hK : ∀ W' : Int → Int, hs_TA (hs_K kk) (fun j => if H j = b then a else H j) W' → hs_rg W' 192 (-1) 23 → post (hs_e kk, gv2, gv3, gv4, gv5, gv6, gv7, gv8, gv9, gv10, gv11, gv12, gv13, gv14, gv15, gv16, gv17, gv18, gv19, gv20, gv21, hs_e W')) :
    wpX_joinTournaments post (hs_e kk, gv2, gv3, gv4, gv5, gv6, gv7, gv8, gv9, gv10, gv11, gv12, gv13, gv14, gv15, gv16, gv17, gv18, gv19, gv20, gv21, hs_e W) (hs_i a) (hs_i b) := by
  unfold wpX_joinTournaments
  dsimp only
  refine ⟨26, ?_⟩
  rw [← hs_l0]
  refine hs_jtl (H := H) kr ha ha' hb hb' hab 26 W 0 ?_ hR (by omega) (by omega) (by omega) hK
  intro q q0 q1
  refine hs_TN_congr (hT q q0 q1) (fun j j0 j1 => ?_) (fun _ _ _ _ => rfl) (fun _ _ _ => rfl)
  rw [if_neg (fun v => by omega)]
end HS30
end
section
section HS31
variable {gv1 gv2 gv3 gv4 gv5 gv6 gv7 gv8 gv9 gv10 gv11 gv12 gv13 gv14 gv15 gv16 gv17 gv18 gv19 gv20 gv21 gv22 : Nat → Int32}
/-! what a change of kind w leaves alone -/
def hs_AK (w : Int) (S F P S' F' P' : Int → Int) : Prop := (∀ j, S' j = S j ∨ (w * 96 ≤ j ∧ j < w * 96 + 96 ∧ 0 ≤ S' j ∧ S' j ≤ 23)) ∧ (∀ j, (j < w * 4 ∨ w * 4 + 4 ≤ j) → F' j = F j) ∧ (∀ j, (j < w * 24 ∨ w * 24 + 24 ≤ j) → P' j = P j)
theorem hs_AK_refl {w : Int} {S F P : Int → Int} : hs_AK w S F P S F P := ⟨fun _ => Or.inl rfl, fun _ _ => rfl, fun _ _ => rfl⟩
theorem hs_AK_trans {w : Int} {S F P S1 F1 P1 S2 F2 P2 : Int → Int} (h : hs_AK w S F P S1 F1 P1) (h' : hs_AK w S1 F1 P1 S2 F2 P2) : hs_AK w S F P S2 F2 P2 := by
  refine ⟨fun j => ?_, fun j e => (h'.2.1 j e).trans (h.2.1 j e), fun j e => (h'.2.2 j e).trans (h.2.2 j e)⟩
  rcases h'.1 j with e | e
  · rcases h.1 j with f | f
    · exact Or.inl (e.trans f)
    · rw [← e] at f; exact Or.inr f
  · exact Or.inr e
theorem hs_AK_of {w q : Int} {H S F P S' F' P' : Int → Int} (hq : 0 ≤ q) (hq' : q ≤ 3) (fS : hs_fS S S' ((w * 4 + q) * 24)) (fF : ∀ j, j ≠ w * 4 + q → F' j = F j) (fP : hs_fP H P P' q (w * 24)) : hs_AK w S F P S' F' P' := by
  refine ⟨fun j => ?_, fun j e => fF j (by omega), fun j e => ?_⟩
  · rcases fS j with e | e
    · exact Or.inl e
    · exact Or.inr ⟨by omega, by omega, e.2.2.1, by omega⟩
  · rcases fP j with f | ⟨i, a, b, c, d⟩
    · exact f
    · omega
theorem hs_AK_rg {w : Int} {S F P S' F' P' : Int → Int} (h : hs_AK w S F P S' F' P') (hR : hs_rg S 192 0 23) : hs_rg S' 192 0 23 := by
  intro j a b
  rcases h.1 j with e | e
  · rw [e]; exact hR j a b
  · exact e.2.2
theorem hs_AA_other {w w' : Int} {K H S F P S' F' P' : Int → Int} (hw : 0 ≤ w) (hw2 : 0 ≤ w') (hne : w' ≠ w) (hk : hs_AK w S F P S' F' P') (h : hs_AA K H S F P w') : hs_AA K H S' F' P' w' := by
  intro q q0 q1
  refine hs_AH_congr (h q q0 q1) (fun _ _ _ => Iff.rfl) (fun _ _ _ _ => rfl) ?_ (hk.2.1 _ (by omega)) (fun i a b _ => hk.2.2 _ (by omega))
  intro p a b
  rcases hk.1 ((w' * 4 + q) * 24 + p) with e | e
  · exact e
  · omega
def hs_LW (w : Int) (T L R U N T' L' R' U' N' : Int → Int) : Prop :=
  (∀ j, T' j = T j ∨ (w * 4 ≤ j ∧ j < w * 4 + 4 ∧ -1 ≤ T' j ∧ T' j ≤ 47)) ∧ (∀ j, L' j = L j ∨ (w * 24 ≤ j ∧ j < w * 24 + 24 ∧ -1 ≤ L' j ∧ L' j ≤ 47)) ∧
  (∀ j, R' j = R j ∨ (w * 24 ≤ j ∧ j < w * 24 + 24 ∧ -1 ≤ R' j ∧ R' j ≤ 47)) ∧ (∀ j, U' j = U j ∨ (w * 24 ≤ j ∧ j < w * 24 + 24 ∧ -1 ≤ U' j ∧ U' j ≤ 47)) ∧ (∀ j, (j < w * 24 ∨ w * 24 + 24 ≤ j) → N' j = N j)
theorem hs_LW_of {w : Int} {D : Int → Prop} {T L R U N T' L' R' U' N' : Int → Int} (hw : 0 ≤ w) (hw' : w ≤ 1) (hD : ∀ n, D n → w * 24 ≤ n ∧ n < w * 24 + 24) (hF : hs_LF D L R U N L' R' U' N')
    (hT : ∀ j, T' j = T j ∨ (w * 4 ≤ j ∧ j < w * 4 + 4 ∧ (T' j = -1 ∨ D (T' j)))) : hs_LW w T L R U N T' L' R' U' N' := by
  have key : ∀ A A' : Int → Int, hs_fr D A A' → ∀ j, A' j = A j ∨ (w * 24 ≤ j ∧ j < w * 24 + 24 ∧ -1 ≤ A' j ∧ A' j ≤ 47) := by
    intro A A' h j
    rcases h j with e | ⟨e, f⟩
    · exact Or.inl e
    · have := hD j e
      rcases f with f | f
      · exact Or.inr ⟨this.1, this.2, by omega, by omega⟩
      · have g := hD _ f
        exact Or.inr ⟨this.1, this.2, by omega, by omega⟩
  refine ⟨fun j => ?_, key _ _ hF.1, key _ _ hF.2.1, key _ _ hF.2.2.1, fun j e => ?_⟩
  · rcases hT j with e | ⟨e, f, g⟩
    · exact Or.inl e
    · rcases g with g | g
      · exact Or.inr ⟨e, f, by omega, by omega⟩
      · have := hD _ g
        exact Or.inr ⟨e, f, by omega, by omega⟩
  · rcases hF.2.2.2 j with f | f
    · exact f
    · have := hD j f; omega
theorem hs_LL_other {w w' : Int} {K H T L R U N T' L' R' U' N' : Int → Int} (hw2 : 0 ≤ w') (hne : w' ≠ w) (hk : hs_LW w T L R U N T' L' R' U' N') (h : hs_LL K H T L R U N w') : hs_LL K H T' L' R' U' N' w' := by
  intro q q0 q1
  refine hs_LT_congr hw2 (h q q0 q1) (fun _ _ _ => Iff.rfl) (fun _ _ _ _ => rfl) ?_ ?_ ?_ ?_ ?_
  · rcases hk.1 (w' * 4 + q) with e | e
    · exact e
    · omega
  · intro n hn
    have a := hn.1
    have b := hn.2.1
    rcases hk.2.1 n with e | e
    · exact e
    · omega
  · intro n hn
    have a := hn.1
    have b := hn.2.1
    rcases hk.2.2.1 n with e | e
    · exact e
    · omega
  · intro n hn
    have a := hn.1
    have b := hn.2.1
    rcases hk.2.2.2.1 n with e | e
    · exact e
    · omega
  · intro n hn
    have a := hn.1
    have b := hn.2.1
    exact hk.2.2.2.2 n (by omega)
def hs_LR (T L R U : Int → Int) : Prop := hs_rg T 8 (-1) 47 ∧ hs_rg L 48 (-1) 47 ∧ hs_rg R 48 (-1) 47 ∧ hs_rg U 48 (-1) 47
theorem hs_LW_rg {w : Int} {T L R U N T' L' R' U' N' : Int → Int} (hk : hs_LW w T L R U N T' L' R' U' N') (h : hs_LR T L R U) : hs_LR T' L' R' U' := by
  refine ⟨fun j a b => ?_, fun j a b => ?_, fun j a b => ?_, fun j a b => ?_⟩
  · rcases hk.1 j with e | e
    · rw [e]; exact h.1 j a b
    · exact e.2.2
  · rcases hk.2.1 j with e | e
    · rw [e]; exact h.2.1 j a b
    · exact e.2.2
  · rcases hk.2.2.1 j with e | e
    · rw [e]; exact h.2.2.1 j a b
    · exact e.2.2
  · rcases hk.2.2.2.1 j with e | e
    · rw [e]; exact h.2.2.2 j a b
    · exact e.2.2
/-- the array heap of b is emptied into that of a -/
theorem hs_jal {post : SX → Prop} {k H S0 P0 : Int → Int} {w a b m : Int} (kr : hs_kr k) (hw : 0 ≤ w) (hw' : w ≤ 1) (ha : 0 ≤ a) (ha' : a ≤ 3) (hb : 0 ≤ b) (hb' : b ≤ 3) (hab : a ≠ b) (m1 : m ≤ 24)
    (h0 : hs_AB H S0 P0 b ((w * 4 + b) * 24) (w * 24) m) :
    ∀ (n : Nat) (S F P : Int → Int) (p : Int), hs_AA (hs_K k) (fun i => if H i = b then (if P0 (w * 24 + i) < p then a else -1) else H i) S F P w → (∀ p', 0 ≤ p' → p' < 24 → S ((w * 4 + b) * 24 + p') = S0 ((w * 4 + b) * 24 + p')) → 0 ≤ p → p ≤ m → m - p < n →
    (∀ S' F' P' : Int → Int, hs_AA (hs_K k) (fun i => if H i = b then a else H i) S' F' P' w → hs_AK w S F P S' F' P' → post (hs_e k, gv2, gv3, hs_e S', hs_e F', hs_e P', gv7, gv8, gv9, gv10, gv11, gv12, gv13, gv14, gv15, gv16, gv17, gv18, gv19, gv20, gv21, gv22)) →
    wX_joinArrayHeaps_27 post (hs_i w) (hs_i a) (hs_i (w * 4 + b)) (hs_i m) n (hs_i p) (hs_e k) gv2 gv3 (hs_e S) (hs_e F) (hs_e P) gv7 gv8 gv9 gv10 gv11 gv12 gv13 gv14 gv15 gv16 gv17 gv18 gv19 gv20 gv21 gv22 := by
  intro n
  induction n with
  | zero => intro S F P p _ _ x y z; omega
  | succ n ih =>
    intro S F P p hA hS p0 p1 hn hK
    refine hs_le m p (fun c => ?_) (fun c => ?_)
    · refine hK S F P (fun q q0 q1 => hs_AH_congr (hA q q0 q1) (fun i i0 i1 => ?_) (fun _ _ _ _ => rfl) (fun _ _ _ => rfl) rfl (fun _ _ _ _ => rfl)) hs_AK_refl
      by_cases z : H i = b
      · have := (h0.2 i i0 i1 z).2.1
        rw [if_pos z, if_pos z, if_pos (by omega)]
      · rw [if_neg z, if_neg z]
    · have x := h0.1 p p0 c
      refine hs_rd ((w * 4 + b) * 24 + p) (hs_x24 _ _) (by omega) (by omega) (by decide) ?_
      rw [hS p p0 (by omega)]
      generalize hx : S0 ((w * 4 + b) * 24 + p) = y at *
      have hHy : (fun i => if H i = b then (if P0 (w * 24 + i) < p then a else -1) else H i) y = -1 := by
        show (if H y = b then (if P0 (w * 24 + y) < p then a else -1) else H y) = -1
        rw [if_pos x.2.2.1, if_neg (by omega)]
      have nxt : ∀ i, 0 ≤ i → i < 24 → ∀ q, ((fun i => if H i = b then (if P0 (w * 24 + i) < p + 1 then a else -1) else H i) i = q ↔ hs_u (fun i => if H i = b then (if P0 (w * 24 + i) < p then a else -1) else H i) y a i = q) := by
        intro i i0 i1 q
        by_cases e : i = y
        · rw [hs_ue e]
          have v : (fun i => if H i = b then (if P0 (w * 24 + i) < p + 1 then a else -1) else H i) i = a := by
            show (if H i = b then (if P0 (w * 24 + i) < p + 1 then a else -1) else H i) = a
            rw [e, if_pos x.2.2.1, if_pos (by omega)]
          rw [v]
        · rw [hs_un e]
          by_cases z : H i = b
          · have g := h0.2 i i0 i1 z
            have ne : P0 (w * 24 + i) ≠ p := by
              intro t
              rw [t, hx] at g
              exact e g.2.2.symm
            have v1 : (fun i => if H i = b then (if P0 (w * 24 + i) < p + 1 then a else -1) else H i) i = (if P0 (w * 24 + i) < p then a else -1) := by
              show (if H i = b then (if P0 (w * 24 + i) < p + 1 then a else -1) else H i) = _
              rw [if_pos z]
              by_cases t : P0 (w * 24 + i) < p
              · rw [if_pos t, if_pos (by omega)]
              · rw [if_neg t, if_neg (by omega)]
            rw [v1, if_pos z]
          · have v1 : (fun i => if H i = b then (if P0 (w * 24 + i) < p + 1 then a else -1) else H i) i = H i := if_neg z
            rw [v1, if_neg z]
      generalize hHc : (fun i => if H i = b then (if P0 (w * 24 + i) < p then a else -1) else H i) = Hc at *
      refine hs_addA kr hw hw' ha ha' x.1 x.2.1 (by omega) hA ?_
      intro S1 F1 P1 e1 e2 e3 e4
      refine nm_r (hs_1 p) (ih S1 F1 P1 (p + 1) ?_ ?_ (by omega) (by omega) (by omega) ?_)
      · intro q q0 q1
        exact hs_AH_congr (e1 q q0 q1) (fun i i0 i1 => nxt i i0 i1 q) (fun _ _ _ _ => rfl) (fun _ _ _ => rfl) rfl (fun _ _ _ _ => rfl)
      · intro p' a0 a1
        rw [← hS p' a0 a1]
        rcases e2 ((w * 4 + b) * 24 + p') with g | g
        · exact g
        · omega
      · intro S2 F2 P2 f1 f2
        exact hK S2 F2 P2 f1 (hs_AK_trans (hs_AK_of ha ha' e2 e3 e4) f2)
theorem hs_joinA {post : SX → Prop} {k H S F P : Int → Int} {w a b : Int} (kr : hs_kr k) (hw : 0 ≤ w) (hw' : w ≤ 1) (ha : 0 ≤ a) (ha' : a ≤ 3) (hb : 0 ≤ b) (hb' : b ≤ 3) (hab : a ≠ b) (h : hs_AA (hs_K k) H S F P w)
    (hK : ∀ S' F' P' : Int → Int, hs_AA (hs_K k) (fun i => if H i = b then a else H i) S' F' P' w → hs_AK w S F P S' F' P' → post (hs_e k, gv2, gv3, hs_e S', hs_e F', hs_e P', gv7, gv8, gv9, gv10, gv11, gv12, gv13, gv14, gv15, gv16, gv17, gv18, gv19, gv20, gv21, gv22)) :
    wpX_joinArrayHeaps post (hs_e k, gv2, gv3, hs_e S, hs_e F, hs_e P, gv7, gv8, gv9, gv10, gv11, gv12, gv13, gv14, gv15, gv16, gv17, gv18, gv19, gv20, gv21, gv22) (hs_i w) (hs_i a) (hs_i b) := by
  have hh := h b hb hb'
  have cr := hs_c_r H b
  unfold wpX_joinArrayHeaps
  dsimp only
  refine nm_r (hs_x4 w b) (hs_rd (w * 4 + b) rfl (by omega) (by omega) (by decide) (hs_wr (w * 4 + b) 0 rfl hs_l0.symm (by omega) (by omega) (by decide) ⟨26, ?_⟩))
  rw [← hs_l0]
  have f24 : F (w * 4 + b) ≤ 24 ∧ 0 ≤ F (w * 4 + b) := by rw [hh.1]; omega
  refine hs_jal (H := H) (S0 := S) (P0 := P) kr hw hw' ha ha' hb hb' hab f24.1 hh.2.1 26 S _ P 0 ?_ (fun _ _ _ => rfl) (by omega) (by omega) (by omega) ?_
  · intro q q0 q1
    by_cases e : q = b
    · rw [e]
      unfold hs_AH
      rw [hs_us]
      have c0 : hs_c (fun i => if H i = b then (if P (w * 24 + i) < 0 then a else -1) else H i) b = 0 := by
        have : hs_c (fun i => if H i = b then (if P (w * 24 + i) < 0 then a else -1) else H i) b = hs_sum (fun _ => 0) 24 := by
          refine hs_sum_congr 24 fun j _ _ => if_neg ?_
          show ¬ (if H j = b then (if P (w * 24 + j) < 0 then a else -1) else H j) = b
          by_cases z : H j = b
          · rw [if_pos z]
            split
            · exact hab
            · omega
          · rw [if_neg z]; exact z
        rw [this, hs_sum_const]; rfl
      rw [c0]
      refine ⟨rfl, ⟨fun p x y => absurd y (by omega), fun i x y z => ?_⟩, fun p x y => absurd y (by omega)⟩
      exact absurd z (hs_c_0 c0 x y)
    · refine hs_AH_congr (h q q0 q1) (fun i i0 i1 => ?_) (fun _ _ _ _ => rfl) (fun _ _ _ => rfl) (hs_un (by omega)) (fun _ _ _ _ => rfl)
      by_cases z : H i = b
      · have g := (hh.2.1.2 i i0 i1 z).1
        rw [if_pos z, if_neg (by omega)]
        exact ⟨fun y => by omega, fun y => by omega⟩
      · rw [if_neg z]
  · intro S' F' P' e1 e2
    refine hK S' F' P' e1 (hs_AK_trans ⟨fun _ => Or.inl rfl, fun j e => hs_un (by omega), fun _ _ => rfl⟩ e2)
end HS31
end
section
section HS32
/-! all engines together -/
def hs_PR (T C X B : Int → Int) : Prop := hs_rg T 4 (-1) 23 ∧ hs_rg C 24 (-1) 23 ∧ hs_rg X 24 (-1) 23 ∧ hs_rg B 24 (-1) 23
def hs_BG (T C X U : Int → Int) : Prop := hs_rg T 20 (-1) 23 ∧ hs_rg C 24 (-1) 23 ∧ hs_rg X 24 (-1) 23 ∧ hs_rg U 24 (-1) 23
def hs_EN (K H S F P lr ll lR lu ln pr pc pn pb tr tc tn tu ni nn wi : Int → Int) : Prop :=
  (hs_AA K H S F P 0 ∧ hs_AA K H S F P 1 ∧ hs_rg S 192 0 23) ∧ (hs_LL K H lr ll lR lu ln 0 ∧ hs_LL K H lr ll lR lu ln 1 ∧ hs_LR lr ll lR lu) ∧
  (hs_PA K H pr pc pn pb ∧ hs_PR pr pc pn pb) ∧ (hs_BA K H tr tc tn tu ni ∧ hs_PM ni nn ∧ hs_BG tr tc tn tu) ∧ (hs_TA K H wi ∧ hs_rg wi 192 (-1) 23)
theorem hs_fr_rg {D : Int → Prop} {A A' : Int → Int} {n : Int} (h : hs_rg A n (-1) 23) (hF : hs_fr D A A') (hD : ∀ n, D n → 0 ≤ n ∧ n < 24) : hs_rg A' n (-1) 23 := by
  intro j a b
  rcases hF j with e | ⟨_, e⟩
  · rw [e]; exact h j a b
  · rcases e with e | e
    · omega
    · have := hD _ e; omega
theorem hs_EN_congr {K K' H H' S F P lr ll lR lu ln pr pc pn pb tr tc tn tu ni nn wi : Int → Int} (h : hs_EN K H S F P lr ll lR lu ln pr pc pn pb tr tc tn tu ni nn wi) (hH : ∀ i, 0 ≤ i → i < 24 → H' i = H i) (hK : ∀ i, 0 ≤ i → i < 24 → 0 ≤ H i → K' i = K i) : hs_EN K' H' S F P lr ll lR lu ln pr pc pn pb tr tc tn tu ni nn wi := by
  obtain ⟨⟨a0, a1, a2⟩, ⟨l0, l1, l2⟩, ⟨p0, p1⟩, ⟨b0, b1, b2⟩, ⟨t0, t1⟩⟩ := h
  have hq : ∀ q, ∀ i, 0 ≤ i → i < 24 → (H' i = q ↔ H i = q) := fun q i x y => by rw [hH i x y]
  have hk : ∀ q, 0 ≤ q → ∀ i, 0 ≤ i → i < 24 → H i = q → K' i = K i := fun q z i x y e => hK i x y (by omega)
  refine ⟨⟨?_, ?_, a2⟩, ⟨?_, ?_, l2⟩, ⟨?_, p1⟩, ⟨?_, b1, b2⟩, ⟨?_, t1⟩⟩
  · intro q q0 q1
    exact hs_AH_congr (a0 q q0 q1) (hq q) (hk q q0) (fun _ _ _ => rfl) rfl (fun _ _ _ _ => rfl)
  · intro q q0 q1
    exact hs_AH_congr (a1 q q0 q1) (hq q) (hk q q0) (fun _ _ _ => rfl) rfl (fun _ _ _ _ => rfl)
  · intro q q0 q1
    exact hs_LT_congr (by omega) (l0 q q0 q1) (hq q) (hk q q0) rfl (fun _ _ => rfl) (fun _ _ => rfl) (fun _ _ => rfl) (fun _ _ => rfl)
  · intro q q0 q1
    exact hs_LT_congr (by omega) (l1 q q0 q1) (hq q) (hk q q0) rfl (fun _ _ => rfl) (fun _ _ => rfl) (fun _ _ => rfl) (fun _ _ => rfl)
  · intro q q0 q1
    exact hs_PT_congr (p0 q q0 q1) (hq q) (hk q q0) rfl (fun _ _ => rfl) (fun _ _ => rfl) (fun _ _ => rfl)
  · intro q q0 q1
    refine hs_BT_congr (b0 q q0 q1) ?_ (hq q) ?_ (fun _ _ _ => rfl) (fun _ _ => rfl) (fun _ _ => rfl) (fun _ _ => rfl)
    · intro n
      constructor
      · intro c; exact ⟨c.1, c.2.1, (hq q _ (b1 n c.1 c.2.1).1 (b1 n c.1 c.2.1).2.1).mp c.2.2⟩
      · intro c; exact ⟨c.1, c.2.1, (hq q _ (b1 n c.1 c.2.1).1 (b1 n c.1 c.2.1).2.1).mpr c.2.2⟩
    · intro n c
      exact hk q q0 _ (b1 n c.1 c.2.1).1 (b1 n c.1 c.2.1).2.1 c.2.2
  · intro q q0 q1
    exact hs_TN_congr (t0 q q0 q1) (hq q) (hk q q0) (fun _ _ _ => rfl)
theorem hs_attach {post : SX → Prop} {k h c S F P lr ll lR lu ln pr pc pn pb tr tc tn tu ni nn wi : Int → Int} {q x key : Int} (kr : hs_kr k) (hq : 0 ≤ q) (hq' : q ≤ 3) (x0 : 0 ≤ x) (x1 : x < 24) (hx : ¬ (0 ≤ h x)) (y0 : -999 ≤ key) (y1 : key ≤ 999)
    (E : hs_EN (hs_K k) h S F P lr ll lR lu ln pr pc pn pb tr tc tn tu ni nn wi)
    (hK : ∀ S1 F1 P1 lr1 ll1 lR1 lu1 ln1 pr1 pc1 pn1 pb1 tr1 tc1 tn1 tu1 ni1 nn1 wi1 : Int → Int, hs_EN (hs_K (hs_u k x key)) (hs_u h x q) S1 F1 P1 lr1 ll1 lR1 lu1 ln1 pr1 pc1 pn1 pb1 tr1 tc1 tn1 tu1 ni1 nn1 wi1 → post (hs_e (hs_u k x key), hs_e (hs_u h x q), hs_e (hs_u c q (c q + 1)), hs_e S1, hs_e F1, hs_e P1, hs_e lr1, hs_e ll1, hs_e lR1, hs_e lu1, hs_e ln1, hs_e pr1, hs_e pc1, hs_e pn1, hs_e pb1, hs_e tr1, hs_e tc1, hs_e tn1, hs_e tu1, hs_e ni1, hs_e nn1, hs_e wi1)) :
    wpX_attach post (hs_e k, hs_e h, hs_e c, hs_e S, hs_e F, hs_e P, hs_e lr, hs_e ll, hs_e lR, hs_e lu, hs_e ln, hs_e pr, hs_e pc, hs_e pn, hs_e pb, hs_e tr, hs_e tc, hs_e tn, hs_e tu, hs_e ni, hs_e nn, hs_e wi) (hs_i q) (hs_i x) (hs_i key) := by
  have kr' : hs_kr (hs_u k x key) := by
    intro i a b
    by_cases e : i = x
    · rw [hs_ue e]; exact ⟨y0, y1⟩
    · rw [hs_un e]; exact kr i a b
  have E := hs_EN_congr (K' := hs_K (hs_u k x key)) E (fun _ _ _ => rfl) (fun i a b z => by
    have e : i ≠ x := fun t => hx (by rw [← t]; exact z)
    unfold hs_K
    rw [hs_un e])
  obtain ⟨⟨a0, a1, a2⟩, ⟨l0, l1, l2⟩, ⟨p0, p1⟩, ⟨b0, b1, b2⟩, ⟨t0, t1⟩⟩ := E
  generalize hk' : hs_u k x key = k' at *
  have other : ∀ q', 0 ≤ q' → q' ≠ q → ∀ i, 0 ≤ i → i < 24 → (hs_u h x q i = q' ↔ h i = q') := by
    intro q' z0 e i c0 c1
    by_cases z : i = x
    · rw [hs_ue z, z]
      exact ⟨fun y => absurd y.symm e, fun y => by omega⟩
    · rw [hs_un z]
  unfold wpX_attach
  dsimp only
  refine hs_wr x key rfl rfl x0 (by omega) (by decide) (hs_wr x q rfl rfl x0 (by omega) (by decide) ⟨hs_in hq (by omega) (by decide), ?_⟩)
  rw [hs_get (A := c) hq (by omega), hs_1, hk']
  refine hs_wr q (c q + 1) rfl rfl hq (by omega) (by decide) ⟨3, ?_⟩
  rw [← hs_l0]
  refine hs_le 2 0 (fun z => absurd z (by decide)) (fun _ => hs_addA kr' (by omega) (by omega) hq hq' x0 x1 hx a0 ?_)
  intro S1 F1 P1 e1 e2 e3 e4
  have k1 := hs_AK_of hq hq' e2 e3 e4
  have a1 := hs_AA_other (by omega) (by omega) (by decide) k1 a1
  have a2 := hs_AK_rg k1 a2
  refine hs_addL kr' (by omega) (by omega) hq hq' x0 x1 hx l0 ?_
  intro T1 L1 R1 U1 N1 f1 f2 f3 f4
  have hT : ∀ (w : Int) (T T' : Int → Int) (D : Int → Prop), (∀ j, j ≠ w * 4 + q → T' j = T j) → (T' (w * 4 + q) = -1 ∨ D (T' (w * 4 + q))) → ∀ j, T' j = T j ∨ (w * 4 ≤ j ∧ j < w * 4 + 4 ∧ (T' j = -1 ∨ D (T' j))) := by
    intro w T T' D u v j
    by_cases e : j = w * 4 + q
    · rw [e]; exact Or.inr ⟨by omega, by omega, v⟩
    · exact Or.inl (u j e)
  have w1 := hs_LW_of (by omega) (by omega) hs_LD_r f2 (hT _ _ _ _ f3 f4)
  have l1 := hs_LL_other (by omega) (by decide) w1 l1
  have l2 := hs_LW_rg w1 l2
  refine nm_r (e' := hs_i 1) (by decide) ?_
  refine hs_le 2 1 (fun z => absurd z (by decide)) (fun _ => hs_addA kr' (by omega) (by omega) hq hq' x0 x1 hx a1 ?_)
  intro S2 F2 P2 g1 g2 g3 g4
  have k2 := hs_AK_of hq hq' g2 g3 g4
  have e1 := hs_AA_other (by omega) (by omega) (by decide) k2 e1
  have a2 := hs_AK_rg k2 a2
  refine hs_addL kr' (by omega) (by omega) hq hq' x0 x1 hx l1 ?_
  intro T2 L2 R2 U2 N2 j1 j2 j3 j4
  have w2 := hs_LW_of (by omega) (by omega) hs_LD_r j2 (hT _ _ _ _ j3 j4)
  have f1 := hs_LL_other (by omega) (by decide) w2 f1
  have l2 := hs_LW_rg w2 l2
  refine nm_r (e' := hs_i 2) (by decide) ?_
  refine hs_le 2 2 (fun _ => hs_addP kr' hq hq' x0 x1 hx p0 ?_) (fun z => absurd z (by decide))
  intro pr1 pc1 pn1 pb1 m1 m2 m3 m4
  have mr : hs_PR pr1 pc1 pn1 pb1 := by
    refine ⟨fun j u v => ?_, hs_fr_rg p1.2.1 m2.1 hs_PD_r, hs_fr_rg p1.2.2.1 m2.2.1 hs_PD_r, hs_fr_rg p1.2.2.2 m2.2.2 hs_PD_r⟩
    by_cases e : j = q
    · rw [e]
      rcases m4 with y | y
      · omega
      · have := y.1; have := y.2.1; omega
    · rw [m3 j e]; exact p1.1 j u v
  refine hs_addB kr' hq hq' x0 x1 hx b1 b0 ?_
  intro tr1 tc1 tn1 tu1 n1 n2
  have nr : hs_BG tr1 tc1 tn1 tu1 := by
    refine ⟨fun j u v => ?_, hs_fr_rg b2.2.1 n2.1 hs_BD_r, hs_fr_rg b2.2.2.1 n2.2.1 hs_BD_r, hs_fr_rg b2.2.2.2 n2.2.2.1 hs_BD_r⟩
    rcases n2.2.2.2 j with y | y
    · rw [y]; exact b2.1 j u v
    · rcases y.2.2 with z | z
      · omega
      · have := z.1; have := z.2.1; omega
  refine hs_seat (H' := hs_u h x q) kr' hq hq' x0 x1 (t0 q hq hq') t1 (fun i _ _ e => by rw [hs_un e]) (by rw [hs_us, if_pos rfl]) ?_
  intro W o1 o2
  refine hK S2 F2 P2 T2 L2 R2 U2 N2 pr1 pc1 pn1 pb1 tr1 tc1 tn1 tu1 ni nn W ⟨⟨e1, g1, a2⟩, ⟨f1, j1, l2⟩, ⟨m1, mr⟩, ⟨n1, b1, nr⟩, ⟨?_, hs_fW_rg t1 o2⟩⟩
  intro q' z0 z1
  by_cases e : q' = q
  · rw [e]; exact o1
  · exact hs_TN_keep (t0 q' z0 z1) e (other q' z0 e) o2
theorem hs_detach {post : SX → Prop} {k h c S F P lr ll lR lu ln pr pc pn pb tr tc tn tu ni nn wi : Int → Int} {x : Int} (kr : hs_kr k) (x0 : 0 ≤ x) (x1 : x < 24) (hx : 0 ≤ h x) (hx' : h x ≤ 3)
    (E : hs_EN (hs_K k) h S F P lr ll lR lu ln pr pc pn pb tr tc tn tu ni nn wi)
    (hK : ∀ S1 F1 P1 lr1 ll1 lR1 lu1 ln1 pr1 pc1 pn1 pb1 tr1 tc1 tn1 tu1 ni1 nn1 wi1 : Int → Int, hs_EN (hs_K k) (hs_u h x (-1)) S1 F1 P1 lr1 ll1 lR1 lu1 ln1 pr1 pc1 pn1 pb1 tr1 tc1 tn1 tu1 ni1 nn1 wi1 → post (hs_e k, hs_e (hs_u h x (-1)), hs_e (hs_u c (h x) (c (h x) - 1)), hs_e S1, hs_e F1, hs_e P1, hs_e lr1, hs_e ll1, hs_e lR1, hs_e lu1, hs_e ln1, hs_e pr1, hs_e pc1, hs_e pn1, hs_e pb1, hs_e tr1, hs_e tc1, hs_e tn1, hs_e tu1, hs_e ni1, hs_e nn1, hs_e wi1)) :
    wpX_detach post (hs_e k, hs_e h, hs_e c, hs_e S, hs_e F, hs_e P, hs_e lr, hs_e ll, hs_e lR, hs_e lu, hs_e ln, hs_e pr, hs_e pc, hs_e pn, hs_e pb, hs_e tr, hs_e tc, hs_e tn, hs_e tu, hs_e ni, hs_e nn, hs_e wi) (hs_i x) := by
  obtain ⟨⟨a0, a1, a2⟩, ⟨l0, l1, l2⟩, ⟨p0, p1⟩, ⟨b0, b1, b2⟩, ⟨t0, t1⟩⟩ := E
  unfold wpX_detach
  dsimp only
  refine hs_rd x rfl x0 (by omega) (by decide) ⟨3, ?_⟩
  rw [← hs_l0]
  generalize hq0 : h x = q at *
  have hq := hx
  have hq' := hx'
  have other : ∀ q', 0 ≤ q' → q' ≠ q → ∀ i, 0 ≤ i → i < 24 → (hs_u h x (-1) i = q' ↔ h i = q') := by
    intro q' z0 e i c0 c1
    by_cases z : i = x
    · rw [hs_ue z, z]
      exact ⟨fun y => by omega, fun y => by omega⟩
    · rw [hs_un z]
  refine hs_le 2 0 (fun z => absurd z (by decide)) (fun _ => hs_dropA kr (by omega) (by omega) hq hq' x0 x1 hq0 a0 ?_)
  intro S1 F1 P1 e1 e2 e3 e4
  have k1 := hs_AK_of hq hq' e2 e3 e4
  have a1 := hs_AA_other (by omega) (by omega) (by decide) k1 a1
  have a2 := hs_AK_rg k1 a2
  refine hs_dropL kr (by omega) (by omega) hq hq' x0 x1 hq0 l0 ?_
  intro T1 L1 R1 U1 N1 f1 f2 f3 f4
  have hT : ∀ (w : Int) (T T' : Int → Int) (D : Int → Prop), (∀ j, j ≠ w * 4 + q → T' j = T j) → (T' (w * 4 + q) = -1 ∨ D (T' (w * 4 + q))) → ∀ j, T' j = T j ∨ (w * 4 ≤ j ∧ j < w * 4 + 4 ∧ (T' j = -1 ∨ D (T' j))) := by
    intro w T T' D u v j
    by_cases e : j = w * 4 + q
    · rw [e]; exact Or.inr ⟨by omega, by omega, v⟩
    · exact Or.inl (u j e)
  have w1 := hs_LW_of (by omega) (by omega) hs_LD_r f2 (hT _ _ _ _ f3 f4)
  have l1 := hs_LL_other (by omega) (by decide) w1 l1
  have l2 := hs_LW_rg w1 l2
  refine nm_r (e' := hs_i 1) (by decide) ?_
  refine hs_le 2 1 (fun z => absurd z (by decide)) (fun _ => hs_dropA kr (by omega) (by omega) hq hq' x0 x1 hq0 a1 ?_)
  intro S2 F2 P2 g1 g2 g3 g4
  have k2 := hs_AK_of hq hq' g2 g3 g4
  have e1 := hs_AA_other (by omega) (by omega) (by decide) k2 e1
  have a2 := hs_AK_rg k2 a2
  refine hs_dropL kr (by omega) (by omega) hq hq' x0 x1 hq0 l1 ?_
  intro T2 L2 R2 U2 N2 j1 j2 j3 j4
  have w2 := hs_LW_of (by omega) (by omega) hs_LD_r j2 (hT _ _ _ _ j3 j4)
  have f1 := hs_LL_other (by omega) (by decide) w2 f1
  have l2 := hs_LW_rg w2 l2
  refine nm_r (e' := hs_i 2) (by decide) ?_
  refine hs_le 2 2 (fun _ => hs_dropP kr hq hq' x0 x1 hq0 p0 ?_) (fun z => absurd z (by decide))
  intro pr1 pc1 pn1 pb1 m1 m2 m3 m4
  have mr : hs_PR pr1 pc1 pn1 pb1 := by
    refine ⟨fun j u v => ?_, hs_fr_rg p1.2.1 m2.1 hs_PD_r, hs_fr_rg p1.2.2.1 m2.2.1 hs_PD_r, hs_fr_rg p1.2.2.2 m2.2.2 hs_PD_r⟩
    by_cases e : j = q
    · rw [e]
      rcases m4 with y | y
      · omega
      · have := y.1; have := y.2.1; omega
    · rw [m3 j e]; exact p1.1 j u v
  refine hs_dropB kr hq hq' x0 x1 hq0 b1 b0 ?_
  intro tr1 tc1 tn1 tu1 ni1 nn1 n1 nP n2
  have nr : hs_BG tr1 tc1 tn1 tu1 := by
    refine ⟨fun j u v => ?_, hs_fr_rg b2.2.1 n2.1 hs_BD_r, hs_fr_rg b2.2.2.1 n2.2.1 hs_BD_r, hs_fr_rg b2.2.2.2 n2.2.2.1 hs_BD_r⟩
    rcases n2.2.2.2 j with y | y
    · rw [y]; exact b2.1 j u v
    · rcases y.2.2 with z | z
      · omega
      · have := z.1; have := z.2.1; omega
  show wpX_seat _ _ _ _ (-1)
  rw [← hs_lm1]
  refine hs_seat (H' := hs_u h x (-1)) kr hq hq' x0 x1 (t0 q hq hq') t1 (fun i _ _ e => by rw [hs_un e]) (by rw [hs_us, if_neg (by omega)]) ?_
  intro W o1 o2
  dsimp only
  refine hs_wr x (-1) rfl rfl x0 (by omega) (by decide) ⟨hs_in hq (by omega) (by decide), ?_⟩
  rw [hs_get (A := c) hq (by omega), hs_s1]
  refine hs_wr q (c q - 1) rfl rfl hq (by omega) (by decide) ?_
  refine hK S2 F2 P2 T2 L2 R2 U2 N2 pr1 pc1 pn1 pb1 tr1 tc1 tn1 tu1 ni1 nn1 W ⟨⟨e1, g1, a2⟩, ⟨f1, j1, l2⟩, ⟨m1, mr⟩, ⟨n1, nP, nr⟩, ⟨?_, hs_fW_rg t1 o2⟩⟩
  intro q' z0 z1
  by_cases e : q' = q
  · rw [e]; exact o1
  · exact hs_TN_keep (t0 q' z0 z1) e (other q' z0 e) o2
end HS32
end
section
section HS33
theorem hs_j70 {post : Int32 → SX → Prop} {k h c S F P lr ll lR lu ln pr pc pn pb tr tc tn tu ni nn wi : Int → Int} {a b : Int} (ha : 0 ≤ a) (ha' : a ≤ 3) (hb : 0 ≤ b) (hb' : b ≤ 3) (hab : a ≠ b) (hh : ∀ i, 0 ≤ i → i < 24 → -1 ≤ h i ∧ h i ≤ 3)
    (hK : ∀ H : Int → Int, (∀ i, 0 ≤ i → i < 24 → H i = if h i = b then a else h i) → post (hs_i (c a + c b)) (hs_e k, hs_e H, hs_e (hs_u (hs_u c a (c a + c b)) b 0), hs_e S, hs_e F, hs_e P, hs_e lr, hs_e ll, hs_e lR, hs_e lu, hs_e ln, hs_e pr, hs_e pc, hs_e pn, hs_e pb, hs_e tr, hs_e tc, hs_e tn, hs_e tu, hs_e ni, hs_e nn, hs_e wi)) :
    ∀ (n : Nat) (H : Int → Int) (i : Int), (∀ j, 0 ≤ j → j < 24 → H j = if j < i ∧ h j = b then a else h j) → 0 ≤ i → i ≤ 24 → 24 - i < n →
    wX_join_70 post (hs_i a) (hs_i b) n (hs_i i) (hs_e k) (hs_e H) (hs_e c) (hs_e S) (hs_e F) (hs_e P) (hs_e lr) (hs_e ll) (hs_e lR) (hs_e lu) (hs_e ln) (hs_e pr) (hs_e pc) (hs_e pn) (hs_e pb) (hs_e tr) (hs_e tc) (hs_e tn) (hs_e tu) (hs_e ni) (hs_e nn) (hs_e wi) := by
  intro n
  induction n with
  | zero => intro H i _ x y z; omega
  | succ n ih =>
    intro H i hH i0 i1 hn
    refine hs_le 24 i (fun z => ?_) (fun z => ⟨hs_in i0 (by omega) (by decide), ?_⟩)
    · refine ⟨hs_in ha (by omega) (by decide), hs_in hb (by omega) (by decide), ?_⟩
      rw [hs_get (A := c) (x := a) ha (by omega), hs_get (A := c) (x := b) hb (by omega), hs_add]
      refine hs_wr a (c a + c b) rfl rfl ha (by omega) (by decide) (hs_wr b 0 rfl hs_l0.symm hb (by omega) (by decide) ⟨hs_in ha (by omega) (by decide), ?_⟩)
      rw [hs_get ha (by omega), hs_un hab, hs_us]
      refine hK H (fun j j0 j1 => ?_)
      rw [hH j j0 j1]
      by_cases y : h j = b
      · rw [if_pos y, if_pos ⟨by omega, y⟩]
      · rw [if_neg y, if_neg (fun v => y v.2)]
    · have e : H i = h i := by rw [hH i i0 z]; exact if_neg (fun v => by omega)
      have r := hh i i0 z
      rw [hs_get (A := H) i0 (by omega), e]
      refine hs_eq (h i) b (fun y => ?_) (fun y => ?_)
      · refine hs_wr i a rfl rfl i0 (by omega) (by decide) (nm_r (hs_1 i) (ih _ (i + 1) (fun j j0 j1 => ?_) (by omega) (by omega) (by omega)))
        by_cases v : j = i
        · rw [hs_ue v, v, if_pos ⟨by omega, y⟩]
        · rw [hs_un v, hH j j0 j1]
          by_cases u : j < i ∧ h j = b
          · rw [if_pos u, if_pos ⟨by omega, u.2⟩]
          · rw [if_neg u, if_neg (fun t => u ⟨by omega, t.2⟩)]
      · refine nm_r (hs_1 i) (ih _ (i + 1) (fun j j0 j1 => ?_) (by omega) (by omega) (by omega))
        rw [hH j j0 j1]
        by_cases u : j < i ∧ h j = b
        · rw [if_pos u, if_pos ⟨by omega, u.2⟩]
        · rw [if_neg u, if_neg (fun t => ?_)]
          have : j ≠ i := fun v => y (by rw [← v]; exact t.2)
          exact u ⟨by omega, t.2⟩
theorem hs_join {post : Int32 → SX → Prop} {k h c S F P lr ll lR lu ln pr pc pn pb tr tc tn tu ni nn wi : Int → Int} {a b : Int} (kr : hs_kr k) (ha : 0 ≤ a) (ha' : a ≤ 3) (hb : 0 ≤ b) (hb' : b ≤ 3) (hab : a ≠ b) (hh : ∀ i, 0 ≤ i → i < 24 → -1 ≤ h i ∧ h i ≤ 3)
    (E : hs_EN (hs_K k) h S F P lr ll lR lu ln pr pc pn pb tr tc tn tu ni nn wi)
    (hK : ∀ H S1 F1 P1 lr1 ll1 lR1 lu1 ln1 pr1 pc1 pn1 pb1 tr1 tc1 tn1 tu1 ni1 nn1 wi1 : Int → Int, hs_EN (hs_K k) H S1 F1 P1 lr1 ll1 lR1 lu1 ln1 pr1 pc1 pn1 pb1 tr1 tc1 tn1 tu1 ni1 nn1 wi1 → (∀ i, 0 ≤ i → i < 24 → H i = if h i = b then a else h i) → post (hs_i (c a + c b)) (hs_e k, hs_e H, hs_e (hs_u (hs_u c a (c a + c b)) b 0), hs_e S1, hs_e F1, hs_e P1, hs_e lr1, hs_e ll1, hs_e lR1, hs_e lu1, hs_e ln1, hs_e pr1, hs_e pc1, hs_e pn1, hs_e pb1, hs_e tr1, hs_e tc1, hs_e tn1, hs_e tu1, hs_e ni1, hs_e nn1, hs_e wi1)) :
    ∃ n, wX_join_25 post (hs_i a) (hs_i b) n 0 (hs_e k) (hs_e h) (hs_e c) (hs_e S) (hs_e F) (hs_e P) (hs_e lr) (hs_e ll) (hs_e lR) (hs_e lu) (hs_e ln) (hs_e pr) (hs_e pc) (hs_e pn) (hs_e pb) (hs_e tr) (hs_e tc) (hs_e tn) (hs_e tu) (hs_e ni) (hs_e nn) (hs_e wi) := by
  obtain ⟨⟨a0, a1, a2⟩, ⟨l0, l1, l2⟩, ⟨p0, p1⟩, ⟨b0, b1, b2⟩, ⟨t0, t1⟩⟩ := E
  refine ⟨3, ?_⟩
  rw [← hs_l0]
  have hT : ∀ (w : Int) (T T' : Int → Int) (D : Int → Prop), (∀ j, j ≠ w * 4 + a → j ≠ w * 4 + b → T' j = T j) → (T' (w * 4 + a) = -1 ∨ D (T' (w * 4 + a))) → T' (w * 4 + b) = -1 → ∀ j, T' j = T j ∨ (w * 4 ≤ j ∧ j < w * 4 + 4 ∧ (T' j = -1 ∨ D (T' j))) := by
    intro w T T' D u v t j
    by_cases e : j = w * 4 + a
    · rw [e]; exact Or.inr ⟨by omega, by omega, v⟩
    · by_cases f : j = w * 4 + b
      · rw [f]; exact Or.inr ⟨by omega, by omega, Or.inl t⟩
      · exact Or.inl (u j e f)
  refine hs_le 2 0 (fun z => absurd z (by decide)) (fun _ => hs_joinA kr (by omega) (by omega) ha ha' hb hb' hab a0 ?_)
  intro S1 F1 P1 e1 k1
  have a1 := hs_AA_other (by omega) (by omega) (by decide) k1 a1
  have a2 := hs_AK_rg k1 a2
  refine hs_joinL kr (by omega) (by omega) ha ha' hb hb' hab l0 ?_
  intro T1 L1 R1 U1 N1 f1 f2 f3 f4 f5
  have w1 := hs_LW_of (by omega) (by omega) hs_LD_r f2 (hT _ _ _ _ f3 f4 f5)
  have l1 := hs_LL_other (by omega) (by decide) w1 l1
  have l2 := hs_LW_rg w1 l2
  refine nm_r (e' := hs_i 1) (by decide) ?_
  refine hs_le 2 1 (fun z => absurd z (by decide)) (fun _ => hs_joinA kr (by omega) (by omega) ha ha' hb hb' hab a1 ?_)
  intro S2 F2 P2 g1 k2
  have e1 := hs_AA_other (by omega) (by omega) (by decide) k2 e1
  have a2 := hs_AK_rg k2 a2
  refine hs_joinL kr (by omega) (by omega) ha ha' hb hb' hab l1 ?_
  intro T2 L2 R2 U2 N2 j1 j2 j3 j4 j5
  have w2 := hs_LW_of (by omega) (by omega) hs_LD_r j2 (hT _ _ _ _ j3 j4 j5)
  have f1 := hs_LL_other (by omega) (by decide) w2 f1
  have l2 := hs_LW_rg w2 l2
  refine nm_r (e' := hs_i 2) (by decide) ?_
  refine hs_le 2 2 (fun _ => hs_joinP kr ha ha' hb hb' hab p0 ?_) (fun z => absurd z (by decide))
  intro pr1 pc1 pn1 pb1 m1 m2 m3 m4 m5
  have mr : hs_PR pr1 pc1 pn1 pb1 := by
    refine ⟨fun j u v => ?_, hs_fr_rg p1.2.1 m2.1 hs_PD_r, hs_fr_rg p1.2.2.1 m2.2.1 hs_PD_r, hs_fr_rg p1.2.2.2 m2.2.2 hs_PD_r⟩
    by_cases e : j = a
    · rw [e]
      rcases m4 with y | y
      · omega
      · have := y.1; have := y.2.1; omega
    · by_cases f : j = b
      · rw [f, m5]; omega
      · rw [m3 j e f]; exact p1.1 j u v
  refine hs_joinB kr ha ha' hb hb' hab b1 b0 ?_
  intro tr1 tc1 tn1 tu1 n1 n2
  have nr : hs_BG tr1 tc1 tn1 tu1 := by
    refine ⟨fun j u v => ?_, hs_fr_rg b2.2.1 n2.1 hs_BD_r, hs_fr_rg b2.2.2.1 n2.2.1 hs_BD_r, hs_fr_rg b2.2.2.2 n2.2.2.1 hs_BD_r⟩
    rcases n2.2.2.2 j with y | y
    · rw [y]; exact b2.1 j u v
    · rcases y.2 with z | z
      · omega
      · have := z.1; have := z.2.1; omega
  refine hs_joinT kr ha ha' hb hb' hab t0 t1 ?_
  intro W o1 o2
  have EN1 : hs_EN (hs_K k) (fun i => if h i = b then a else h i) S2 F2 P2 T2 L2 R2 U2 N2 pr1 pc1 pn1 pb1 tr1 tc1 tn1 tu1 ni nn W := ⟨⟨e1, g1, a2⟩, ⟨f1, j1, l2⟩, ⟨m1, mr⟩, ⟨n1, b1, nr⟩, ⟨o1, o2⟩⟩
  refine ⟨26, ?_⟩
  rw [← hs_l0]
  refine hs_j70 ha ha' hb hb' hab hh (fun H hH => hK H _ _ _ _ _ _ _ _ _ _ _ _ _ _ _ _ _ _ _ (hs_EN_congr EN1 hH (fun _ _ _ _ => rfl)) hH) 26 h 0 (fun j _ _ => ?_) (by omega) (by omega) (by omega)
  rw [if_neg (fun v => by omega)]
/-! the first item, by each engine -/
theorem hs_fB {post : Int32 → Prop} {k h c S F P lr ll lR lu ln pr pc pn pb tr tc tn tu ni nn wi : Int → Int} {q : Int} (kr : hs_kr k) (hq : 0 ≤ q) (hq' : q ≤ 3) (E : hs_EN (hs_K k) h S F P lr ll lR lu ln pr pc pn pb tr tc tn tu ni nn wi)
    (hK : ∀ r, hs_mn (hs_K k) h q r → post (hs_i r)) : wpX_firstOfBinomial post (hs_e k, hs_e h, hs_e c, hs_e S, hs_e F, hs_e P, hs_e lr, hs_e ll, hs_e lR, hs_e lu, hs_e ln, hs_e pr, hs_e pc, hs_e pn, hs_e pb, hs_e tr, hs_e tc, hs_e tn, hs_e tu, hs_e ni, hs_e nn, hs_e wi) (hs_i q) := by
  obtain ⟨_, _, _, ⟨b0, b1, b2⟩, _⟩ := E
  have root := hs_BT_root b1 (b0 q hq hq')
  obtain ⟨d, t1, t2, t3, t4⟩ := b0 q hq hq'
  have loop : ∀ (n : Nat) (m o : Int), ((m = -1 ∧ ∀ o', 0 ≤ o' → o' < o → tr (q * 5 + o') = -1) ∨ (0 ≤ m ∧ m < 24 ∧ h m = q ∧ ∀ o', 0 ≤ o' → o' < o → tr (q * 5 + o') ≠ -1 → hs_K k m ≤ hs_K k (ni (tr (q * 5 + o'))))) → 0 ≤ o → o ≤ 5 → 5 - o < n →
      wX_firstOfBinomial_4 post (hs_i q) (hs_e k) (hs_e h) (hs_e c) (hs_e S) (hs_e F) (hs_e P) (hs_e lr) (hs_e ll) (hs_e lR) (hs_e lu) (hs_e ln) (hs_e pr) (hs_e pc) (hs_e pn) (hs_e pb) (hs_e tr) (hs_e tc) (hs_e tn) (hs_e tu) (hs_e ni) (hs_e nn) (hs_e wi) n (hs_i m) (hs_i o) := by
    intro n
    induction n with
    | zero => intro m o _ x y z; omega
    | succ n ih =>
      intro m o hm o0 o5 hn
      refine hs_le 5 o (fun z => hK m ?_) (fun z => hs_rd (q * 5 + o) (hs_x5 _ _) (by omega) (by omega) (by decide) ?_)
      · rcases hm with ⟨x, y⟩ | ⟨x1, x2, x3, x4⟩
        · refine Or.inl ⟨x, fun i i0 i1 e => ?_⟩
          obtain ⟨o', u1, u2, u3, _⟩ := root i i0 i1 e
          exact u3 (y o' u1 (by omega))
        · refine Or.inr ⟨x1, x2, x3, fun i i0 i1 e => ?_⟩
          obtain ⟨o', u1, u2, u3, u4⟩ := root i i0 i1 e
          have := x4 o' u1 (by omega) u3
          omega
      · have rt := t3.2 o o0 (by omega)
        have tb := b2.1 (q * 5 + o) (by omega) (by omega)
        refine hs_eq (tr (q * 5 + o)) (-1) (fun y => nm_r (hs_1 o) (ih m (o + 1) ?_ (by omega) (by omega) (by omega))) (fun y => ?_)
        · rcases hm with ⟨x, v⟩ | ⟨x1, x2, x3, x4⟩
          · refine Or.inl ⟨x, fun o' u1 u2 => ?_⟩
            by_cases e : o' = o
            · rw [e]; exact y
            · exact v o' u1 (by omega)
          · refine Or.inr ⟨x1, x2, x3, fun o' u1 u2 u3 => ?_⟩
            have e : o' ≠ o := fun e => u3 (by rw [e]; exact y)
            exact x4 o' u1 (by omega) u3
        · have rD := rt.resolve_left y
          have rr := hs_BD_r _ rD.1
          have nr := b1 _ rr.1 rr.2
          refine ⟨hs_in rr.1 (by omega) (by decide), ?_⟩
          rw [hs_get (A := ni) rr.1 (by omega)]
          have mb : -1 ≤ m ∧ m < 24 := by rcases hm with x | x <;> omega
          refine hs_bet kr mb.1 mb.2 (by omega) nr.2.1 (nm_r (hs_1 o) (ih _ (o + 1) ?_ (by omega) (by omega) (by omega)))
          have le := hs_bt_le (K := hs_K k) (x := m) (y := ni (tr (q * 5 + o)))
          have g := le.2 (by omega)
          right
          have rg : 0 ≤ hs_bt (hs_K k) m (ni (tr (q * 5 + o))) ∧ hs_bt (hs_K k) m (ni (tr (q * 5 + o))) < 24 ∧ h (hs_bt (hs_K k) m (ni (tr (q * 5 + o)))) = q := by
            rcases hs_bt_r (K := hs_K k) (x := m) (y := ni (tr (q * 5 + o))) with e | e
            · rcases hm with x | x
              · rw [e] at g; exact absurd x.1 g.1
              · rw [e]; exact ⟨x.1, x.2.1, x.2.2.1⟩
            · rw [e]; exact ⟨nr.1, nr.2.1, rD.1.2.2⟩
          refine ⟨rg.1, rg.2.1, rg.2.2, fun o' u1 u2 u3 => ?_⟩
          by_cases e : o' = o
          · rw [e]; exact g.2
          · rcases hm with x | x
            · exact absurd (x.2 o' u1 (by omega)) u3
            · have := x.2.2.2 o' u1 (by omega) u3
              have := (le.1 (by omega)).2
              omega
  unfold wpX_firstOfBinomial
  dsimp only
  refine ⟨6, ?_⟩
  rw [← hs_lm1, ← hs_l0]
  exact loop 6 (-1) 0 (Or.inl ⟨rfl, fun o' x y => by omega⟩) (by omega) (by omega) (by omega)
theorem hs_firstBy {post : Int32 → Prop} {k h c S F P lr ll lR lu ln pr pc pn pb tr tc tn tu ni nn wi : Int → Int} {e q : Int} (kr : hs_kr k) (hq : 0 ≤ q) (hq' : q ≤ 3) (he : 0 ≤ e) (he' : e ≤ 6) (E : hs_EN (hs_K k) h S F P lr ll lR lu ln pr pc pn pb tr tc tn tu ni nn wi)
    (hK : ∀ r, hs_mn (hs_K k) h q r → post (hs_i r)) : wpX_firstBy post (hs_e k, hs_e h, hs_e c, hs_e S, hs_e F, hs_e P, hs_e lr, hs_e ll, hs_e lR, hs_e lu, hs_e ln, hs_e pr, hs_e pc, hs_e pn, hs_e pb, hs_e tr, hs_e tc, hs_e tn, hs_e tu, hs_e ni, hs_e nn, hs_e wi) (hs_i e) (hs_i q) := by
  have E0 := E
  obtain ⟨⟨a0, a1, a2⟩, ⟨l0, l1, l2⟩, ⟨p0, p1⟩, ⟨b0, b1, b2⟩, ⟨t0, t1⟩⟩ := E
  have ar : ∀ w, 0 ≤ w → w ≤ 1 → hs_AA (hs_K k) h S F P w → wpX_firstOfArrayHeap post (hs_e k, hs_e h, hs_e c, hs_e S, hs_e F, hs_e P, hs_e lr, hs_e ll, hs_e lR, hs_e lu, hs_e ln, hs_e pr, hs_e pc, hs_e pn, hs_e pb, hs_e tr, hs_e tc, hs_e tn, hs_e tu, hs_e ni, hs_e nn, hs_e wi) (hs_i w) (hs_i q) := by
    intro w w0 w1 hA
    have m := hs_AH_mn (hA q hq hq')
    have cr := hs_c_r h q
    have f := (hA q hq hq').1
    unfold wpX_firstOfArrayHeap
    dsimp only
    refine nm_r (hs_x4 w q) ⟨hs_in (by omega) (by omega) (by decide), ?_⟩
    rw [hs_get (A := F) (by omega) (by omega)]
    refine hs_eq (F (w * 4 + q)) 0 (fun z => ?_) (fun z => ?_)
    · rw [if_pos z] at m; rw [← hs_lm1]; exact hK _ m
    · rw [if_neg z] at m
      rw [hs_m24, hs_get (A := S) (by omega) (by omega)]
      exact ⟨hs_in (by omega) (by omega) (by decide), hK _ m⟩
  have le : ∀ w, 0 ≤ w → w ≤ 1 → hs_LL (hs_K k) h lr ll lR lu ln w → wpX_firstOfLeaning post (hs_e k, hs_e h, hs_e c, hs_e S, hs_e F, hs_e P, hs_e lr, hs_e ll, hs_e lR, hs_e lu, hs_e ln, hs_e pr, hs_e pc, hs_e pn, hs_e pb, hs_e tr, hs_e tc, hs_e tn, hs_e tu, hs_e ni, hs_e nn, hs_e wi) (hs_i w) (hs_i q) := by
    intro w w0 w1 hL
    have m := hs_LT_mn w0 (hL q hq hq')
    have r := l2.1 (w * 4 + q) (by omega) (by omega)
    unfold wpX_firstOfLeaning
    dsimp only
    refine hs_rd (w * 4 + q) (hs_x4 _ _) (by omega) (by omega) (by decide) (hs_eq (lr (w * 4 + q)) (-1) (fun z => ?_) (fun z => ?_))
    · rw [if_pos z] at m; rw [← hs_lm1]; exact hK _ m
    · rw [if_neg z] at m
      rw [hs_m24, hs_sub]
      exact hK _ m
  have to : vp_in ((hs_i q * 48) + 1) 192 ∧ post (hs_e wi ((hs_i q * 48) + 1).toNatClampNeg) := by
    rw [hs_m48, hs_1, hs_get (A := wi) (by omega) (by omega)]
    exact ⟨hs_in (by omega) (by omega) (by decide), hK _ (hs_TN_mn (t0 q hq hq'))⟩
  unfold wpX_firstBy
  dsimp only
  refine hs_lt e 0 (fun z => absurd z (by omega)) (fun _ => hs_lt 5 e (fun _ => to) (fun c5 => ?_))
  refine hs_eq e 0 (fun z => ?_) (fun z0 => hs_eq e 1 (fun z => ?_) (fun z1 => hs_eq e 2 (fun z => ?_) (fun z2 => hs_eq e 3 (fun z => ?_) (fun z3 => hs_eq e 4 (fun z => ?_) (fun z4 => hs_eq e 5 (fun z => ?_) (fun z5 => trivial))))))
  · unfold wX_firstBy_40
    rw [z, show hs_i 0 - 0 = hs_i 0 from by decide]
    exact ar 0 (by omega) (by omega) a0
  · unfold wX_firstBy_40
    rw [z, show hs_i 1 - 0 = hs_i 1 from by decide]
    exact ar 1 (by omega) (by omega) a1
  · unfold wX_firstBy_49
    rw [z, show hs_i 2 - 2 = hs_i 0 from by decide]
    exact le 0 (by omega) (by omega) l0
  · unfold wX_firstBy_49
    rw [z, show hs_i 3 - 2 = hs_i 1 from by decide]
    exact le 1 (by omega) (by omega) l1
  · rw [hs_get (A := pr) hq (by omega)]
    exact ⟨hs_in hq (by omega) (by decide), hK _ (hs_PT_mn (p0 q hq hq'))⟩
  · exact hs_fB kr hq hq' E0 hK
end HS33
end
section
section HS34
variable {gv1 gv2 gv3 gv4 gv5 gv6 gv7 gv8 gv9 gv10 gv11 gv12 gv13 gv14 gv15 gv16 gv17 gv18 gv19 gv20 gv21 gv22 : Nat → Int32}
/-! sound: every link is within (written by a small program, one a print) -/
theorem hs_wi_home {post : Int32 → Prop} {A : Int → Int} (lo hi : Int) (l0 : -1 ≤ lo) (h0 : hi ≤ 47) (h : hs_rg A 24 lo hi) (hp : post 1) : wpX_within__home post (gv1, hs_e A, gv3, gv4, gv5, gv6, gv7, gv8, gv9, gv10, gv11, gv12, gv13, gv14, gv15, gv16, gv17, gv18, gv19, gv20, gv21, gv22) (hs_i lo) (hs_i hi) := by
  have r0 := h 0 (by omega) (by omega)
  have loop : ∀ (n : Nat) (i : Int), 0 ≤ i → i ≤ 24 → 24 - i < n → wX_within__home_2 post (hs_i lo) (hs_i hi) gv1 (hs_e A) gv3 gv4 gv5 gv6 gv7 gv8 gv9 gv10 gv11 gv12 gv13 gv14 gv15 gv16 gv17 gv18 gv19 gv20 gv21 gv22 n (hs_i i) := by
    intro n
    induction n with
    | zero => intro i a b c; omega
    | succ n ih =>
      intro i i0 i1 hn
      refine hs_le 24 i (fun _ => hp) (fun c => ⟨hs_in i0 (by omega) (by decide), ?_⟩) (by decide)
      rw [hs_get (A := A) i0 (by omega)]
      have r := h i i0 (by omega)
      exact hs_lt (A i) lo (fun z => absurd z (by omega)) (fun _ => ⟨hs_in i0 (by omega) (by decide), hs_le (A i) hi (fun _ => nm_r (hs_1 i) (ih (i + 1) (by omega) (by omega) (by omega))) (fun z => absurd z (by omega))⟩)
  unfold wpX_within__home
  dsimp only
  refine ⟨25, ?_⟩
  rw [← hs_l0]
  exact loop 25 0 (by omega) (by omega) (by omega)
theorem hs_wi_slot {post : Int32 → Prop} {A : Int → Int} (lo hi : Int) (l0 : -1 ≤ lo) (h0 : hi ≤ 47) (h : hs_rg A 192 lo hi) (hp : post 1) : wpX_within__slot post (gv1, gv2, gv3, hs_e A, gv5, gv6, gv7, gv8, gv9, gv10, gv11, gv12, gv13, gv14, gv15, gv16, gv17, gv18, gv19, gv20, gv21, gv22) (hs_i lo) (hs_i hi) := by
  have r0 := h 0 (by omega) (by omega)
  have loop : ∀ (n : Nat) (i : Int), 0 ≤ i → i ≤ 192 → 192 - i < n → wX_within__slot_2 post (hs_i lo) (hs_i hi) gv1 gv2 gv3 (hs_e A) gv5 gv6 gv7 gv8 gv9 gv10 gv11 gv12 gv13 gv14 gv15 gv16 gv17 gv18 gv19 gv20 gv21 gv22 n (hs_i i) := by
    intro n
    induction n with
    | zero => intro i a b c; omega
    | succ n ih =>
      intro i i0 i1 hn
      refine hs_le 192 i (fun _ => hp) (fun c => ⟨hs_in i0 (by omega) (by decide), ?_⟩) (by decide)
      rw [hs_get (A := A) i0 (by omega)]
      have r := h i i0 (by omega)
      exact hs_lt (A i) lo (fun z => absurd z (by omega)) (fun _ => ⟨hs_in i0 (by omega) (by decide), hs_le (A i) hi (fun _ => nm_r (hs_1 i) (ih (i + 1) (by omega) (by omega) (by omega))) (fun z => absurd z (by omega))⟩)
  unfold wpX_within__slot
  dsimp only
  refine ⟨193, ?_⟩
  rw [← hs_l0]
  exact loop 193 0 (by omega) (by omega) (by omega)
theorem hs_wi_leanRoot {post : Int32 → Prop} {A : Int → Int} (lo hi : Int) (l0 : -1 ≤ lo) (h0 : hi ≤ 47) (h : hs_rg A 8 lo hi) (hp : post 1) : wpX_within__leanRoot post (gv1, gv2, gv3, gv4, gv5, gv6, hs_e A, gv8, gv9, gv10, gv11, gv12, gv13, gv14, gv15, gv16, gv17, gv18, gv19, gv20, gv21, gv22) (hs_i lo) (hs_i hi) := by
  have r0 := h 0 (by omega) (by omega)
  have loop : ∀ (n : Nat) (i : Int), 0 ≤ i → i ≤ 8 → 8 - i < n → wX_within__leanRoot_2 post (hs_i lo) (hs_i hi) gv1 gv2 gv3 gv4 gv5 gv6 (hs_e A) gv8 gv9 gv10 gv11 gv12 gv13 gv14 gv15 gv16 gv17 gv18 gv19 gv20 gv21 gv22 n (hs_i i) := by
    intro n
    induction n with
    | zero => intro i a b c; omega
    | succ n ih =>
      intro i i0 i1 hn
      refine hs_le 8 i (fun _ => hp) (fun c => ⟨hs_in i0 (by omega) (by decide), ?_⟩) (by decide)
      rw [hs_get (A := A) i0 (by omega)]
      have r := h i i0 (by omega)
      exact hs_lt (A i) lo (fun z => absurd z (by omega)) (fun _ => ⟨hs_in i0 (by omega) (by decide), hs_le (A i) hi (fun _ => nm_r (hs_1 i) (ih (i + 1) (by omega) (by omega) (by omega))) (fun z => absurd z (by omega))⟩)
  unfold wpX_within__leanRoot
  dsimp only
  refine ⟨9, ?_⟩
  rw [← hs_l0]
  exact loop 9 0 (by omega) (by omega) (by omega)
theorem hs_wi_leanLeft {post : Int32 → Prop} {A : Int → Int} (lo hi : Int) (l0 : -1 ≤ lo) (h0 : hi ≤ 47) (h : hs_rg A 48 lo hi) (hp : post 1) : wpX_within__leanLeft post (gv1, gv2, gv3, gv4, gv5, gv6, gv7, hs_e A, gv9, gv10, gv11, gv12, gv13, gv14, gv15, gv16, gv17, gv18, gv19, gv20, gv21, gv22) (hs_i lo) (hs_i hi) := by
  have r0 := h 0 (by omega) (by omega)
  have loop : ∀ (n : Nat) (i : Int), 0 ≤ i → i ≤ 48 → 48 - i < n → wX_within__leanLeft_2 post (hs_i lo) (hs_i hi) gv1 gv2 gv3 gv4 gv5 gv6 gv7 (hs_e A) gv9 gv10 gv11 gv12 gv13 gv14 gv15 gv16 gv17 gv18 gv19 gv20 gv21 gv22 n (hs_i i) := by
    intro n
    induction n with
    | zero => intro i a b c; omega
    | succ n ih =>
      intro i i0 i1 hn
      refine hs_le 48 i (fun _ => hp) (fun c => ⟨hs_in i0 (by omega) (by decide), ?_⟩) (by decide)
      rw [hs_get (A := A) i0 (by omega)]
      have r := h i i0 (by omega)
      exact hs_lt (A i) lo (fun z => absurd z (by omega)) (fun _ => ⟨hs_in i0 (by omega) (by decide), hs_le (A i) hi (fun _ => nm_r (hs_1 i) (ih (i + 1) (by omega) (by omega) (by omega))) (fun z => absurd z (by omega))⟩)
  unfold wpX_within__leanLeft
  dsimp only
  refine ⟨49, ?_⟩
  rw [← hs_l0]
  exact loop 49 0 (by omega) (by omega) (by omega)
theorem hs_wi_leanRight {post : Int32 → Prop} {A : Int → Int} (lo hi : Int) (l0 : -1 ≤ lo) (h0 : hi ≤ 47) (h : hs_rg A 48 lo hi) (hp : post 1) : wpX_within__leanRight post (gv1, gv2, gv3, gv4, gv5, gv6, gv7, gv8, hs_e A, gv10, gv11, gv12, gv13, gv14, gv15, gv16, gv17, gv18, gv19, gv20, gv21, gv22) (hs_i lo) (hs_i hi) := by
  have r0 := h 0 (by omega) (by omega)
  have loop : ∀ (n : Nat) (i : Int), 0 ≤ i → i ≤ 48 → 48 - i < n → wX_within__leanRight_2 post (hs_i lo) (hs_i hi) gv1 gv2 gv3 gv4 gv5 gv6 gv7 gv8 (hs_e A) gv10 gv11 gv12 gv13 gv14 gv15 gv16 gv17 gv18 gv19 gv20 gv21 gv22 n (hs_i i) := by
    intro n
    induction n with
    | zero => intro i a b c; omega
    | succ n ih =>
      intro i i0 i1 hn
      refine hs_le 48 i (fun _ => hp) (fun c => ⟨hs_in i0 (by omega) (by decide), ?_⟩) (by decide)
      rw [hs_get (A := A) i0 (by omega)]
      have r := h i i0 (by omega)
      exact hs_lt (A i) lo (fun z => absurd z (by omega)) (fun _ => ⟨hs_in i0 (by omega) (by decide), hs_le (A i) hi (fun _ => nm_r (hs_1 i) (ih (i + 1) (by omega) (by omega) (by omega))) (fun z => absurd z (by omega))⟩)
  unfold wpX_within__leanRight
  dsimp only
  refine ⟨49, ?_⟩
  rw [← hs_l0]
  exact loop 49 0 (by omega) (by omega) (by omega)
theorem hs_wi_leanUp {post : Int32 → Prop} {A : Int → Int} (lo hi : Int) (l0 : -1 ≤ lo) (h0 : hi ≤ 47) (h : hs_rg A 48 lo hi) (hp : post 1) : wpX_within__leanUp post (gv1, gv2, gv3, gv4, gv5, gv6, gv7, gv8, gv9, hs_e A, gv11, gv12, gv13, gv14, gv15, gv16, gv17, gv18, gv19, gv20, gv21, gv22) (hs_i lo) (hs_i hi) := by
  have r0 := h 0 (by omega) (by omega)
  have loop : ∀ (n : Nat) (i : Int), 0 ≤ i → i ≤ 48 → 48 - i < n → wX_within__leanUp_2 post (hs_i lo) (hs_i hi) gv1 gv2 gv3 gv4 gv5 gv6 gv7 gv8 gv9 (hs_e A) gv11 gv12 gv13 gv14 gv15 gv16 gv17 gv18 gv19 gv20 gv21 gv22 n (hs_i i) := by
    intro n
    induction n with
    | zero => intro i a b c; omega
    | succ n ih =>
      intro i i0 i1 hn
      refine hs_le 48 i (fun _ => hp) (fun c => ⟨hs_in i0 (by omega) (by decide), ?_⟩) (by decide)
      rw [hs_get (A := A) i0 (by omega)]
      have r := h i i0 (by omega)
      exact hs_lt (A i) lo (fun z => absurd z (by omega)) (fun _ => ⟨hs_in i0 (by omega) (by decide), hs_le (A i) hi (fun _ => nm_r (hs_1 i) (ih (i + 1) (by omega) (by omega) (by omega))) (fun z => absurd z (by omega))⟩)
  unfold wpX_within__leanUp
  dsimp only
  refine ⟨49, ?_⟩
  rw [← hs_l0]
  exact loop 49 0 (by omega) (by omega) (by omega)
theorem hs_wi_pairRoot {post : Int32 → Prop} {A : Int → Int} (lo hi : Int) (l0 : -1 ≤ lo) (h0 : hi ≤ 47) (h : hs_rg A 4 lo hi) (hp : post 1) : wpX_within__pairRoot post (gv1, gv2, gv3, gv4, gv5, gv6, gv7, gv8, gv9, gv10, gv11, hs_e A, gv13, gv14, gv15, gv16, gv17, gv18, gv19, gv20, gv21, gv22) (hs_i lo) (hs_i hi) := by
  have r0 := h 0 (by omega) (by omega)
  have loop : ∀ (n : Nat) (i : Int), 0 ≤ i → i ≤ 4 → 4 - i < n → wX_within__pairRoot_2 post (hs_i lo) (hs_i hi) gv1 gv2 gv3 gv4 gv5 gv6 gv7 gv8 gv9 gv10 gv11 (hs_e A) gv13 gv14 gv15 gv16 gv17 gv18 gv19 gv20 gv21 gv22 n (hs_i i) := by
    intro n
    induction n with
    | zero => intro i a b c; omega
    | succ n ih =>
      intro i i0 i1 hn
      refine hs_le 4 i (fun _ => hp) (fun c => ⟨hs_in i0 (by omega) (by decide), ?_⟩) (by decide)
      rw [hs_get (A := A) i0 (by omega)]
      have r := h i i0 (by omega)
      exact hs_lt (A i) lo (fun z => absurd z (by omega)) (fun _ => ⟨hs_in i0 (by omega) (by decide), hs_le (A i) hi (fun _ => nm_r (hs_1 i) (ih (i + 1) (by omega) (by omega) (by omega))) (fun z => absurd z (by omega))⟩)
  unfold wpX_within__pairRoot
  dsimp only
  refine ⟨5, ?_⟩
  rw [← hs_l0]
  exact loop 5 0 (by omega) (by omega) (by omega)
theorem hs_wi_pairChild {post : Int32 → Prop} {A : Int → Int} (lo hi : Int) (l0 : -1 ≤ lo) (h0 : hi ≤ 47) (h : hs_rg A 24 lo hi) (hp : post 1) : wpX_within__pairChild post (gv1, gv2, gv3, gv4, gv5, gv6, gv7, gv8, gv9, gv10, gv11, gv12, hs_e A, gv14, gv15, gv16, gv17, gv18, gv19, gv20, gv21, gv22) (hs_i lo) (hs_i hi) := by
  have r0 := h 0 (by omega) (by omega)
  have loop : ∀ (n : Nat) (i : Int), 0 ≤ i → i ≤ 24 → 24 - i < n → wX_within__pairChild_2 post (hs_i lo) (hs_i hi) gv1 gv2 gv3 gv4 gv5 gv6 gv7 gv8 gv9 gv10 gv11 gv12 (hs_e A) gv14 gv15 gv16 gv17 gv18 gv19 gv20 gv21 gv22 n (hs_i i) := by
    intro n
    induction n with
    | zero => intro i a b c; omega
    | succ n ih =>
      intro i i0 i1 hn
      refine hs_le 24 i (fun _ => hp) (fun c => ⟨hs_in i0 (by omega) (by decide), ?_⟩) (by decide)
      rw [hs_get (A := A) i0 (by omega)]
      have r := h i i0 (by omega)
      exact hs_lt (A i) lo (fun z => absurd z (by omega)) (fun _ => ⟨hs_in i0 (by omega) (by decide), hs_le (A i) hi (fun _ => nm_r (hs_1 i) (ih (i + 1) (by omega) (by omega) (by omega))) (fun z => absurd z (by omega))⟩)
  unfold wpX_within__pairChild
  dsimp only
  refine ⟨25, ?_⟩
  rw [← hs_l0]
  exact loop 25 0 (by omega) (by omega) (by omega)
theorem hs_wi_pairNext {post : Int32 → Prop} {A : Int → Int} (lo hi : Int) (l0 : -1 ≤ lo) (h0 : hi ≤ 47) (h : hs_rg A 24 lo hi) (hp : post 1) : wpX_within__pairNext post (gv1, gv2, gv3, gv4, gv5, gv6, gv7, gv8, gv9, gv10, gv11, gv12, gv13, hs_e A, gv15, gv16, gv17, gv18, gv19, gv20, gv21, gv22) (hs_i lo) (hs_i hi) := by
  have r0 := h 0 (by omega) (by omega)
  have loop : ∀ (n : Nat) (i : Int), 0 ≤ i → i ≤ 24 → 24 - i < n → wX_within__pairNext_2 post (hs_i lo) (hs_i hi) gv1 gv2 gv3 gv4 gv5 gv6 gv7 gv8 gv9 gv10 gv11 gv12 gv13 (hs_e A) gv15 gv16 gv17 gv18 gv19 gv20 gv21 gv22 n (hs_i i) := by
    intro n
    induction n with
    | zero => intro i a b c; omega
    | succ n ih =>
      intro i i0 i1 hn
      refine hs_le 24 i (fun _ => hp) (fun c => ⟨hs_in i0 (by omega) (by decide), ?_⟩) (by decide)
      rw [hs_get (A := A) i0 (by omega)]
      have r := h i i0 (by omega)
      exact hs_lt (A i) lo (fun z => absurd z (by omega)) (fun _ => ⟨hs_in i0 (by omega) (by decide), hs_le (A i) hi (fun _ => nm_r (hs_1 i) (ih (i + 1) (by omega) (by omega) (by omega))) (fun z => absurd z (by omega))⟩)
  unfold wpX_within__pairNext
  dsimp only
  refine ⟨25, ?_⟩
  rw [← hs_l0]
  exact loop 25 0 (by omega) (by omega) (by omega)
theorem hs_wi_pairBack {post : Int32 → Prop} {A : Int → Int} (lo hi : Int) (l0 : -1 ≤ lo) (h0 : hi ≤ 47) (h : hs_rg A 24 lo hi) (hp : post 1) : wpX_within__pairBack post (gv1, gv2, gv3, gv4, gv5, gv6, gv7, gv8, gv9, gv10, gv11, gv12, gv13, gv14, hs_e A, gv16, gv17, gv18, gv19, gv20, gv21, gv22) (hs_i lo) (hs_i hi) := by
  have r0 := h 0 (by omega) (by omega)
  have loop : ∀ (n : Nat) (i : Int), 0 ≤ i → i ≤ 24 → 24 - i < n → wX_within__pairBack_2 post (hs_i lo) (hs_i hi) gv1 gv2 gv3 gv4 gv5 gv6 gv7 gv8 gv9 gv10 gv11 gv12 gv13 gv14 (hs_e A) gv16 gv17 gv18 gv19 gv20 gv21 gv22 n (hs_i i) := by
    intro n
    induction n with
    | zero => intro i a b c; omega
    | succ n ih =>
      intro i i0 i1 hn
      refine hs_le 24 i (fun _ => hp) (fun c => ⟨hs_in i0 (by omega) (by decide), ?_⟩) (by decide)
      rw [hs_get (A := A) i0 (by omega)]
      have r := h i i0 (by omega)
      exact hs_lt (A i) lo (fun z => absurd z (by omega)) (fun _ => ⟨hs_in i0 (by omega) (by decide), hs_le (A i) hi (fun _ => nm_r (hs_1 i) (ih (i + 1) (by omega) (by omega) (by omega))) (fun z => absurd z (by omega))⟩)
  unfold wpX_within__pairBack
  dsimp only
  refine ⟨25, ?_⟩
  rw [← hs_l0]
  exact loop 25 0 (by omega) (by omega) (by omega)
theorem hs_wi_tree {post : Int32 → Prop} {A : Int → Int} (lo hi : Int) (l0 : -1 ≤ lo) (h0 : hi ≤ 47) (h : hs_rg A 20 lo hi) (hp : post 1) : wpX_within__tree post (gv1, gv2, gv3, gv4, gv5, gv6, gv7, gv8, gv9, gv10, gv11, gv12, gv13, gv14, gv15, hs_e A, gv17, gv18, gv19, gv20, gv21, gv22) (hs_i lo) (hs_i hi) := by
  have r0 := h 0 (by omega) (by omega)
  have loop : ∀ (n : Nat) (i : Int), 0 ≤ i → i ≤ 20 → 20 - i < n → wX_within__tree_2 post (hs_i lo) (hs_i hi) gv1 gv2 gv3 gv4 gv5 gv6 gv7 gv8 gv9 gv10 gv11 gv12 gv13 gv14 gv15 (hs_e A) gv17 gv18 gv19 gv20 gv21 gv22 n (hs_i i) := by
    intro n
    induction n with
    | zero => intro i a b c; omega
    | succ n ih =>
      intro i i0 i1 hn
      refine hs_le 20 i (fun _ => hp) (fun c => ⟨hs_in i0 (by omega) (by decide), ?_⟩) (by decide)
      rw [hs_get (A := A) i0 (by omega)]
      have r := h i i0 (by omega)
      exact hs_lt (A i) lo (fun z => absurd z (by omega)) (fun _ => ⟨hs_in i0 (by omega) (by decide), hs_le (A i) hi (fun _ => nm_r (hs_1 i) (ih (i + 1) (by omega) (by omega) (by omega))) (fun z => absurd z (by omega))⟩)
  unfold wpX_within__tree
  dsimp only
  refine ⟨21, ?_⟩
  rw [← hs_l0]
  exact loop 21 0 (by omega) (by omega) (by omega)
theorem hs_wi_treeChild {post : Int32 → Prop} {A : Int → Int} (lo hi : Int) (l0 : -1 ≤ lo) (h0 : hi ≤ 47) (h : hs_rg A 24 lo hi) (hp : post 1) : wpX_within__treeChild post (gv1, gv2, gv3, gv4, gv5, gv6, gv7, gv8, gv9, gv10, gv11, gv12, gv13, gv14, gv15, gv16, hs_e A, gv18, gv19, gv20, gv21, gv22) (hs_i lo) (hs_i hi) := by
  have r0 := h 0 (by omega) (by omega)
  have loop : ∀ (n : Nat) (i : Int), 0 ≤ i → i ≤ 24 → 24 - i < n → wX_within__treeChild_2 post (hs_i lo) (hs_i hi) gv1 gv2 gv3 gv4 gv5 gv6 gv7 gv8 gv9 gv10 gv11 gv12 gv13 gv14 gv15 gv16 (hs_e A) gv18 gv19 gv20 gv21 gv22 n (hs_i i) := by
    intro n
    induction n with
    | zero => intro i a b c; omega
    | succ n ih =>
      intro i i0 i1 hn
      refine hs_le 24 i (fun _ => hp) (fun c => ⟨hs_in i0 (by omega) (by decide), ?_⟩) (by decide)
      rw [hs_get (A := A) i0 (by omega)]
      have r := h i i0 (by omega)
      exact hs_lt (A i) lo (fun z => absurd z (by omega)) (fun _ => ⟨hs_in i0 (by omega) (by decide), hs_le (A i) hi (fun _ => nm_r (hs_1 i) (ih (i + 1) (by omega) (by omega) (by omega))) (fun z => absurd z (by omega))⟩)
  unfold wpX_within__treeChild
  dsimp only
  refine ⟨25, ?_⟩
  rw [← hs_l0]
  exact loop 25 0 (by omega) (by omega) (by omega)
theorem hs_wi_treeNext {post : Int32 → Prop} {A : Int → Int} (lo hi : Int) (l0 : -1 ≤ lo) (h0 : hi ≤ 47) (h : hs_rg A 24 lo hi) (hp : post 1) : wpX_within__treeNext post (gv1, gv2, gv3, gv4, gv5, gv6, gv7, gv8, gv9, gv10, gv11, gv12, gv13, gv14, gv15, gv16, gv17, hs_e A, gv19, gv20, gv21, gv22) (hs_i lo) (hs_i hi) := by
  have r0 := h 0 (by omega) (by omega)
  have loop : ∀ (n : Nat) (i : Int), 0 ≤ i → i ≤ 24 → 24 - i < n → wX_within__treeNext_2 post (hs_i lo) (hs_i hi) gv1 gv2 gv3 gv4 gv5 gv6 gv7 gv8 gv9 gv10 gv11 gv12 gv13 gv14 gv15 gv16 gv17 (hs_e A) gv19 gv20 gv21 gv22 n (hs_i i) := by
    intro n
    induction n with
    | zero => intro i a b c; omega
    | succ n ih =>
      intro i i0 i1 hn
      refine hs_le 24 i (fun _ => hp) (fun c => ⟨hs_in i0 (by omega) (by decide), ?_⟩) (by decide)
      rw [hs_get (A := A) i0 (by omega)]
      have r := h i i0 (by omega)
      exact hs_lt (A i) lo (fun z => absurd z (by omega)) (fun _ => ⟨hs_in i0 (by omega) (by decide), hs_le (A i) hi (fun _ => nm_r (hs_1 i) (ih (i + 1) (by omega) (by omega) (by omega))) (fun z => absurd z (by omega))⟩)
  unfold wpX_within__treeNext
  dsimp only
  refine ⟨25, ?_⟩
  rw [← hs_l0]
  exact loop 25 0 (by omega) (by omega) (by omega)
theorem hs_wi_treeUp {post : Int32 → Prop} {A : Int → Int} (lo hi : Int) (l0 : -1 ≤ lo) (h0 : hi ≤ 47) (h : hs_rg A 24 lo hi) (hp : post 1) : wpX_within__treeUp post (gv1, gv2, gv3, gv4, gv5, gv6, gv7, gv8, gv9, gv10, gv11, gv12, gv13, gv14, gv15, gv16, gv17, gv18, hs_e A, gv20, gv21, gv22) (hs_i lo) (hs_i hi) := by
  have r0 := h 0 (by omega) (by omega)
  have loop : ∀ (n : Nat) (i : Int), 0 ≤ i → i ≤ 24 → 24 - i < n → wX_within__treeUp_2 post (hs_i lo) (hs_i hi) gv1 gv2 gv3 gv4 gv5 gv6 gv7 gv8 gv9 gv10 gv11 gv12 gv13 gv14 gv15 gv16 gv17 gv18 (hs_e A) gv20 gv21 gv22 n (hs_i i) := by
    intro n
    induction n with
    | zero => intro i a b c; omega
    | succ n ih =>
      intro i i0 i1 hn
      refine hs_le 24 i (fun _ => hp) (fun c => ⟨hs_in i0 (by omega) (by decide), ?_⟩) (by decide)
      rw [hs_get (A := A) i0 (by omega)]
      have r := h i i0 (by omega)
      exact hs_lt (A i) lo (fun z => absurd z (by omega)) (fun _ => ⟨hs_in i0 (by omega) (by decide), hs_le (A i) hi (fun _ => nm_r (hs_1 i) (ih (i + 1) (by omega) (by omega) (by omega))) (fun z => absurd z (by omega))⟩)
  unfold wpX_within__treeUp
  dsimp only
  refine ⟨25, ?_⟩
  rw [← hs_l0]
  exact loop 25 0 (by omega) (by omega) (by omega)
theorem hs_wi_nodeItem {post : Int32 → Prop} {A : Int → Int} (lo hi : Int) (l0 : -1 ≤ lo) (h0 : hi ≤ 47) (h : hs_rg A 24 lo hi) (hp : post 1) : wpX_within__nodeItem post (gv1, gv2, gv3, gv4, gv5, gv6, gv7, gv8, gv9, gv10, gv11, gv12, gv13, gv14, gv15, gv16, gv17, gv18, gv19, hs_e A, gv21, gv22) (hs_i lo) (hs_i hi) := by
  have r0 := h 0 (by omega) (by omega)
  have loop : ∀ (n : Nat) (i : Int), 0 ≤ i → i ≤ 24 → 24 - i < n → wX_within__nodeItem_2 post (hs_i lo) (hs_i hi) gv1 gv2 gv3 gv4 gv5 gv6 gv7 gv8 gv9 gv10 gv11 gv12 gv13 gv14 gv15 gv16 gv17 gv18 gv19 (hs_e A) gv21 gv22 n (hs_i i) := by
    intro n
    induction n with
    | zero => intro i a b c; omega
    | succ n ih =>
      intro i i0 i1 hn
      refine hs_le 24 i (fun _ => hp) (fun c => ⟨hs_in i0 (by omega) (by decide), ?_⟩) (by decide)
      rw [hs_get (A := A) i0 (by omega)]
      have r := h i i0 (by omega)
      exact hs_lt (A i) lo (fun z => absurd z (by omega)) (fun _ => ⟨hs_in i0 (by omega) (by decide), hs_le (A i) hi (fun _ => nm_r (hs_1 i) (ih (i + 1) (by omega) (by omega) (by omega))) (fun z => absurd z (by omega))⟩)
  unfold wpX_within__nodeItem
  dsimp only
  refine ⟨25, ?_⟩
  rw [← hs_l0]
  exact loop 25 0 (by omega) (by omega) (by omega)
theorem hs_wi_itemNode {post : Int32 → Prop} {A : Int → Int} (lo hi : Int) (l0 : -1 ≤ lo) (h0 : hi ≤ 47) (h : hs_rg A 24 lo hi) (hp : post 1) : wpX_within__itemNode post (gv1, gv2, gv3, gv4, gv5, gv6, gv7, gv8, gv9, gv10, gv11, gv12, gv13, gv14, gv15, gv16, gv17, gv18, gv19, gv20, hs_e A, gv22) (hs_i lo) (hs_i hi) := by
  have r0 := h 0 (by omega) (by omega)
  have loop : ∀ (n : Nat) (i : Int), 0 ≤ i → i ≤ 24 → 24 - i < n → wX_within__itemNode_2 post (hs_i lo) (hs_i hi) gv1 gv2 gv3 gv4 gv5 gv6 gv7 gv8 gv9 gv10 gv11 gv12 gv13 gv14 gv15 gv16 gv17 gv18 gv19 gv20 (hs_e A) gv22 n (hs_i i) := by
    intro n
    induction n with
    | zero => intro i a b c; omega
    | succ n ih =>
      intro i i0 i1 hn
      refine hs_le 24 i (fun _ => hp) (fun c => ⟨hs_in i0 (by omega) (by decide), ?_⟩) (by decide)
      rw [hs_get (A := A) i0 (by omega)]
      have r := h i i0 (by omega)
      exact hs_lt (A i) lo (fun z => absurd z (by omega)) (fun _ => ⟨hs_in i0 (by omega) (by decide), hs_le (A i) hi (fun _ => nm_r (hs_1 i) (ih (i + 1) (by omega) (by omega) (by omega))) (fun z => absurd z (by omega))⟩)
  unfold wpX_within__itemNode
  dsimp only
  refine ⟨25, ?_⟩
  rw [← hs_l0]
  exact loop 25 0 (by omega) (by omega) (by omega)
theorem hs_wi_winner {post : Int32 → Prop} {A : Int → Int} (lo hi : Int) (l0 : -1 ≤ lo) (h0 : hi ≤ 47) (h : hs_rg A 192 lo hi) (hp : post 1) : wpX_within__winner post (gv1, gv2, gv3, gv4, gv5, gv6, gv7, gv8, gv9, gv10, gv11, gv12, gv13, gv14, gv15, gv16, gv17, gv18, gv19, gv20, gv21, hs_e A) (hs_i lo) (hs_i hi) := by
  have r0 := h 0 (by omega) (by omega)
  have loop : ∀ (n : Nat) (i : Int), 0 ≤ i → i ≤ 192 → 192 - i < n → wX_within__winner_2 post (hs_i lo) (hs_i hi) gv1 gv2 gv3 gv4 gv5 gv6 gv7 gv8 gv9 gv10 gv11 gv12 gv13 gv14 gv15 gv16 gv17 gv18 gv19 gv20 gv21 (hs_e A) n (hs_i i) := by
    intro n
    induction n with
    | zero => intro i a b c; omega
    | succ n ih =>
      intro i i0 i1 hn
      refine hs_le 192 i (fun _ => hp) (fun c => ⟨hs_in i0 (by omega) (by decide), ?_⟩) (by decide)
      rw [hs_get (A := A) i0 (by omega)]
      have r := h i i0 (by omega)
      exact hs_lt (A i) lo (fun z => absurd z (by omega)) (fun _ => ⟨hs_in i0 (by omega) (by decide), hs_le (A i) hi (fun _ => nm_r (hs_1 i) (ih (i + 1) (by omega) (by omega) (by omega))) (fun z => absurd z (by omega))⟩)
  unfold wpX_within__winner
  dsimp only
  refine ⟨193, ?_⟩
  rw [← hs_l0]
  exact loop 193 0 (by omega) (by omega) (by omega)
theorem hs_links {post : Int32 → Prop} {k h c S F P lr ll lR lu ln pr pc pn pb tr tc tn tu ni nn wi : Int → Int} (E : hs_EN (hs_K k) h S F P lr ll lR lu ln pr pc pn pb tr tc tn tu ni nn wi) (hh : hs_rg h 24 (-1) 3) (hp : post 1) : wpX_linksStayInside post (hs_e k, hs_e h, hs_e c, hs_e S, hs_e F, hs_e P, hs_e lr, hs_e ll, hs_e lR, hs_e lu, hs_e ln, hs_e pr, hs_e pc, hs_e pn, hs_e pb, hs_e tr, hs_e tc, hs_e tn, hs_e tu, hs_e ni, hs_e nn, hs_e wi) := by
  unfold wpX_linksStayInside
  dsimp only
  refine hs_wi_home (-1) 3 (by omega) (by omega) hh (br_f (by decide) ?_)
  refine hs_wi_slot (0) 23 (by omega) (by omega) E.1.2.2 (br_f (by decide) ?_)
  refine hs_wi_leanRoot (-1) 47 (by omega) (by omega) E.2.1.2.2.1 (br_f (by decide) ?_)
  refine hs_wi_leanLeft (-1) 47 (by omega) (by omega) E.2.1.2.2.2.1 (br_f (by decide) ?_)
  refine hs_wi_leanRight (-1) 47 (by omega) (by omega) E.2.1.2.2.2.2.1 (br_f (by decide) ?_)
  refine hs_wi_leanUp (-1) 47 (by omega) (by omega) E.2.1.2.2.2.2.2 (br_f (by decide) ?_)
  refine hs_wi_pairRoot (-1) 23 (by omega) (by omega) E.2.2.1.2.1 (br_f (by decide) ?_)
  refine hs_wi_pairChild (-1) 23 (by omega) (by omega) E.2.2.1.2.2.1 (br_f (by decide) ?_)
  refine hs_wi_pairNext (-1) 23 (by omega) (by omega) E.2.2.1.2.2.2.1 (br_f (by decide) ?_)
  refine hs_wi_pairBack (-1) 23 (by omega) (by omega) E.2.2.1.2.2.2.2 (br_f (by decide) ?_)
  refine hs_wi_tree (-1) 23 (by omega) (by omega) E.2.2.2.1.2.2.1 (br_f (by decide) ?_)
  refine hs_wi_treeChild (-1) 23 (by omega) (by omega) E.2.2.2.1.2.2.2.1 (br_f (by decide) ?_)
  refine hs_wi_treeNext (-1) 23 (by omega) (by omega) E.2.2.2.1.2.2.2.2.1 (br_f (by decide) ?_)
  refine hs_wi_treeUp (-1) 23 (by omega) (by omega) E.2.2.2.1.2.2.2.2.2 (br_f (by decide) ?_)
  refine hs_wi_nodeItem (0) 23 (by omega) (by omega) (fun j a b => ⟨(E.2.2.2.1.2.1 j a b).1, by have := (E.2.2.2.1.2.1 j a b).2.1; omega⟩) (br_f (by decide) ?_)
  refine hs_wi_itemNode (0) 23 (by omega) (by omega) (fun j a b => ⟨(E.2.2.2.1.2.1 j a b).2.2.1, by have := (E.2.2.2.1.2.1 j a b).2.2.2.1; omega⟩) (br_f (by decide) ?_)
  refine hs_wi_winner (-1) 23 (by omega) (by omega) E.2.2.2.2.2 (br_f (by decide) ?_)
  exact hp
end HS34
end
section
section HS35
/-! sound: the book and the array heaps -/
theorem hs_c_total {h : Int → Int} (hh : hs_rg h 24 (-1) 3) : hs_c h 0 + hs_c h 1 + hs_c h 2 + hs_c h 3 + hs_c h (-1) = 24 := by
  have main : ∀ n : Nat, n ≤ 24 → hs_sum (fun j => if h j = 0 then 1 else 0) n + hs_sum (fun j => if h j = 1 then 1 else 0) n + hs_sum (fun j => if h j = 2 then 1 else 0) n + hs_sum (fun j => if h j = 3 then 1 else 0) n + hs_sum (fun j => if h j = -1 then 1 else 0) n = n := by
    intro n
    induction n with
    | zero => intro _; rfl
    | succ n ih =>
      intro hn
      have i := ih (by omega)
      have r := hh (n : Int) (by omega) (by omega)
      show (hs_sum (fun j => if h j = 0 then 1 else 0) n + (if h (n : Int) = 0 then (1 : Int) else 0)) + (hs_sum (fun j => if h j = 1 then 1 else 0) n + (if h (n : Int) = 1 then (1 : Int) else 0)) + (hs_sum (fun j => if h j = 2 then 1 else 0) n + (if h (n : Int) = 2 then (1 : Int) else 0)) + (hs_sum (fun j => if h j = 3 then 1 else 0) n + (if h (n : Int) = 3 then (1 : Int) else 0)) + (hs_sum (fun j => if h j = -1 then 1 else 0) n + (if h (n : Int) = -1 then (1 : Int) else 0)) = _
      rcases (by omega : h (n : Int) = -1 ∨ h (n : Int) = 0 ∨ h (n : Int) = 1 ∨ h (n : Int) = 2 ∨ h (n : Int) = 3) with e | e | e | e | e <;> rw [e] <;> simp only [show ¬ (-1 : Int) = 0 by decide, show ¬ (-1 : Int) = 1 by decide, show ¬ (-1 : Int) = 2 by decide, show ¬ (-1 : Int) = 3 by decide, show ¬ (0 : Int) = -1 by decide, show ¬ (0 : Int) = 1 by decide, show ¬ (0 : Int) = 2 by decide, show ¬ (0 : Int) = 3 by decide, show ¬ (1 : Int) = -1 by decide, show ¬ (1 : Int) = 0 by decide, show ¬ (1 : Int) = 2 by decide, show ¬ (1 : Int) = 3 by decide, show ¬ (2 : Int) = -1 by decide, show ¬ (2 : Int) = 0 by decide, show ¬ (2 : Int) = 1 by decide, show ¬ (2 : Int) = 3 by decide, show ¬ (3 : Int) = -1 by decide, show ¬ (3 : Int) = 0 by decide, show ¬ (3 : Int) = 1 by decide, show ¬ (3 : Int) = 2 by decide, if_true, if_false] <;> omega
  exact main 24 (by omega)
theorem hs_psum_r (h : Int → Int) (q : Int) : ∀ n : Nat, 0 ≤ hs_sum (fun j => if h j = q then 1 else 0) n ∧ hs_sum (fun j => if h j = q then 1 else 0) n ≤ n := by
  intro n
  induction n with
  | zero => exact ⟨Int.le_refl _, Int.le_refl _⟩
  | succ n ih =>
    show 0 ≤ hs_sum (fun j => if h j = q then 1 else 0) n + (if h (n : Int) = q then (1 : Int) else 0) ∧ hs_sum (fun j => if h j = q then 1 else 0) n + (if h (n : Int) = q then (1 : Int) else 0) ≤ _
    split <;> omega
theorem hs_book {post : Int32 → Prop} {k h c S F P lr ll lR lu ln pr pc pn pb tr tc tn tu ni nn wi : Int → Int} (kr : hs_kr k) (hh : hs_rg h 24 (-1) 3) (hc : ∀ q, 0 ≤ q → q ≤ 3 → c q = hs_c h q) (hp : post 1) : wpX_bookHolds post (hs_e k, hs_e h, hs_e c, hs_e S, hs_e F, hs_e P, hs_e lr, hs_e ll, hs_e lR, hs_e lu, hs_e ln, hs_e pr, hs_e pc, hs_e pn, hs_e pb, hs_e tr, hs_e tc, hs_e tn, hs_e tu, hs_e ni, hs_e nn, hs_e wi) := by
  have b14 : ∀ (J : Int32 → Int32 → Prop) (m q : Int), 0 ≤ q → q ≤ 3 → J (hs_i (m + hs_c h q)) (hs_i (q + 1)) → ∀ (n i : Nat), i ≤ 24 → 24 < n + i → wX_bookHolds_14 post J (hs_i m) (hs_i q) (hs_e k) (hs_e h) (hs_e c) (hs_e S) (hs_e F) (hs_e P) (hs_e lr) (hs_e ll) (hs_e lR) (hs_e lu) (hs_e ln) (hs_e pr) (hs_e pc) (hs_e pn) (hs_e pb) (hs_e tr) (hs_e tc) (hs_e tn) (hs_e tu) (hs_e ni) (hs_e nn) (hs_e wi) n (hs_i (hs_sum (fun j => if h j = q then 1 else 0) i)) (hs_i (i : Int)) := by
    intro J m q q0 q1 hJ n
    induction n with
    | zero => intro i a b; omega
    | succ n ih =>
      intro i i1 hn
      have pr := hs_psum_r h q i
      refine hs_le 24 (i : Int) (fun z => ⟨hs_in q0 (by omega) (by decide), ?_⟩) (fun z => ⟨hs_in (by omega) (by omega) (by decide), ?_⟩)
      · have e : i = 24 := by omega
        subst e
        rw [hs_get (A := c) q0 (by omega), hc q q0 q1]
        refine br_t rfl (nm_r (hs_add _ _) (nm_r (hs_1 q) hJ))
      · have r := hh (i : Int) (by omega) (by omega)
        rw [hs_get (A := h) (by omega) (by omega)]
        have nx : hs_sum (fun j => if h j = q then 1 else 0) (i + 1) = hs_sum (fun j => if h j = q then 1 else 0) i + (if h (i : Int) = q then 1 else 0) := rfl
        have ih' := ih (i + 1) (by omega) (by omega)
        rw [nx] at ih'
        refine hs_eq (h (i : Int)) q (fun y => nm_r (hs_1 _) (nm_r (hs_1 _) ?_)) (fun y => nm_r (hs_1 _) ?_)
        · rw [if_pos y] at ih'; exact ih'
        · rw [if_neg y, Int.add_zero] at ih'; exact ih'
  have b65 : ∀ m : Int, m + hs_c h (-1) = 24 → ∀ (n i : Nat), i ≤ 24 → 24 < n + i → wX_bookHolds_65 post (hs_e k) (hs_e h) (hs_e c) (hs_e S) (hs_e F) (hs_e P) (hs_e lr) (hs_e ll) (hs_e lR) (hs_e lu) (hs_e ln) (hs_e pr) (hs_e pc) (hs_e pn) (hs_e pb) (hs_e tr) (hs_e tc) (hs_e tn) (hs_e tu) (hs_e ni) (hs_e nn) (hs_e wi) n (hs_i (m + hs_sum (fun j => if h j = -1 then 1 else 0) i)) (hs_i (i : Int)) := by
    intro m hm n
    induction n with
    | zero => intro i a b; omega
    | succ n ih =>
      intro i i1 hn
      refine hs_le 24 (i : Int) (fun z => ?_) (fun z => ⟨hs_in (by omega) (by omega) (by decide), ?_⟩)
      · have e : i = 24 := by omega
        subst e
        have : m + hs_sum (fun j => if h j = -1 then 1 else 0) 24 = 24 := hm
        rw [this]
        exact br_t (by decide) hp
      · have r := hh (i : Int) (by omega) (by omega)
        have r2 := kr (i : Int) (by omega) (by omega)
        rw [hs_get (A := k) (by omega) (by omega), hs_get (A := h) (by omega) (by omega)]
        have nx : hs_sum (fun j => if h j = -1 then 1 else 0) (i + 1) = hs_sum (fun j => if h j = -1 then 1 else 0) i + (if h (i : Int) = -1 then 1 else 0) := rfl
        have ih' := ih (i + 1) (by omega) (by omega)
        rw [nx] at ih'
        refine hs_isK (by omega) (fun _ _ => br_f (by decide) ⟨hs_in (by omega) (by omega) (by decide), ?_⟩) (fun z => absurd ⟨r2.1, r2.2⟩ z)
        refine hs_eq (h (i : Int)) (-1) (fun y => nm_r (hs_1 _) (nm_r (hs_1 _) ?_)) (fun y => nm_r (hs_1 _) ?_)
        · rw [if_pos y, ← Int.add_assoc] at ih'; exact ih'
        · rw [if_neg y, Int.add_zero] at ih'; exact ih'
  have tot := hs_c_total hh
  have step : ∀ (n : Nat) (m q : Int), 0 ≤ q → q ≤ 3 → wX_bookHolds_4 post (hs_e k) (hs_e h) (hs_e c) (hs_e S) (hs_e F) (hs_e P) (hs_e lr) (hs_e ll) (hs_e lR) (hs_e lu) (hs_e ln) (hs_e pr) (hs_e pc) (hs_e pn) (hs_e pb) (hs_e tr) (hs_e tc) (hs_e tn) (hs_e tu) (hs_e ni) (hs_e nn) (hs_e wi) n (hs_i (m + hs_c h q)) (hs_i (q + 1)) → wX_bookHolds_4 post (hs_e k) (hs_e h) (hs_e c) (hs_e S) (hs_e F) (hs_e P) (hs_e lr) (hs_e ll) (hs_e lR) (hs_e lu) (hs_e ln) (hs_e pr) (hs_e pc) (hs_e pn) (hs_e pb) (hs_e tr) (hs_e tc) (hs_e tn) (hs_e tu) (hs_e ni) (hs_e nn) (hs_e wi) (n + 1) (hs_i m) (hs_i q) := by
    intro n m q q0 q1 hJ
    refine hs_le 4 q (fun z => absurd z (by omega)) (fun _ => ⟨25, ?_⟩)
    exact b14 _ m q q0 q1 hJ 25 0 (by omega) (by omega)
  unfold wpX_bookHolds
  dsimp only
  refine ⟨5, ?_⟩
  rw [← hs_l0]
  refine step 4 0 0 (by omega) (by omega) (step 3 _ 1 (by omega) (by omega) (step 2 _ 2 (by omega) (by omega) (step 1 _ 3 (by omega) (by omega) ?_)))
  refine hs_le 4 (3 + 1) (fun _ => ⟨25, ?_⟩) (fun z => absurd z (by decide))
  have := b65 (0 + hs_c h 0 + hs_c h 1 + hs_c h 2 + hs_c h 3) (by omega) 25 0 (by omega) (by omega)
  have e0 : hs_sum (fun j => if h j = -1 then (1 : Int) else 0) 0 = 0 := rfl
  rw [e0, Int.add_zero] at this
  exact this
theorem hs_slotH {post : Int32 → Prop} {k h c S F P lr ll lR lu ln pr pc pn pb tr tc tn tu ni nn wi : Int → Int} {w q p : Int} (kr : hs_kr k) (hw : 0 ≤ w) (hw' : w ≤ 1) (hq : 0 ≤ q) (hq' : q ≤ 3) (hA : hs_AH (hs_K k) h S F P w q) (p0 : 0 ≤ p) (p1 : p < F (w * 4 + q)) (hp : post 1) :
    wpX_slotHolds post (hs_e k, hs_e h, hs_e c, hs_e S, hs_e F, hs_e P, hs_e lr, hs_e ll, hs_e lR, hs_e lu, hs_e ln, hs_e pr, hs_e pc, hs_e pn, hs_e pb, hs_e tr, hs_e tc, hs_e tn, hs_e tu, hs_e ni, hs_e nn, hs_e wi) (hs_i w) (hs_i q) (hs_i p) := by
  obtain ⟨a1, a2, a3⟩ := hA
  have cr := hs_c_r h q
  have x := a2.1 p p0 p1
  unfold wpX_slotHolds
  dsimp only
  refine nm_r (by rw [hs_x4, hs_m24]) (hs_rd ((w * 4 + q) * 24 + p) (hs_add _ _) (by omega) (by omega) (by decide) ⟨hs_in x.1 (by omega) (by decide), ?_⟩)
  generalize hx : S ((w * 4 + q) * 24 + p) = y at *
  rw [hs_get (A := h) x.1 (by omega), x.2.2.1]
  refine br_t rfl ?_
  rw [hs_x24]
  refine ⟨hs_in (by omega) (by omega) (by decide), ?_⟩
  rw [hs_get (A := P) (by omega) (by omega), x.2.2.2]
  refine br_t rfl (hs_eq p 0 (fun _ => hp) (fun z => ?_))
  refine hs_slotAbove hw hw' (by omega) (by omega) ?_
  have l := hs_pa_lt w (p := p) (by omega)
  have x2 := a2.1 (hs_pa w p) l.1 (by omega)
  have o := a3 p (by omega) p1
  try dsimp only
  rw [hs_add]
  refine ⟨hs_in (by omega) (by omega) (by decide), ?_⟩
  rw [hs_get (A := S) (by omega) (by omega)]
  refine hs_cb kr x2.1 x2.2.1 x.1 x.2.1 (fun _ => ⟨by decide, hp⟩) (fun g => ?_)
  rw [hx] at o
  exact absurd o g
theorem hs_arrH {post : Int32 → Prop} {k h c S F P lr ll lR lu ln pr pc pn pb tr tc tn tu ni nn wi : Int → Int} {w : Int} (kr : hs_kr k) (hw : 0 ≤ w) (hw' : w ≤ 1) (hA : hs_AA (hs_K k) h S F P w) (hc : ∀ q, 0 ≤ q → q ≤ 3 → c q = hs_c h q) (hp : post 1) :
    wpX_arrayHeapsHold post (hs_e k, hs_e h, hs_e c, hs_e S, hs_e F, hs_e P, hs_e lr, hs_e ll, hs_e lR, hs_e lu, hs_e ln, hs_e pr, hs_e pc, hs_e pn, hs_e pb, hs_e tr, hs_e tc, hs_e tn, hs_e tu, hs_e ni, hs_e nn, hs_e wi) (hs_i w) := by
  have inner : ∀ (J : Int32 → Prop) (q : Int), 0 ≤ q → q ≤ 3 → J (hs_i (q + 1)) → ∀ (n : Nat) (p : Int), 0 ≤ p → p ≤ hs_c h q → hs_c h q - p < n → wX_arrayHeapsHold_30 post J (hs_i w) (hs_i q) (hs_e k) (hs_e h) (hs_e c) (hs_e S) (hs_e F) (hs_e P) (hs_e lr) (hs_e ll) (hs_e lR) (hs_e lu) (hs_e ln) (hs_e pr) (hs_e pc) (hs_e pn) (hs_e pb) (hs_e tr) (hs_e tc) (hs_e tn) (hs_e tu) (hs_e ni) (hs_e nn) (hs_e wi) n (hs_i p) := by
    intro J q q0 q1 hJ n
    have cr := hs_c_r h q
    induction n with
    | zero => intro p a b c; omega
    | succ n ih =>
      intro p p0 p1 hn
      refine ⟨hs_in q0 (by omega) (by decide), ?_⟩
      rw [hs_get (A := c) q0 (by omega), hc q q0 q1]
      refine hs_le (hs_c h q) p (fun z => nm_r (hs_1 q) hJ) (fun z => hs_slotH kr hw hw' q0 q1 (hA q q0 q1) p0 (by rw [(hA q q0 q1).1]; omega) (br_f (by decide) (nm_r (hs_1 p) (ih (p + 1) (by omega) (by omega) (by omega)))))
  have outer : ∀ (n : Nat) (q : Int), 0 ≤ q → q ≤ 4 → 4 - q < n → wX_arrayHeapsHold_2 post (hs_i w) (hs_e k) (hs_e h) (hs_e c) (hs_e S) (hs_e F) (hs_e P) (hs_e lr) (hs_e ll) (hs_e lR) (hs_e lu) (hs_e ln) (hs_e pr) (hs_e pc) (hs_e pn) (hs_e pb) (hs_e tr) (hs_e tc) (hs_e tn) (hs_e tu) (hs_e ni) (hs_e nn) (hs_e wi) n (hs_i q) := by
    intro n
    induction n with
    | zero => intro q a b c; omega
    | succ n ih =>
      intro q q0 q1 hn
      refine hs_le 4 q (fun _ => hp) (fun z => ?_)
      have cr := hs_c_r h q
      rw [hs_x4]
      refine ⟨hs_in (by omega) (by omega) (by decide), hs_in q0 (by omega) (by decide), ?_⟩
      rw [hs_get (A := F) (by omega) (by omega), hs_get (A := c) q0 (by omega), hc q q0 (by omega), (hA q q0 (by omega)).1]
      refine br_t rfl ⟨25, ?_⟩
      rw [← hs_l0]
      exact inner _ q q0 (by omega) (ih (q + 1) (by omega) (by omega) (by omega)) 25 0 (by omega) (by omega) (by omega)
  unfold wpX_arrayHeapsHold
  dsimp only
  refine ⟨5, ?_⟩
  rw [← hs_l0]
  exact outer 5 0 (by omega) (by omega) (by omega)
end HS35
end
section
section HS36
/-! sound: leaning trees and pairing heap -/
theorem hs_mn_c {K h : Int → Int} {q r : Int} (m : hs_mn K h q r) : (r = -1 ↔ hs_c h q = 0) := by
  have cr := hs_c_r h q
  constructor
  · intro e
    rcases m with x | x
    · apply Classical.byContradiction
      intro y
      obtain ⟨i, a, b, c⟩ := hs_c_ex (H := h) (q := q) (by omega)
      exact x.2 i a b c
    · omega
  · intro e
    rcases m with x | x
    · exact x.1
    · exact absurd x.2.2.1 (hs_c_0 e x.1 x.2.1)
theorem hs_leanC {post : Int32 → Prop} {k h c S F P lr ll lR lu ln pr pc pn pb tr tc tn tu ni nn wi : Int → Int} {w q i d : Int} (kr : hs_kr k) (hw : 0 ≤ w) (hw' : w ≤ 1) (hh : hs_rg h 24 (-1) 3) (i0 : 0 ≤ i) (i1 : i < 24) (hi : h i = q)
    (hd : d = -1 ∨ (hs_LD h w q d ∧ lu d = w * 24 + i ∧ hs_Lk (hs_K k) w (w * 24 + i) < hs_Lk (hs_K k) w d)) (hp : post 1) : wpX_leaningChildHolds post (hs_e k, hs_e h, hs_e c, hs_e S, hs_e F, hs_e P, hs_e lr, hs_e ll, hs_e lR, hs_e lu, hs_e ln, hs_e pr, hs_e pc, hs_e pn, hs_e pb, hs_e tr, hs_e tc, hs_e tn, hs_e tu, hs_e ni, hs_e nn, hs_e wi) (hs_i w) (hs_i i) (hs_i d) := by
  have db : -1 ≤ d ∧ d < 48 := by
    rcases hd with x | x
    · omega
    · have := x.1.1; have := x.1.2.1; omega
  unfold wpX_leaningChildHolds
  dsimp only
  refine hs_eq d (-1) (fun _ => hp) (fun z => ?_)
  obtain ⟨d1, d2, d3⟩ := hd.resolve_left z
  have r1 := d1.1
  have r2 := d1.2.1
  refine nm_r (hs_m24 w) (nm_r (hs_sub _ _) (hs_isI (by omega) (fun _ _ => br_f (by decide) ⟨hs_in (by omega) (by omega) (by decide), ?_⟩) (fun y => absurd ⟨by omega, by omega⟩ y)))
  rw [hs_get (A := lu) (by omega) (by omega), hs_add, d2]
  refine br_t rfl ⟨hs_in (by omega) (by omega) (by decide), hs_in i0 (by omega) (by decide), ?_⟩
  rw [hs_get (A := h) (x := d - w * 24) (by omega) (by omega), hs_get (A := h) (x := i) i0 (by omega), d1.2.2, hi]
  refine br_t rfl (hs_cb kr i0 i1 (by omega) (by omega) (fun _ => br_f (by decide) hp) (fun g => ?_))
  unfold hs_Lk at d3
  rw [show w * 24 + i - w * 24 = i by omega] at d3
  exact absurd d3 g
theorem hs_leanI {post : Int32 → Prop} {k h c S F P lr ll lR lu ln pr pc pn pb tr tc tn tu ni nn wi : Int → Int} {w q i : Int} (kr : hs_kr k) (hw : 0 ≤ w) (hw' : w ≤ 1) (hh : hs_rg h 24 (-1) 3) (hq : 0 ≤ q) (hq' : q ≤ 3) (i0 : 0 ≤ i) (i1 : i < 24) (hi : h i = q)
    (hT : hs_LT (hs_K k) h lr ll lR lu ln w q) (hp : post 1) : wpX_leaningItemHolds post (hs_e k, hs_e h, hs_e c, hs_e S, hs_e F, hs_e P, hs_e lr, hs_e ll, hs_e lR, hs_e lu, hs_e ln, hs_e pr, hs_e pc, hs_e pn, hs_e pb, hs_e tr, hs_e tc, hs_e tn, hs_e tu, hs_e ni, hs_e nn, hs_e wi) (hs_i w) (hs_i i) := by
  obtain ⟨t1, t2, t3, t4⟩ := hT
  have hm := hs_LD_m (H := h) (q := q) hw
  have hD : hs_LD h w q (w * 24 + i) := ⟨by omega, by omega, by rw [show w * 24 + i - w * 24 = i by omega]; exact hi⟩
  have kid : ∀ n, hs_LD h w q n → lu n = w * 24 + i → hs_Lk (hs_K k) w (w * 24 + i) < hs_Lk (hs_K k) w n := by
    intro n hn z
    rcases (t1 n hn).2 with v | v
    · rw [z] at v; exact absurd v (hm _ hD)
    · rw [z] at v; exact v.2.2.1
  obtain ⟨c1, c2, c3⟩ := (t1 _ hD).1 (hm _ hD)
  have up := (t1 _ hD).2
  unfold wpX_leaningItemHolds
  dsimp only
  refine nm_r (hs_m24 w) (nm_r (hs_add _ _) ?_)
  have tk := fun z => t4 z _ hD
  have t2' := t2 _ hD
  have e0 : w * 24 + i - w * 24 = i := by omega
  generalize hE : w * 24 + i = e at *
  have e1 := hD.1
  have e2 := hD.2.1
  have lb : -1 ≤ ll e ∧ ll e < 48 := by
    rcases c1 with x | x
    · omega
    · have := x.1.1; have := x.1.2.1; omega
  have rb : -1 ≤ lR e ∧ lR e < 48 := by
    rcases c2 with x | x
    · omega
    · have := x.1.1; have := x.1.2.1; omega
  have ub : -1 ≤ lu e ∧ lu e < 48 := by
    rcases up with x | x
    · omega
    · have := x.1.1; have := x.1.2.1; omega
  have lc : ll e = -1 ∨ (hs_LD h w q (ll e) ∧ lu (ll e) = w * 24 + i ∧ hs_Lk (hs_K k) w (w * 24 + i) < hs_Lk (hs_K k) w (ll e)) := by
    rcases c1 with x | x
    · exact Or.inl x
    · rw [hE]; exact Or.inr ⟨x.1, x.2, kid _ x.1 x.2⟩
  have rc : lR e = -1 ∨ (hs_LD h w q (lR e) ∧ lu (lR e) = w * 24 + i ∧ hs_Lk (hs_K k) w (w * 24 + i) < hs_Lk (hs_K k) w (lR e)) := by
    rcases c2 with x | x
    · exact Or.inl x
    · rw [hE]; exact Or.inr ⟨x.1, x.2, kid _ x.1 x.2⟩
  have last : wX_leaningItemHolds_106 post (hs_i w) (hs_i i) (hs_i e) (hs_e k) (hs_e h) (hs_e c) (hs_e S) (hs_e F) (hs_e P) (hs_e lr) (hs_e ll) (hs_e lR) (hs_e lu) (hs_e ln) (hs_e pr) (hs_e pc) (hs_e pn) (hs_e pb) (hs_e tr) (hs_e tc) (hs_e tn) (hs_e tu) (hs_e ni) (hs_e nn) (hs_e wi) := by
    unfold wX_leaningItemHolds_106
    refine hs_rd e rfl (by omega) (by omega) (by decide) (hs_eq (lu e) (-1) (fun z => ⟨hs_in i0 (by omega) (by decide), ?_⟩) (fun z => ⟨hs_in (by omega) (by omega) (by decide), ?_⟩))
    · rw [hs_get (A := h) i0 (by omega), hi, hs_x4]
      refine ⟨hs_in (by omega) (by omega) (by decide), ?_⟩
      rw [hs_get (A := lr) (by omega) (by omega), t2' z]
      exact br_t rfl hp
    · obtain ⟨u1, u2, u3, u4⟩ := up.resolve_left z
      have v1 := u1.1
      have v2 := u1.2.1
      have llb : -1 ≤ ll (lu e) ∧ ll (lu e) < 48 := by
        rcases (hs_LO_ch t1 u1 u2).1 with x | x
        · omega
        · have := x.1; have := x.2.1; omega
      have lRb : -1 ≤ lR (lu e) ∧ lR (lu e) < 48 := by
        rcases (hs_LO_ch t1 u1 u2).2 with x | x
        · omega
        · have := x.1; have := x.2.1; omega
      rw [hs_get (A := ll) (by omega) (by omega)]
      refine hs_eq (ll (lu e)) e (fun _ => hp) (fun y => ⟨hs_in (by omega) (by omega) (by decide), ?_⟩)
      rw [hs_get (A := lR) (by omega) (by omega)]
      exact hs_eq (lR (lu e)) e (fun _ => hp) (fun x => absurd (u4.resolve_left y) x)
  have mid : wX_leaningItemHolds_67 post (hs_i w) (hs_i i) (hs_i e) (hs_i (ll e)) (hs_i (lR e)) (hs_e k) (hs_e h) (hs_e c) (hs_e S) (hs_e F) (hs_e P) (hs_e lr) (hs_e ll) (hs_e lR) (hs_e lu) (hs_e ln) (hs_e pr) (hs_e pc) (hs_e pn) (hs_e pb) (hs_e tr) (hs_e tc) (hs_e tn) (hs_e tu) (hs_e ni) (hs_e nn) (hs_e wi) := by
    unfold wX_leaningItemHolds_67
    refine hs_eq w 0 (fun z => ?_) (fun _ => last)
    have K := tk z
    refine hs_rko (by omega) (hs_rko (by omega) (br_f K.1 ⟨hs_in (by omega) (by omega) (by decide), hs_rko (by omega) ?_⟩))
    rw [hs_get (A := ln) (by omega) (by omega), hs_1, K.2]
    exact br_t rfl last
  refine hs_rd e rfl (by omega) (by omega) (by decide) (hs_rd e rfl (by omega) (by omega) (by decide) ?_)
  refine hs_leanC (q := q) kr hw hw' hh i0 i1 hi lc (br_f (by decide) (hs_leanC (q := q) kr hw hw' hh i0 i1 hi rc (br_f (by decide) ?_)))
  exact hs_eq (ll e) (-1) (fun _ => mid) (fun z => hs_eq (ll e) (lR e) (fun y => absurd (c3 y) z) (fun _ => mid))
theorem hs_leanH {post : Int32 → Prop} {k h c S F P lr ll lR lu ln pr pc pn pb tr tc tn tu ni nn wi : Int → Int} {w : Int} (kr : hs_kr k) (hw : 0 ≤ w) (hw' : w ≤ 1) (hh : hs_rg h 24 (-1) 3) (hL : hs_LL (hs_K k) h lr ll lR lu ln w) (hR : hs_LR lr ll lR lu) (hc : ∀ q, 0 ≤ q → q ≤ 3 → c q = hs_c h q) (hp : post 1) :
    wpX_leaningHolds post (hs_e k, hs_e h, hs_e c, hs_e S, hs_e F, hs_e P, hs_e lr, hs_e ll, hs_e lR, hs_e lu, hs_e ln, hs_e pr, hs_e pc, hs_e pn, hs_e pb, hs_e tr, hs_e tc, hs_e tn, hs_e tu, hs_e ni, hs_e nn, hs_e wi) (hs_i w) := by
  have items : ∀ (n : Nat) (i : Int), 0 ≤ i → i ≤ 24 → 24 - i < n → wX_leaningHolds_53 post (hs_i w) (hs_e k) (hs_e h) (hs_e c) (hs_e S) (hs_e F) (hs_e P) (hs_e lr) (hs_e ll) (hs_e lR) (hs_e lu) (hs_e ln) (hs_e pr) (hs_e pc) (hs_e pn) (hs_e pb) (hs_e tr) (hs_e tc) (hs_e tn) (hs_e tu) (hs_e ni) (hs_e nn) (hs_e wi) n (hs_i i) := by
    intro n
    induction n with
    | zero => intro i a b c; omega
    | succ n ih =>
      intro i i0 i1 hn
      refine hs_le 24 i (fun _ => hp) (fun z => ⟨hs_in i0 (by omega) (by decide), ?_⟩)
      have r := hh i i0 z
      rw [hs_get (A := h) i0 (by omega)]
      exact hs_eq (h i) (-1) (fun _ => nm_r (hs_1 i) (ih (i + 1) (by omega) (by omega) (by omega))) (fun y => hs_leanI kr hw hw' hh (by omega) r.2 i0 z rfl (hL (h i) (by omega) r.2) (br_f (by decide) (nm_r (hs_1 i) (ih (i + 1) (by omega) (by omega) (by omega)))))
  have outer : ∀ (n : Nat) (q : Int), 0 ≤ q → q ≤ 4 → 4 - q < n → wX_leaningHolds_2 post (hs_i w) (hs_e k) (hs_e h) (hs_e c) (hs_e S) (hs_e F) (hs_e P) (hs_e lr) (hs_e ll) (hs_e lR) (hs_e lu) (hs_e ln) (hs_e pr) (hs_e pc) (hs_e pn) (hs_e pb) (hs_e tr) (hs_e tc) (hs_e tn) (hs_e tu) (hs_e ni) (hs_e nn) (hs_e wi) n (hs_i q) := by
    intro n
    induction n with
    | zero => intro q a b c; omega
    | succ n ih =>
      intro q q0 q1 hn
      refine hs_le 4 q (fun _ => ⟨25, ?_⟩) (fun z => ?_)
      · rw [← hs_l0]; exact items 25 0 (by omega) (by omega) (by omega)
      · have cr := hs_c_r h q
        have m := hs_mn_c (hs_LT_mn hw (hL q q0 (by omega)))
        have r := hR.1 (w * 4 + q) (by omega) (by omega)
        have nx := ih (q + 1) (by omega) (by omega) (by omega)
        have t3 := (hL q q0 (by omega)).2.2.1
        rw [hs_x4]
        refine ⟨hs_in (by omega) (by omega) (by decide), ?_⟩
        rw [hs_get (A := lr) (by omega) (by omega)]
        refine hs_eq (lr (w * 4 + q)) (-1) (fun y => ?_) (fun y => ?_)
        · rw [if_pos y] at m
          unfold wX_leaningHolds_26
          refine ⟨hs_in q0 (by omega) (by decide), ?_⟩
          rw [hs_get (A := c) q0 (by omega), hc q q0 (by omega)]
          refine hs_eq (hs_c h q) 0 (fun _ => ?_) (fun x => absurd (m.mp rfl) x)
          unfold wX_leaningHolds_40
          exact br_t rfl (nm_r (hs_1 q) nx)
        · rw [if_neg y] at m
          unfold wX_leaningHolds_26
          refine ⟨hs_in q0 (by omega) (by decide), ?_⟩
          rw [hs_get (A := c) q0 (by omega), hc q q0 (by omega)]
          refine hs_eq (hs_c h q) 0 (fun x => ?_) (fun x => ?_)
          · have := m.mpr x
            rcases t3 with u | u
            · exact absurd u y
            · have := u.1.1; omega
          · unfold wX_leaningHolds_40
            exact br_t rfl (nm_r (hs_1 q) nx)
  unfold wpX_leaningHolds
  dsimp only
  refine ⟨5, ?_⟩
  rw [← hs_l0]
  exact outer 5 0 (by omega) (by omega) (by omega)
theorem hs_pairL {post : Int32 → Prop} {k h c S F P lr ll lR lu ln pr pc pn pb tr tc tn tu ni nn wi : Int → Int} {q i d : Int} (i0 : 0 ≤ i) (i1 : i < 24) (hi : h i = q) (hd : d = -1 ∨ (hs_PD h q d ∧ pb d = i)) (hp : post 1) :
    wpX_pairingLinkHolds post (hs_e k, hs_e h, hs_e c, hs_e S, hs_e F, hs_e P, hs_e lr, hs_e ll, hs_e lR, hs_e lu, hs_e ln, hs_e pr, hs_e pc, hs_e pn, hs_e pb, hs_e tr, hs_e tc, hs_e tn, hs_e tu, hs_e ni, hs_e nn, hs_e wi) (hs_i i) (hs_i d) := by
  have db : -1 ≤ d ∧ d < 24 := by
    rcases hd with x | x
    · omega
    · have := x.1.1; have := x.1.2.1; omega
  unfold wpX_pairingLinkHolds
  dsimp only
  refine hs_eq d (-1) (fun _ => hp) (fun z => ?_)
  obtain ⟨d1, d2⟩ := hd.resolve_left z
  have r1 := d1.1
  have r2 := d1.2.1
  refine ⟨hs_in r1 (by omega) (by decide), ?_⟩
  rw [hs_get (A := pb) r1 (by omega), d2]
  refine br_t rfl ⟨hs_in r1 (by omega) (by decide), hs_in i0 (by omega) (by decide), ?_⟩
  rw [hs_get (A := h) (x := d) r1 (by omega), hs_get (A := h) (x := i) i0 (by omega), d1.2.2, hi]
  exact br_t rfl hp
theorem hs_pairP {post : Int32 → Prop} {k h c S F P lr ll lR lu ln pr pc pn pb tr tc tn tu ni nn wi G O : Int → Int} {q i : Int} (hO : hs_PO (hs_PD h q) (hs_K k) G O pc pn pb (-1) (-1)) (hi : hs_PD h q i) (gi : G i ≠ -1) (hp : post (hs_i (G i))) :
    wpX_pairParentOf post (hs_e k, hs_e h, hs_e c, hs_e S, hs_e F, hs_e P, hs_e lr, hs_e ll, hs_e lR, hs_e lu, hs_e ln, hs_e pr, hs_e pc, hs_e pn, hs_e pb, hs_e tr, hs_e tc, hs_e tn, hs_e tu, hs_e ni, hs_e nn, hs_e wi) (hs_i i) := by
  have hm := hs_PD_m (H := h) (q := q)
  have loop : ∀ (n : Nat) (j st : Int), hs_PD h q j → G j = G i → 0 ≤ st → st ≤ hs_rk O j → 24 - st < n → wX_pairParentOf_4 post (hs_e k) (hs_e h) (hs_e c) (hs_e S) (hs_e F) (hs_e P) (hs_e lr) (hs_e ll) (hs_e lR) (hs_e lu) (hs_e ln) (hs_e pr) (hs_e pc) (hs_e pn) (hs_e pb) (hs_e tr) (hs_e tc) (hs_e tn) (hs_e tu) (hs_e ni) (hs_e nn) (hs_e wi) n (hs_i j) (hs_i st) := by
    intro n
    induction n with
    | zero =>
      intro j st hj _ _ s1 hn
      have := hs_rk_r O (i := j) hj.1 hj.2.1
      omega
    | succ n ih =>
      intro j st hj gj s0 s1 hn
      have rk := hs_rk_r O (i := j) hj.1 hj.2.1
      have j0 := hj.1
      have j1 := hj.2.1
      refine hs_le 24 st (fun z => absurd z (by omega)) (fun _ => hs_rd j rfl j0 (by omega) (by decide) ?_)
      obtain ⟨g1, g2, g3⟩ := ((hO j hj).2.2).resolve_left (fun z => gi (gj.symm.trans z))
      have g3 := g3.resolve_left (hm j hj)
      have bD : hs_PD h q (pb j) := by
        rcases g3 with x | x
        · rw [x.1]; exact g1
        · exact x.1
      have b0 := bD.1
      have b1 := bD.2.1
      have cb : -1 ≤ pc (pb j) ∧ pc (pb j) < 24 := by
        rcases (hO _ bD).1 (hm _ bD) with x | x
        · omega
        · have := x.1.1; have := x.1.2.1; omega
      refine hs_eq (pb j) (-1) (fun z => absurd z (by omega)) (fun z => ⟨hs_in b0 (by omega) (by decide), ?_⟩)
      rw [hs_get (A := pc) b0 (by omega)]
      refine hs_eq (pc (pb j)) j (fun y => ?_) (fun y => ?_)
      · have e : pb j = G i := by
          rcases (hO _ bD).1 (hm _ bD) with x | x
          · rw [y] at x; omega
          · rw [y] at x; rw [← x.2.1]; exact gj
        rw [e]; exact hp
      · have x := g3.resolve_left (fun v => y (by rw [v.1]; exact v.2.2))
        refine nm_r (hs_1 st) (ih (pb j) (st + 1) bD (x.2.1.trans gj) (by omega) ?_ (by omega))
        have w := (hO _ bD).2.1 (by rw [x.2.1, gj]; exact gi)
        rw [x.2.2] at w
        have w := w.resolve_left (hm j hj)
        have := hs_rk_lt (f := O) (i := j) (j := pb j) j0 j1 w.2.2.2
        omega
  unfold wpX_pairParentOf
  dsimp only
  refine ⟨25, ?_⟩
  rw [← hs_l0]
  exact loop 25 i 0 hi rfl (by omega) (hs_rk_r O hi.1 hi.2.1).1 (by omega)
theorem hs_pairI {post : Int32 → Prop} {k h c S F P lr ll lR lu ln pr pc pn pb tr tc tn tu ni nn wi : Int → Int} {q i : Int} (kr : hs_kr k) (hq : 0 ≤ q) (hq' : q ≤ 3) (i0 : 0 ≤ i) (i1 : i < 24) (hi : h i = q) (hT : hs_PT (hs_K k) h pr pc pn pb q) (hp : post 1) :
    wpX_pairingItemHolds post (hs_e k, hs_e h, hs_e c, hs_e S, hs_e F, hs_e P, hs_e lr, hs_e ll, hs_e lR, hs_e lu, hs_e ln, hs_e pr, hs_e pc, hs_e pn, hs_e pb, hs_e tr, hs_e tc, hs_e tn, hs_e tu, hs_e ni, hs_e nn, hs_e wi) (hs_i i) := by
  obtain ⟨G, O, t1, t2, t3⟩ := hT
  have hm := hs_PD_m (H := h) (q := q)
  have iD : hs_PD h q i := ⟨i0, i1, hi⟩
  obtain ⟨c1, c2, c3⟩ := t1 i iD
  have c1 := c1 (hm i iD)
  -- next of a root is none
  have nx : pn i = -1 ∨ (hs_PD h q (pn i) ∧ pb (pn i) = i ∧ G (pn i) = G i ∧ G i ≠ -1) := by
    by_cases g : G i = -1
    · left
      have e := t2 i iD g
      rcases t3 with x | x
      · rw [e] at x; exact absurd x (hm i iD)
      · rw [e] at x; exact x.2.2.2
    · rcases c2 g with x | x
      · exact Or.inl x
      · exact Or.inr ⟨x.1, x.2.2.1, x.2.1, g⟩
  have cb : -1 ≤ pc i ∧ pc i < 24 := by
    rcases c1 with x | x
    · omega
    · have := x.1.1; have := x.1.2.1; omega
  have nb : -1 ≤ pn i ∧ pn i < 24 := by
    rcases nx with x | x
    · omega
    · have := x.1.1; have := x.1.2.1; omega
  have ne : pc i ≠ -1 → pc i ≠ pn i := by
    intro z y
    have x := c1.resolve_left z
    rw [y] at x z
    have v := nx.resolve_left z
    have e : G i = i := v.2.2.1.symm.trans x.2.1
    rcases c3 with u | u
    · exact v.2.2.2 u
    · rw [e] at u; omega
  have bk : (G i = -1 ∧ pb i = -1) ∨ (G i ≠ -1 ∧ hs_PD h q (pb i) ∧ (pc (pb i) = i ∨ pn (pb i) = i)) := by
    by_cases g : G i = -1
    · left
      refine ⟨g, ?_⟩
      have e := t2 i iD g
      rcases t3 with x | x
      · rw [e] at x; exact absurd x (hm i iD)
      · rw [e] at x; exact x.2.2.1
    · right
      obtain ⟨d1, d2, d3⟩ := c3.resolve_left g
      rcases d3.resolve_left (hm i iD) with x | x
      · exact ⟨g, by rw [x.1]; exact d1, Or.inl (by rw [x.1]; exact x.2.2)⟩
      · exact ⟨g, x.1, Or.inr x.2.2⟩
  have bb : -1 ≤ pb i ∧ pb i < 24 := by
    rcases bk with x | x
    · have := x.2; omega
    · have := x.2.1.1; have := x.2.1.2.1; omega
  have par : G i ≠ -1 → wX_pairingItemHolds_110 post (hs_i i) (hs_e k) (hs_e h) (hs_e c) (hs_e S) (hs_e F) (hs_e P) (hs_e lr) (hs_e ll) (hs_e lR) (hs_e lu) (hs_e ln) (hs_e pr) (hs_e pc) (hs_e pn) (hs_e pb) (hs_e tr) (hs_e tc) (hs_e tn) (hs_e tu) (hs_e ni) (hs_e nn) (hs_e wi) := by
    intro g
    obtain ⟨d1, d2, _⟩ := c3.resolve_left g
    unfold wX_pairingItemHolds_110
    refine hs_pairP t1 iD g ?_
    have r1 := d1.1
    have r2 := d1.2.1
    refine hs_eq (G i) (-1) (fun z => absurd z g) (fun _ => hs_cb kr r1 r2 i0 i1 (fun _ => br_f (by decide) hp) (fun z => absurd d2 z))
  have mid : wX_pairingItemHolds_46 post (hs_i i) (hs_i (pn i)) (hs_e k) (hs_e h) (hs_e c) (hs_e S) (hs_e F) (hs_e P) (hs_e lr) (hs_e ll) (hs_e lR) (hs_e lu) (hs_e ln) (hs_e pr) (hs_e pc) (hs_e pn) (hs_e pb) (hs_e tr) (hs_e tc) (hs_e tn) (hs_e tu) (hs_e ni) (hs_e nn) (hs_e wi) := by
    unfold wX_pairingItemHolds_46
    refine hs_rd i rfl i0 (by omega) (by decide) (hs_eq (pb i) (-1) (fun z => ⟨hs_in i0 (by omega) (by decide), ?_⟩) (fun z => ?_))
    · have g : G i = -1 := by
        rcases bk with x | x
        · exact x.1
        · exact absurd z (hm _ x.2.1)
      rw [hs_get (A := h) i0 (by omega), hi]
      refine ⟨hs_in hq (by omega) (by decide), ?_⟩
      rw [hs_get (A := pr) hq (by omega), t2 i iD g]
      refine br_t rfl (hs_eq (pn i) (-1) (fun _ => hp) (fun y => ?_))
      exact absurd g (nx.resolve_left y).2.2.2
    · obtain ⟨g, bD, bx⟩ := bk.resolve_left (fun x => z x.2)
      have b0 := bD.1
      have b1 := bD.2.1
      have cbb : -1 ≤ pc (pb i) ∧ pc (pb i) < 24 := by
        rcases (t1 _ bD).1 (hm _ bD) with x | x
        · omega
        · have := x.1.1; have := x.1.2.1; omega
      refine ⟨hs_in b0 (by omega) (by decide), ?_⟩
      rw [hs_get (A := pc) b0 (by omega)]
      refine hs_eq (pc (pb i)) i (fun _ => par g) (fun y => ⟨hs_in b0 (by omega) (by decide), ?_⟩)
      rw [hs_get (A := pn) b0 (by omega), bx.resolve_left y]
      exact br_t rfl (par g)
  unfold wpX_pairingItemHolds
  dsimp only
  refine hs_rd i rfl i0 (by omega) (by decide) (hs_rd i rfl i0 (by omega) (by decide) ?_)
  refine hs_pairL (q := q) i0 i1 hi ?_ (br_f (by decide) (hs_pairL (q := q) i0 i1 hi ?_ (br_f (by decide) ?_)))
  · rcases c1 with x | x
    · exact Or.inl x
    · exact Or.inr ⟨x.1, x.2.2⟩
  · rcases nx with x | x
    · exact Or.inl x
    · exact Or.inr ⟨x.1, x.2.1⟩
  · exact hs_eq (pc i) (-1) (fun _ => mid) (fun z => hs_eq (pc i) (pn i) (fun y => absurd y (ne z)) (fun _ => mid))
theorem hs_pairH {post : Int32 → Prop} {k h c S F P lr ll lR lu ln pr pc pn pb tr tc tn tu ni nn wi : Int → Int} (kr : hs_kr k) (hh : hs_rg h 24 (-1) 3) (hL : hs_PA (hs_K k) h pr pc pn pb) (hR : hs_PR pr pc pn pb) (hc : ∀ q, 0 ≤ q → q ≤ 3 → c q = hs_c h q) (hp : post 1) :
    wpX_pairingHolds post (hs_e k, hs_e h, hs_e c, hs_e S, hs_e F, hs_e P, hs_e lr, hs_e ll, hs_e lR, hs_e lu, hs_e ln, hs_e pr, hs_e pc, hs_e pn, hs_e pb, hs_e tr, hs_e tc, hs_e tn, hs_e tu, hs_e ni, hs_e nn, hs_e wi) := by
  have items : ∀ (n : Nat) (i : Int), 0 ≤ i → i ≤ 24 → 24 - i < n → wX_pairingHolds_49 post (hs_e k) (hs_e h) (hs_e c) (hs_e S) (hs_e F) (hs_e P) (hs_e lr) (hs_e ll) (hs_e lR) (hs_e lu) (hs_e ln) (hs_e pr) (hs_e pc) (hs_e pn) (hs_e pb) (hs_e tr) (hs_e tc) (hs_e tn) (hs_e tu) (hs_e ni) (hs_e nn) (hs_e wi) n (hs_i i) := by
    intro n
    induction n with
    | zero => intro i a b c; omega
    | succ n ih =>
      intro i i0 i1 hn
      refine hs_le 24 i (fun _ => hp) (fun z => ⟨hs_in i0 (by omega) (by decide), ?_⟩)
      have r := hh i i0 z
      rw [hs_get (A := h) i0 (by omega)]
      exact hs_eq (h i) (-1) (fun _ => nm_r (hs_1 i) (ih (i + 1) (by omega) (by omega) (by omega))) (fun y => hs_pairI kr (by omega) r.2 i0 z rfl (hL (h i) (by omega) r.2) (br_f (by decide) (nm_r (hs_1 i) (ih (i + 1) (by omega) (by omega) (by omega)))))
  have outer : ∀ (n : Nat) (q : Int), 0 ≤ q → q ≤ 4 → 4 - q < n → wX_pairingHolds_2 post (hs_e k) (hs_e h) (hs_e c) (hs_e S) (hs_e F) (hs_e P) (hs_e lr) (hs_e ll) (hs_e lR) (hs_e lu) (hs_e ln) (hs_e pr) (hs_e pc) (hs_e pn) (hs_e pb) (hs_e tr) (hs_e tc) (hs_e tn) (hs_e tu) (hs_e ni) (hs_e nn) (hs_e wi) n (hs_i q) := by
    intro n
    induction n with
    | zero => intro q a b c; omega
    | succ n ih =>
      intro q q0 q1 hn
      refine hs_le 4 q (fun _ => ⟨25, ?_⟩) (fun z => ?_)
      · rw [← hs_l0]; exact items 25 0 (by omega) (by omega) (by omega)
      · have cr := hs_c_r h q
        have m := hs_mn_c (hs_PT_mn (hL q q0 (by omega)))
        have r := hR.1 q q0 (by omega)
        have nx := ih (q + 1) (by omega) (by omega) (by omega)
        refine ⟨hs_in q0 (by omega) (by decide), ?_⟩
        rw [hs_get (A := pr) q0 (by omega)]
        refine hs_eq (pr q) (-1) (fun y => ?_) (fun y => ?_)
        · unfold wX_pairingHolds_22
          refine ⟨hs_in q0 (by omega) (by decide), ?_⟩
          rw [hs_get (A := c) q0 (by omega), hc q q0 (by omega)]
          refine hs_eq (hs_c h q) 0 (fun _ => ?_) (fun x => absurd (m.mp y) x)
          unfold wX_pairingHolds_36
          exact br_t rfl (nm_r (hs_1 q) nx)
        · unfold wX_pairingHolds_22
          refine ⟨hs_in q0 (by omega) (by decide), ?_⟩
          rw [hs_get (A := c) q0 (by omega), hc q q0 (by omega)]
          refine hs_eq (hs_c h q) 0 (fun x => absurd (m.mpr x) y) (fun x => ?_)
          unfold wX_pairingHolds_36
          exact br_t rfl (nm_r (hs_1 q) nx)
  unfold wpX_pairingHolds
  dsimp only
  refine ⟨5, ?_⟩
  rw [← hs_l0]
  exact outer 5 0 (by omega) (by omega) (by omega)
end HS36
end
section
section HS37
/-! sound: binomial heap, tournaments, all -/
theorem hs_shl : ∀ o, 0 ≤ o → o ≤ 4 → (1 : Int32) <<< (hs_i o &&& 31) = hs_i (hs_pw o) :=
  hs_o5 (by decide) (by decide) (by decide) (by decide) (by decide)
/-- the trees below order o, as digits -/
def hs_tp (T : Int → Int) (q o : Int) : Int := (if 0 < o then hs_b1 (T (q * 5)) 1 else 0) + (if 1 < o then hs_b1 (T (q * 5 + 1)) 2 else 0) + (if 2 < o then hs_b1 (T (q * 5 + 2)) 4 else 0) + (if 3 < o then hs_b1 (T (q * 5 + 3)) 8 else 0) + (if 4 < o then hs_b1 (T (q * 5 + 4)) 16 else 0)
theorem hs_tp_s (T : Int → Int) (q : Int) : ∀ o, 0 ≤ o → o ≤ 4 → hs_tp T q (o + 1) = hs_tp T q o + hs_b1 (T (q * 5 + o)) (hs_pw o) := by
  refine hs_o5 ?_ ?_ ?_ ?_ ?_
  · unfold hs_tp
    simp only [show (0 : Int) < 0 + 1 by decide, show ¬ (1 : Int) < 0 + 1 by decide, show ¬ (2 : Int) < 0 + 1 by decide, show ¬ (3 : Int) < 0 + 1 by decide, show ¬ (4 : Int) < 0 + 1 by decide, show ¬ (0 : Int) < 0 by decide, show ¬ (1 : Int) < 0 by decide, show ¬ (2 : Int) < 0 by decide, show ¬ (3 : Int) < 0 by decide, show ¬ (4 : Int) < 0 by decide, if_true, if_false, Int.add_zero]
    show _ = _ + hs_b1 (T (q * 5)) 1
    omega
  · unfold hs_tp
    simp only [show (0 : Int) < 1 + 1 by decide, show (1 : Int) < 1 + 1 by decide, show ¬ (2 : Int) < 1 + 1 by decide, show ¬ (3 : Int) < 1 + 1 by decide, show ¬ (4 : Int) < 1 + 1 by decide, show (0 : Int) < 1 by decide, show ¬ (1 : Int) < 1 by decide, show ¬ (2 : Int) < 1 by decide, show ¬ (3 : Int) < 1 by decide, show ¬ (4 : Int) < 1 by decide, if_true, if_false]
    show _ = _ + hs_b1 (T (q * 5 + 1)) 2
    omega
  · unfold hs_tp
    simp only [show (0 : Int) < 2 + 1 by decide, show (1 : Int) < 2 + 1 by decide, show (2 : Int) < 2 + 1 by decide, show ¬ (3 : Int) < 2 + 1 by decide, show ¬ (4 : Int) < 2 + 1 by decide, show (0 : Int) < 2 by decide, show (1 : Int) < 2 by decide, show ¬ (2 : Int) < 2 by decide, show ¬ (3 : Int) < 2 by decide, show ¬ (4 : Int) < 2 by decide, if_true, if_false]
    show _ = _ + hs_b1 (T (q * 5 + 2)) 4
    omega
  · unfold hs_tp
    simp only [show (0 : Int) < 3 + 1 by decide, show (1 : Int) < 3 + 1 by decide, show (2 : Int) < 3 + 1 by decide, show (3 : Int) < 3 + 1 by decide, show ¬ (4 : Int) < 3 + 1 by decide, show (0 : Int) < 3 by decide, show (1 : Int) < 3 by decide, show (2 : Int) < 3 by decide, show ¬ (3 : Int) < 3 by decide, show ¬ (4 : Int) < 3 by decide, if_true, if_false]
    show _ = _ + hs_b1 (T (q * 5 + 3)) 8
    omega
  · unfold hs_tp
    simp only [show (0 : Int) < 4 + 1 by decide, show (1 : Int) < 4 + 1 by decide, show (2 : Int) < 4 + 1 by decide, show (3 : Int) < 4 + 1 by decide, show (4 : Int) < 4 + 1 by decide, show (0 : Int) < 4 by decide, show (1 : Int) < 4 by decide, show (2 : Int) < 4 by decide, show (3 : Int) < 4 by decide, show ¬ (4 : Int) < 4 by decide, if_true, if_false]
    show _ = _ + hs_b1 (T (q * 5 + 4)) 16
    omega
theorem hs_treesH {post : Int32 → Prop} {k h c S F P lr ll lR lu ln pr pc pn pb tr tc tn tu ni nn wi : Int → Int} {q : Int} (hq : 0 ≤ q) (hq' : q ≤ 3) (hB : hs_BT (hs_K k) h tr tc tn tu ni q) (hP : hs_PM ni nn) (hR : hs_BG tr tc tn tu) (hc : c q = hs_c h q) (hp : post 1) :
    wpX_treesHold post (hs_e k, hs_e h, hs_e c, hs_e S, hs_e F, hs_e P, hs_e lr, hs_e ll, hs_e lR, hs_e lu, hs_e ln, hs_e pr, hs_e pc, hs_e pn, hs_e pb, hs_e tr, hs_e tc, hs_e tn, hs_e tu, hs_e ni, hs_e nn, hs_e wi) (hs_i q) := by
  obtain ⟨d, t1, t2, t3, t4⟩ := hB
  have cr := hs_c_r h q
  have loop : ∀ (n : Nat) (o : Int), 0 ≤ o → o ≤ 5 → 5 - o < n → wX_treesHold_4 post (hs_i q) (hs_e k) (hs_e h) (hs_e c) (hs_e S) (hs_e F) (hs_e P) (hs_e lr) (hs_e ll) (hs_e lR) (hs_e lu) (hs_e ln) (hs_e pr) (hs_e pc) (hs_e pn) (hs_e pb) (hs_e tr) (hs_e tc) (hs_e tn) (hs_e tu) (hs_e ni) (hs_e nn) (hs_e wi) n (hs_i (hs_tp tr q o)) (hs_i o) := by
    intro n
    induction n with
    | zero => intro o a b c; omega
    | succ n ih =>
      intro o o0 o5 hn
      refine hs_le 5 o (fun z => ⟨hs_in hq (by omega) (by decide), ?_⟩) (fun z => ?_)
      · have e : o = 5 := by omega
        rw [e, hs_get (A := c) hq (by omega), hc, ← t4]
        exact br_t rfl hp
      · have s := hs_tp_s tr q o o0 (by omega)
        have nx := ih (o + 1) (by omega) (by omega) (by omega)
        rw [s] at nx
        have rt := t3.2 o o0 (by omega)
        have tb := hR.1 (q * 5 + o) (by omega) (by omega)
        refine hs_rd (q * 5 + o) (hs_x5 _ _) (by omega) (by omega) (by decide) (hs_eq (tr (q * 5 + o)) (-1) (fun y => nm_r (hs_1 o) ?_) (fun y => ?_))
        · unfold hs_b1 at nx
          rw [if_pos y, Int.add_zero] at nx
          exact nx
        · have rD := rt.resolve_left y
          have r1 := rD.1.1
          have r2 := rD.1.2.1
          have nr := hP _ r1 r2
          unfold hs_b1 at nx
          rw [if_neg y] at nx
          refine ⟨hs_in r1 (by omega) (by decide), ?_⟩
          rw [hs_get (A := ni) r1 (by omega)]
          refine ⟨hs_in nr.1 (by omega) (by decide), ?_⟩
          rw [hs_get (A := h) nr.1 (by omega), rD.1.2.2]
          refine br_t rfl ⟨hs_in r1 (by omega) (by decide), ?_⟩
          rw [hs_get (A := tu) r1 (by omega), rD.2.1]
          refine br_t hs_lm1 (hs_oo hs_BD_r t1 rD.1 ?_)
          rw [rD.2.2.1]
          refine br_t rfl (nm_r (by rw [hs_shl o o0 (by omega), hs_add]) (nm_r (hs_1 o) nx))
  unfold wpX_treesHold
  dsimp only
  refine ⟨6, ?_⟩
  rw [← hs_l0]
  exact loop 6 0 (by omega) (by omega) (by omega)
theorem hs_binI {post : Int32 → Prop} {k h c S F P lr ll lR lu ln pr pc pn pb tr tc tn tu ni nn wi : Int → Int} {q i : Int} (kr : hs_kr k) (hq : 0 ≤ q) (hq' : q ≤ 3) (i0 : 0 ≤ i) (i1 : i < 24) (hi : h i = q) (hB : hs_BT (hs_K k) h tr tc tn tu ni q) (hP : hs_PM ni nn) (hR : hs_BG tr tc tn tu) (hp : post 1) :
    wpX_binomialItemHolds post (hs_e k, hs_e h, hs_e c, hs_e S, hs_e F, hs_e P, hs_e lr, hs_e ll, hs_e lR, hs_e lu, hs_e ln, hs_e pr, hs_e pc, hs_e pn, hs_e pb, hs_e tr, hs_e tc, hs_e tn, hs_e tu, hs_e ni, hs_e nn, hs_e wi) (hs_i i) := by
  obtain ⟨d, t1, t2, t3, t4⟩ := hB
  have p := hP i i0 i1
  have hm := hs_BD_m (H := h) (NI := ni) (q := q)
  have vD : hs_BD h ni q (nn i) := ⟨p.2.2.1, p.2.2.2.1, by rw [p.2.2.2.2.1]; exact hi⟩
  have v0 := p.2.2.1
  have v1 := p.2.2.2.1
  have dv := t1 _ vD
  have fin : ∀ x : Int, x = -1 → wX_binomialItemHolds_144 post (hs_i x) (hs_e k) (hs_e h) (hs_e c) (hs_e S) (hs_e F) (hs_e P) (hs_e lr) (hs_e ll) (hs_e lR) (hs_e lu) (hs_e ln) (hs_e pr) (hs_e pc) (hs_e pn) (hs_e pb) (hs_e tr) (hs_e tc) (hs_e tn) (hs_e tu) (hs_e ni) (hs_e nn) (hs_e wi) := by
    intro x e
    unfold wX_binomialItemHolds_144
    rw [e]
    exact br_t hs_lm1 hp
  have loop : ∀ (n : Nat) (x o : Int), ((x = -1 ∧ o = -1) ∨ (hs_BD h ni q x ∧ tu x = nn i ∧ d x = o ∧ 0 ≤ o)) → -1 ≤ o → o ≤ 4 → o + 1 < n → wX_binomialItemHolds_57 post (hs_i i) (hs_i (nn i)) (hs_e k) (hs_e h) (hs_e c) (hs_e S) (hs_e F) (hs_e P) (hs_e lr) (hs_e ll) (hs_e lR) (hs_e lu) (hs_e ln) (hs_e pr) (hs_e pc) (hs_e pn) (hs_e pb) (hs_e tr) (hs_e tc) (hs_e tn) (hs_e tu) (hs_e ni) (hs_e nn) (hs_e wi) n (hs_i x) (hs_i o) := by
    intro n
    induction n with
    | zero => intro x o _ a b c; omega
    | succ n ih =>
      intro x o hx o0 o4 hn
      have xb : -1 ≤ x ∧ x < 24 := by
        rcases hx with y | y
        · omega
        · have := y.1.1; have := y.1.2.1; omega
      refine hs_lt o 0 (fun z => fin x ?_) (fun z => hs_eq x (-1) (fin x) (fun y => ?_))
      · rcases hx with y | y
        · exact y.1
        · omega
      · obtain ⟨x1, x2, x3, x4⟩ := hx.resolve_left (fun w => y w.1)
        have r1 := x1.1
        have r2 := x1.2.1
        have nr := hP x r1 r2
        have dx := t1 x x1
        refine hs_rd x rfl r1 (by omega) (by decide) ⟨hs_in r1 (by omega) (by decide), ?_⟩
        rw [hs_get (A := tu) r1 (by omega), x2]
        refine br_t rfl (hs_oo hs_BD_r t1 x1 ?_)
        rw [x3]
        refine br_t rfl ⟨hs_in nr.1 (by omega) (by decide), hs_in i0 (by omega) (by decide), ?_⟩
        rw [hs_get (A := h) (x := ni x) nr.1 (by omega), hs_get (A := h) (x := i) i0 (by omega), x1.2.2, hi]
        refine br_t rfl (hs_cb kr i0 i1 nr.1 nr.2.1 (fun _ => br_f (by decide) (hs_rd x rfl r1 (by omega) (by decide) (nm_r (hs_m1 o) (ih (tn x) (o - 1) ?_ (by omega) (by omega) (by omega))))) (fun g => ?_))
        · rcases dx.2.2.2.1 (by rw [x2]; exact hm _ vD) with w | w
          · left; exact ⟨w.1, by omega⟩
          · right
            have := (t1 _ w.1).1
            exact ⟨w.1, by rw [w.2.1]; exact x2, by omega, by omega⟩
        · rcases t2 x x1 with w | w | w
          · rw [x2] at w; exact absurd w (hm _ vD)
          · rw [x2] at w; exact absurd w (hm _ vD)
          · rw [x2] at w
            dsimp only at w
            rw [p.2.2.2.2.1] at w; exact absurd w g
  have kids : wX_binomialItemHolds_44 post (hs_i i) (hs_i (nn i)) (hs_i (d (nn i))) (hs_e k) (hs_e h) (hs_e c) (hs_e S) (hs_e F) (hs_e P) (hs_e lr) (hs_e ll) (hs_e lR) (hs_e lu) (hs_e ln) (hs_e pr) (hs_e pc) (hs_e pn) (hs_e pb) (hs_e tr) (hs_e tc) (hs_e tn) (hs_e tu) (hs_e ni) (hs_e nn) (hs_e wi) := by
    unfold wX_binomialItemHolds_44
    refine hs_rd (nn i) rfl v0 (by omega) (by decide) (nm_r (hs_s1 _) ⟨7, ?_⟩)
    refine loop 7 _ _ ?_ (by omega) (by omega) (by omega)
    rcases dv.2.2.1 with w | w
    · left; exact ⟨w.1, by omega⟩
    · right
      have := (t1 _ w.1).1
      exact ⟨w.1, w.2.1, by omega, by omega⟩
  have ub := hR.2.2.2 (nn i) v0 v1
  unfold wpX_binomialItemHolds
  dsimp only
  refine hs_rd i rfl i0 (by omega) (by decide) (hs_oo hs_BD_r t1 vD ⟨hs_in v0 (by omega) (by decide), ?_⟩)
  rw [hs_get (A := tu) v0 (by omega)]
  refine hs_eq (tu (nn i)) (-1) (fun z => ⟨hs_in i0 (by omega) (by decide), ?_⟩) (fun _ => kids)
  rw [hs_get (A := h) i0 (by omega), hi, hs_x5]
  refine ⟨hs_in (by omega) (by omega) (by decide), ?_⟩
  rw [hs_get (A := tr) (by omega) (by omega), t3.1 _ vD z (hm _ vD) (fun w => w)]
  exact br_t rfl kids
theorem hs_binH {post : Int32 → Prop} {k h c S F P lr ll lR lu ln pr pc pn pb tr tc tn tu ni nn wi : Int → Int} (kr : hs_kr k) (hh : hs_rg h 24 (-1) 3) (hB : hs_BA (hs_K k) h tr tc tn tu ni) (hP : hs_PM ni nn) (hR : hs_BG tr tc tn tu) (hc : ∀ q, 0 ≤ q → q ≤ 3 → c q = hs_c h q) (hp : post 1) :
    wpX_binomialHolds post (hs_e k, hs_e h, hs_e c, hs_e S, hs_e F, hs_e P, hs_e lr, hs_e ll, hs_e lR, hs_e lu, hs_e ln, hs_e pr, hs_e pc, hs_e pn, hs_e pb, hs_e tr, hs_e tc, hs_e tn, hs_e tu, hs_e ni, hs_e nn, hs_e wi) := by
  have items : ∀ (n : Nat) (i : Int), 0 ≤ i → i ≤ 24 → 24 - i < n → wX_binomialHolds_25 post (hs_e k) (hs_e h) (hs_e c) (hs_e S) (hs_e F) (hs_e P) (hs_e lr) (hs_e ll) (hs_e lR) (hs_e lu) (hs_e ln) (hs_e pr) (hs_e pc) (hs_e pn) (hs_e pb) (hs_e tr) (hs_e tc) (hs_e tn) (hs_e tu) (hs_e ni) (hs_e nn) (hs_e wi) n (hs_i i) := by
    intro n
    induction n with
    | zero => intro i a b c; omega
    | succ n ih =>
      intro i i0 i1 hn
      refine hs_le 24 i (fun _ => hp) (fun z => ⟨hs_in i0 (by omega) (by decide), ?_⟩)
      have r := hh i i0 z
      have p := hP i i0 z
      rw [hs_get (A := nn) i0 (by omega)]
      refine ⟨hs_in p.2.2.1 (by omega) (by decide), ?_⟩
      rw [hs_get (A := ni) p.2.2.1 (by omega), p.2.2.2.2.1]
      refine br_t rfl ⟨hs_in i0 (by omega) (by decide), ?_⟩
      rw [hs_get (A := h) i0 (by omega)]
      exact hs_eq (h i) (-1) (fun _ => nm_r (hs_1 i) (ih (i + 1) (by omega) (by omega) (by omega))) (fun y => hs_binI kr (by omega) r.2 i0 z rfl (hB (h i) (by omega) r.2) hP hR (br_f (by decide) (nm_r (hs_1 i) (ih (i + 1) (by omega) (by omega) (by omega)))))
  have outer : ∀ (n : Nat) (q : Int), 0 ≤ q → q ≤ 4 → 4 - q < n → wX_binomialHolds_2 post (hs_e k) (hs_e h) (hs_e c) (hs_e S) (hs_e F) (hs_e P) (hs_e lr) (hs_e ll) (hs_e lR) (hs_e lu) (hs_e ln) (hs_e pr) (hs_e pc) (hs_e pn) (hs_e pb) (hs_e tr) (hs_e tc) (hs_e tn) (hs_e tu) (hs_e ni) (hs_e nn) (hs_e wi) n (hs_i q) := by
    intro n
    induction n with
    | zero => intro q a b c; omega
    | succ n ih =>
      intro q q0 q1 hn
      refine hs_le 4 q (fun _ => ⟨25, ?_⟩) (fun z => hs_treesH q0 (by omega) (hB q q0 (by omega)) hP hR (hc q q0 (by omega)) (br_f (by decide) (nm_r (hs_1 q) (ih (q + 1) (by omega) (by omega) (by omega)))))
      rw [← hs_l0]; exact items 25 0 (by omega) (by omega) (by omega)
  unfold wpX_binomialHolds
  dsimp only
  refine ⟨5, ?_⟩
  rw [← hs_l0]
  exact outer 5 0 (by omega) (by omega) (by omega)
theorem hs_tourH {post : Int32 → Prop} {k h c S F P lr ll lR lu ln pr pc pn pb tr tc tn tu ni nn wi : Int → Int} (kr : hs_kr k) (hh : hs_rg h 24 (-1) 3) (hT : hs_TA (hs_K k) h wi) (hR : hs_rg wi 192 (-1) 23) (hp : post 1) :
    wpX_tournamentsHold post (hs_e k, hs_e h, hs_e c, hs_e S, hs_e F, hs_e P, hs_e lr, hs_e ll, hs_e lR, hs_e lu, hs_e ln, hs_e pr, hs_e pc, hs_e pn, hs_e pb, hs_e tr, hs_e tc, hs_e tn, hs_e tu, hs_e ni, hs_e nn, hs_e wi) := by
  have nodes : ∀ (J : Int32 → Prop) (q : Int), 0 ≤ q → q ≤ 3 → J (hs_i (q + 1)) → ∀ (n : Nat) (i : Int), 1 ≤ i → i ≤ 24 → 24 - i < n → wX_tournamentsHold_63 post J (hs_i q) (hs_i (q * 48)) (hs_e k) (hs_e h) (hs_e c) (hs_e S) (hs_e F) (hs_e P) (hs_e lr) (hs_e ll) (hs_e lR) (hs_e lu) (hs_e ln) (hs_e pr) (hs_e pc) (hs_e pn) (hs_e pb) (hs_e tr) (hs_e tc) (hs_e tn) (hs_e tu) (hs_e ni) (hs_e nn) (hs_e wi) n (hs_i i) := by
    intro J q q0 q1 hJ n
    induction n with
    | zero => intro i a b c; omega
    | succ n ih =>
      intro i i0 i1 hn
      refine hs_le 24 i (fun _ => nm_r (hs_1 q) hJ) (fun z => ?_)
      have r1 := hR (q * 48 + 2 * i) (by omega) (by omega)
      have r2 := hR (q * 48 + 2 * i + 1) (by omega) (by omega)
      have e := (hT q q0 q1).2 i i0 z
      unfold hs_eqn at e
      rw [hs_2m, hs_add, hs_1, hs_add]
      refine ⟨hs_in (by omega) (by omega) (by decide), hs_in (by omega) (by omega) (by decide), ?_⟩
      rw [hs_get (A := wi) (x := q * 48 + 2 * i) (by omega) (by omega), hs_get (A := wi) (x := q * 48 + 2 * i + 1) (by omega) (by omega), hs_get (A := wi) (x := q * 48 + i) (by omega) (by omega)]
      refine hs_bet kr r1.1 (by omega) r2.1 (by omega) ⟨hs_in (by omega) (by omega) (by decide), ?_⟩
      rw [e]
      exact br_t rfl (nm_r (hs_1 i) (ih (i + 1) (by omega) (by omega) (by omega)))
  have leaves : ∀ (J : Int32 → Prop) (q : Int), 0 ≤ q → q ≤ 3 → J (hs_i (q + 1)) → ∀ (n : Nat) (i : Int), 0 ≤ i → i ≤ 24 → 24 - i < n → wX_tournamentsHold_14 post J (hs_i q) (hs_i (q * 48)) (hs_e k) (hs_e h) (hs_e c) (hs_e S) (hs_e F) (hs_e P) (hs_e lr) (hs_e ll) (hs_e lR) (hs_e lu) (hs_e ln) (hs_e pr) (hs_e pc) (hs_e pn) (hs_e pb) (hs_e tr) (hs_e tc) (hs_e tn) (hs_e tu) (hs_e ni) (hs_e nn) (hs_e wi) n (hs_i i) := by
    intro J q q0 q1 hJ n
    induction n with
    | zero => intro i a b c; omega
    | succ n ih =>
      intro i i0 i1 hn
      refine hs_le 24 i (fun _ => ⟨25, ?_⟩) (fun z => ⟨hs_in i0 (by omega) (by decide), ?_⟩)
      · rw [← hs_l1]
        exact nodes J q q0 q1 hJ 25 1 (by omega) (by omega) (by omega)
      · have r := hh i i0 z
        have e := (hT q q0 q1).1 i i0 z
        have go : ∀ x : Int, wi (q * 48 + 24 + i) = x → wX_tournamentsHold_35 post J (wX_tournamentsHold_14 post J (hs_i q) (hs_i (q * 48)) (hs_e k) (hs_e h) (hs_e c) (hs_e S) (hs_e F) (hs_e P) (hs_e lr) (hs_e ll) (hs_e lR) (hs_e lu) (hs_e ln) (hs_e pr) (hs_e pc) (hs_e pn) (hs_e pb) (hs_e tr) (hs_e tc) (hs_e tn) (hs_e tu) (hs_e ni) (hs_e nn) (hs_e wi) n) (hs_i q) (hs_i (q * 48)) (hs_i i) (hs_i x) (hs_e k) (hs_e h) (hs_e c) (hs_e S) (hs_e F) (hs_e P) (hs_e lr) (hs_e ll) (hs_e lR) (hs_e lu) (hs_e ln) (hs_e pr) (hs_e pc) (hs_e pn) (hs_e pb) (hs_e tr) (hs_e tc) (hs_e tn) (hs_e tu) (hs_e ni) (hs_e nn) (hs_e wi) := by
          intro x hx
          unfold wX_tournamentsHold_35
          rw [show (24 : Int32) = hs_i 24 from by decide, hs_add, hs_add]
          refine ⟨hs_in (by omega) (by omega) (by decide), ?_⟩
          rw [hs_get (A := wi) (by omega) (by omega), hx]
          exact br_t rfl (nm_r (hs_1 i) (ih (i + 1) (by omega) (by omega) (by omega)))
        rw [hs_get (A := h) i0 (by omega)]
        refine hs_eq (h i) q (fun y => ?_) (fun y => ?_)
        · rw [if_pos y] at e; exact go i e
        · rw [if_neg y] at e; rw [← hs_lm1]; exact go (-1) e
  have outer : ∀ (n : Nat) (q : Int), 0 ≤ q → q ≤ 4 → 4 - q < n → wX_tournamentsHold_2 post (hs_e k) (hs_e h) (hs_e c) (hs_e S) (hs_e F) (hs_e P) (hs_e lr) (hs_e ll) (hs_e lR) (hs_e lu) (hs_e ln) (hs_e pr) (hs_e pc) (hs_e pn) (hs_e pb) (hs_e tr) (hs_e tc) (hs_e tn) (hs_e tu) (hs_e ni) (hs_e nn) (hs_e wi) n (hs_i q) := by
    intro n
    induction n with
    | zero => intro q a b c; omega
    | succ n ih =>
      intro q q0 q1 hn
      refine hs_le 4 q (fun _ => hp) (fun z => nm_r (hs_m48 q) ⟨25, ?_⟩)
      rw [← hs_l0]
      exact leaves _ q q0 (by omega) (ih (q + 1) (by omega) (by omega) (by omega)) 25 0 (by omega) (by omega) (by omega)
  unfold wpX_tournamentsHold
  dsimp only
  refine ⟨5, ?_⟩
  rw [← hs_l0]
  exact outer 5 0 (by omega) (by omega) (by omega)
theorem hs_sound {post : Int32 → Prop} {k h c S F P lr ll lR lu ln pr pc pn pb tr tc tn tu ni nn wi : Int → Int} (kr : hs_kr k) (hh : hs_rg h 24 (-1) 3) (hc : ∀ q, 0 ≤ q → q ≤ 3 → c q = hs_c h q) (E : hs_EN (hs_K k) h S F P lr ll lR lu ln pr pc pn pb tr tc tn tu ni nn wi) (hp : post 1) : wpX_sound post (hs_e k, hs_e h, hs_e c, hs_e S, hs_e F, hs_e P, hs_e lr, hs_e ll, hs_e lR, hs_e lu, hs_e ln, hs_e pr, hs_e pc, hs_e pn, hs_e pb, hs_e tr, hs_e tc, hs_e tn, hs_e tu, hs_e ni, hs_e nn, hs_e wi) := by
  have one : ¬ (1 : Int32) = 0 := by decide
  unfold wpX_sound
  dsimp only
  refine hs_links E hh (br_f one (hs_book kr hh hc (br_f one ⟨3, ?_⟩)))
  obtain ⟨⟨a0, a1, a2⟩, ⟨l0, l1, l2⟩, ⟨p0, p1⟩, ⟨b0, b1, b2⟩, ⟨t0, t1⟩⟩ := E
  rw [← hs_l0]
  refine hs_le 2 0 (fun z => absurd z (by decide)) (fun _ => hs_arrH kr (by omega) (by omega) a0 hc (br_f one (hs_leanH kr (by omega) (by omega) hh l0 l2 hc (br_f one (nm_r (e' := hs_i 1) (by decide) ?_)))))
  refine hs_le 2 1 (fun z => absurd z (by decide)) (fun _ => hs_arrH kr (by omega) (by omega) a1 hc (br_f one (hs_leanH kr (by omega) (by omega) hh l1 l2 hc (br_f one (nm_r (e' := hs_i 2) (by decide) ?_)))))
  exact hs_le 2 2 (fun _ => hs_pairH kr hh p0 p1 hc (br_f one (hs_binH kr hh b0 b1 b2 hc (br_f one (hs_tourH kr hh t0 t1 (br_f one hp)))))) (fun z => absurd z (by decide))
end HS37
end
section
section HS38
/-! the reference -/
theorem hs_yQ {post : Int32 → Prop} {u : SY} {q : Int} (hq : -2147483648 ≤ q ∧ q < 2147483648) (ht : 0 ≤ q → q ≤ 3 → post 1) (hf : ¬ (0 ≤ q ∧ q ≤ 3) → post 0) : wpY_isQueue post u (hs_i q) := by
  unfold wpY_isQueue
  dsimp only
  exact hs_lt q 0 (fun c => hf (by omega)) (fun c => hs_lt 3 q (fun d => hf (by omega)) (fun d => ht c d))
theorem hs_yI {post : Int32 → Prop} {u : SY} {q : Int} (hq : -2147483648 ≤ q ∧ q < 2147483648) (ht : 0 ≤ q → q < 24 → post 1) (hf : ¬ (0 ≤ q ∧ q < 24) → post 0) : wpY_isItem post u (hs_i q) := by
  unfold wpY_isItem
  dsimp only
  exact hs_lt q 0 (fun c => hf (by omega)) (fun c => hs_lt 23 q (fun d => hf (by omega)) (fun d => ht c (by omega)))
theorem hs_yK {post : Int32 → Prop} {u : SY} {q : Int} (hq : -2147483648 ≤ q ∧ q < 2147483648) (ht : -999 ≤ q → q ≤ 999 → post 1) (hf : ¬ (-999 ≤ q ∧ q ≤ 999) → post 0) : wpY_isKey post u (hs_i q) := by
  unfold wpY_isKey
  dsimp only
  exact hs_lt q (-999) (fun c => hf (by omega)) (fun c => hs_lt 999 q (fun d => hf (by omega)) (fun d => ht c d))
/-- r is the first of queue q without item w, or z -/
def hs_mw (K h : Int → Int) (q w z r i : Int) : Prop := (r = z ∧ ∀ j, 0 ≤ j → j < i → h j = q → j = w) ∨ (0 ≤ r ∧ r < i ∧ h r = q ∧ r ≠ w ∧ ∀ j, 0 ≤ j → j < i → h j = q → j ≠ w → K r ≤ K j)
theorem hs_mw_uniq {K h : Int → Int} {q w w' z z' r r' : Int} (hK : hs_Inj K) (hw : ∀ j, 0 ≤ j → j < 24 → (j = w ↔ j = w')) (a : hs_mw K h q w z r 24) (b : hs_mw K h q w' z' r' 24) : (r = z ∧ r' = z') ∨ (0 ≤ r ∧ r < 24 ∧ r' = r) := by
  rcases a with ⟨a1, a2⟩ | ⟨a1, a2, a3, a4, a5⟩
  · rcases b with ⟨b1, b2⟩ | ⟨b1, b2, b3, b4, b5⟩
    · exact Or.inl ⟨a1, b1⟩
    · exact absurd ((hw r' b1 b2).mp (a2 r' b1 b2 b3)) b4
  · rcases b with ⟨b1, b2⟩ | ⟨b1, b2, b3, b4, b5⟩
    · exact absurd ((hw r a1 a2).mpr (b2 r a1 a2 a3)) a4
    · right
      refine ⟨a1, a2, hK r' r b1 b2 a1 a2 (Int.le_antisymm ?_ ?_)⟩
      · exact b5 r a1 a2 a3 (fun e => a4 ((hw r a1 a2).mpr e))
      · exact a5 r' b1 b2 b3 (fun e => b4 ((hw r' b1 b2).mp e))
theorem hs_mn_mw {K h : Int → Int} {q r w : Int} (hw : ¬ (0 ≤ w ∧ w < 24)) (m : hs_mn K h q r) : hs_mw K h q w (-1) r 24 := by
  rcases m with x | x
  · exact Or.inl ⟨x.1, fun j a b c => absurd c (x.2 j a b)⟩
  · exact Or.inr ⟨x.1, x.2.1, x.2.2.1, fun e => hw ⟨by omega, by omega⟩, fun j a b c _ => x.2.2.2 j a b c⟩
theorem hs_yL {post : Int32 → Prop} {k h Q : Int → Int} {q w : Int} (kr : hs_kr k) (hh : hs_rg h 24 (-1) 3) (hQ : ∀ i, 0 ≤ i → i < 24 → Q i = h i + 1) (hq : 0 ≤ q) (hq' : q ≤ 3) (hw : -2147483648 ≤ w ∧ w < 2147483648)
    (hK : ∀ r, hs_mw (hs_K k) h q w (-3000) r 24 → post (hs_i r)) : wpY_least post (hs_e Q, hs_e k) (hs_i q) (hs_i w) := by
  have loop : ∀ (n : Nat) (m i : Int), hs_mw (hs_K k) h q w (-3000) m i → 0 ≤ i → i ≤ 24 → 24 - i < n → wY_least_7 post (hs_i q) (hs_i w) (hs_e Q) (hs_e k) n (hs_i m) (hs_i i) := by
    intro n
    induction n with
    | zero => intro m i _ a b c; omega
    | succ n ih =>
      intro m i hm i0 i1 hn
      refine hs_le 24 i (fun z => hK m ?_) (fun z => ⟨hs_in i0 (by omega) (by decide), ?_⟩)
      · have e : i = 24 := by omega
        rw [e] at hm; exact hm
      · have r := hh i i0 z
        have ki := kr i i0 z
        have mb : -3000 ≤ m ∧ m < 24 := by
          rcases hm with x | x
          · omega
          · omega
        -- the item doesn't count
        have skip : (h i = q → i = w) → wY_least_37 post (wY_least_7 post (hs_i q) (hs_i w) (hs_e Q) (hs_e k) n) (hs_i q) (hs_i w) (hs_i m) (hs_i i) (hs_e Q) (hs_e k) := by
          intro hs
          unfold wY_least_37 wY_least_38
          refine br_t rfl (nm_r (hs_1 i) (ih m (i + 1) ?_ (by omega) (by omega) (by omega)))
          rcases hm with x | x
          · refine Or.inl ⟨x.1, fun j a b c => ?_⟩
            by_cases e : j = i
            · rw [e] at c ⊢; exact hs c
            · exact x.2 j a (by omega) c
          · refine Or.inr ⟨x.1, by omega, x.2.2.1, x.2.2.2.1, fun j a b c d => ?_⟩
            by_cases e : j = i
            · rw [e] at c d; exact absurd (hs c) d
            · exact x.2.2.2.2 j a (by omega) c d
        rw [hs_get (A := Q) i0 (by omega), hQ i i0 z, hs_1]
        refine hs_eq (h i + 1) (q + 1) (fun y => hs_eq i w (fun x => skip (fun _ => x)) (fun x => ?_)) (fun y => skip (fun x => absurd (by omega) y))
        have hi : h i = q := by omega
        unfold wY_least_38
        refine br_f (by decide) (hs_lt m 0 (fun t => nm_r (hs_1 i) (ih i (i + 1) ?_ (by omega) (by omega) (by omega))) (fun t => ⟨hs_in i0 (by omega) (by decide), hs_in t (by omega) (by decide), ?_⟩))
        · rcases hm with v | v
          · refine Or.inr ⟨i0, by omega, hi, x, fun j a b c d => ?_⟩
            by_cases e : j = i
            · rw [e]; exact Int.le_refl _
            · exact absurd (v.2 j a (by omega) c) d
          · omega
        · obtain ⟨m1, m2, m3, m4, m5⟩ := hm.resolve_left (fun v => by omega)
          have km := kr m m1 (by omega)
          rw [hs_get (A := k) (x := m) t (by omega), hs_get (A := k) (x := i) i0 (by omega)]
          refine hs_le (k m) (k i) (fun s => nm_r (hs_1 i) (ih m (i + 1) (Or.inr ⟨m1, by omega, m3, m4, fun j a b c d => ?_⟩) (by omega) (by omega) (by omega))) (fun s => nm_r (hs_1 i) (ih i (i + 1) (Or.inr ⟨i0, by omega, hi, x, fun j a b c d => ?_⟩) (by omega) (by omega) (by omega)))
          · by_cases e : j = i
            · rw [e]; unfold hs_K; omega
            · exact m5 j a (by omega) c d
          · by_cases e : j = i
            · rw [e]; exact Int.le_refl _
            · have := m5 j a (by omega) c d
              unfold hs_K at this ⊢
              omega
  unfold wpY_least
  dsimp only
  refine ⟨26, ?_⟩
  rw [← hs_l0, show (-3000 : Int32) = hs_i (-3000) from by decide]
  exact loop 26 (-3000) 0 (Or.inl ⟨rfl, fun j a b => by omega⟩) (by omega) (by omega) (by omega)
theorem hs_ySz {post : Int32 → Prop} {k h Q : Int → Int} {q : Int} (hh : hs_rg h 24 (-1) 3) (hQ : ∀ i, 0 ≤ i → i < 24 → Q i = h i + 1) (hq : 0 ≤ q) (hq' : q ≤ 3) (hp : post (hs_i (hs_c h q))) : wpY_size post (hs_e Q, hs_e k) (hs_i q) := by
  have loop : ∀ (n i : Nat), i ≤ 24 → 24 < n + i → wY_size_4 post (hs_i q) (hs_e Q) (hs_e k) n (hs_i (hs_sum (fun j => if h j = q then 1 else 0) i)) (hs_i (i : Int)) := by
    intro n
    induction n with
    | zero => intro i a b; omega
    | succ n ih =>
      intro i i1 hn
      refine hs_le 24 (i : Int) (fun z => ?_) (fun z => ⟨hs_in (by omega) (by omega) (by decide), ?_⟩)
      · have e : i = 24 := by omega
        subst e
        exact hs_yQ (by omega) (fun _ _ => br_f (by decide) hp) (fun y => absurd ⟨hq, hq'⟩ y)
      · have r := hh (i : Int) (by omega) (by omega)
        rw [hs_get (A := Q) (by omega) (by omega), hQ _ (by omega) z, hs_1]
        have nx : hs_sum (fun j => if h j = q then 1 else 0) (i + 1) = hs_sum (fun j => if h j = q then 1 else 0) i + (if h (i : Int) = q then 1 else 0) := rfl
        have ih' := ih (i + 1) (by omega) (by omega)
        rw [nx] at ih'
        refine hs_eq (h (i : Int) + 1) (q + 1) (fun y => nm_r (hs_1 _) (nm_r (hs_1 _) ?_)) (fun y => nm_r (hs_1 _) ?_)
        · rw [if_pos (by omega)] at ih'; exact ih'
        · rw [if_neg (by omega), Int.add_zero] at ih'; exact ih'
  unfold wpY_size
  dsimp only
  refine ⟨26, ?_⟩
  rw [← hs_l0]
  exact loop 26 0 (by omega) (by omega)
theorem hs_ySzB {post : Int32 → Prop} {k Q : Int → Int} {q : Int} (hq : -2147483648 ≤ q ∧ q < 2147483648) (hn : ¬ (0 ≤ q ∧ q ≤ 3)) (hp : post (-1000)) : wpY_size post (hs_e Q, hs_e k) (hs_i q) := by
  have loop : ∀ (n : Nat) (x : Int32) (i : Int), 0 ≤ i → i ≤ 24 → 24 - i < n → wY_size_4 post (hs_i q) (hs_e Q) (hs_e k) n x (hs_i i) := by
    intro n
    induction n with
    | zero => intro x i a b c; omega
    | succ n ih =>
      intro x i i0 i1 hn'
      refine hs_le 24 i (fun z => hs_yQ hq (fun a b => absurd ⟨a, b⟩ hn) (fun _ => br_t rfl hp)) (fun z => ⟨hs_in i0 (by omega) (by decide), br_c (fun _ y _ => nm_r (hs_1 i) (ih _ (i + 1) (by omega) (by omega) (by omega))) (fun _ => nm_r (hs_1 i) (ih _ (i + 1) (by omega) (by omega) (by omega)))⟩)
  unfold wpY_size
  dsimp only
  refine ⟨26, ?_⟩
  rw [← hs_l0]
  exact loop 26 _ 0 (by omega) (by omega) (by omega)
theorem hs_yJ {post : Int32 → SY → Prop} {k h : Int → Int} {a b : Int} (hh : hs_rg h 24 (-1) 3) (ha : 0 ≤ a) (ha' : a ≤ 3) (hb : 0 ≤ b) (hb' : b ≤ 3)
    (hK : ∀ Q' : Int → Int, (∀ i, 0 ≤ i → i < 24 → Q' i = (if h i = b then a else h i) + 1) → post (hs_i (hs_c (fun i => if h i = b then a else h i) a)) (hs_e Q', hs_e k)) :
    ∀ (n : Nat) (Q : Int → Int) (i : Int), (∀ j, 0 ≤ j → j < 24 → Q j = (if j < i ∧ h j = b then a else h j) + 1) → 0 ≤ i → i ≤ 24 → 24 - i < n → wY_join_27 post (hs_i a) (hs_i b) n (hs_i i) (hs_e Q) (hs_e k) := by
  intro n
  induction n with
  | zero => intro Q i _ x y z; omega
  | succ n ih =>
    intro Q i hQ i0 i1 hn
    refine hs_le 24 i (fun z => ?_) (fun z => ⟨hs_in i0 (by omega) (by decide), ?_⟩)
    · have hQ' : ∀ j, 0 ≤ j → j < 24 → Q j = (if h j = b then a else h j) + 1 := by
        intro j j0 j1
        rw [hQ j j0 j1]
        by_cases y : h j = b
        · rw [if_pos y, if_pos ⟨by omega, y⟩]
        · rw [if_neg y, if_neg (fun v => y v.2)]
      refine hs_ySz (h := fun i => if h i = b then a else h i) ?_ hQ' ha ha' (hK Q hQ')
      intro j j0 j1
      have := hh j j0 j1
      show -1 ≤ (if h j = b then a else h j) ∧ (if h j = b then a else h j) ≤ 3
      split <;> omega
    · have e : Q i = h i + 1 := by rw [hQ i i0 z, if_neg (fun v => by omega)]
      have r := hh i i0 z
      rw [hs_get (A := Q) i0 (by omega), e, hs_1]
      refine hs_eq (h i + 1) (b + 1) (fun y => ?_) (fun y => ⟨hs_in i0 (by omega) (by decide), ?_⟩)
      · refine hs_wr i (a + 1) rfl (hs_1 a) i0 (by omega) (by decide) (nm_r (hs_1 i) (ih _ (i + 1) (fun j j0 j1 => ?_) (by omega) (by omega) (by omega)))
        by_cases v : j = i
        · rw [hs_ue v, v, if_pos ⟨by omega, by omega⟩]
        · rw [hs_un v, hQ j j0 j1]
          by_cases u : j < i ∧ h j = b
          · rw [if_pos u, if_pos ⟨by omega, u.2⟩]
          · rw [if_neg u, if_neg (fun t => u ⟨by omega, t.2⟩)]
      · refine hs_wr i (h i + 1) rfl rfl i0 (by omega) (by decide) (nm_r (hs_1 i) (ih _ (i + 1) (fun j j0 j1 => ?_) (by omega) (by omega) (by omega)))
        by_cases v : j = i
        · rw [hs_ue v, v, if_neg (fun t => y (by omega))]
        · rw [hs_un v, hQ j j0 j1]
          by_cases u : j < i ∧ h j = b
          · rw [if_pos u, if_pos ⟨by omega, u.2⟩]
          · rw [if_neg u, if_neg (fun t => u ⟨by omega, t.2⟩)]
/-- how many takeUpTo takes -/
def hs_cl2 (k h : Int → Int) (q l : Int) : Nat → Int := hs_sum (fun j => if h j = q ∧ k j ≤ l then 1 else 0)
theorem hs_yT {post : Int32 → SY → Prop} {k h : Int → Int} {q l : Int} (kr : hs_kr k) (hh : hs_rg h 24 (-1) 3) (hq : 0 ≤ q) (hq' : q ≤ 3) (hl : -2147483648 ≤ l ∧ l < 2147483648)
    (hK : ∀ Q' : Int → Int, (∀ i, 0 ≤ i → i < 24 → Q' i = (if h i = q ∧ k i ≤ l then -1 else h i) + 1) → post (hs_i (hs_cl2 k h q l 24)) (hs_e Q', hs_e k)) :
    ∀ (n : Nat) (Q : Int → Int) (i : Nat), (∀ j, 0 ≤ j → j < 24 → Q j = (if j < i ∧ h j = q ∧ k j ≤ l then -1 else h j) + 1) → i ≤ 24 → 24 < n + i → wY_takeUpTo_5 post (hs_i q) (hs_i l) n (hs_i (hs_cl2 k h q l i)) (hs_i (i : Int)) (hs_e Q) (hs_e k) := by
  intro n
  induction n with
  | zero => intro Q i _ x y; omega
  | succ n ih =>
    intro Q i hQ i1 hn
    refine hs_le 24 (i : Int) (fun z => ?_) (fun z => hs_yQ (by omega) (fun _ _ => br_f (by decide) ⟨hs_in (by omega) (by omega) (by decide), ?_⟩) (fun y => absurd ⟨hq, hq'⟩ y))
    · have e : i = 24 := by omega
      subst e
      unfold wY_takeUpTo_61
      refine hs_yQ (by omega) (fun _ _ => br_f (by decide) (hK Q (fun j j0 j1 => ?_))) (fun y => absurd ⟨hq, hq'⟩ y)
      rw [hQ j j0 j1]
      by_cases u : h j = q ∧ k j ≤ l
      · rw [if_pos u, if_pos ⟨by omega, u⟩]
      · rw [if_neg u, if_neg (fun t => u t.2)]
    · have e : Q (i : Int) = h (i : Int) + 1 := by rw [hQ _ (by omega) z, if_neg (fun v => by omega)]
      have r := hh (i : Int) (by omega) z
      have kb := kr (i : Int) (by omega) z
      have nx : hs_cl2 k h q l (i + 1) = hs_cl2 k h q l i + (if h (i : Int) = q ∧ k (i : Int) ≤ l then 1 else 0) := rfl
      have keep : ¬ (h (i : Int) = q ∧ k (i : Int) ≤ l) → wY_takeUpTo_5 post (hs_i q) (hs_i l) n (hs_i (hs_cl2 k h q l i)) (hs_i ((i : Int) + 1)) (hs_e Q) (hs_e k) := by
        intro u
        have := ih Q (i + 1) (fun j j0 j1 => ?_) (by omega) (by omega)
        · rw [nx, if_neg u, Int.add_zero] at this; exact this
        · rw [hQ j j0 j1]
          by_cases v : j < i ∧ h j = q ∧ k j ≤ l
          · rw [if_pos v, if_pos ⟨by omega, v.2⟩]
          · rw [if_neg v, if_neg (fun t => ?_)]
            by_cases s : j = (i : Int)
            · rw [s] at t; exact u t.2
            · exact v ⟨by omega, t.2⟩
      rw [hs_get (A := Q) (by omega) (by omega), e, hs_1, hs_get (A := k) (by omega) (by omega)]
      refine hs_eq (h (i : Int) + 1) (q + 1) (fun y => ⟨hs_in (by omega) (by omega) (by decide), hs_lt l (k (i : Int)) (fun x => nm_r (hs_1 _) (keep (fun t => by omega))) (fun x => ?_)⟩) (fun y => nm_r (hs_1 _) (keep (fun t => y (by omega))))
      have u : h (i : Int) = q ∧ k (i : Int) ≤ l := ⟨by omega, x⟩
      refine hs_wr (i : Int) 0 rfl hs_l0.symm (by omega) (by omega) (by decide) (nm_r (hs_1 _) (nm_r (hs_1 _) ?_))
      have := ih (hs_u Q (i : Int) 0) (i + 1) (fun j j0 j1 => ?_) (by omega) (by omega)
      · rw [nx, if_pos u] at this; exact this
      · by_cases s : j = (i : Int)
        · rw [hs_ue s, s, if_pos ⟨by omega, u⟩]; rfl
        · rw [hs_un s, hQ j j0 j1]
          by_cases v : j < i ∧ h j = q ∧ k j ≤ l
          · rw [if_pos v, if_pos ⟨by omega, v.2⟩]
          · rw [if_neg v, if_neg (fun t => v ⟨by omega, t.2⟩)]
end HS38
end
section
section HS39
/-! the public methods' own loops -/
theorem hs_free (h : Int → Int) : ∃ j, 0 ≤ j ∧ j ≤ 24 ∧ (∀ i, 0 ≤ i → i < j → h i ≠ -1) ∧ (j < 24 → h j = -1) := by
  have main : ∀ n : Nat, n ≤ 24 → (∃ j, 0 ≤ j ∧ j < (n : Int) ∧ (∀ i, 0 ≤ i → i < j → h i ≠ -1) ∧ h j = -1) ∨ (∀ i, 0 ≤ i → i < (n : Int) → h i ≠ -1) := by
    intro n
    induction n with
    | zero => intro _; exact Or.inr (fun i a b => by omega)
    | succ n ih =>
      intro hn
      rcases ih (by omega) with ⟨j, a, b, c, d⟩ | x
      · exact Or.inl ⟨j, a, by omega, c, d⟩
      · by_cases e : h (n : Int) = -1
        · exact Or.inl ⟨(n : Int), by omega, by omega, x, e⟩
        · refine Or.inr (fun i a b => ?_)
          by_cases f : i = (n : Int)
          · rw [f]; exact e
          · exact x i a (by omega)
  rcases main 24 (by omega) with ⟨j, a, b, c, d⟩ | x
  · exact ⟨j, a, by omega, c, fun _ => d⟩
  · exact ⟨24, by omega, by omega, x, fun y => by omega⟩
theorem hs_ins {post : Int32 → SX → Prop} {k h c S F P lr ll lR lu ln pr pc pn pb tr tc tn tu ni nn wi : Int → Int} {q y j : Int} (kr : hs_kr k) (hh : hs_rg h 24 (-1) 3) (hq : 0 ≤ q) (hq' : q ≤ 3) (y0 : -999 ≤ y) (y1 : y ≤ 999) (E : hs_EN (hs_K k) h S F P lr ll lR lu ln pr pc pn pb tr tc tn tu ni nn wi)
    (j0 : 0 ≤ j) (j1 : j ≤ 24) (hj : ∀ i, 0 ≤ i → i < j → h i ≠ -1) (hj2 : j < 24 → h j = -1) (hF : j = 24 → post (-2000) (hs_e k, hs_e h, hs_e c, hs_e S, hs_e F, hs_e P, hs_e lr, hs_e ll, hs_e lR, hs_e lu, hs_e ln, hs_e pr, hs_e pc, hs_e pn, hs_e pb, hs_e tr, hs_e tc, hs_e tn, hs_e tu, hs_e ni, hs_e nn, hs_e wi))
    (hK : j < 24 → ∀ S1 F1 P1 lr1 ll1 lR1 lu1 ln1 pr1 pc1 pn1 pb1 tr1 tc1 tn1 tu1 ni1 nn1 wi1 : Int → Int, hs_EN (hs_K (hs_u k j y)) (hs_u h j q) S1 F1 P1 lr1 ll1 lR1 lu1 ln1 pr1 pc1 pn1 pb1 tr1 tc1 tn1 tu1 ni1 nn1 wi1 → post (hs_i j) (hs_e (hs_u k j y), hs_e (hs_u h j q), hs_e (hs_u c q (c q + 1)), hs_e S1, hs_e F1, hs_e P1, hs_e lr1, hs_e ll1, hs_e lR1, hs_e lu1, hs_e ln1, hs_e pr1, hs_e pc1, hs_e pn1, hs_e pb1, hs_e tr1, hs_e tc1, hs_e tn1, hs_e tu1, hs_e ni1, hs_e nn1, hs_e wi1)) :
    ∃ n, wX_insert_20 post (hs_i q) (hs_i y) (hs_e k) (hs_e h) (hs_e c) (hs_e S) (hs_e F) (hs_e P) (hs_e lr) (hs_e ll) (hs_e lR) (hs_e lu) (hs_e ln) (hs_e pr) (hs_e pc) (hs_e pn) (hs_e pb) (hs_e tr) (hs_e tc) (hs_e tn) (hs_e tu) (hs_e ni) (hs_e nn) (hs_e wi) n 0 := by
  have loop : ∀ (n : Nat) (i : Int), 0 ≤ i → i ≤ j → j - i < n → wX_insert_20 post (hs_i q) (hs_i y) (hs_e k) (hs_e h) (hs_e c) (hs_e S) (hs_e F) (hs_e P) (hs_e lr) (hs_e ll) (hs_e lR) (hs_e lu) (hs_e ln) (hs_e pr) (hs_e pc) (hs_e pn) (hs_e pb) (hs_e tr) (hs_e tc) (hs_e tn) (hs_e tu) (hs_e ni) (hs_e nn) (hs_e wi) n (hs_i i) := by
    intro n
    induction n with
    | zero => intro i a b c; omega
    | succ n ih =>
      intro i i0 i1 hn
      refine hs_le 24 i (fun z => hF (by omega)) (fun z => ⟨hs_in i0 (by omega) (by decide), ?_⟩)
      have r := hh i i0 z
      rw [hs_get (A := h) i0 (by omega)]
      refine hs_eq (h i) (-1) (fun x => ?_) (fun x => nm_r (hs_1 i) (ih (i + 1) (by omega) ?_ (by omega)))
      · have e : i = j := by
          apply Classical.byContradiction
          intro v
          exact hj i i0 (by omega) x
        rw [e]
        exact hs_attach kr hq hq' j0 (by omega) (by rw [e] at x; omega) y0 y1 E (hK (by omega))
      · have : i ≠ j := by
          intro e
          exact x (by rw [e]; exact hj2 (by omega))
        omega
  refine ⟨26, ?_⟩
  rw [← hs_l0]
  exact loop 26 0 (by omega) j0 (by omega)
theorem hs_yins {post : Int32 → SY → Prop} {k h Q : Int → Int} {q y j : Int} (hh : hs_rg h 24 (-1) 3) (hQ : ∀ i, 0 ≤ i → i < 24 → Q i = h i + 1)
    (j0 : 0 ≤ j) (j1 : j ≤ 24) (hj : ∀ i, 0 ≤ i → i < j → h i ≠ -1) (hj2 : j < 24 → h j = -1) (hF : j = 24 → post (-2000) (hs_e Q, hs_e k))
    (hK : j < 24 → post (hs_i j) (hs_e (hs_u Q j (q + 1)), hs_e (hs_u k j y))) :
    ∃ n, wY_insert_22 post (hs_i q) (hs_i y) (hs_e Q) (hs_e k) n 0 := by
  have loop : ∀ (n : Nat) (i : Int), 0 ≤ i → i ≤ j → j - i < n → wY_insert_22 post (hs_i q) (hs_i y) (hs_e Q) (hs_e k) n (hs_i i) := by
    intro n
    induction n with
    | zero => intro i a b c; omega
    | succ n ih =>
      intro i i0 i1 hn
      refine hs_le 24 i (fun z => hF (by omega)) (fun z => ⟨hs_in i0 (by omega) (by decide), ?_⟩)
      have r := hh i i0 z
      rw [hs_get (A := Q) i0 (by omega), hQ i i0 z]
      refine hs_eq (h i + 1) 0 (fun x => ?_) (fun x => nm_r (hs_1 i) (ih (i + 1) (by omega) ?_ (by omega)))
      · have e : i = j := by
          apply Classical.byContradiction
          intro v
          exact hj i i0 (by omega) (by omega)
        rw [e]
        exact hs_wr j (q + 1) rfl (hs_1 q) j0 (by omega) (by decide) (hs_wr j y rfl rfl j0 (by omega) (by decide) (hK (by omega)))
      · have : i ≠ j := by
          intro e
          have := hj2 (by omega)
          rw [e] at x
          omega
        omega
  refine ⟨26, ?_⟩
  rw [← hs_l0]
  exact loop 26 0 (by omega) j0 (by omega)
theorem hs_key {k : Int → Int} {r i : Int} (r0 : 0 ≤ r) (r1 : r < 24) (i0 : 0 ≤ i) (i1 : i < 24) (h : hs_K k r ≤ hs_K k i) : k r ≤ k i := by
  unfold hs_K at h
  omega
theorem hs_tk {post : Int32 → SX → Prop} {k h0 : Int → Int} {q l : Int} (kr : hs_kr k) (hh : hs_rg h0 24 (-1) 3) (hq : 0 ≤ q) (hq' : q ≤ 3) (hl : -2147483648 ≤ l ∧ l < 2147483648)
    (hK : ∀ h c S F P lr ll lR lu ln pr pc pn pb tr tc tn tu ni nn wi : Int → Int, hs_EN (hs_K k) h S F P lr ll lR lu ln pr pc pn pb tr tc tn tu ni nn wi → (∀ i, 0 ≤ i → i < 24 → h i = if h0 i = q ∧ k i ≤ l then -1 else h0 i) → (∀ p, 0 ≤ p → p ≤ 3 → c p = hs_c h p) → post (hs_i (hs_c h0 q - hs_c h q)) (hs_e k, hs_e h, hs_e c, hs_e S, hs_e F, hs_e P, hs_e lr, hs_e ll, hs_e lR, hs_e lu, hs_e ln, hs_e pr, hs_e pc, hs_e pn, hs_e pb, hs_e tr, hs_e tc, hs_e tn, hs_e tu, hs_e ni, hs_e nn, hs_e wi)) :
    ∀ (n : Nat) (h c S F P lr ll lR lu ln pr pc pn pb tr tc tn tu ni nn wi : Int → Int), hs_EN (hs_K k) h S F P lr ll lR lu ln pr pc pn pb tr tc tn tu ni nn wi → (∀ i, 0 ≤ i → i < 24 → h i = h0 i ∨ (h0 i = q ∧ k i ≤ l ∧ h i = -1)) → (∀ p, 0 ≤ p → p ≤ 3 → c p = hs_c h p) → hs_c h q < n →
    wX_takeUpTo_16 post (hs_i q) (hs_i l) n (hs_i (hs_c h0 q - hs_c h q)) (hs_i (hs_c h0 q - hs_c h q)) (hs_e k) (hs_e h) (hs_e c) (hs_e S) (hs_e F) (hs_e P) (hs_e lr) (hs_e ll) (hs_e lR) (hs_e lu) (hs_e ln) (hs_e pr) (hs_e pc) (hs_e pn) (hs_e pb) (hs_e tr) (hs_e tc) (hs_e tn) (hs_e tu) (hs_e ni) (hs_e nn) (hs_e wi) := by
  intro n
  induction n with
  | zero =>
    intro h c S F P lr ll lR lu ln pr pc pn pb tr tc tn tu ni nn wi _ _ _ hn
    have := hs_c_r h q
    omega
  | succ n ih =>
    intro h c S F P lr ll lR lu ln pr pc pn pb tr tc tn tu ni nn wi E hH hc hn
    have c0 := hs_c_r h0 q
    have c1 := hs_c_r h q
    have le : hs_c h q ≤ hs_c h0 q := by
      refine hs_sum_le 24 fun j a b => ?_
      try dsimp only
      by_cases x : h j = q
      · rw [if_pos x]
        rcases hH j a (by omega) with y | y
        · rw [if_pos (by rw [← y]; exact x)]; omega
        · rw [if_pos y.1]; omega
      · rw [if_neg x]; split <;> omega
    have fin : (∀ i, 0 ≤ i → i < 24 → h i = q → ¬ k i ≤ l) → post (hs_i (hs_c h0 q - hs_c h q)) (hs_e k, hs_e h, hs_e c, hs_e S, hs_e F, hs_e P, hs_e lr, hs_e ll, hs_e lR, hs_e lu, hs_e ln, hs_e pr, hs_e pc, hs_e pn, hs_e pb, hs_e tr, hs_e tc, hs_e tn, hs_e tu, hs_e ni, hs_e nn, hs_e wi) := by
      intro z
      refine hK h c S F P lr ll lR lu ln pr pc pn pb tr tc tn tu ni nn wi E (fun i a b => ?_) hc
      rcases hH i a b with y | y
      · by_cases x : h0 i = q ∧ k i ≤ l
        · exact absurd x.2 (z i a b (y.trans x.1))
        · rw [if_neg x]; exact y
      · rw [if_pos ⟨y.1, y.2.1⟩]; exact y.2.2
    refine hs_le 24 (hs_c h0 q - hs_c h q) (fun z => fin (fun i a b e => ?_)) (fun z => ?_)
    · have := hs_c_pos (H := h) (q := q) a b e
      omega
    · refine hs_firstBy (e := 0) kr hq hq' (by omega) (by omega) E (fun r m => ?_)
      have rb : -1 ≤ r ∧ r < 24 := by
        rcases m with x | x
        · omega
        · omega
      refine hs_eq r (-1) (fun x => fin (fun i a b e => ?_)) (fun x => ?_)
      · rcases m with y | y
        · exact absurd e (y.2 i a b)
        · omega
      · obtain ⟨r0, r1, r2, r3⟩ := m.resolve_left (fun y => x y.1)
        have kb := kr r r0 r1
        refine ⟨hs_in r0 (by omega) (by decide), ?_⟩
        rw [hs_get (A := k) r0 (by omega)]
        refine hs_le (k r) l (fun y => ?_) (fun y => fin (fun i a b e v => ?_))
        · have hr0 : h0 r = q := by
            rcases hH r r0 r1 with u | u
            · rw [← u]; exact r2
            · exact u.1
          refine hs_detach kr r0 r1 (by omega) (by omega) E ?_
          intro S1 F1 P1 lr1 ll1 lR1 lu1 ln1 pr1 pc1 pn1 pb1 tr1 tc1 tn1 tu1 ni1 nn1 wi1 E1
          have cd : hs_c (hs_u h r (-1)) q = hs_c h q - 1 := by
            rw [hs_c_upd h r0 r1, if_neg (by omega), if_pos r2]; omega
          have := ih (hs_u h r (-1)) (hs_u c (h r) (c (h r) - 1)) S1 F1 P1 lr1 ll1 lR1 lu1 ln1 pr1 pc1 pn1 pb1 tr1 tc1 tn1 tu1 ni1 nn1 wi1 E1 (fun i a b => ?_) (fun p p0 p1 => ?_) (by omega)
          · rw [cd] at this
            rw [show hs_c h0 q - (hs_c h q - 1) = hs_c h0 q - hs_c h q + 1 by omega] at this
            exact nm_r (hs_1 _) (nm_r (hs_1 _) this)
          · by_cases e : i = r
            · rw [hs_ue e, e]; exact Or.inr ⟨hr0, y, rfl⟩
            · rw [hs_un e]; exact hH i a b
          · rw [hs_c_upd h r0 r1, if_neg (by omega)]
            by_cases e : p = h r
            · rw [hs_ue e, if_pos e.symm, ← e, hc p p0 p1]; omega
            · rw [hs_un e, if_neg (fun t => e t.symm), hc p p0 p1]; omega
        · have := hs_key r0 r1 a b (r3 i a b e)
          omega
theorem hs_sc {post : Int32 → Prop} {k h c S F P lr ll lR lu ln pr pc pn pb tr tc tn tu ni nn wi : Int → Int} {q t : Int} (kr : hs_kr k) (hh : hs_rg h 24 (-1) 3) (hq : 0 ≤ q) (hq' : q ≤ 3) (ht : -1 ≤ t ∧ t < 24)
    (hK : ∀ r, hs_mw (hs_K k) h q t (-1) r 24 → (r = -1 → post (-3000)) ∧ (r ≠ -1 → post (hs_i r))) : ∃ n, wX_second_23 post (hs_i q) (hs_i t) (hs_e k) (hs_e h) (hs_e c) (hs_e S) (hs_e F) (hs_e P) (hs_e lr) (hs_e ll) (hs_e lR) (hs_e lu) (hs_e ln) (hs_e pr) (hs_e pc) (hs_e pn) (hs_e pb) (hs_e tr) (hs_e tc) (hs_e tn) (hs_e tu) (hs_e ni) (hs_e nn) (hs_e wi) n (-1) 0 := by
  have loop : ∀ (n : Nat) (m i : Int), hs_mw (hs_K k) h q t (-1) m i → 0 ≤ i → i ≤ 24 → 24 - i < n → wX_second_23 post (hs_i q) (hs_i t) (hs_e k) (hs_e h) (hs_e c) (hs_e S) (hs_e F) (hs_e P) (hs_e lr) (hs_e ll) (hs_e lR) (hs_e lu) (hs_e ln) (hs_e pr) (hs_e pc) (hs_e pn) (hs_e pb) (hs_e tr) (hs_e tc) (hs_e tn) (hs_e tu) (hs_e ni) (hs_e nn) (hs_e wi) n (hs_i m) (hs_i i) := by
    intro n
    induction n with
    | zero => intro m i _ a b c; omega
    | succ n ih =>
      intro m i hm i0 i1 hn
      have mb : -1 ≤ m ∧ m < 24 := by
        rcases hm with x | x
        · omega
        · omega
      refine hs_le 24 i (fun z => ?_) (fun z => ⟨hs_in i0 (by omega) (by decide), ?_⟩)
      · have e : i = 24 := by omega
        rw [e] at hm
        have g := hK m hm
        exact hs_eq m (-1) g.1 g.2
      · have r := hh i i0 z
        have skip : (h i = q → i = t) → hs_mw (hs_K k) h q t (-1) m (i + 1) := by
          intro hs
          rcases hm with x | x
          · refine Or.inl ⟨x.1, fun j a b c => ?_⟩
            by_cases e : j = i
            · rw [e] at c ⊢; exact hs c
            · exact x.2 j a (by omega) c
          · refine Or.inr ⟨x.1, by omega, x.2.2.1, x.2.2.2.1, fun j a b c d => ?_⟩
            by_cases e : j = i
            · rw [e] at c d; exact absurd (hs c) d
            · exact x.2.2.2.2 j a (by omega) c d
        rw [hs_get (A := h) i0 (by omega)]
        refine hs_eq (h i) q (fun y => hs_eq i t (fun x => nm_r (hs_1 i) (ih m (i + 1) (skip (fun _ => x)) (by omega) (by omega) (by omega))) (fun x => ?_)) (fun y => nm_r (hs_1 i) (ih m (i + 1) (skip (fun x => absurd x y)) (by omega) (by omega) (by omega)))
        refine hs_bet kr mb.1 mb.2 (by omega) z (nm_r (hs_1 i) (ih _ (i + 1) ?_ (by omega) (by omega) (by omega)))
        have le := hs_bt_le (K := hs_K k) (x := m) (y := i)
        have g := le.2 (by omega)
        right
        have rg : 0 ≤ hs_bt (hs_K k) m i ∧ hs_bt (hs_K k) m i < i + 1 ∧ h (hs_bt (hs_K k) m i) = q ∧ hs_bt (hs_K k) m i ≠ t := by
          rcases hs_bt_r (K := hs_K k) (x := m) (y := i) with e | e
          · rcases hm with v | v
            · rw [e] at g; exact absurd v.1 g.1
            · rw [e]; exact ⟨v.1, by omega, v.2.2.1, v.2.2.2.1⟩
          · rw [e]; exact ⟨i0, by omega, y, x⟩
        refine ⟨rg.1, rg.2.1, rg.2.2.1, rg.2.2.2, fun j a b c d => ?_⟩
        by_cases e : j = i
        · rw [e]; exact g.2
        · rcases hm with v | v
          · exact absurd (v.2 j a (by omega) c) d
          · have := v.2.2.2.2 j a (by omega) c d
            have := (le.1 (by omega)).2
            omega
  refine ⟨26, ?_⟩
  rw [← hs_lm1, ← hs_l0]
  exact loop 26 (-1) 0 (Or.inl ⟨rfl, fun j a b => by omega⟩) (by omega) (by omega) (by omega)
theorem hs_ag {post : Int32 → Prop} {k h c S F P lr ll lR lu ln pr pc pn pb tr tc tn tu ni nn wi : Int → Int} {e f : Int} (kr : hs_kr k) (e0 : 0 ≤ e) (e1 : e ≤ 6) (f0 : 0 ≤ f) (f1 : f ≤ 6) (E : hs_EN (hs_K k) h S F P lr ll lR lu ln pr pc pn pb tr tc tn tu ni nn wi) (hp : post 1) : ∃ n, wX_agree_18 post (hs_i e) (hs_i f) (hs_e k) (hs_e h) (hs_e c) (hs_e S) (hs_e F) (hs_e P) (hs_e lr) (hs_e ll) (hs_e lR) (hs_e lu) (hs_e ln) (hs_e pr) (hs_e pc) (hs_e pn) (hs_e pb) (hs_e tr) (hs_e tc) (hs_e tn) (hs_e tu) (hs_e ni) (hs_e nn) (hs_e wi) n 0 := by
  have loop : ∀ (n : Nat) (q : Int), 0 ≤ q → q ≤ 4 → 4 - q < n → wX_agree_18 post (hs_i e) (hs_i f) (hs_e k) (hs_e h) (hs_e c) (hs_e S) (hs_e F) (hs_e P) (hs_e lr) (hs_e ll) (hs_e lR) (hs_e lu) (hs_e ln) (hs_e pr) (hs_e pc) (hs_e pn) (hs_e pb) (hs_e tr) (hs_e tc) (hs_e tn) (hs_e tu) (hs_e ni) (hs_e nn) (hs_e wi) n (hs_i q) := by
    intro n
    induction n with
    | zero => intro q a b c; omega
    | succ n ih =>
      intro q q0 q1 hn
      refine hs_le 4 q (fun _ => hp) (fun z => hs_firstBy kr q0 (by omega) e0 e1 E (fun r m => hs_firstBy kr q0 (by omega) f0 f1 E (fun r' m' => ?_)))
      rw [hs_mn_uniq (hs_K_inj k) m m']
      exact br_t rfl (nm_r (hs_1 q) (ih (q + 1) (by omega) (by omega) (by omega)))
  refine ⟨6, ?_⟩
  rw [← hs_l0]
  exact loop 6 0 (by omega) (by omega) (by omega)
end HS39
end
section
section HS40
variable {gv1 gv2 gv3 gv4 gv5 gv6 gv7 gv8 gv9 gv10 gv11 gv12 gv13 gv14 gv15 gv16 gv17 gv18 gv19 gv20 gv21 gv22 : Nat → Int32}
/-! the constructor -/
theorem hs_in279 {post : SX → Prop} (hK : ∀ W : Int → Int, (∀ j, 0 ≤ j → j < 192 → W j = -1) → post (gv1, gv2, gv3, gv4, gv5, gv6, gv7, gv8, gv9, gv10, gv11, gv12, gv13, gv14, gv15, gv16, gv17, gv18, gv19, gv20, gv21, hs_e W)) :
    ∀ (n : Nat) (W : Int → Int) (i : Int), (∀ j, 0 ≤ j → j < i → W j = -1) → 0 ≤ i → i ≤ 192 → 192 - i < n → wX_init_279 post n (hs_i i) gv1 gv2 gv3 gv4 gv5 gv6 gv7 gv8 gv9 gv10 gv11 gv12 gv13 gv14 gv15 gv16 gv17 gv18 gv19 gv20 gv21 (hs_e W) := by
  intro n
  induction n with
  | zero => intro W i _ a b c; omega
  | succ n ih =>
    intro W i hW i0 i1 hn
    refine hs_le 192 i (fun z => hK W (fun j a b => hW j a (by omega))) (fun z => hs_wr i (-1) rfl hs_lm1.symm i0 (by omega) (by decide) (nm_r (hs_1 i) (ih _ (i + 1) (fun j a b => ?_) (by omega) (by omega) (by omega))))
    by_cases e : j = i
    · exact hs_ue e
    · rw [hs_un e]; exact hW j a (by omega)
theorem hs_in258 {post : SX → Prop} {W0 : Int → Int} (hK : ∀ T W : Int → Int, (∀ j, 0 ≤ j → j < 20 → T j = -1) → (∀ j, 0 ≤ j → j < 192 → W j = -1) → post (gv1, gv2, gv3, gv4, gv5, gv6, gv7, gv8, gv9, gv10, gv11, gv12, gv13, gv14, gv15, hs_e T, gv17, gv18, gv19, gv20, gv21, hs_e W)) :
    ∀ (n : Nat) (T : Int → Int) (i : Int), (∀ j, 0 ≤ j → j < i → T j = -1) → 0 ≤ i → i ≤ 20 → 20 - i < n → wX_init_258 post n (hs_i i) gv1 gv2 gv3 gv4 gv5 gv6 gv7 gv8 gv9 gv10 gv11 gv12 gv13 gv14 gv15 (hs_e T) gv17 gv18 gv19 gv20 gv21 (hs_e W0) := by
  intro n
  induction n with
  | zero => intro W i _ a b c; omega
  | succ n ih =>
    intro T i hT i0 i1 hn
    refine hs_le 20 i (fun z => ⟨194, ?_⟩) (fun z => hs_wr i (-1) rfl hs_lm1.symm i0 (by omega) (by decide) (nm_r (hs_1 i) (ih _ (i + 1) (fun j a b => ?_) (by omega) (by omega) (by omega))))
    · rw [← hs_l0]
      exact hs_in279 (fun W hW => hK T W (fun j a b => hT j a (by omega)) hW) 194 W0 0 (fun j a b => by omega) (by omega) (by omega) (by omega)
    · by_cases e : j = i
      · exact hs_ue e
      · rw [hs_un e]; exact hT j a (by omega)
theorem hs_in238 {post : SX → Prop} {T0 W0 : Int → Int} (hK : ∀ R T W : Int → Int, (∀ j, 0 ≤ j → j < 4 → R j = -1) → (∀ j, 0 ≤ j → j < 20 → T j = -1) → (∀ j, 0 ≤ j → j < 192 → W j = -1) → post (gv1, gv2, gv3, gv4, gv5, gv6, gv7, gv8, gv9, gv10, gv11, hs_e R, gv13, gv14, gv15, hs_e T, gv17, gv18, gv19, gv20, gv21, hs_e W)) :
    ∀ (n : Nat) (R : Int → Int) (i : Int), (∀ j, 0 ≤ j → j < i → R j = -1) → 0 ≤ i → i ≤ 4 → 4 - i < n → wX_init_238 post n (hs_i i) gv1 gv2 gv3 gv4 gv5 gv6 gv7 gv8 gv9 gv10 gv11 (hs_e R) gv13 gv14 gv15 (hs_e T0) gv17 gv18 gv19 gv20 gv21 (hs_e W0) := by
  intro n
  induction n with
  | zero => intro W i _ a b c; omega
  | succ n ih =>
    intro T i hT i0 i1 hn
    refine hs_le 4 i (fun z => ⟨22, ?_⟩) (fun z => hs_wr i (-1) rfl hs_lm1.symm i0 (by omega) (by decide) (nm_r (hs_1 i) (ih _ (i + 1) (fun j a b => ?_) (by omega) (by omega) (by omega))))
    · rw [← hs_l0]
      exact hs_in258 (fun T2 W h1 h2 => hK T T2 W (fun j a b => hT j a (by omega)) h1 h2) 22 T0 0 (fun j a b => by omega) (by omega) (by omega) (by omega)
    · by_cases e : j = i
      · exact hs_ue e
      · rw [hs_un e]; exact hT j a (by omega)
theorem hs_in217 {post : SX → Prop} {R0 T0 W0 : Int → Int} (hK : ∀ L R T W : Int → Int, (∀ j, 0 ≤ j → j < 8 → L j = -1) → (∀ j, 0 ≤ j → j < 4 → R j = -1) → (∀ j, 0 ≤ j → j < 20 → T j = -1) → (∀ j, 0 ≤ j → j < 192 → W j = -1) → post (gv1, gv2, gv3, gv4, gv5, gv6, hs_e L, gv8, gv9, gv10, gv11, hs_e R, gv13, gv14, gv15, hs_e T, gv17, gv18, gv19, gv20, gv21, hs_e W)) :
    ∀ (n : Nat) (L : Int → Int) (i : Int), (∀ j, 0 ≤ j → j < i → L j = -1) → 0 ≤ i → i ≤ 8 → 8 - i < n → wX_init_217 post n (hs_i i) gv1 gv2 gv3 gv4 gv5 gv6 (hs_e L) gv8 gv9 gv10 gv11 (hs_e R0) gv13 gv14 gv15 (hs_e T0) gv17 gv18 gv19 gv20 gv21 (hs_e W0) := by
  intro n
  induction n with
  | zero => intro W i _ a b c; omega
  | succ n ih =>
    intro T i hT i0 i1 hn
    refine hs_le 8 i (fun z => ⟨6, ?_⟩) (fun z => hs_wr i (-1) rfl hs_lm1.symm i0 (by omega) (by decide) (nm_r (hs_1 i) (ih _ (i + 1) (fun j a b => ?_) (by omega) (by omega) (by omega))))
    · rw [← hs_l0]
      exact hs_in238 (fun R T2 W h0 h1 h2 => hK T R T2 W (fun j a b => hT j a (by omega)) h0 h1 h2) 6 R0 0 (fun j a b => by omega) (by omega) (by omega) (by omega)
    · by_cases e : j = i
      · exact hs_ue e
      · rw [hs_un e]; exact hT j a (by omega)
theorem hs_in182 {post : SX → Prop} {L0 R0 T0 W0 : Int → Int} (hK : ∀ h ni nn L R T W : Int → Int, (∀ j, 0 ≤ j → j < 24 → h j = -1 ∧ ni j = j ∧ nn j = j) → (∀ j, 0 ≤ j → j < 8 → L j = -1) → (∀ j, 0 ≤ j → j < 4 → R j = -1) → (∀ j, 0 ≤ j → j < 20 → T j = -1) → (∀ j, 0 ≤ j → j < 192 → W j = -1) → post (gv1, hs_e h, gv3, gv4, gv5, gv6, hs_e L, gv8, gv9, gv10, gv11, hs_e R, gv13, gv14, gv15, hs_e T, gv17, gv18, gv19, hs_e ni, hs_e nn, hs_e W)) :
    ∀ (n : Nat) (h ni nn : Int → Int) (i : Int), (∀ j, 0 ≤ j → j < i → h j = -1 ∧ ni j = j ∧ nn j = j) → 0 ≤ i → i ≤ 24 → 24 - i < n → wX_init_182 post n (hs_i i) gv1 (hs_e h) gv3 gv4 gv5 gv6 (hs_e L0) gv8 gv9 gv10 gv11 (hs_e R0) gv13 gv14 gv15 (hs_e T0) gv17 gv18 gv19 (hs_e ni) (hs_e nn) (hs_e W0) := by
  intro n
  induction n with
  | zero => intro h ni nn i _ a b c; omega
  | succ n ih =>
    intro h ni nn i hT i0 i1 hn
    refine hs_le 24 i (fun z => ⟨10, ?_⟩) (fun z => hs_wr i (-1) rfl hs_lm1.symm i0 (by omega) (by decide) (hs_wr i i rfl rfl i0 (by omega) (by decide) (hs_wr i i rfl rfl i0 (by omega) (by decide) (nm_r (hs_1 i) (ih _ _ _ (i + 1) (fun j a b => ?_) (by omega) (by omega) (by omega))))))
    · rw [← hs_l0]
      exact hs_in217 (fun L R T W h0 h1 h2 h3 => hK h ni nn L R T W (fun j a b => hT j a (by omega)) h0 h1 h2 h3) 10 L0 0 (fun j a b => by omega) (by omega) (by omega) (by omega)
    · by_cases e : j = i
      · rw [hs_ue e, hs_ue e, hs_ue e]; exact ⟨rfl, e.symm, e.symm⟩
      · rw [hs_un e, hs_un e, hs_un e]; exact hT j a (by omega)
theorem hs_zero : (fun _ : Nat => (0 : Int32)) = hs_e (fun _ => 0) := by
  funext _
  exact hs_l0.symm
theorem hs_EN0 {h ni nn L R T W K : Int → Int} (a : ∀ j, 0 ≤ j → j < 24 → h j = -1 ∧ ni j = j ∧ nn j = j) (b : ∀ j, 0 ≤ j → j < 8 → L j = -1) (c : ∀ j, 0 ≤ j → j < 4 → R j = -1) (d : ∀ j, 0 ≤ j → j < 20 → T j = -1) (e : ∀ j, 0 ≤ j → j < 192 → W j = -1) :
    hs_EN K h (fun _ => 0) (fun _ => 0) (fun _ => 0) L (fun _ => 0) (fun _ => 0) (fun _ => 0) (fun _ => 0) R (fun _ => 0) (fun _ => 0) (fun _ => 0) T (fun _ => 0) (fun _ => 0) (fun _ => 0) ni nn W ∧ (∀ q, 0 ≤ q → q ≤ 3 → 0 = hs_c h q) := by
  have hq : ∀ i q, 0 ≤ i → i < 24 → 0 ≤ q → h i ≠ q := by
    intro i q i0 i1 q0
    rw [(a i i0 i1).1]; omega
  have c0 : ∀ q, 0 ≤ q → q ≤ 3 → 0 = hs_c h q := by
    intro q q0 q1
    have cr := hs_c_r h q
    apply Classical.byContradiction
    intro x
    obtain ⟨i, i0, i1, i2⟩ := hs_c_ex (H := h) (q := q) (by omega)
    exact hq i q i0 i1 q0 i2
  have rg0 : ∀ n : Int, hs_rg (fun _ => 0) n (-1) 47 := fun n j _ _ => by dsimp only; omega
  have rg1 : ∀ n : Int, hs_rg (fun _ => 0) n (-1) 23 := fun n j _ _ => by dsimp only; omega
  have ah : ∀ w, hs_AA K h (fun _ => 0) (fun _ => 0) (fun _ => 0) w := by
    intro w q q0 q1
    exact ⟨c0 q q0 q1, ⟨fun p x y => absurd y (by dsimp only; omega), fun i x y z => absurd z (hq i q x y q0)⟩, fun p x y => absurd y (by dsimp only; omega)⟩
  have nl : ∀ w q n, 0 ≤ q → ¬ hs_LD h w q n := by
    intro w q n q0 x
    exact hq (n - w * 24) q (by have := x.1; omega) (by have := x.2.1; omega) q0 x.2.2
  have lt : ∀ w, 0 ≤ w → w ≤ 1 → hs_LL K h L (fun _ => 0) (fun _ => 0) (fun _ => 0) (fun _ => 0) w := by
    intro w w0 w1 q q0 q1
    exact ⟨fun n x => absurd x (nl w q n q0), fun n x => absurd x (nl w q n q0), Or.inl (b _ (by omega) (by omega)), fun _ n x => absurd x (nl w q n q0)⟩
  have np : ∀ q n, 0 ≤ q → ¬ hs_PD h q n := fun q n q0 x => hq n q x.1 x.2.1 q0 x.2.2
  have nb : ∀ q n, 0 ≤ q → ¬ hs_BD h ni q n := by
    intro q n q0 x
    have y := x.2.2
    rw [(a n x.1 x.2.1).2.1] at y
    exact hq n q x.1 x.2.1 q0 y
  refine ⟨⟨⟨ah 0, ah 1, fun j _ _ => by dsimp only; omega⟩, ⟨lt 0 (by omega) (by omega), lt 1 (by omega) (by omega), fun j x y => by rw [b j x y]; omega, rg0 _, rg0 _, rg0 _⟩, ⟨?_, fun j x y => by rw [c j x y]; omega, rg1 _, rg1 _, rg1 _⟩, ⟨?_, ?_, fun j x y => by rw [d j x y]; omega, rg1 _, rg1 _, rg1 _⟩, ⟨?_, fun j x y => by rw [e j x y]; omega⟩⟩, c0⟩
  · intro q q0 q1
    exact ⟨fun _ => 0, fun _ => 0, fun n x => absurd x (np q n q0), fun n x => absurd x (np q n q0), Or.inl (c q q0 (by omega))⟩
  · intro q q0 q1
    refine ⟨fun _ => 0, fun n x => absurd x (nb q n q0), fun n x => absurd x (nb q n q0), ⟨fun n x => absurd x (nb q n q0), fun o x y => Or.inl (d _ (by omega) (by omega))⟩, ?_⟩
    rw [← c0 q q0 q1]
    unfold hs_tv hs_b1
    rw [if_pos (d _ (by omega) (by omega)), if_pos (d _ (by omega) (by omega)), if_pos (d _ (by omega) (by omega)), if_pos (d _ (by omega) (by omega)), if_pos (d _ (by omega) (by omega))]
    rfl
  · intro i i0 i1
    have x := a i i0 i1
    exact ⟨by rw [x.2.1]; exact i0, by rw [x.2.1]; exact i1, by rw [x.2.2]; exact i0, by rw [x.2.2]; exact i1, by rw [x.2.2]; exact x.2.1, by rw [x.2.1]; exact x.2.2⟩
  · intro q q0 q1
    refine ⟨fun i i0 i1 => ?_, fun n n0 n1 => ?_⟩
    · rw [if_neg (hq i q i0 i1 q0)]; exact e _ (by omega) (by omega)
    · unfold hs_eqn hs_bt
      rw [e (q * 48 + n) (by omega) (by omega), e (q * 48 + 2 * n) (by omega) (by omega), e (q * 48 + 2 * n + 1) (by omega) (by omega)]
      rfl
end HS40
end
section
/-- the same keys on both sides; a queue's number is one more on the reference's; the counts and all seven engines are as they must be -/
def i_Rel (_ : Nat) (u : SX) (v : SY) : Prop := ∃ k h c S F P lr ll lR lu ln pr pc pn pb tr tc tn tu ni nn wi Q : Int → Int, u = (hs_e k, hs_e h, hs_e c, hs_e S, hs_e F, hs_e P, hs_e lr, hs_e ll, hs_e lR, hs_e lu, hs_e ln, hs_e pr, hs_e pc, hs_e pn, hs_e pb, hs_e tr, hs_e tc, hs_e tn, hs_e tu, hs_e ni, hs_e nn, hs_e wi) ∧ v = (hs_e Q, hs_e k) ∧ hs_kr k ∧ hs_rg h 24 (-1) 3 ∧ (∀ q, 0 ≤ q → q ≤ 3 → c q = hs_c h q) ∧ hs_EN (hs_K k) h S F P lr ll lR lu ln pr pc pn pb tr tc tn tu ni nn wi ∧ (∀ i, 0 ≤ i → i < 24 → Q i = h i + 1)
theorem i_up {k : Nat} {u : SX} {v : SY} (h : i_Rel k u v) : i_Rel (k + 3) u v := h
theorem hs_mk {z : Nat} {k h c S F P lr ll lR lu ln pr pc pn pb tr tc tn tu ni nn wi Q : Int → Int} (kr : hs_kr k) (hh : hs_rg h 24 (-1) 3) (hc : ∀ q, 0 ≤ q → q ≤ 3 → c q = hs_c h q) (E : hs_EN (hs_K k) h S F P lr ll lR lu ln pr pc pn pb tr tc tn tu ni nn wi) (hQ : ∀ i, 0 ≤ i → i < 24 → Q i = h i + 1) :
    i_Rel z (hs_e k, hs_e h, hs_e c, hs_e S, hs_e F, hs_e P, hs_e lr, hs_e ll, hs_e lR, hs_e lu, hs_e ln, hs_e pr, hs_e pc, hs_e pn, hs_e pb, hs_e tr, hs_e tc, hs_e tn, hs_e tu, hs_e ni, hs_e nn, hs_e wi) (hs_e Q, hs_e k) := ⟨k, h, c, S, F, P, lr, ll, lR, lu, ln, pr, pc, pn, pb, tr, tc, tn, tu, ni, nn, wi, Q, rfl, rfl, kr, hh, hc, E, hQ⟩
theorem i_vc0 : wpX_init (fun u => wpY_init (fun v => i_Rel 0 u v)) := by
  unfold wpX_init
  refine ⟨26, ?_⟩
  rw [hs_zero, ← hs_l0]
  refine hs_in182 (fun h ni nn L R T W a b c d e => ?_) 26 _ _ _ 0 (fun j x y => by omega) (by omega) (by omega) (by omega)
  have E := hs_EN0 (K := hs_K (fun _ => 0)) a b c d e
  unfold wpY_init
  rw [hs_zero]
  refine hs_mk (fun i _ _ => by omega) (fun i x y => by rw [(a i x y).1]; omega) E.2 E.1 (fun i x y => ?_)
  rw [(a i x y).1]; rfl
/-- after a detach -/
theorem hs_c_det {h c : Int → Int} {x : Int} (x0 : 0 ≤ x) (x1 : x < 24) (hx : 0 ≤ h x) (hc : ∀ q, 0 ≤ q → q ≤ 3 → c q = hs_c h q) : ∀ q, 0 ≤ q → q ≤ 3 → hs_u c (h x) (c (h x) - 1) q = hs_c (hs_u h x (-1)) q := by
  intro q q0 q1
  rw [hs_c_upd h x0 x1, if_neg (by omega)]
  by_cases e : q = h x
  · rw [hs_ue e, if_pos e.symm, ← e, hc q q0 q1]; omega
  · rw [hs_un e, if_neg (fun t => e t.symm), hc q q0 q1]; omega
theorem hs_c_att {h c : Int → Int} {x p : Int} (x0 : 0 ≤ x) (x1 : x < 24) (hx : ¬ 0 ≤ h x) (hc : ∀ q, 0 ≤ q → q ≤ 3 → c q = hs_c h q) : ∀ q, 0 ≤ q → q ≤ 3 → hs_u c p (c p + 1) q = hs_c (hs_u h x p) q := by
  intro q q0 q1
  rw [hs_c_upd h x0 x1, if_neg (by omega : ¬ h x = q)]
  by_cases e : q = p
  · rw [hs_ue e, if_pos e.symm, ← e, hc q q0 q1]; omega
  · rw [hs_un e, if_neg (fun t => e t.symm), hc q q0 q1]; omega
theorem hs_rg_u {h : Int → Int} {x v : Int} (hh : hs_rg h 24 (-1) 3) (v0 : -1 ≤ v) (v1 : v ≤ 3) : hs_rg (hs_u h x v) 24 (-1) 3 := by
  intro j a b
  by_cases e : j = x
  · rw [hs_ue e]; exact ⟨v0, v1⟩
  · rw [hs_un e]; exact hh j a b
theorem hs_kr_u {k : Int → Int} {x v : Int} (kr : hs_kr k) (v0 : -999 ≤ v) (v1 : v ≤ 999) : hs_kr (hs_u k x v) := by
  intro j a b
  by_cases e : j = x
  · rw [hs_ue e]; exact ⟨v0, v1⟩
  · rw [hs_un e]; exact kr j a b
theorem i_vc_insert {k : Nat} {u : SX} {v : SY} (I : i_Rel k u v) (hk : k + 3 ≤ 1536) (v1 : Int32) (v2 : Int32) : wpX_insert (fun r u' => wpY_insert (fun r' v' => r' = r ∧ i_Rel (k + 3) u' v') v v1 v2) u v1 v2 := by
  have J : i_Rel (k + 3) u v := i_up I
  obtain ⟨kk, h, c, S, F, P, lr, ll, lR, lu, ln, pr, pc, pn, pb, tr, tc, tn, tu, ni, nn, wi, Q, rfl, rfl, kr, hh, hc, E, hQ⟩ := I
  obtain ⟨q, q0, q1, rfl⟩ := hs_of v1
  obtain ⟨y, y0, y1, rfl⟩ := hs_of v2
  have bad : ¬ ((0 ≤ q ∧ q ≤ 3) ∧ (-999 ≤ y ∧ y ≤ 999)) → wpY_insert (fun r' v' => r' = -1000 ∧ i_Rel (k + 3) (hs_e kk, hs_e h, hs_e c, hs_e S, hs_e F, hs_e P, hs_e lr, hs_e ll, hs_e lR, hs_e lu, hs_e ln, hs_e pr, hs_e pc, hs_e pn, hs_e pb, hs_e tr, hs_e tc, hs_e tn, hs_e tu, hs_e ni, hs_e nn, hs_e wi) v') (hs_e Q, hs_e kk) (hs_i q) (hs_i y) := by
    intro hn
    unfold wpY_insert
    dsimp only
    exact hs_yQ ⟨q0, q1⟩ (fun a b => br_f (by decide) (hs_yK ⟨y0, y1⟩ (fun x z => absurd ⟨⟨a, b⟩, x, z⟩ hn) (fun _ => br_t rfl ⟨rfl, J⟩))) (fun _ => br_t rfl ⟨rfl, J⟩)
  unfold wpX_insert
  dsimp only
  refine hs_isQ ⟨q0, q1⟩ (fun a b => br_f (by decide) (hs_isK ⟨y0, y1⟩ (fun x z => br_f (by decide) ?_) (fun hn => br_t rfl (bad (fun t => hn t.2))))) (fun hn => br_t rfl (bad (fun t => hn t.1)))
  obtain ⟨j, j0, j1, j2, j3⟩ := hs_free h
  have go : ∀ {A : Int32} {post : Int32 → SY → Prop}, (∃ n, wY_insert_22 post (hs_i q) (hs_i y) (hs_e Q) (hs_e kk) n 0) → wpY_insert post (hs_e Q, hs_e kk) (hs_i q) (hs_i y) := by
    intro A post hx
    unfold wpY_insert
    dsimp only
    exact hs_yQ ⟨q0, q1⟩ (fun _ _ => br_f (by decide) (hs_yK ⟨y0, y1⟩ (fun _ _ => br_f (by decide) hx) (fun t => absurd ⟨x, z⟩ t))) (fun t => absurd ⟨a, b⟩ t)
  refine hs_ins kr hh a b x z E j0 j1 j2 j3 (fun e => go (A := 0) (hs_yins hh hQ j0 j1 j2 j3 (fun _ => ⟨rfl, J⟩) (fun t => absurd e (by omega)))) (fun e S1 F1 P1 lr1 ll1 lR1 lu1 ln1 pr1 pc1 pn1 pb1 tr1 tc1 tn1 tu1 ni1 nn1 wi1 E1 => go (A := 0) (hs_yins hh hQ j0 j1 j2 j3 (fun t => absurd t (by omega)) (fun _ => ⟨rfl, ?_⟩)))
  refine hs_mk (hs_kr_u kr x z) (hs_rg_u hh (by omega) b) (hs_c_att j0 e (by rw [j3 e]; omega) hc) E1 (fun i i0 i1 => ?_)
  by_cases t : i = j
  · rw [hs_ue t, hs_ue t]
  · rw [hs_un t, hs_un t]; exact hQ i i0 i1
theorem i_vc_first {k : Nat} {u : SX} {v : SY} (I : i_Rel k u v) (hk : k + 3 ≤ 1536) (v1 : Int32) (v2 : Int32) : wpX_first (fun r => wpY_first (fun r' => r' = r ∧ i_Rel (k + 3) u v) v v1 v2) u v1 v2 := by
  have J : i_Rel (k + 3) u v := i_up I
  obtain ⟨kk, h, c, S, F, P, lr, ll, lR, lu, ln, pr, pc, pn, pb, tr, tc, tn, tu, ni, nn, wi, Q, rfl, rfl, kr, hh, hc, E, hQ⟩ := I
  obtain ⟨e, e0, e1, rfl⟩ := hs_of v1
  obtain ⟨q, q0, q1, rfl⟩ := hs_of v2
  have bad : ¬ ((0 ≤ q ∧ q ≤ 3) ∧ (0 ≤ e ∧ e ≤ 6)) → wpY_first (fun r' => r' = -1000 ∧ i_Rel (k + 3) (hs_e kk, hs_e h, hs_e c, hs_e S, hs_e F, hs_e P, hs_e lr, hs_e ll, hs_e lR, hs_e lu, hs_e ln, hs_e pr, hs_e pc, hs_e pn, hs_e pb, hs_e tr, hs_e tc, hs_e tn, hs_e tu, hs_e ni, hs_e nn, hs_e wi) (hs_e Q, hs_e kk)) (hs_e Q, hs_e kk) (hs_i e) (hs_i q) := by
    intro hn
    unfold wpY_first
    dsimp only
    exact hs_lt e 0 (fun _ => ⟨rfl, J⟩) (fun a => hs_lt 6 e (fun _ => ⟨rfl, J⟩) (fun b => hs_yQ ⟨q0, q1⟩ (fun x z => absurd ⟨⟨x, z⟩, a, b⟩ hn) (fun _ => br_t rfl ⟨rfl, J⟩)))
  unfold wpX_first
  dsimp only
  refine hs_isQ ⟨q0, q1⟩ (fun a b => br_f (by decide) (hs_isE ⟨e0, e1⟩ (fun x z => br_f (by decide) (hs_firstBy kr a b x z E (fun r m => ?_))) (fun hn => br_t rfl (bad (fun t => hn t.2))))) (fun hn => br_t rfl (bad (fun t => hn t.1)))
  have mb : -1 ≤ r ∧ r < 24 := by
    rcases m with t | t <;> omega
  have go : ∀ A : Int32, A = (if r = -1 then hs_i (-3000) else hs_i r) → wpY_first (fun r' => r' = A ∧ i_Rel (k + 3) (hs_e kk, hs_e h, hs_e c, hs_e S, hs_e F, hs_e P, hs_e lr, hs_e ll, hs_e lR, hs_e lu, hs_e ln, hs_e pr, hs_e pc, hs_e pn, hs_e pb, hs_e tr, hs_e tc, hs_e tn, hs_e tu, hs_e ni, hs_e nn, hs_e wi) (hs_e Q, hs_e kk)) (hs_e Q, hs_e kk) (hs_i e) (hs_i q) := by
    intro A hA
    unfold wpY_first
    dsimp only
    refine hs_lt e 0 (fun t => absurd t (by omega)) (fun _ => hs_lt 6 e (fun t => absurd t (by omega)) (fun _ => hs_yQ ⟨q0, q1⟩ (fun _ _ => br_f (by decide) ?_) (fun t => absurd ⟨a, b⟩ t)))
    refine hs_yL (w := -3000) kr hh hQ a b (by omega) ?_
    intro r' m'
    refine ⟨?_, J⟩
    rw [hA]
    rcases hs_mw_uniq (hs_K_inj kk) (fun j _ _ => Iff.rfl) (hs_mn_mw (w := -3000) (by omega) m) m' with t | t
    · rw [t.1, t.2, if_pos rfl]
    · rw [t.2.2, if_neg (by omega)]
  refine hs_eq r (-1) (fun t => go _ ?_) (fun t => go _ ?_)
  · rw [if_pos t]; decide
  · rw [if_neg t]
theorem i_vc_take {k : Nat} {u : SX} {v : SY} (I : i_Rel k u v) (hk : k + 3 ≤ 1536) (v1 : Int32) : wpX_take (fun r u' => wpY_take (fun r' v' => r' = r ∧ i_Rel (k + 3) u' v') v v1) u v1 := by
  have J : i_Rel (k + 3) u v := i_up I
  obtain ⟨kk, h, c, S, F, P, lr, ll, lR, lu, ln, pr, pc, pn, pb, tr, tc, tn, tu, ni, nn, wi, Q, rfl, rfl, kr, hh, hc, E, hQ⟩ := I
  obtain ⟨q, q0, q1, rfl⟩ := hs_of v1
  unfold wpX_take
  dsimp only
  refine hs_isQ ⟨q0, q1⟩ (fun a b => br_f (by decide) (hs_firstBy (e := 0) kr a b (by omega) (by omega) E (fun r m => ?_))) (fun hn => br_t rfl ?_)
  · have mb : -1 ≤ r ∧ r < 24 := by
      rcases m with t | t <;> omega
    have go : ∀ post : Int32 → SY → Prop, (r = -1 → post (-3000) (hs_e Q, hs_e kk)) → (r ≠ -1 → post (hs_i r) (hs_e (hs_u Q r 0), hs_e kk)) → wpY_take post (hs_e Q, hs_e kk) (hs_i q) := by
      intro post x y
      unfold wpY_take
      dsimp only
      refine hs_yQ ⟨q0, q1⟩ (fun _ _ => br_f (by decide) (hs_yL (w := -3000) kr hh hQ a b (by omega) (fun r' m' => ?_))) (fun t => absurd ⟨a, b⟩ t)
      rcases hs_mw_uniq (hs_K_inj kk) (fun j _ _ => Iff.rfl) (hs_mn_mw (w := -3000) (by omega) m) m' with t | t
      · rw [t.2]
        exact br_t (by decide) (x t.1)
      · rw [t.2.2]
        exact hs_lt r 0 (fun z => absurd z (by omega)) (fun _ => hs_wr r 0 rfl hs_l0.symm t.1 (by omega) (by decide) (y (by omega)))
    refine hs_eq r (-1) (fun t => go _ (fun _ => ⟨rfl, J⟩) (fun z => absurd t z)) (fun t => ?_)
    obtain ⟨r0, r1, r2, r3⟩ := m.resolve_left (fun z => t z.1)
    refine hs_detach kr r0 r1 (by omega) (by omega) E (fun S1 F1 P1 lr1 ll1 lR1 lu1 ln1 pr1 pc1 pn1 pb1 tr1 tc1 tn1 tu1 ni1 nn1 wi1 E1 => go _ (fun z => absurd z t) (fun _ => ⟨rfl, ?_⟩))
    refine hs_mk kr (hs_rg_u hh (by omega) (by omega)) (hs_c_det r0 r1 (by omega) hc) E1 (fun i i0 i1 => ?_)
    by_cases z : i = r
    · rw [hs_ue z, hs_ue z]; rfl
    · rw [hs_un z, hs_un z]; exact hQ i i0 i1
  · unfold wpY_take
    dsimp only
    exact hs_yQ ⟨q0, q1⟩ (fun a b => absurd ⟨a, b⟩ hn) (fun _ => br_t rfl ⟨rfl, J⟩)
theorem i_vc_size {k : Nat} {u : SX} {v : SY} (I : i_Rel k u v) (hk : k + 3 ≤ 1536) (v1 : Int32) : wpX_size (fun r => wpY_size (fun r' => r' = r ∧ i_Rel (k + 3) u v) v v1) u v1 := by
  have J : i_Rel (k + 3) u v := i_up I
  obtain ⟨kk, h, c, S, F, P, lr, ll, lR, lu, ln, pr, pc, pn, pb, tr, tc, tn, tu, ni, nn, wi, Q, rfl, rfl, kr, hh, hc, E, hQ⟩ := I
  obtain ⟨q, q0, q1, rfl⟩ := hs_of v1
  unfold wpX_size
  dsimp only
  refine hs_isQ ⟨q0, q1⟩ (fun a b => br_f (by decide) ⟨hs_in a (by omega) (by decide), ?_⟩) (fun hn => br_t rfl (hs_ySzB ⟨q0, q1⟩ hn ⟨rfl, J⟩))
  rw [hs_get (A := c) a (by omega), hc q a b]
  exact hs_ySz hh hQ a b ⟨rfl, J⟩
theorem i_vc_keyOf {k : Nat} {u : SX} {v : SY} (I : i_Rel k u v) (hk : k + 3 ≤ 1536) (v1 : Int32) : wpX_keyOf (fun r => wpY_keyOf (fun r' => r' = r ∧ i_Rel (k + 3) u v) v v1) u v1 := by
  have J : i_Rel (k + 3) u v := i_up I
  obtain ⟨kk, h, c, S, F, P, lr, ll, lR, lu, ln, pr, pc, pn, pb, tr, tc, tn, tu, ni, nn, wi, Q, rfl, rfl, kr, hh, hc, E, hQ⟩ := I
  obtain ⟨x, q0, q1, rfl⟩ := hs_of v1
  have go : ∀ A : Int32, (¬ (0 ≤ x ∧ x < 24) → A = -1000) → (0 ≤ x → x < 24 → h x = -1 → A = -3000) → (0 ≤ x → x < 24 → h x ≠ -1 → A = hs_i (kk x)) → wpY_keyOf (fun r' => r' = A ∧ i_Rel (k + 3) (hs_e kk, hs_e h, hs_e c, hs_e S, hs_e F, hs_e P, hs_e lr, hs_e ll, hs_e lR, hs_e lu, hs_e ln, hs_e pr, hs_e pc, hs_e pn, hs_e pb, hs_e tr, hs_e tc, hs_e tn, hs_e tu, hs_e ni, hs_e nn, hs_e wi) (hs_e Q, hs_e kk)) (hs_e Q, hs_e kk) (hs_i x) := by
    intro A a1 a2 a3
    unfold wpY_keyOf
    dsimp only
    refine hs_yI ⟨q0, q1⟩ (fun a b => br_f (by decide) ⟨hs_in a (by omega) (by decide), ?_⟩) (fun hn => br_t rfl ⟨(a1 hn).symm, J⟩)
    have r := hh x a b
    rw [hs_get (A := Q) a (by omega), hQ x a b]
    refine hs_eq (h x + 1) 0 (fun z => ⟨(a2 a b (by omega)).symm, J⟩) (fun z => ⟨hs_in a (by omega) (by decide), ?_⟩)
    rw [hs_get (A := kk) a (by omega)]
    exact ⟨(a3 a b (by omega)).symm, J⟩
  unfold wpX_keyOf
  dsimp only
  refine hs_isI ⟨q0, q1⟩ (fun a b => br_f (by decide) ⟨hs_in a (by omega) (by decide), ?_⟩) (fun hn => br_t rfl (go _ (fun _ => rfl) (fun a b => absurd ⟨a, b⟩ hn) (fun a b => absurd ⟨a, b⟩ hn)))
  have r := hh x a b
  rw [hs_get (A := h) a (by omega)]
  refine hs_eq (h x) (-1) (fun z => go _ (fun t => absurd ⟨a, b⟩ t) (fun _ _ _ => rfl) (fun _ _ t => absurd z t)) (fun z => ⟨hs_in a (by omega) (by decide), ?_⟩)
  rw [hs_get (A := kk) a (by omega)]
  exact go _ (fun t => absurd ⟨a, b⟩ t) (fun _ _ t => absurd t z) (fun _ _ _ => rfl)
theorem hs_yqo {post : Int32 → Prop} {kk h Q : Int → Int} {x : Int} (hh : hs_rg h 24 (-1) 3) (hQ : ∀ i, 0 ≤ i → i < 24 → Q i = h i + 1) (hx : -2147483648 ≤ x ∧ x < 2147483648) (a1 : ¬ (0 ≤ x ∧ x < 24) → post (-1000)) (a2 : 0 ≤ x → x < 24 → h x = -1 → post (-3000)) (a3 : 0 ≤ x → x < 24 → h x ≠ -1 → post (hs_i (h x))) :
    wpY_queueOf post (hs_e Q, hs_e kk) (hs_i x) := by
  unfold wpY_queueOf
  dsimp only
  refine hs_yI hx (fun a b => br_f (by decide) ⟨hs_in a (by omega) (by decide), ?_⟩) (fun hn => br_t rfl (a1 hn))
  have r := hh x a b
  rw [hs_get (A := Q) a (by omega), hQ x a b, hs_s1, show h x + 1 - 1 = h x by omega]
  exact hs_eq (h x + 1) 0 (fun z => a2 a b (by omega)) (fun z => ⟨hs_in a (by omega) (by decide), a3 a b (by omega)⟩)
theorem i_vc_queueOf {k : Nat} {u : SX} {v : SY} (I : i_Rel k u v) (hk : k + 3 ≤ 1536) (v1 : Int32) : wpX_queueOf (fun r => wpY_queueOf (fun r' => r' = r ∧ i_Rel (k + 3) u v) v v1) u v1 := by
  have J : i_Rel (k + 3) u v := i_up I
  obtain ⟨kk, h, c, S, F, P, lr, ll, lR, lu, ln, pr, pc, pn, pb, tr, tc, tn, tu, ni, nn, wi, Q, rfl, rfl, kr, hh, hc, E, hQ⟩ := I
  obtain ⟨x, q0, q1, rfl⟩ := hs_of v1
  unfold wpX_queueOf
  dsimp only
  refine hs_isI ⟨q0, q1⟩ (fun a b => br_f (by decide) ⟨hs_in a (by omega) (by decide), ?_⟩) (fun hn => br_t rfl (hs_yqo hh hQ ⟨q0, q1⟩ (fun _ => ⟨rfl, J⟩) (fun a b => absurd ⟨a, b⟩ hn) (fun a b => absurd ⟨a, b⟩ hn)))
  have r := hh x a b
  rw [hs_get (A := h) a (by omega)]
  exact hs_eq (h x) (-1) (fun z => hs_yqo hh hQ ⟨q0, q1⟩ (fun t => absurd ⟨a, b⟩ t) (fun _ _ _ => ⟨rfl, J⟩) (fun _ _ t => absurd z t)) (fun z => ⟨hs_in a (by omega) (by decide), hs_yqo hh hQ ⟨q0, q1⟩ (fun t => absurd ⟨a, b⟩ t) (fun _ _ t => absurd t z) (fun _ _ _ => ⟨rfl, J⟩)⟩)
theorem i_vc_remove {k : Nat} {u : SX} {v : SY} (I : i_Rel k u v) (hk : k + 3 ≤ 1536) (v1 : Int32) : wpX_remove (fun r u' => wpY_remove (fun r' v' => r' = r ∧ i_Rel (k + 3) u' v') v v1) u v1 := by
  have J : i_Rel (k + 3) u v := i_up I
  obtain ⟨kk, h, c, S, F, P, lr, ll, lR, lu, ln, pr, pc, pn, pb, tr, tc, tn, tu, ni, nn, wi, Q, rfl, rfl, kr, hh, hc, E, hQ⟩ := I
  obtain ⟨x, q0, q1, rfl⟩ := hs_of v1
  have go : ∀ post : Int32 → SY → Prop, (¬ (0 ≤ x ∧ x < 24) → post (-1000) (hs_e Q, hs_e kk)) → (0 ≤ x → x < 24 → h x = -1 → post (-3000) (hs_e Q, hs_e kk)) → (0 ≤ x → x < 24 → h x ≠ -1 → post (hs_i (h x)) (hs_e (hs_u Q x 0), hs_e kk)) → wpY_remove post (hs_e Q, hs_e kk) (hs_i x) := by
    intro post a1 a2 a3
    unfold wpY_remove
    dsimp only
    refine hs_yqo hh hQ ⟨q0, q1⟩ (fun t => br_t (by decide) (a1 t)) (fun a b t => br_t (by decide) (a2 a b t)) (fun a b t => ?_)
    have r := hh x a b
    exact hs_lt (h x) 0 (fun z => absurd z (by omega)) (fun _ => hs_wr x 0 rfl hs_l0.symm a (by omega) (by decide) (a3 a b t))
  unfold wpX_remove
  dsimp only
  refine hs_isI ⟨q0, q1⟩ (fun a b => br_f (by decide) (hs_rd x rfl a (by omega) (by decide) ?_)) (fun hn => br_t rfl (go _ (fun _ => ⟨rfl, J⟩) (fun a b => absurd ⟨a, b⟩ hn) (fun a b => absurd ⟨a, b⟩ hn)))
  have r := hh x a b
  refine hs_eq (h x) (-1) (fun z => go _ (fun t => absurd ⟨a, b⟩ t) (fun _ _ _ => ⟨rfl, J⟩) (fun _ _ t => absurd z t)) (fun z => ?_)
  refine hs_detach kr a b (by omega) r.2 E (fun S1 F1 P1 lr1 ll1 lR1 lu1 ln1 pr1 pc1 pn1 pb1 tr1 tc1 tn1 tu1 ni1 nn1 wi1 E1 => go _ (fun t => absurd ⟨a, b⟩ t) (fun _ _ t => absurd t z) (fun _ _ _ => ⟨rfl, ?_⟩))
  refine hs_mk kr (hs_rg_u hh (by omega) (by omega)) (hs_c_det a b (by omega) hc) E1 (fun i i0 i1 => ?_)
  by_cases t : i = x
  · rw [hs_ue t, hs_ue t]; rfl
  · rw [hs_un t, hs_un t]; exact hQ i i0 i1
/-- an item leaves its queue and enters it again with another key -/
theorem hs_re {post : SX → Prop} {z : Nat} {kk h c S F P lr ll lR lu ln pr pc pn pb tr tc tn tu ni nn wi Q : Int → Int} {x y : Int} (kr : hs_kr kk) (hh : hs_rg h 24 (-1) 3) (hc : ∀ q, 0 ≤ q → q ≤ 3 → c q = hs_c h q) (E : hs_EN (hs_K kk) h S F P lr ll lR lu ln pr pc pn pb tr tc tn tu ni nn wi) (hQ : ∀ i, 0 ≤ i → i < 24 → Q i = h i + 1)
    (x0 : 0 ≤ x) (x1 : x < 24) (hx : h x ≠ -1) (y0 : -999 ≤ y) (y1 : y ≤ 999) (hK : ∀ u : SX, i_Rel z u (hs_e Q, hs_e (hs_u kk x y)) → post u) :
    wpX_detach (fun u => wpX_attach post u (hs_i (h x)) (hs_i x) (hs_i y)) (hs_e kk, hs_e h, hs_e c, hs_e S, hs_e F, hs_e P, hs_e lr, hs_e ll, hs_e lR, hs_e lu, hs_e ln, hs_e pr, hs_e pc, hs_e pn, hs_e pb, hs_e tr, hs_e tc, hs_e tn, hs_e tu, hs_e ni, hs_e nn, hs_e wi) (hs_i x) := by
  have r := hh x x0 x1
  refine hs_detach kr x0 x1 (by omega) r.2 E (fun S1 F1 P1 lr1 ll1 lR1 lu1 ln1 pr1 pc1 pn1 pb1 tr1 tc1 tn1 tu1 ni1 nn1 wi1 E1 => ?_)
  refine hs_attach kr (by omega) r.2 x0 x1 (by rw [hs_us]; omega) y0 y1 E1 (fun S2 F2 P2 lr2 ll2 lR2 lu2 ln2 pr2 pc2 pn2 pb2 tr2 tc2 tn2 tu2 ni2 nn2 wi2 E2 => hK _ ?_)
  refine hs_mk (hs_kr_u kr y0 y1) (hs_rg_u (hs_rg_u hh (by omega) (by omega)) (by omega) r.2) (hs_c_att x0 x1 (by rw [hs_us]; omega) (hs_c_det x0 x1 (by omega) hc)) E2 (fun i i0 i1 => ?_)
  by_cases t : i = x
  · rw [hs_ue t, ← t]; exact hQ i i0 i1
  · rw [hs_un t, hs_un t]; exact hQ i i0 i1
theorem i_vc_lower {k : Nat} {u : SX} {v : SY} (I : i_Rel k u v) (hk : k + 3 ≤ 1536) (v1 : Int32) (v2 : Int32) : wpX_lower (fun r u' => wpY_lower (fun r' v' => r' = r ∧ i_Rel (k + 3) u' v') v v1 v2) u v1 v2 := by
  have J : i_Rel (k + 3) u v := i_up I
  obtain ⟨kk, h, c, S, F, P, lr, ll, lR, lu, ln, pr, pc, pn, pb, tr, tc, tn, tu, ni, nn, wi, Q, rfl, rfl, kr, hh, hc, E, hQ⟩ := I
  obtain ⟨x, q0, q1, rfl⟩ := hs_of v1
  obtain ⟨d, d0, d1, rfl⟩ := hs_of v2
  have go : ∀ post : Int32 → SY → Prop, (¬ ((0 ≤ x ∧ x < 24) ∧ (0 ≤ d ∧ d ≤ 999)) → post (-1000) (hs_e Q, hs_e kk)) → (0 ≤ x → x < 24 → 0 ≤ d → d ≤ 999 → h x = -1 → post (-3000) (hs_e Q, hs_e kk)) →
      (0 ≤ x → x < 24 → 0 ≤ d → d ≤ 999 → h x ≠ -1 → ¬ (-999 ≤ kk x - d ∧ kk x - d ≤ 999) → post (-1000) (hs_e Q, hs_e kk)) →
      (0 ≤ x → x < 24 → 0 ≤ d → d ≤ 999 → h x ≠ -1 → -999 ≤ kk x - d → kk x - d ≤ 999 → post (hs_i (kk x - d)) (hs_e Q, hs_e (hs_u kk x (kk x - d)))) → wpY_lower post (hs_e Q, hs_e kk) (hs_i x) (hs_i d) := by
    intro post a1 a2 a3 a4
    unfold wpY_lower
    dsimp only
    refine hs_yI ⟨q0, q1⟩ (fun a b => br_f (by decide) (hs_lt d 0 (fun t => a1 (by omega)) (fun c0 => hs_le d 999 (fun c1 => ⟨hs_in a (by omega) (by decide), ?_⟩) (fun t => a1 (by omega))))) (fun hn => br_t rfl (a1 (fun t => hn t.1)))
    have r := hh x a b
    have kb := kr x a b
    rw [hs_get (A := Q) a (by omega), hQ x a b, hs_get (A := kk) a (by omega), hs_sub]
    refine hs_eq (h x + 1) 0 (fun z => a2 a b c0 c1 (by omega)) (fun z => ⟨hs_in a (by omega) (by decide), hs_yK (by omega) (fun s t => br_f (by decide) ⟨hs_in a (by omega) (by decide), hs_wr x (kk x - d) rfl rfl a (by omega) (by decide) ⟨hs_in a (by omega) (by decide), ?_⟩⟩) (fun t => br_t rfl (a3 a b c0 c1 (by omega) t))⟩)
    rw [hs_get (A := hs_u kk x (kk x - d)) a (by omega), hs_us]
    exact a4 a b c0 c1 (by omega) s t
  unfold wpX_lower
  dsimp only
  refine hs_isI ⟨q0, q1⟩ (fun a b => br_f (by decide) (hs_lt d 0 (fun t => go _ (fun _ => ⟨rfl, J⟩) (fun _ _ s => absurd s (by omega)) (fun _ _ s => absurd s (by omega)) (fun _ _ s => absurd s (by omega))) (fun c0 => hs_le d 999 (fun c1 => ⟨hs_in a (by omega) (by decide), ?_⟩) (fun t => go _ (fun _ => ⟨rfl, J⟩) (fun _ _ _ s => absurd s (by omega)) (fun _ _ _ s => absurd s (by omega)) (fun _ _ _ s => absurd s (by omega)))))) (fun hn => br_t rfl (go _ (fun _ => ⟨rfl, J⟩) (fun a b => absurd ⟨a, b⟩ hn) (fun a b => absurd ⟨a, b⟩ hn) (fun a b => absurd ⟨a, b⟩ hn)))
  have r := hh x a b
  have kb := kr x a b
  rw [hs_get (A := h) a (by omega), hs_get (A := kk) a (by omega), hs_sub]
  have ok : (0 ≤ x ∧ x < 24) ∧ (0 ≤ d ∧ d ≤ 999) := ⟨⟨a, b⟩, c0, c1⟩
  refine hs_eq (h x) (-1) (fun z => go _ (fun t => absurd ok t) (fun _ _ _ _ _ => ⟨rfl, J⟩) (fun _ _ _ _ t => absurd z t) (fun _ _ _ _ t => absurd z t)) (fun z => ⟨hs_in a (by omega) (by decide), nm_r rfl (hs_isK (by omega) (fun s t => br_f (by decide) ⟨hs_in a (by omega) (by decide), nm_r rfl ?_⟩) (fun t => br_t rfl (go _ (fun s => absurd ok s) (fun _ _ _ _ s => absurd s z) (fun _ _ _ _ _ _ => ⟨rfl, J⟩) (fun _ _ _ _ _ s1 s2 => absurd ⟨s1, s2⟩ t))))⟩)
  exact hs_re (z := k + 3) kr hh hc E hQ a b z s t (fun u hu => go _ (fun s => absurd ok s) (fun _ _ _ _ s => absurd s z) (fun _ _ _ _ _ w => absurd ⟨s, t⟩ w) (fun _ _ _ _ _ _ _ => ⟨rfl, hu⟩))
theorem i_vc_change {k : Nat} {u : SX} {v : SY} (I : i_Rel k u v) (hk : k + 3 ≤ 1536) (v1 : Int32) (v2 : Int32) : wpX_change (fun r u' => wpY_change (fun r' v' => r' = r ∧ i_Rel (k + 3) u' v') v v1 v2) u v1 v2 := by
  have J : i_Rel (k + 3) u v := i_up I
  obtain ⟨kk, h, c, S, F, P, lr, ll, lR, lu, ln, pr, pc, pn, pb, tr, tc, tn, tu, ni, nn, wi, Q, rfl, rfl, kr, hh, hc, E, hQ⟩ := I
  obtain ⟨x, q0, q1, rfl⟩ := hs_of v1
  obtain ⟨d, d0, d1, rfl⟩ := hs_of v2
  have go : ∀ post : Int32 → SY → Prop, (¬ ((0 ≤ x ∧ x < 24) ∧ (-999 ≤ d ∧ d ≤ 999)) → post (-1000) (hs_e Q, hs_e kk)) → (0 ≤ x → x < 24 → -999 ≤ d → d ≤ 999 → h x = -1 → post (-3000) (hs_e Q, hs_e kk)) →
      (0 ≤ x → x < 24 → -999 ≤ d → d ≤ 999 → h x ≠ -1 → post (hs_i (kk x)) (hs_e Q, hs_e (hs_u kk x d))) → wpY_change post (hs_e Q, hs_e kk) (hs_i x) (hs_i d) := by
    intro post a1 a2 a3
    unfold wpY_change
    dsimp only
    refine hs_yI ⟨q0, q1⟩ (fun a b => br_f (by decide) (hs_yK ⟨d0, d1⟩ (fun c0 c1 => br_f (by decide) ⟨hs_in a (by omega) (by decide), ?_⟩) (fun t => br_t rfl (a1 (fun s => t s.2))))) (fun hn => br_t rfl (a1 (fun t => hn t.1)))
    have r := hh x a b
    rw [hs_get (A := Q) a (by omega), hQ x a b]
    exact hs_eq (h x + 1) 0 (fun z => a2 a b c0 c1 (by omega)) (fun z => hs_rd x rfl a (by omega) (by decide) (hs_wr x d rfl rfl a (by omega) (by decide) (a3 a b c0 c1 (by omega))))
  unfold wpX_change
  dsimp only
  refine hs_isI ⟨q0, q1⟩ (fun a b => br_f (by decide) (hs_isK ⟨d0, d1⟩ (fun c0 c1 => br_f (by decide) ⟨hs_in a (by omega) (by decide), ?_⟩) (fun t => br_t rfl (go _ (fun _ => ⟨rfl, J⟩) (fun _ _ s1 s2 => absurd ⟨s1, s2⟩ t) (fun _ _ s1 s2 => absurd ⟨s1, s2⟩ t))))) (fun hn => br_t rfl (go _ (fun _ => ⟨rfl, J⟩) (fun a b => absurd ⟨a, b⟩ hn) (fun a b => absurd ⟨a, b⟩ hn)))
  have r := hh x a b
  have ok : (0 ≤ x ∧ x < 24) ∧ (-999 ≤ d ∧ d ≤ 999) := ⟨⟨a, b⟩, c0, c1⟩
  rw [hs_get (A := h) a (by omega)]
  refine hs_eq (h x) (-1) (fun z => go _ (fun t => absurd ok t) (fun _ _ _ _ _ => ⟨rfl, J⟩) (fun _ _ _ _ t => absurd z t)) (fun z => hs_rd x rfl a (by omega) (by decide) ⟨hs_in a (by omega) (by decide), nm_r rfl ?_⟩)
  exact hs_re (z := k + 3) kr hh hc E hQ a b z c0 c1 (fun u hu => go _ (fun s => absurd ok s) (fun _ _ _ _ s => absurd s z) (fun _ _ _ _ _ => ⟨rfl, hu⟩))
theorem i_vc_join {k : Nat} {u : SX} {v : SY} (I : i_Rel k u v) (hk : k + 3 ≤ 1536) (v1 : Int32) (v2 : Int32) : wpX_join (fun r u' => wpY_join (fun r' v' => r' = r ∧ i_Rel (k + 3) u' v') v v1 v2) u v1 v2 := by
  have J : i_Rel (k + 3) u v := i_up I
  obtain ⟨kk, h, c, S, F, P, lr, ll, lR, lu, ln, pr, pc, pn, pb, tr, tc, tn, tu, ni, nn, wi, Q, rfl, rfl, kr, hh, hc, E, hQ⟩ := I
  obtain ⟨a, a0, a1, rfl⟩ := hs_of v1
  obtain ⟨b, b0, b1, rfl⟩ := hs_of v2
  have go : ∀ post : Int32 → SY → Prop, (¬ ((0 ≤ a ∧ a ≤ 3) ∧ (0 ≤ b ∧ b ≤ 3) ∧ a ≠ b) → post (-1000) (hs_e Q, hs_e kk)) → (0 ≤ a → a ≤ 3 → 0 ≤ b → b ≤ 3 → a ≠ b → ∃ n, wY_join_27 post (hs_i a) (hs_i b) n 0 (hs_e Q) (hs_e kk)) → wpY_join post (hs_e Q, hs_e kk) (hs_i a) (hs_i b) := by
    intro post x y
    unfold wpY_join
    dsimp only
    exact hs_yQ ⟨a0, a1⟩ (fun s1 s2 => br_f (by decide) (hs_yQ ⟨b0, b1⟩ (fun t1 t2 => br_f (by decide) (hs_eq a b (fun z => x (fun w => w.2.2 z)) (fun z => y s1 s2 t1 t2 z))) (fun t => br_t rfl (x (fun w => t w.2.1))))) (fun t => br_t rfl (x (fun w => t w.1)))
  unfold wpX_join
  dsimp only
  refine hs_isQ ⟨a0, a1⟩ (fun s1 s2 => br_f (by decide) (hs_isQ ⟨b0, b1⟩ (fun t1 t2 => br_f (by decide) (hs_eq a b (fun z => go _ (fun _ => ⟨rfl, J⟩) (fun _ _ _ _ w => absurd z w)) (fun z => hs_join kr s1 s2 t1 t2 z hh E ?_))) (fun t => br_t rfl (go _ (fun _ => ⟨rfl, J⟩) (fun _ _ w1 w2 => absurd ⟨w1, w2⟩ t))))) (fun t => br_t rfl (go _ (fun _ => ⟨rfl, J⟩) (fun w1 w2 => absurd ⟨w1, w2⟩ t)))
  intro H S1 F1 P1 lr1 ll1 lR1 lu1 ln1 pr1 pc1 pn1 pb1 tr1 tc1 tn1 tu1 ni1 nn1 wi1 E1 hH
  refine go _ (fun t => absurd ⟨⟨s1, s2⟩, ⟨t1, t2⟩, z⟩ t) (fun _ _ _ _ _ => ⟨26, ?_⟩)
  rw [← hs_l0]
  have cj := hs_c_join h z
  have cH : ∀ q, hs_c H q = hs_c (fun i => if h i = b then a else h i) q := fun q => hs_c_congr (fun i i0 i1 => by rw [hH i i0 i1])
  refine hs_yJ (k := kk) hh s1 s2 t1 t2 (fun Q' hQ' => ⟨?_, ?_⟩) 26 Q 0 (fun j j0 j1 => ?_) (by omega) (by omega) (by omega)
  · rw [if_neg (fun w => by omega)]; exact hQ j j0 j1
  · rw [cj.1, hc a s1 s2, hc b t1 t2]
  · refine hs_mk kr (fun i i0 i1 => ?_) (fun q x y => ?_) E1 (fun i i0 i1 => ?_)
    · have := hh i i0 i1
      rw [hH i i0 i1]
      split <;> omega
    · rw [cH q]
      by_cases e : q = b
      · rw [e, hs_us, cj.2]
      · rw [hs_un e]
        by_cases f : q = a
        · rw [f, hs_us, cj.1, hc a s1 s2, hc b t1 t2]
        · rw [hs_un f, hc q x y]
          refine (hs_c_congr (fun i _ _ => ?_)).symm
          by_cases g : h i = b
          · rw [if_pos g]; exact ⟨fun t => absurd t.symm f, fun t => absurd (t.symm.trans g) e⟩
          · rw [if_neg g]
    · rw [hQ' i i0 i1, hH i i0 i1]
theorem hs_cl2_eq {k h h' : Int → Int} {q l : Int} (hq : 0 ≤ q) (hH : ∀ i, 0 ≤ i → i < 24 → h' i = if h i = q ∧ k i ≤ l then -1 else h i) : hs_cl2 k h q l 24 = hs_c h q - hs_c h' q := by
  have : hs_c h q = hs_c h' q + hs_cl2 k h q l 24 := by
    refine hs_sum_add 24 fun j a b => ?_
    rw [hH j a (by omega)]
    by_cases x : h j = q ∧ k j ≤ l
    · rw [if_pos x, if_pos x, if_pos x.1, if_neg (by omega)]; rfl
    · rw [if_neg x, if_neg x]; omega
  omega
theorem i_vc_takeUpTo {k : Nat} {u : SX} {v : SY} (I : i_Rel k u v) (hk : k + 3 ≤ 1536) (v1 : Int32) (v2 : Int32) : wpX_takeUpTo (fun r u' => wpY_takeUpTo (fun r' v' => r' = r ∧ i_Rel (k + 3) u' v') v v1 v2) u v1 v2 := by
  have J : i_Rel (k + 3) u v := i_up I
  obtain ⟨kk, h, c, S, F, P, lr, ll, lR, lu, ln, pr, pc, pn, pb, tr, tc, tn, tu, ni, nn, wi, Q, rfl, rfl, kr, hh, hc, E, hQ⟩ := I
  obtain ⟨q, q0, q1, rfl⟩ := hs_of v1
  obtain ⟨l, l0, l1, rfl⟩ := hs_of v2
  unfold wpX_takeUpTo
  dsimp only
  refine hs_isQ ⟨q0, q1⟩ (fun a b => br_f (by decide) ⟨26, ?_⟩) (fun hn => br_t rfl ?_)
  · rw [← hs_l0]
    have cr := hs_c_r h q
    have := hs_tk (post := fun r u' => wpY_takeUpTo (fun r' v' => r' = r ∧ i_Rel (k + 3) u' v') (hs_e Q, hs_e kk) (hs_i q) (hs_i l)) kr hh a b ⟨l0, l1⟩ (fun h' c' S1 F1 P1 lr1 ll1 lR1 lu1 ln1 pr1 pc1 pn1 pb1 tr1 tc1 tn1 tu1 ni1 nn1 wi1 E1 hH hc' => ?_) 26 h c S F P lr ll lR lu ln pr pc pn pb tr tc tn tu ni nn wi E (fun i _ _ => Or.inl rfl) hc (by omega)
    · rw [show hs_c h q - hs_c h q = 0 by omega] at this
      exact this
    · unfold wpY_takeUpTo
      dsimp only
      refine ⟨26, ?_⟩
      rw [← hs_l0]
      refine hs_yT kr hh a b ⟨l0, l1⟩ (fun Q' hQ' => ⟨?_, ?_⟩) 26 Q 0 (fun j j0 j1 => ?_) (by omega) (by omega)
      · rw [if_neg (fun w => by omega)]; exact hQ j j0 j1
      · rw [hs_cl2_eq a hH]
      · refine hs_mk kr (fun i i0 i1 => ?_) hc' E1 (fun i i0 i1 => ?_)
        · have := hh i i0 i1
          rw [hH i i0 i1]
          split <;> omega
        · rw [hQ' i i0 i1, hH i i0 i1]
  · unfold wpY_takeUpTo
    dsimp only
    refine ⟨1, ?_⟩
    refine br_f (by decide) (hs_yQ ⟨q0, q1⟩ (fun x y => absurd ⟨x, y⟩ hn) (fun _ => br_t rfl ?_))
    unfold wY_takeUpTo_61
    exact hs_yQ ⟨q0, q1⟩ (fun x y => absurd ⟨x, y⟩ hn) (fun _ => br_t rfl ⟨rfl, J⟩)
theorem i_vc_second {k : Nat} {u : SX} {v : SY} (I : i_Rel k u v) (hk : k + 3 ≤ 1536) (v1 : Int32) : wpX_second (fun r => wpY_second (fun r' => r' = r ∧ i_Rel (k + 3) u v) v v1) u v1 := by
  have J : i_Rel (k + 3) u v := i_up I
  obtain ⟨kk, h, c, S, F, P, lr, ll, lR, lu, ln, pr, pc, pn, pb, tr, tc, tn, tu, ni, nn, wi, Q, rfl, rfl, kr, hh, hc, E, hQ⟩ := I
  obtain ⟨q, q0, q1, rfl⟩ := hs_of v1
  unfold wpX_second
  dsimp only
  refine hs_isQ ⟨q0, q1⟩ (fun a b => br_f (by decide) (hs_firstBy (e := 0) kr a b (by omega) (by omega) E (fun t m => ?_))) (fun hn => br_t rfl ?_)
  · have mb : -1 ≤ t ∧ t < 24 := by
      rcases m with x | x <;> omega
    refine hs_sc kr hh a b mb (fun r m2 => ?_)
    have go : ∀ A : Int32, A = (if r = -1 then hs_i (-3000) else hs_i r) → wpY_second (fun r' => r' = A ∧ i_Rel (k + 3) (hs_e kk, hs_e h, hs_e c, hs_e S, hs_e F, hs_e P, hs_e lr, hs_e ll, hs_e lR, hs_e lu, hs_e ln, hs_e pr, hs_e pc, hs_e pn, hs_e pb, hs_e tr, hs_e tc, hs_e tn, hs_e tu, hs_e ni, hs_e nn, hs_e wi) (hs_e Q, hs_e kk)) (hs_e Q, hs_e kk) (hs_i q) := by
      intro A hA
      unfold wpY_second
      dsimp only
      refine hs_yQ ⟨q0, q1⟩ (fun _ _ => br_f (by decide) (hs_yL (w := -3000) kr hh hQ a b (by omega) (fun t' m' => ?_))) (fun z => absurd ⟨a, b⟩ z)
      have tt : (t = -1 ∧ t' = -3000) ∨ (0 ≤ t ∧ t < 24 ∧ t' = t) := hs_mw_uniq (hs_K_inj kk) (fun j _ _ => Iff.rfl) (hs_mn_mw (w := -3000) (by omega) m) m'
      refine hs_yL kr hh hQ a b (by rcases tt with x | x <;> omega) (fun r' m3 => ⟨?_, J⟩)
      rw [hA]
      rcases hs_mw_uniq (hs_K_inj kk) (fun j j0 j1 => by rcases tt with x | x <;> omega) m2 m3 with x | x
      · rw [x.1, x.2, if_pos rfl]
      · rw [x.2.2, if_neg (by omega)]
    refine ⟨fun z => go _ ?_, fun z => go _ ?_⟩
    · rw [if_pos z]; decide
    · rw [if_neg z]
  · unfold wpY_second
    dsimp only
    exact hs_yQ ⟨q0, q1⟩ (fun x y => absurd ⟨x, y⟩ hn) (fun _ => br_t rfl ⟨rfl, J⟩)
theorem i_vc_agree {k : Nat} {u : SX} {v : SY} (I : i_Rel k u v) (hk : k + 3 ≤ 1536) (v1 : Int32) (v2 : Int32) : wpX_agree (fun r => wpY_agree (fun r' => r' = r ∧ i_Rel (k + 3) u v) v v1 v2) u v1 v2 := by
  have J : i_Rel (k + 3) u v := i_up I
  obtain ⟨kk, h, c, S, F, P, lr, ll, lR, lu, ln, pr, pc, pn, pb, tr, tc, tn, tu, ni, nn, wi, Q, rfl, rfl, kr, hh, hc, E, hQ⟩ := I
  obtain ⟨e, e0, e1, rfl⟩ := hs_of v1
  obtain ⟨f, f0, f1, rfl⟩ := hs_of v2
  have go : ∀ A : Int32, ((0 ≤ e ∧ e ≤ 6) ∧ (0 ≤ f ∧ f ≤ 6) → A = 1) → (¬ ((0 ≤ e ∧ e ≤ 6) ∧ (0 ≤ f ∧ f ≤ 6)) → A = 0) → wpY_agree (fun r' => r' = A ∧ i_Rel (k + 3) (hs_e kk, hs_e h, hs_e c, hs_e S, hs_e F, hs_e P, hs_e lr, hs_e ll, hs_e lR, hs_e lu, hs_e ln, hs_e pr, hs_e pc, hs_e pn, hs_e pb, hs_e tr, hs_e tc, hs_e tn, hs_e tu, hs_e ni, hs_e nn, hs_e wi) (hs_e Q, hs_e kk)) (hs_e Q, hs_e kk) (hs_i e) (hs_i f) := by
    intro A x y
    unfold wpY_agree
    dsimp only
    exact hs_lt e 0 (fun t => ⟨(y (by omega)).symm, J⟩) (fun a => hs_lt 6 e (fun t => ⟨(y (by omega)).symm, J⟩) (fun b => hs_lt f 0 (fun t => ⟨(y (by omega)).symm, J⟩) (fun a2 => hs_lt 6 f (fun t => ⟨(y (by omega)).symm, J⟩) (fun b2 => ⟨(x ⟨⟨a, b⟩, a2, b2⟩).symm, J⟩))))
  unfold wpX_agree
  dsimp only
  exact hs_isE ⟨e0, e1⟩ (fun a b => br_f (by decide) (hs_isE ⟨f0, f1⟩ (fun a2 b2 => br_f (by decide) (hs_ag kr a b a2 b2 E (go 1 (fun _ => rfl) (fun t => absurd ⟨⟨a, b⟩, a2, b2⟩ t)))) (fun t => br_t rfl (go 0 (fun s => absurd s.2 t) (fun _ => rfl))))) (fun t => br_t rfl (go 0 (fun s => absurd s.1 t) (fun _ => rfl)))
theorem i_vc_sound {k : Nat} {u : SX} {v : SY} (I : i_Rel k u v) (hk : k + 3 ≤ 1536) : wpX_sound (fun r => wpY_sound (fun r' => r' = r ∧ i_Rel (k + 3) u v) v) u := by
  have J : i_Rel (k + 3) u v := i_up I
  obtain ⟨kk, h, c, S, F, P, lr, ll, lR, lu, ln, pr, pc, pn, pb, tr, tc, tn, tu, ni, nn, wi, Q, rfl, rfl, kr, hh, hc, E, hQ⟩ := I
  exact hs_sound kr hh hc E ⟨rfl, J⟩
end
