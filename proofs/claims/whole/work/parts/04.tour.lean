section HS04
/-! engine 6: a tournament, pure -/
def hs_bt (K : Int → Int) (x y : Int) : Int := if x = -1 then y else if y = -1 then x else if K x < K y then x else y
def hs_lf (H W : Int → Int) (q : Int) : Prop := ∀ i, 0 ≤ i → i < 24 → W (q * 48 + 24 + i) = if H i = q then i else -1
def hs_eqn (K W : Int → Int) (q n : Int) : Prop := W (q * 48 + n) = hs_bt K (W (q * 48 + 2 * n)) (W (q * 48 + 2 * n + 1))
def hs_TN (K H W : Int → Int) (q : Int) : Prop := hs_lf H W q ∧ ∀ n, 1 ≤ n → n < 24 → hs_eqn K W q n
def hs_hv : Nat → Int → Int
  | 0, p => p
  | t + 1, p => hs_hv t (p / 2)
theorem hs_hv_0 : ∀ t : Nat, hs_hv t 0 = 0 := by
  intro t
  induction t with
  | zero => rfl
  | succ t ih => exact ih
def hs_TS (K H W : Int → Int) (q p : Int) : Prop := hs_lf H W q ∧ ∀ n, 1 ≤ n → n < 24 → hs_eqn K W q n ∨ ∃ t : Nat, n = hs_hv t (p / 2)
theorem hs_bt_r {K : Int → Int} {x y : Int} : hs_bt K x y = x ∨ hs_bt K x y = y := by
  unfold hs_bt
  split
  · exact Or.inr rfl
  · split
    · exact Or.inl rfl
    · split
      · exact Or.inl rfl
      · exact Or.inr rfl
theorem hs_bt_le {K : Int → Int} {x y : Int} : (x ≠ -1 → hs_bt K x y ≠ -1 ∧ K (hs_bt K x y) ≤ K x) ∧ (y ≠ -1 → hs_bt K x y ≠ -1 ∧ K (hs_bt K x y) ≤ K y) := by
  unfold hs_bt
  split
  · rename_i h
    exact ⟨fun c => absurd h c, fun c => ⟨c, Int.le_refl _⟩⟩
  · split
    · rename_i h1 h
      exact ⟨fun c => ⟨c, Int.le_refl _⟩, fun c => absurd h c⟩
    · split
      · exact ⟨fun c => ⟨c, Int.le_refl _⟩, fun c => ⟨by assumption, by omega⟩⟩
      · exact ⟨fun c => ⟨by assumption, by omega⟩, fun c => ⟨c, Int.le_refl _⟩⟩
theorem hs_TS_step {K H W : Int → Int} {q p : Int} (h : hs_TS K H W q p) (h1 : 2 ≤ p) (h2 : p < 48) :
    hs_TS K H (hs_u W (q * 48 + p / 2) (hs_bt K (W (q * 48 + 2 * (p / 2))) (W (q * 48 + 2 * (p / 2) + 1)))) q (p / 2) := by
  obtain ⟨hl, hn⟩ := h
  refine ⟨?_, ?_⟩
  · intro i h0 h3
    rw [hs_un (by omega)]
    exact hl i h0 h3
  · intro n a b
    by_cases c : n = p / 2
    · left
      unfold hs_eqn
      rw [c, hs_us, hs_un (by omega), hs_un (by omega)]
    · by_cases d : 2 * n = p / 2 ∨ 2 * n + 1 = p / 2
      · right
        exact ⟨0, by show n = p / 2 / 2; omega⟩
      · rcases hn n a b with f | ⟨t, f⟩
        · left
          unfold hs_eqn at f ⊢
          rw [hs_un (by omega), hs_un (by omega), hs_un (by omega)]
          exact f
        · right
          cases t with
          | zero => exact absurd f c
          | succ t => exact ⟨t, f⟩
theorem hs_TS_end {K H W : Int → Int} {q p : Int} (h : hs_TS K H W q p) (h2 : p ≤ 1) (h0 : 0 ≤ p) : hs_TN K H W q := by
  refine ⟨h.1, fun n a b => ?_⟩
  rcases h.2 n a b with c | ⟨t, c⟩
  · exact c
  · have e : p / 2 = 0 := by omega
    rw [e, hs_hv_0] at c
    omega
theorem hs_TS_start {K H H' W : Int → Int} {q x s : Int} (h : hs_TN K H W q) (h0 : 0 ≤ x) (h1 : x < 24) (hH : ∀ i, 0 ≤ i → i < 24 → i ≠ x → (H' i = q ↔ H i = q)) (hs : s = if H' x = q then x else -1) :
    hs_TS K H' (hs_u W (q * 48 + (24 + x)) s) q (24 + x) := by
  obtain ⟨hl, hn⟩ := h
  refine ⟨?_, ?_⟩
  · intro i a b
    by_cases c : i = x
    · subst c
      rw [hs_ue (by omega)]; exact hs
    · rw [hs_un (by omega), hl i a b]
      by_cases d : H i = q
      · rw [if_pos d, if_pos ((hH i a b c).mpr d)]
      · rw [if_neg d, if_neg (fun z => d ((hH i a b c).mp z))]
  · intro n a b
    by_cases d : 2 * n = 24 + x ∨ 2 * n + 1 = 24 + x
    · right
      exact ⟨0, by show n = (24 + x) / 2; omega⟩
    · left
      have f := hn n a b
      unfold hs_eqn at f ⊢
      rw [hs_un (by omega), hs_un (by omega), hs_un (by omega)]
      exact f
theorem hs_TN_val {K H W : Int → Int} {q : Int} (h : hs_TN K H W q) : ∀ (m : Nat) (n : Int), 1 ≤ n → n < 48 → 48 - n ≤ m → W (q * 48 + n) = -1 ∨ (0 ≤ W (q * 48 + n) ∧ W (q * 48 + n) < 24 ∧ H (W (q * 48 + n)) = q) := by
  intro m
  induction m with
  | zero => intro n a b c; omega
  | succ m ih =>
    intro n a b c
    by_cases d : n < 24
    · have e := h.2 n a d
      unfold hs_eqn at e
      rw [e]
      have i1 := ih (2 * n) (by omega) (by omega) (by omega)
      have i2 := ih (2 * n + 1) (by omega) (by omega) (by omega)
      rw [show q * 48 + (2 * n + 1) = q * 48 + 2 * n + 1 by omega] at i2
      rcases hs_bt_r (K := K) (x := W (q * 48 + 2 * n)) (y := W (q * 48 + 2 * n + 1)) with f | f
      · rw [f]; exact i1
      · rw [f]; exact i2
    · have e := h.1 (n - 24) (by omega) (by omega)
      rw [show q * 48 + 24 + (n - 24) = q * 48 + n by omega] at e
      by_cases f : H (n - 24) = q
      · rw [if_pos f] at e
        right
        rw [e]; exact ⟨by omega, by omega, f⟩
      · rw [if_neg f] at e
        exact Or.inl e
theorem hs_TN_up {K H W : Int → Int} {q : Int} (h : hs_TN K H W q) : ∀ (m : Nat) (n : Int), 1 ≤ n → n < 48 → n ≤ m → W (q * 48 + n) ≠ -1 → W (q * 48 + 1) ≠ -1 ∧ K (W (q * 48 + 1)) ≤ K (W (q * 48 + n)) := by
  intro m
  induction m with
  | zero => intro n a b c; omega
  | succ m ih =>
    intro n a b c hn
    by_cases d : n = 1
    · rw [d] at hn ⊢
      exact ⟨hn, Int.le_refl _⟩
    · have e := h.2 (n / 2) (by omega) (by omega)
      unfold hs_eqn at e
      have g := hs_bt_le (K := K) (x := W (q * 48 + 2 * (n / 2))) (y := W (q * 48 + 2 * (n / 2) + 1))
      rw [← e] at g
      have g2 : W (q * 48 + n / 2) ≠ -1 ∧ K (W (q * 48 + n / 2)) ≤ K (W (q * 48 + n)) := by
        by_cases f : n = 2 * (n / 2)
        · have g3 := g.1
          rw [← f] at g3
          exact g3 hn
        · have g3 := g.2
          rw [show q * 48 + 2 * (n / 2) + 1 = q * 48 + n by omega] at g3
          exact g3 hn
      have i1 := ih (n / 2) (by omega) (by omega) (by omega) g2.1
      exact ⟨i1.1, by omega⟩
theorem hs_TN_mn {K H W : Int → Int} {q : Int} (h : hs_TN K H W q) : hs_mn K H q (W (q * 48 + 1)) := by
  have leaf : ∀ i, 0 ≤ i → i < 24 → H i = q → W (q * 48 + (24 + i)) = i := by
    intro i a b c
    have := h.1 i a b
    rw [if_pos c] at this
    rw [← Int.add_assoc]; exact this
  rcases hs_TN_val h 48 1 (by omega) (by omega) (by omega) with c | c
  · refine Or.inl ⟨c, fun i a b d => ?_⟩
    have e := leaf i a b d
    have g := hs_TN_up h 48 (24 + i) (by omega) (by omega) (by omega) (by omega)
    exact g.1 c
  · refine Or.inr ⟨c.1, c.2.1, c.2.2, fun i a b d => ?_⟩
    have e := leaf i a b d
    have g := hs_TN_up h 48 (24 + i) (by omega) (by omega) (by omega) (by omega)
    rw [e] at g
    exact g.2
theorem hs_TN_congr {K K' H H' W W' : Int → Int} {q : Int} (h : hs_TN K H W q) (hH : ∀ i, 0 ≤ i → i < 24 → (H' i = q ↔ H i = q)) (hK : ∀ i, 0 ≤ i → i < 24 → H i = q → K' i = K i)
    (hW : ∀ n, 0 ≤ n → n < 48 → W' (q * 48 + n) = W (q * 48 + n)) : hs_TN K' H' W' q := by
  refine ⟨?_, ?_⟩
  · intro i a b
    rw [show q * 48 + 24 + i = q * 48 + (24 + i) by omega, hW (24 + i) (by omega) (by omega), ← Int.add_assoc, h.1 i a b]
    by_cases d : H i = q
    · rw [if_pos d, if_pos ((hH i a b).mpr d)]
    · rw [if_neg d, if_neg (fun z => d ((hH i a b).mp z))]
  · intro n a b
    have e := h.2 n a b
    have v1 := hs_TN_val h 48 (2 * n) (by omega) (by omega) (by omega)
    have v2 := hs_TN_val h 48 (2 * n + 1) (by omega) (by omega) (by omega)
    unfold hs_eqn at e ⊢
    rw [hW n (by omega) (by omega), hW (2 * n) (by omega) (by omega), Int.add_assoc, hW (2 * n + 1) (by omega) (by omega)]
    rw [Int.add_assoc] at e
    rw [e]
    unfold hs_bt
    by_cases c1 : W (q * 48 + 2 * n) = -1
    · rw [if_pos c1, if_pos c1]
    · rw [if_neg c1, if_neg c1]
      by_cases c2 : W (q * 48 + (2 * n + 1)) = -1
      · rw [if_pos c2, if_pos c2]
      · rw [if_neg c2, if_neg c2]
        rcases v1 with x | x
        · exact absurd x c1
        · rcases v2 with y | y
          · exact absurd y c2
          · rw [hK _ x.1 x.2.1 x.2.2, hK _ y.1 y.2.1 y.2.2]
end HS04
