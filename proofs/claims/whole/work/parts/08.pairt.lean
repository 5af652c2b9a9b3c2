section HS08
/-! the pairing tree of a queue -/
def hs_PD (H : Int → Int) (q i : Int) : Prop := 0 ≤ i ∧ i < 24 ∧ H i = q
def hs_PT (K H T C X B : Int → Int) (q : Int) : Prop := ∃ G O : Int → Int,
  hs_PO (hs_PD H q) K G O C X B (-1) (-1) ∧ (∀ i, hs_PD H q i → G i = -1 → T q = i) ∧
  (T q = -1 ∨ (hs_PD H q (T q) ∧ G (T q) = -1 ∧ B (T q) = -1 ∧ X (T q) = -1))
theorem hs_PD_r {H : Int → Int} {q : Int} : ∀ i, hs_PD H q i → 0 ≤ i ∧ i < 24 := fun _ h => ⟨h.1, h.2.1⟩
theorem hs_PD_m {H : Int → Int} {q : Int} : ∀ i, hs_PD H q i → i ≠ -1 := fun i h => by have := h.1; omega
theorem hs_PO_congr {D D' : Int → Prop} {k k' G G' O O' C C' X X' B B' : Int → Int} {e r : Int} (h : hs_PO D k G O C X B e r) (hD : ∀ n, D' n ↔ D n) (hk : ∀ n, D n → k' n = k n)
    (hG : ∀ n, D n → G' n = G n) (hO : ∀ n, D n → O' n = O n) (hC : ∀ n, D n → C' n = C n) (hX : ∀ n, D n → X' n = X n) (hB : ∀ n, D n → B' n = B n) : hs_PO D' k' G' O' C' X' B' e r := by
  intro i hi
  have hi := (hD i).mp hi
  obtain ⟨h1, h2, h3⟩ := h i hi
  rw [hC i hi, hX i hi, hG i hi, hB i hi, hO i hi]
  refine ⟨fun he => ?_, fun hg => ?_, ?_⟩
  · rcases h1 he with c | c
    · exact Or.inl c
    · exact Or.inr ⟨(hD _).mpr c.1, by rw [hG _ c.1]; exact c.2.1, by rw [hB _ c.1]; exact c.2.2⟩
  · rcases h2 hg with c | c
    · exact Or.inl c
    · exact Or.inr ⟨(hD _).mpr c.1, by rw [hG _ c.1]; exact c.2.1, by rw [hB _ c.1]; exact c.2.2.1, by rw [hO _ c.1]; exact c.2.2.2⟩
  · rcases h3 with c | ⟨c1, c2, c3⟩
    · exact Or.inl c
    · refine Or.inr ⟨(hD _).mpr c1, by rw [hk _ c1, hk i hi]; exact c2, ?_⟩
      rw [hC _ c1]
      rcases c3 with c3 | c3 | c3
      · exact Or.inl c3
      · exact Or.inr (Or.inl c3)
      · exact Or.inr (Or.inr ⟨(hD _).mpr c3.1, by rw [hG _ c3.1]; exact c3.2.1, by rw [hX _ c3.1]; exact c3.2.2⟩)
theorem hs_PT_congr {K K' H H' T T' C C' X X' B B' : Int → Int} {q : Int} (h : hs_PT K H T C X B q)
    (hH : ∀ i, 0 ≤ i → i < 24 → (H' i = q ↔ H i = q)) (hK : ∀ i, 0 ≤ i → i < 24 → H i = q → K' i = K i)
    (hT : T' q = T q) (hC : ∀ n, hs_PD H q n → C' n = C n) (hX : ∀ n, hs_PD H q n → X' n = X n) (hB : ∀ n, hs_PD H q n → B' n = B n) : hs_PT K' H' T' C' X' B' q := by
  obtain ⟨G, O, h1, h2, h3⟩ := h
  have hD : ∀ n, hs_PD H' q n ↔ hs_PD H q n := by
    intro n
    constructor
    · intro c; exact ⟨c.1, c.2.1, (hH _ c.1 c.2.1).mp c.2.2⟩
    · intro c; exact ⟨c.1, c.2.1, (hH _ c.1 c.2.1).mpr c.2.2⟩
  refine ⟨G, O, hs_PO_congr h1 hD (fun n c => hK n c.1 c.2.1 c.2.2) (fun _ _ => rfl) (fun _ _ => rfl) hC hX hB, ?_, ?_⟩
  · intro i hi c
    rw [hT]; exact h2 i ((hD i).mp hi) c
  · rw [hT]
    rcases h3 with c | c
    · exact Or.inl c
    · exact Or.inr ⟨(hD _).mpr c.1, c.2.1, by rw [hB _ c.1]; exact c.2.2.1, by rw [hX _ c.1]; exact c.2.2.2⟩
theorem hs_PT_mn {K H T C X B : Int → Int} {q : Int} (h : hs_PT K H T C X B q) : hs_mn K H q (T q) := by
  obtain ⟨G, O, h1, h2, h3⟩ := h
  have main : ∀ (m : Nat) (n : Int), hs_PD H q n → hs_rk K n ≤ m → T q ≠ -1 ∧ K (T q) ≤ K n := by
    intro m
    induction m with
    | zero =>
      intro n hn hr
      rcases (h1 n hn).2.2 with c | c
      · rw [h2 n hn c]; exact ⟨hs_PD_m n hn, Int.le_refl _⟩
      · have a := hs_rk_lt (f := K) (i := G n) (j := n) c.1.1 c.1.2.1 c.2.1
        have b := hs_rk_r K (i := G n) c.1.1 c.1.2.1
        omega
    | succ m ih =>
      intro n hn hr
      rcases (h1 n hn).2.2 with c | c
      · rw [h2 n hn c]; exact ⟨hs_PD_m n hn, Int.le_refl _⟩
      · have a := hs_rk_lt (f := K) (i := G n) (j := n) c.1.1 c.1.2.1 c.2.1
        have b := ih (G n) c.1 (by omega)
        have d := c.2.1
        exact ⟨b.1, by omega⟩
  have all : ∀ i, 0 ≤ i → i < 24 → H i = q → T q ≠ -1 ∧ K (T q) ≤ K i := by
    intro i a b c
    have r := hs_rk_r K (i := i) a b
    exact main 23 i ⟨a, b, c⟩ (by omega)
  rcases h3 with c | c
  · exact Or.inl ⟨c, fun i a b d => (all i a b d).1 c⟩
  · exact Or.inr ⟨c.1.1, c.1.2.1, c.1.2.2, fun i a b d => (all i a b d).2⟩
/-- a linked list through X -/
def hs_seg (X : Int → Int) : Int → List Int → Prop
  | x, [] => x = -1
  | x, a :: l => x = a ∧ a ≠ -1 ∧ hs_seg X (X a) l
theorem hs_seg_u {X X' : Int → Int} : ∀ (l : List Int) (x : Int), (∀ a, a ∈ l → X' a = X a) → hs_seg X x l → hs_seg X' x l := by
  intro l
  induction l with
  | nil => intro x _ h; exact h
  | cons a l ih =>
    intro x h hs
    refine ⟨hs.1, hs.2.1, ?_⟩
    rw [h a (List.mem_cons_self ..)]
    exact ih _ (fun b hb => h b (List.mem_cons_of_mem _ hb)) hs.2.2
/-- the two passes: e's children; s: the tree root that stands aside; l: the list of the trees already paired; m: the whole so far -/
def hs_PP (D : Int → Prop) (k G O C X B : Int → Int) (e r s p m : Int) (l : List Int) : Prop :=
  hs_PO D k G O C X B e r ∧ D e ∧ (r = -1 ∨ (D r ∧ G r = e)) ∧
  hs_seg X p l ∧ l.Nodup ∧ (∀ t, t ∈ l → D t ∧ G t = -1 ∧ B t = -1 ∧ t ≠ e ∧ t ≠ s ∧ t ≠ m) ∧
  (m = -1 ∨ (D m ∧ G m = -1 ∧ B m = -1 ∧ X m = -1 ∧ m ≠ e ∧ m ≠ s)) ∧
  (∀ i, D i → G i = -1 → i = s ∨ i ∈ l ∨ i = m) ∧
  (D s ∧ G s = -1 ∧ B s = -1 ∧ X s = -1)
end HS08
