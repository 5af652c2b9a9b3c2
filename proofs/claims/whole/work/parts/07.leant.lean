section HS07
/-! the leaning tree of a queue -/
def hs_LD (H : Int → Int) (w q n : Int) : Prop := w * 24 ≤ n ∧ n < w * 24 + 24 ∧ H (n - w * 24) = q
def hs_Lk (K : Int → Int) (w n : Int) : Int := K (n - w * 24)
def hs_LT (K H T L R U N : Int → Int) (w q : Int) : Prop :=
  hs_LO (hs_LD H w q) (hs_Lk K w) U L R (-1) ∧
  (∀ n, hs_LD H w q n → U n = -1 → T (w * 4 + q) = n) ∧
  (T (w * 4 + q) = -1 ∨ (hs_LD H w q (T (w * 4 + q)) ∧ U (T (w * 4 + q)) = -1)) ∧
  (w = 0 → ∀ n, hs_LD H w q n → hs_LK L R N n)
theorem hs_LO_congr {D D' : Int → Prop} {k k' G G' L L' R R' : Int → Int} {e : Int} (h : hs_LO D k G L R e) (hD : ∀ n, D' n ↔ D n) (hk : ∀ n, D n → k' n = k n)
    (hG : ∀ n, D n → G' n = G n) (hL : ∀ n, D n → L' n = L n) (hR : ∀ n, D n → R' n = R n) : hs_LO D' k' G' L' R' e := by
  intro n hn
  have hn := (hD n).mp hn
  obtain ⟨h1, h2⟩ := h n hn
  refine ⟨fun he => ?_, ?_⟩
  · obtain ⟨a, b, c⟩ := h1 he
    rw [hL n hn, hR n hn]
    refine ⟨?_, ?_, c⟩
    · rcases a with a | a
      · exact Or.inl a
      · exact Or.inr ⟨(hD _).mpr a.1, by rw [hG _ a.1]; exact a.2⟩
    · rcases b with a | a
      · exact Or.inl a
      · exact Or.inr ⟨(hD _).mpr a.1, by rw [hG _ a.1]; exact a.2⟩
  · rw [hG n hn]
    rcases h2 with a | ⟨a1, a2, a3, a4⟩
    · exact Or.inl a
    · refine Or.inr ⟨(hD _).mpr a1, a2, by rw [hk _ a1, hk n hn]; exact a3, ?_⟩
      rw [hL _ a1, hR _ a1]; exact a4
theorem hs_LK_congr {D : Int → Prop} {L L' R R' N N' : Int → Int} {n : Int} (hL : L' n = L n) (hR : R' n = R n) (hN : ∀ n, D n → N' n = N n) (hn : D n) (dl : L n = -1 ∨ D (L n)) (dr : R n = -1 ∨ D (R n)) (h : hs_LK L R N n) : hs_LK L' R' N' n := by
  refine (hs_LK_eq hL hR (hN n hn) ?_ ?_).mpr h
  · rcases dl with c | c
    · exact Or.inl c
    · exact Or.inr (hN _ c)
  · rcases dr with c | c
    · exact Or.inl c
    · exact Or.inr (hN _ c)
theorem hs_LO_ch {D : Int → Prop} {k G L R : Int → Int} {e n : Int} (h : hs_LO D k G L R e) (hn : D n) (he : n ≠ e) : (L n = -1 ∨ D (L n)) ∧ (R n = -1 ∨ D (R n)) := by
  obtain ⟨a, b, _⟩ := (h n hn).1 he
  refine ⟨?_, ?_⟩
  · rcases a with c | c
    · exact Or.inl c
    · exact Or.inr c.1
  · rcases b with c | c
    · exact Or.inl c
    · exact Or.inr c.1
theorem hs_LD_m {H : Int → Int} {w q : Int} (hw : 0 ≤ w) : ∀ n, hs_LD H w q n → n ≠ -1 := by
  intro n h
  have := h.1
  omega
theorem hs_Lk_inj {K H : Int → Int} {w : Int} (hK : hs_Inj K) {n m : Int} (h0 : w * 24 ≤ n) (h1 : n < w * 24 + 24) (h2 : w * 24 ≤ m) (h3 : m < w * 24 + 24) (h : hs_Lk K w n = hs_Lk K w m) : n = m := by
  have := hK (n - w * 24) (m - w * 24) (by omega) (by omega) (by omega) (by omega) h
  omega
theorem hs_LT_congr {K K' H H' T T' L L' R R' U U' N N' : Int → Int} {w q : Int} (hw : 0 ≤ w) (h : hs_LT K H T L R U N w q)
    (hH : ∀ i, 0 ≤ i → i < 24 → (H' i = q ↔ H i = q)) (hK : ∀ i, 0 ≤ i → i < 24 → H i = q → K' i = K i)
    (hT : T' (w * 4 + q) = T (w * 4 + q)) (hL : ∀ n, hs_LD H w q n → L' n = L n) (hR : ∀ n, hs_LD H w q n → R' n = R n)
    (hU : ∀ n, hs_LD H w q n → U' n = U n) (hN : ∀ n, hs_LD H w q n → N' n = N n) : hs_LT K' H' T' L' R' U' N' w q := by
  obtain ⟨h1, h2, h3, h4⟩ := h
  have hD : ∀ n, hs_LD H' w q n ↔ hs_LD H w q n := by
    intro n
    constructor
    · intro c; exact ⟨c.1, c.2.1, (hH _ (by have := c.1; omega) (by have := c.2.1; omega)).mp c.2.2⟩
    · intro c; exact ⟨c.1, c.2.1, (hH _ (by have := c.1; omega) (by have := c.2.1; omega)).mpr c.2.2⟩
  refine ⟨hs_LO_congr h1 hD (fun n c => hK _ (by have := c.1; omega) (by have := c.2.1; omega) c.2.2) hU hL hR, ?_, ?_, ?_⟩
  · intro n hn c
    have hn := (hD n).mp hn
    rw [hU n hn] at c
    rw [hT]; exact h2 n hn c
  · rw [hT]
    rcases h3 with c | c
    · exact Or.inl c
    · exact Or.inr ⟨(hD _).mpr c.1, by rw [hU _ c.1]; exact c.2⟩
  · intro hz n hn
    have hn := (hD n).mp hn
    have c := hs_LO_ch h1 hn (hs_LD_m hw n hn)
    exact hs_LK_congr (hL n hn) (hR n hn) hN hn c.1 c.2 (h4 hz n hn)
theorem hs_LT_mn {K H T L R U N : Int → Int} {w q : Int} (hw : 0 ≤ w) (h : hs_LT K H T L R U N w q) :
    hs_mn K H q (if T (w * 4 + q) = -1 then -1 else T (w * 4 + q) - w * 24) := by
  obtain ⟨h1, h2, h3, h4⟩ := h
  have main : ∀ (m : Nat) (n : Int), hs_LD H w q n → hs_rk K (n - w * 24) ≤ m → T (w * 4 + q) ≠ -1 ∧ hs_Lk K w (T (w * 4 + q)) ≤ hs_Lk K w n := by
    intro m
    induction m with
    | zero =>
      intro n hn hr
      rcases (h1 n hn).2 with c | c
      · rw [h2 n hn c]; exact ⟨hs_LD_m hw n hn, Int.le_refl _⟩
      · have a := hs_rk_lt (f := K) (i := U n - w * 24) (j := n - w * 24) (by have := c.1.1; omega) (by have := c.1.2.1; omega) c.2.2.1
        have b := hs_rk_r K (i := U n - w * 24) (by have := c.1.1; omega) (by have := c.1.2.1; omega)
        omega
    | succ m ih =>
      intro n hn hr
      rcases (h1 n hn).2 with c | c
      · rw [h2 n hn c]; exact ⟨hs_LD_m hw n hn, Int.le_refl _⟩
      · have a := hs_rk_lt (f := K) (i := U n - w * 24) (j := n - w * 24) (by have := c.1.1; omega) (by have := c.1.2.1; omega) c.2.2.1
        have b := ih (U n) c.1 (by omega)
        have d := c.2.2.1
        exact ⟨b.1, by omega⟩
  have all : ∀ i, 0 ≤ i → i < 24 → H i = q → T (w * 4 + q) ≠ -1 ∧ hs_Lk K w (T (w * 4 + q)) ≤ K i := by
    intro i a b c
    have e : w * 24 + i - w * 24 = i := by omega
    have r := hs_rk_r K (i := i) a b
    have := main 23 (w * 24 + i) ⟨by omega, by omega, by rw [e]; exact c⟩ (by rw [e]; omega)
    unfold hs_Lk at this ⊢
    rw [e] at this
    exact this
  by_cases c : T (w * 4 + q) = -1
  · rw [if_pos c]
    exact Or.inl ⟨rfl, fun i a b d => (all i a b d).1 c⟩
  · rw [if_neg c]
    rcases h3 with d | d
    · exact absurd d c
    · exact Or.inr ⟨by have := d.1.1; omega, by have := d.1.2.1; omega, d.1.2.2, fun i a b e => (all i a b e).2⟩
/-- what a meld gives -/
def hs_ME (z : Int) (D Z : Int → Prop) (k G0 G L R U N : Int → Int) (e a b r : Int) : Prop :=
  hs_LO D k G L R e ∧ (∀ n, D n → U n = G n) ∧ ((r = -1 ∧ a = -1 ∧ b = -1) ∨ (D r ∧ G r = -1 ∧ (r = a ∨ r = b))) ∧
  (∀ n, D n → G n = -1 → n = r ∨ Z n) ∧ (∀ n, Z n → G n = -1 ∧ n ≠ r) ∧
  (z = 0 → ∀ n, D n → n ≠ e → hs_LK L R N n) ∧ (e = -1 ∨ G e = G0 e)
/-- a new node beside the tree of its queue -/
theorem hs_LT_add {K H T L R U N : Int → Int} {w q i : Int} (hw : 0 ≤ w) (h : hs_LT K H T L R U N w q) (i0 : 0 ≤ i) (i1 : i < 24) (hi : H i ≠ q) :
    hs_MI w (hs_LD (hs_u H i q) w q) (fun _ => False) (fun _ => False) (hs_Lk K w) (hs_u U (w * 24 + i) (-1)) (hs_u L (w * 24 + i) (-1)) (hs_u R (w * 24 + i) (-1)) (hs_u U (w * 24 + i) (-1)) (hs_u N (w * 24 + i) 1) (-1) (-1) (-1) (T (w * 4 + q)) (w * 24 + i) := by
  obtain ⟨h1, h2, h3, h4⟩ := h
  have hnew : hs_LD (hs_u H i q) w q (w * 24 + i) := ⟨by omega, by omega, hs_ue (by omega)⟩
  have hold : ∀ n, hs_LD H w q n → hs_LD (hs_u H i q) w q n ∧ n ≠ w * 24 + i := by
    intro n hn
    have hne : n - w * 24 ≠ i := fun x => hi (by rw [← x]; exact hn.2.2)
    exact ⟨⟨hn.1, hn.2.1, by rw [hs_un hne]; exact hn.2.2⟩, by omega⟩
  have hinv : ∀ n, hs_LD (hs_u H i q) w q n → n ≠ w * 24 + i → hs_LD H w q n := by
    intro n hn c
    refine ⟨hn.1, hn.2.1, ?_⟩
    have := hn.2.2
    rw [hs_un (by omega)] at this
    exact this
  have hm := hs_LD_m (H := hs_u H i q) (q := q) hw
  refine ⟨?_, ?_, ?_, ?_, ?_, ?_, ?_, Or.inl rfl, Or.inl ⟨rfl, rfl⟩, ?_, fun n c => c.elim, ?_⟩
  · intro n hn
    have n1 : n ≠ -1 := hm n hn
    by_cases c : n = w * 24 + i
    · refine ⟨fun _ => ⟨Or.inl (hs_ue c), Or.inl (by rw [hs_un n1]; exact hs_ue c), fun _ => hs_ue c⟩, Or.inl (hs_ue c)⟩
    · have ho := hinv n hn c
      obtain ⟨a, b⟩ := h1 n ho
      rw [hs_un c, hs_un n1, hs_un c, hs_un c]
      obtain ⟨a1, a2, a3⟩ := a n1
      refine ⟨fun _ => ⟨?_, ?_, a3⟩, ?_⟩
      · rcases a1 with d | d
        · exact Or.inl d
        · have g := hold _ d.1
          exact Or.inr ⟨g.1, by rw [hs_un g.2]; exact d.2⟩
      · rcases a2 with d | d
        · exact Or.inl d
        · have g := hold _ d.1
          exact Or.inr ⟨g.1, by rw [hs_un g.2]; exact d.2⟩
      · rcases b with d | ⟨d1, d2, d3, d4⟩
        · exact Or.inl d
        · have g := hold _ d1
          exact Or.inr ⟨g.1, d2, d3, by rw [hs_un g.2, hs_un d2, hs_un g.2]; exact d4⟩
  · rcases h3 with c | c
    · exact Or.inl c
    · have g := hold _ c.1
      exact Or.inr ⟨g.1, by rw [hs_un g.2]; exact c.2, Or.inl rfl, Or.inl rfl⟩
  · exact Or.inr ⟨hnew, hs_us, Or.inl rfl, Or.inl rfl⟩
  · intro x
    rcases h3 with c | c
    · exact c
    · exact absurd x (hold _ c.1).2
  · intro n _ _ _; rfl
  · exact ⟨fun n c => c.elim, fun n m c => c.elim, fun n c => c.elim⟩
  · exact fun n c => c.elim
  · intro n hn c
    by_cases d : n = w * 24 + i
    · exact Or.inr (Or.inr (Or.inl d))
    · rw [hs_un d] at c
      exact Or.inr (Or.inl (h2 n (hinv n hn d) c).symm)
  · intro hz n hn _ hbad
    apply hbad
    by_cases c : n = w * 24 + i
    · unfold hs_LK
      rw [hs_ue c, hs_ue c, hs_ue c]
      refine ⟨?_, by unfold hs_rank; rw [if_pos rfl]; rfl⟩
      unfold hs_rank
      rw [if_pos rfl]
      exact Int32.lt_irrefl
    · have ho := hinv n hn c
      have d := hs_LO_ch h1 ho (hs_LD_m hw n ho)
      exact hs_LK_congr (D := hs_LD H w q) (hs_un c) (hs_un c) (fun m hm' => hs_un (hold m hm').2) ho d.1 d.2 (h4 hz n ho)
theorem hs_LT_of {K H T L R U N G0 G : Int → Int} {w q a b r : Int} (hw : 0 ≤ w) (h : hs_ME w (hs_LD H w q) (fun _ => False) (hs_Lk K w) G0 G L R U N (-1) a b r) (hT : T (w * 4 + q) = r) : hs_LT K H T L R U N w q := by
  obtain ⟨h1, h2, h3, h4, h5, h6, _⟩ := h
  refine ⟨hs_LO_congr h1 (fun _ => Iff.rfl) (fun _ _ => rfl) h2 (fun _ _ => rfl) (fun _ _ => rfl), ?_, ?_, fun hz n hn => h6 hz n hn (hs_LD_m hw n hn)⟩
  · intro n hn c
    rw [h2 n hn] at c
    rcases h4 n hn c with d | d
    · rw [hT, d]
    · exact d.elim
  · rw [hT]
    rcases h3 with c | c
    · exact Or.inl c.1
    · exact Or.inr ⟨c.1, by rw [h2 _ c.1]; exact c.2.1⟩
/-- the children of a node that goes -/
theorem hs_LT_drop {K H T L R U N : Int → Int} {w q i : Int} (hw : 0 ≤ w) (h : hs_LT K H T L R U N w q) (i0 : 0 ≤ i) (i1 : i < 24) (hi : H i = q) :
    hs_MI w (hs_LD H w q) (fun _ => False) (fun n => n = T (w * 4 + q)) (hs_Lk K w) (fun n => if n = L (w * 24 + i) ∨ n = R (w * 24 + i) then -1 else U n) L R U N (w * 24 + i) (-1) (-1) (L (w * 24 + i)) (R (w * 24 + i)) := by
  obtain ⟨h1, h2, h3, h4⟩ := h
  have hm := hs_LD_m (H := H) (q := q) hw
  have hD : hs_LD H w q (w * 24 + i) := ⟨by omega, by omega, by rw [show w * 24 + i - w * 24 = i by omega]; exact hi⟩
  obtain ⟨⟨c1, c2, c3⟩, cU⟩ : ((L (w * 24 + i) = -1 ∨ (hs_LD H w q (L (w * 24 + i)) ∧ U (L (w * 24 + i)) = w * 24 + i)) ∧ (R (w * 24 + i) = -1 ∨ (hs_LD H w q (R (w * 24 + i)) ∧ U (R (w * 24 + i)) = w * 24 + i)) ∧ (L (w * 24 + i) = R (w * 24 + i) → L (w * 24 + i) = -1)) ∧ _ := ⟨(h1 _ hD).1 (hm _ hD), (h1 _ hD).2⟩
  generalize hE : w * 24 + i = E at *
  have kid : ∀ n, hs_LD H w q n → (n = L E ∨ n = R E) → U n = E ∧ hs_Lk K w E < hs_Lk K w n := by
    intro n hn x
    have u : U n = E := by
      rcases x with x | x
      · rcases c1 with c | c
        · exact absurd (x.trans c) (hm n hn)
        · rw [x]; exact c.2
      · rcases c2 with c | c
        · exact absurd (x.trans c) (hm n hn)
        · rw [x]; exact c.2
    refine ⟨u, ?_⟩
    rcases (h1 n hn).2 with c | c
    · rw [u] at c; exact absurd c (hm E hD)
    · rw [u] at c; exact c.2.2.1
  have gk : ∀ n, (n = L E ∨ n = R E) → (fun n => if n = L E ∨ n = R E then -1 else U n) n = -1 := fun n x => if_pos x
  have go : ∀ n, ¬ (n = L E ∨ n = R E) → (fun n => if n = L E ∨ n = R E then -1 else U n) n = U n := fun n x => if_neg x
  refine ⟨?_, ?_, ?_, c3, ?_, ?_, fun n c => c.elim, Or.inl rfl, Or.inl ⟨rfl, rfl⟩, ?_, ?_, ?_⟩
  · intro n hn
    have n1 : n ≠ -1 := hm n hn
    obtain ⟨a, b⟩ := h1 n hn
    obtain ⟨a1, a2, a3⟩ := a n1
    rw [hs_un n1]
    have key : n ≠ E → ∀ x, hs_LD H w q x → U x = n → (fun n => if n = L E ∨ n = R E then -1 else U n) x = n := by
      intro he x hx y
      rw [go x]
      · exact y
      · intro z
        exact he (y.symm.trans (kid x hx z).1)
    refine ⟨fun he => ⟨?_, ?_, a3⟩, ?_⟩
    · rcases a1 with d | d
      · exact Or.inl d
      · exact Or.inr ⟨d.1, key he _ d.1 d.2⟩
    · rcases a2 with d | d
      · exact Or.inl d
      · exact Or.inr ⟨d.1, key he _ d.1 d.2⟩
    · by_cases x : n = L E ∨ n = R E
      · exact Or.inl (gk n x)
      · rw [go n x]
        rcases b with d | ⟨d1, d2, d3, d4⟩
        · exact Or.inl d
        · right
          refine ⟨d1, ?_, d3, by rw [hs_un d2]; exact d4⟩
          intro y
          rw [y] at d4
          apply x
          rcases d4 with f | f
          · exact Or.inl f.symm
          · exact Or.inr f.symm
  · rcases c1 with c | c
    · exact Or.inl c
    · exact Or.inr ⟨c.1, gk _ (Or.inl rfl), Or.inr (kid _ c.1 (Or.inl rfl)).2, Or.inl rfl⟩
  · rcases c2 with c | c
    · exact Or.inl c
    · exact Or.inr ⟨c.1, gk _ (Or.inr rfl), Or.inr (kid _ c.1 (Or.inr rfl)).2, Or.inl rfl⟩
  · intro n hn x y
    exact (go n (fun z => z.elim x y)).symm
  · exact ⟨fun n c => c.elim, fun n m c => c.elim, fun n c => c.elim⟩
  · intro n hn c
    by_cases x : n = L E ∨ n = R E
    · rcases x with x | x
      · exact Or.inr (Or.inl x)
      · exact Or.inr (Or.inr (Or.inl x))
    · rw [go n x] at c
      exact Or.inr (Or.inr (Or.inr (h2 n hn c).symm))
  · intro n hn
    rcases h3 with c | c
    · exfalso
      have : U E = -1 ∨ U E ≠ -1 := by omega
      have main := hs_LT_mn hw ⟨h1, h2, Or.inl c, h4⟩
      rw [if_pos c] at main
      rcases main with f | f
      · exact f.2 i i0 i1 hi
      · omega
    · have hx : ¬ (n = L E ∨ n = R E) := by
        intro x
        rw [← hn] at c
        have := (kid n c.1 x).1
        rw [c.2] at this
        exact hm E hD this.symm
      rw [← hn] at c
      refine ⟨c.1, by rw [go n hx]; exact c.2, fun x => hx (Or.inl x), fun x => hx (Or.inr x), hm n c.1⟩
  · intro hz n hn _ hbad
    exact absurd (h4 hz n hn) hbad
/-- the root went: what was melded of its children is the tree -/
theorem hs_LT_drop0 {K H T T' L R U N G0 G : Int → Int} {w q i a b r : Int} (hw : 0 ≤ w)
    (h : hs_ME w (hs_LD H w q) (fun n => n = T (w * 4 + q)) (hs_Lk K w) G0 G L R U N (w * 24 + i) a b r) (i0 : 0 ≤ i) (i1 : i < 24) (hi : H i = q)
    (hr : T (w * 4 + q) = w * 24 + i) (hT : T' (w * 4 + q) = r) (hq : q ≠ -1) : hs_LT K (hs_u H i (-1)) T' L R U N w q := by
  obtain ⟨h1, h2, h3, h4, h5, h6, _⟩ := h
  have hm := hs_LD_m (H := H) (q := q) hw
  have hD : ∀ n, hs_LD (hs_u H i (-1)) w q n ↔ hs_LD H w q n ∧ n ≠ w * 24 + i := by
    intro n
    constructor
    · intro c
      have hne : n - w * 24 ≠ i := fun x => by have := c.2.2; rw [hs_ue x] at this; exact hq this.symm
      exact ⟨⟨c.1, c.2.1, by have := c.2.2; rw [hs_un hne] at this; exact this⟩, by omega⟩
    · intro c
      exact ⟨c.1.1, c.1.2.1, by rw [hs_un (by omega)]; exact c.1.2.2⟩
  have gE : G (w * 24 + i) = -1 := (h5 _ hr.symm).1
  refine ⟨?_, ?_, ?_, ?_⟩
  · intro n hn
    obtain ⟨hn, hne⟩ := (hD n).mp hn
    obtain ⟨a1, a2⟩ := h1 n hn
    obtain ⟨b1, b2, b3⟩ := a1 hne
    refine ⟨fun _ => ⟨?_, ?_, b3⟩, ?_⟩
    · rcases b1 with c | c
      · exact Or.inl c
      · exact Or.inr ⟨(hD _).mpr ⟨c.1, fun x => by rw [x, gE] at c; exact hm n hn c.2.symm⟩, by rw [h2 _ c.1]; exact c.2⟩
    · rcases b2 with c | c
      · exact Or.inl c
      · exact Or.inr ⟨(hD _).mpr ⟨c.1, fun x => by rw [x, gE] at c; exact hm n hn c.2.symm⟩, by rw [h2 _ c.1]; exact c.2⟩
    · rw [h2 n hn]
      rcases a2 with c | ⟨c1, c2, c3⟩
      · exact Or.inl c
      · exact Or.inr ⟨(hD _).mpr ⟨c1, c2⟩, hm _ c1, c3⟩
  · intro n hn c
    obtain ⟨hn, hne⟩ := (hD n).mp hn
    rw [h2 n hn] at c
    rcases h4 n hn c with d | d
    · rw [hT, d]
    · exact absurd (d.trans hr) hne
  · rw [hT]
    rcases h3 with c | c
    · exact Or.inl c.1
    · have := (h5 _ hr.symm).2
      exact Or.inr ⟨(hD _).mpr ⟨c.1, fun x => this x.symm⟩, by rw [h2 _ c.1]; exact c.2.1⟩
  · intro hz n hn
    obtain ⟨hn, hne⟩ := (hD n).mp hn
    exact h6 hz n hn hne
/-- what was melded of its children stands in its place -/
theorem hs_LT_drop1 {K H T L R U N G0 G L2 R2 U2 : Int → Int} {w q i a b r p : Int} (hw : 0 ≤ w)
    (h : hs_ME w (hs_LD H w q) (fun n => n = T (w * 4 + q)) (hs_Lk K w) G0 G L R U N (w * 24 + i) a b r) (i0 : 0 ≤ i) (i1 : i < 24) (hi : H i = q)
    (hq : q ≠ -1) (hp : p = G (w * 24 + i)) (hp1 : p ≠ -1) (hk : r = -1 ∨ hs_Lk K w (w * 24 + i) < hs_Lk K w r)
    (hT : T (w * 4 + q) = -1 ∨ hs_LD H w q (T (w * 4 + q)))
    (hLR : (L p = w * 24 + i ∧ L2 = hs_u L p r ∧ R2 = R) ∨ (L p ≠ w * 24 + i ∧ L2 = L ∧ R2 = hs_u R p r))
    (hU : (r = -1 ∧ U2 = U) ∨ (r ≠ -1 ∧ U2 = hs_u U r p)) :
    hs_LI w (hs_LD (hs_u H i (-1)) w q) (fun _ => False) (hs_Lk K w) U2 L2 R2 N (-1) p ∧
    (∀ n, hs_LD (hs_u H i (-1)) w q n → U2 n = -1 → T (w * 4 + q) = n) ∧
    (T (w * 4 + q) = -1 ∨ (hs_LD (hs_u H i (-1)) w q (T (w * 4 + q)) ∧ U2 (T (w * 4 + q)) = -1)) ∧
    hs_LD (hs_u H i (-1)) w q p ∧ (r = -1 ∨ hs_LD (hs_u H i (-1)) w q r) := by
  obtain ⟨h1, h2, h3, h4, h5, h6, _⟩ := h
  have hm := hs_LD_m (H := H) (q := q) hw
  have hD : ∀ n, hs_LD (hs_u H i (-1)) w q n ↔ hs_LD H w q n ∧ n ≠ w * 24 + i := by
    intro n
    constructor
    · intro c
      have hne : n - w * 24 ≠ i := fun x => by have := c.2.2; rw [hs_ue x] at this; exact hq this.symm
      exact ⟨⟨c.1, c.2.1, by have := c.2.2; rw [hs_un hne] at this; exact this⟩, by omega⟩
    · intro c
      exact ⟨c.1.1, c.1.2.1, by rw [hs_un (by omega)]; exact c.1.2.2⟩
  have hDE : hs_LD H w q (w * 24 + i) := ⟨by omega, by omega, by rw [show w * 24 + i - w * 24 = i by omega]; exact hi⟩
  generalize hE : w * 24 + i = E at *
  obtain ⟨p1, p2, p3, p4⟩ : hs_LD H w q p ∧ p ≠ E ∧ hs_Lk K w p < hs_Lk K w E ∧ (L p = E ∨ R p = E) := by
    rcases (h1 E hDE).2 with c | c
    · exact absurd (hp.trans c) hp1
    · rw [← hp] at c; exact c
  have hr : r = -1 ∨ (hs_LD H w q r ∧ G r = -1 ∧ r ≠ E ∧ r ≠ p) := by
    rcases h3 with c | c
    · exact Or.inl c.1
    · rcases hk with d | d
      · exact absurd d (hm _ c.1)
      · refine Or.inr ⟨c.1, c.2.1, fun x => by rw [x] at d; omega, fun x => by rw [x] at d; omega⟩
  have hnr : ∀ n, hs_LD H w q n → G n ≠ -1 → n ≠ r := by
    intro n hn x y
    rcases hr with c | c
    · exact hm n hn (y.trans c)
    · rw [y] at x; exact x c.2.1
  have uo : ∀ n, hs_LD H w q n → n ≠ r → U2 n = G n := by
    intro n hn x
    rcases hU with ⟨_, y⟩ | ⟨_, y⟩
    · rw [y]; exact h2 n hn
    · rw [y, hs_un x]; exact h2 n hn
  have ur : r ≠ -1 → U2 r = p := by
    intro x
    rcases hU with ⟨y, _⟩ | ⟨_, y⟩
    · exact absurd y x
    · rw [y]; exact hs_us
  have lo : ∀ n, n ≠ p → L2 n = L n ∧ R2 n = R n := by
    intro n x
    rcases hLR with ⟨_, y, z⟩ | ⟨_, y, z⟩
    · rw [y, z]; exact ⟨hs_un x, rfl⟩
    · rw [y, z]; exact ⟨rfl, hs_un x⟩
  obtain ⟨b1, b2, b3⟩ := (h1 p p1).1 p2
  have kidp : ∀ x, hs_LD H w q x → G x = p → x ≠ E → hs_LD (hs_u H i (-1)) w q x ∧ U2 x = p := by
    intro x hx y z
    exact ⟨(hD x).mpr ⟨hx, z⟩, by rw [uo x hx (hnr x hx (by rw [y]; exact hp1))]; exact y⟩
  have kidr : r = -1 ∨ (hs_LD (hs_u H i (-1)) w q r ∧ U2 r = p) := by
    rcases hr with c | c
    · exact Or.inl c
    · exact Or.inr ⟨(hD r).mpr ⟨c.1, c.2.2.1⟩, ur (hm r c.1)⟩
  have hEm : E ≠ -1 := hm E hDE
  refine ⟨⟨?_, Or.inr ⟨(hD p).mpr ⟨p1, p2⟩, Or.inr ⟨fun _ c => c, rfl⟩⟩, ?_⟩, ?_, ?_, (hD p).mpr ⟨p1, p2⟩, ?_⟩
  · intro n hn
    obtain ⟨hn, hne⟩ := (hD n).mp hn
    obtain ⟨a1, a2⟩ := h1 n hn
    obtain ⟨c1, c2, c3⟩ := a1 hne
    refine ⟨fun _ => ?_, ?_⟩
    · by_cases cp : n = p
      · rw [cp]
        rcases hLR with ⟨x, y, z⟩ | ⟨x, y, z⟩
        · rw [y, z, hs_us]
          have hRp : R p ≠ E := fun v => hEm (by rw [← x]; exact b3 (x.trans v.symm))
          have k2 : R p = -1 ∨ (hs_LD (hs_u H i (-1)) w q (R p) ∧ U2 (R p) = p) := by
            rcases b2 with d | d
            · exact Or.inl d
            · exact Or.inr (kidp _ d.1 d.2 hRp)
          refine ⟨kidr, k2, ?_⟩
          intro v
          rcases hr with d | d
          · exact d
          · rcases b2 with f | f
            · exact v.trans f
            · rw [← v, d.2.1] at f; exact absurd f.2.symm hp1
        · rw [y, z, hs_us]
          have k2 : L p = -1 ∨ (hs_LD (hs_u H i (-1)) w q (L p) ∧ U2 (L p) = p) := by
            rcases b1 with d | d
            · exact Or.inl d
            · exact Or.inr (kidp _ d.1 d.2 x)
          refine ⟨k2, kidr, ?_⟩
          intro v
          rcases b1 with f | f
          · exact f
          · rcases hr with d | d
            · exact v.trans d
            · rw [v, d.2.1] at f; exact absurd f.2.symm hp1
      · rw [(lo n cp).1, (lo n cp).2]
        have key : ∀ x, hs_LD H w q x → G x = n → hs_LD (hs_u H i (-1)) w q x ∧ U2 x = n := by
          intro x hx y
          refine ⟨(hD x).mpr ⟨hx, fun v => ?_⟩, by rw [uo x hx (hnr x hx (by rw [y]; exact hm n hn))]; exact y⟩
          rw [v, ← hp] at y; exact cp y.symm
        refine ⟨?_, ?_, c3⟩
        · rcases c1 with d | d
          · exact Or.inl d
          · exact Or.inr (key _ d.1 d.2)
        · rcases c2 with d | d
          · exact Or.inl d
          · exact Or.inr (key _ d.1 d.2)
    · by_cases cr : n = r
      · have r1 : r ≠ -1 := fun x => hm n hn (cr.trans x)
        rw [cr, ur r1]
        right
        refine ⟨(hD p).mpr ⟨p1, p2⟩, hp1, ?_, ?_⟩
        · rcases hk with d | d
          · exact absurd d r1
          · omega
        · rcases hLR with ⟨_, y, _⟩ | ⟨_, _, z⟩
          · left; rw [y]; exact hs_us
          · right; rw [z]; exact hs_us
      · rw [uo n hn cr]
        rcases a2 with d | ⟨d1, d2, d3, d4⟩
        · exact Or.inl d
        · right
          refine ⟨(hD _).mpr ⟨d1, d2⟩, hm _ d1, d3, ?_⟩
          by_cases cp : G n = p
          · rw [cp] at d4 ⊢
            rcases hLR with ⟨x, y, z⟩ | ⟨x, y, z⟩
            · right; rw [z]
              rcases d4 with f | f
              · rw [x] at f; exact absurd f.symm hne
              · exact f
            · left; rw [y]
              rcases d4 with f | f
              · exact f
              · exfalso
                rcases p4 with g | g
                · exact x g
                · rw [g] at f; exact hne f.symm
          · rw [(lo _ cp).1, (lo _ cp).2]; exact d4
  · intro hz n hn _ hbad
    obtain ⟨hn, hne⟩ := (hD n).mp hn
    refine ⟨hp1, Or.inr ?_⟩
    apply Classical.byContradiction
    intro cp
    apply hbad
    have := h6 hz n hn hne
    unfold hs_LK at this ⊢
    rw [(lo n cp).1, (lo n cp).2]
    exact this
  · intro n hn c
    obtain ⟨hn, hne⟩ := (hD n).mp hn
    by_cases cr : n = r
    · rw [cr, ur (fun x => hm n hn (cr.trans x))] at c; exact absurd c hp1
    · rw [uo n hn cr] at c
      rcases h4 n hn c with d | d
      · exact absurd d cr
      · exact d.symm
  · rcases hT with c | c
    · exact Or.inl c
    · right
      have d := h5 _ rfl
      refine ⟨(hD _).mpr ⟨c, fun x => ?_⟩, by rw [uo _ c d.2]; exact d.1⟩
      rw [x, ← hp] at d; exact hp1 d.1
  · rcases kidr with c | c
    · exact Or.inl c
    · exact Or.inr c.1
end HS07
