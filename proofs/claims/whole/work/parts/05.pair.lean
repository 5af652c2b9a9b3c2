section HS05
/-! engine 4: a pairing heap, pure; G: parents, O: falls from sibling to sibling; e: an item whose children are being paired, r the first of them that is left -/
def hs_PO (D : Int → Prop) (k G O C X B : Int → Int) (e r : Int) : Prop := ∀ i, D i →
  (i ≠ e → C i = -1 ∨ (D (C i) ∧ G (C i) = i ∧ B (C i) = i)) ∧
  (G i ≠ -1 → X i = -1 ∨ (D (X i) ∧ G (X i) = G i ∧ B (X i) = i ∧ O (X i) < O i)) ∧
  (G i = -1 ∨ (D (G i) ∧ k (G i) < k i ∧ (i = r ∨ (B i = G i ∧ G i ≠ e ∧ C (G i) = i) ∨ (D (B i) ∧ G (B i) = G i ∧ X (B i) = i))))
theorem hs_nomax {S : Int → Prop} {O : Int → Int} (hS : ∀ i, S i → 0 ≤ i ∧ i < 24) (h : ∀ i, S i → ∃ j, S j ∧ O i < O j) : ∀ i, ¬ S i := by
  have main : ∀ (n : Nat) (i : Int), S i → 23 - hs_rk O i ≤ n → False := by
    intro n
    induction n with
    | zero =>
      intro i hi hn
      obtain ⟨j, hj, hlt⟩ := h i hi
      have a := hs_rk_lt (hS i hi).1 (hS i hi).2 hlt
      have b := hs_rk_r O (hS j hj).1 (hS j hj).2
      omega
    | succ n ih =>
      intro i hi hn
      obtain ⟨j, hj, hlt⟩ := h i hi
      have a := hs_rk_lt (hS i hi).1 (hS i hi).2 hlt
      exact ih j hj (by omega)
  intro i hi
  have b := hs_rk_r O (hS i hi).1 (hS i hi).2
  exact main 23 i hi (by omega)
/-- every child of e that is left comes behind r -/
theorem hs_PO_first {D : Int → Prop} {k G O C X B : Int → Int} {e r : Int} (hD : ∀ i, D i → 0 ≤ i ∧ i < 24) (h : hs_PO D k G O C X B e r) (he : e ≠ -1) :
    ∀ i, D i → G i = e → i = r ∨ (r ≠ -1 ∧ O i < O r) := by
  have main := hs_nomax (S := fun i => D i ∧ G i = e ∧ i ≠ r ∧ (r = -1 ∨ O r ≤ O i)) (O := O) (fun i hi => hD i hi.1) (by
    intro i ⟨h1, h2, h3, h4⟩
    rcases (h i h1).2.2 with c | ⟨c1, c2, c3⟩
    · exact absurd (h2.symm.trans c) he
    · rcases c3 with c3 | c3 | ⟨d1, d2, d3⟩
      · exact absurd c3 h3
      · exact absurd h2 c3.2.1
      · refine ⟨B i, ⟨d1, d2.trans h2, ?_, ?_⟩, ?_⟩
        · intro x
          have f := (h (B i) d1).2.1 (by rw [d2, h2]; exact he)
          rw [d3] at f
          rcases f with f | f
          · exact absurd f (by have := hD i h1; omega)
          · rcases h4 with g | g
            · have := hD (B i) d1; omega
            · rw [x] at f; omega
        · have f := (h (B i) d1).2.1 (by rw [d2, h2]; exact he)
          rw [d3] at f
          rcases f with f | f
          · exact absurd f (by have := hD i h1; omega)
          · rcases h4 with g | g
            · exact Or.inl g
            · right; omega
        · have f := (h (B i) d1).2.1 (by rw [d2, h2]; exact he)
          rw [d3] at f
          rcases f with f | f
          · exact absurd f (by have := hD i h1; omega)
          · exact f.2.2.2)
  intro i h1 h2
  by_cases c : i = r
  · exact Or.inl c
  · right
    have m := main i
    by_cases d : r = -1
    · exact absurd ⟨h1, h2, c, Or.inl d⟩ m
    · refine ⟨d, ?_⟩
      by_cases f : O r ≤ O i
      · exact absurd ⟨h1, h2, c, Or.inr f⟩ m
      · omega
/-- what stands at the roots' own links doesn't matter -/
theorem hs_PO_root {D : Int → Prop} {k G O C X B X' B' : Int → Int} {e r : Int} (h : hs_PO D k G O C X B e r)
    (hX : ∀ i, D i → G i ≠ -1 → X' i = X i) (hB : ∀ i, D i → G i ≠ -1 → B' i = B i) (hm : ∀ i, D i → i ≠ -1) : hs_PO D k G O C X' B' e r := by
  intro i hi
  obtain ⟨h1, h2, h3⟩ := h i hi
  refine ⟨fun he => ?_, fun hg => ?_, ?_⟩
  · rcases h1 he with c | c
    · exact Or.inl c
    · refine Or.inr ⟨c.1, c.2.1, ?_⟩
      rw [hB _ c.1 (by rw [c.2.1]; exact hm i hi)]; exact c.2.2
  · rw [hX i hi hg]
    rcases h2 hg with c | c
    · exact Or.inl c
    · refine Or.inr ⟨c.1, c.2.1, ?_, c.2.2.2⟩
      rw [hB _ c.1 (by rw [c.2.1]; exact hg)]; exact c.2.2.1
  · rcases h3 with c | ⟨c1, c2, c3⟩
    · exact Or.inl c
    · have hg : G i ≠ -1 := hm _ c1
      refine Or.inr ⟨c1, c2, ?_⟩
      rw [hB i hi hg]
      rcases c3 with c3 | c3 | c3
      · exact Or.inl c3
      · exact Or.inr (Or.inl c3)
      · refine Or.inr (Or.inr ⟨c3.1, c3.2.1, ?_⟩)
        rw [hX _ c3.1 (by rw [c3.2.1]; exact hg)]; exact c3.2.2
/-- the root b goes below the root a -/
theorem hs_PO_up {D : Int → Prop} {k G O C X B B' : Int → Int} {e r a b : Int} (hm : ∀ i, D i → i ≠ -1) (h : hs_PO D k G O C X B e r)
    (ha : D a) (hb : D b) (ga : G a = -1) (gb : G b = -1) (hae : a ≠ e) (hab : a ≠ b) (lt : k a < k b)
    (hB : (C a = -1 ∧ B' = hs_u B b a) ∨ (C a ≠ -1 ∧ B' = hs_u (hs_u B b a) (C a) b)) :
    hs_PO D k (hs_u G b a) (hs_u O b (if C a = -1 then 0 else O (C a) + 1)) (hs_u C a b) (hs_u X b (C a)) B' e r := by
  have hs : C a = -1 ∨ (D (C a) ∧ G (C a) = a ∧ B (C a) = a) := (h a ha).1 hae
  have hsb : C a ≠ b := by
    intro x
    rcases hs with c | c
    · exact hm b hb (x.symm.trans c)
    · rw [x, gb] at c; exact hm a ha c.2.1.symm
  have hsa : C a ≠ a := by
    intro x
    rcases hs with c | c
    · exact hm a ha (x.symm.trans c)
    · rw [x, ga] at c; exact hm a ha c.2.1.symm
  have bb : B' b = a := by
    rcases hB with ⟨_, x⟩ | ⟨_, x⟩
    · rw [x]; exact hs_us
    · rw [x, hs_un (fun y => hsb y.symm)]; exact hs_us
  have bs : C a ≠ -1 → B' (C a) = b := by
    intro y
    rcases hB with ⟨x, _⟩ | ⟨_, x⟩
    · exact absurd x y
    · rw [x]; exact hs_us
  have bo : ∀ i, i ≠ b → i ≠ C a → B' i = B i := by
    intro i x y
    rcases hB with ⟨_, w⟩ | ⟨_, w⟩
    · rw [w]; exact hs_un x
    · rw [w, hs_un y]; exact hs_un x
  intro i hi
  obtain ⟨h1, h2, h3⟩ := h i hi
  have him := hm i hi
  refine ⟨fun he => ?_, fun hg => ?_, ?_⟩
  · by_cases ca : i = a
    · rw [hs_ue ca]
      exact Or.inr ⟨hb, hs_us.trans ca.symm, bb.trans ca.symm⟩
    · rw [hs_un ca]
      rcases h1 he with c | c
      · exact Or.inl c
      · have n1 : C i ≠ b := fun x => by rw [x, gb] at c; exact him c.2.1.symm
        have n2 : C i ≠ C a := by
          intro x
          rcases hs with d | d
          · exact hm _ c.1 (x.trans d)
          · rw [x, d.2.1] at c; exact ca c.2.1.symm
        exact Or.inr ⟨c.1, by rw [hs_un n1]; exact c.2.1, by rw [bo _ n1 n2]; exact c.2.2⟩
  · by_cases cb : i = b
    · rw [hs_ue cb, hs_ue cb]
      rcases hs with c | c
      · exact Or.inl c
      · have hne : C a ≠ -1 := hm _ c.1
        refine Or.inr ⟨c.1, by rw [hs_un hsb]; exact c.2.1, by rw [bs hne, cb], ?_⟩
        rw [hs_un hsb, hs_ue cb, if_neg hne]; omega
    · rw [hs_un cb] at hg ⊢
      rw [hs_un cb]
      rcases h2 hg with c | c
      · exact Or.inl c
      · have n1 : X i ≠ b := fun x => by rw [x, gb] at c; exact hg c.2.1.symm
        have n2 : X i ≠ C a := by
          intro x
          rcases hs with d | d
          · exact hm _ c.1 (x.trans d)
          · rw [x, d.2.1, d.2.2] at c
            have y : a = i := c.2.2.1
            rw [← y] at c
            rw [ga] at c
            exact hm a ha c.2.1
        refine Or.inr ⟨c.1, by rw [hs_un n1]; exact c.2.1, by rw [bo _ n1 n2]; exact c.2.2.1, ?_⟩
        rw [hs_un n1, hs_un cb]; exact c.2.2.2
  · by_cases cb : i = b
    · rw [hs_ue cb]
      refine Or.inr ⟨ha, by rw [cb]; exact lt, Or.inr (Or.inl ⟨by rw [cb]; exact bb, hae, by rw [hs_us, cb]⟩)⟩
    · rw [hs_un cb]
      rcases h3 with c | ⟨c1, c2, c3⟩
      · exact Or.inl c
      · refine Or.inr ⟨c1, c2, ?_⟩
        have hg : G i ≠ -1 := hm _ c1
        by_cases cs : i = C a
        · right; right
          have hne : C a ≠ -1 := fun x => him (cs.trans x)
          rcases hs with d | d
          · exact absurd d hne
          · rw [cs, bs hne, d.2.1]
            exact ⟨hb, hs_us, hs_us⟩
        · rw [bo i cb cs]
          rcases c3 with c3 | c3 | c3
          · exact Or.inl c3
          · right; left
            refine ⟨c3.1, c3.2.1, ?_⟩
            have n : G i ≠ a := fun x => cs (by rw [← c3.2.2, x])
            rw [hs_un n]; exact c3.2.2
          · right; right
            have n : B i ≠ b := fun x => by rw [x, gb] at c3; exact hg c3.2.1.symm
            refine ⟨c3.1, by rw [hs_un n]; exact c3.2.1, by rw [hs_un n]; exact c3.2.2⟩
/-- the first one or two children of e that are left become roots -/
theorem hs_PO_cut {D : Int → Prop} {k G O C X B G' X' B' : Int → Int} {e r o s : Int} (hD : ∀ i, D i → 0 ≤ i ∧ i < 24) (h : hs_PO D k G O C X B e r)
    (he : e ≠ -1) (hr : D r) (gr : G r = e) (ho : o = X r) (hs : s = if o = -1 then -1 else X o)
    (hG : ∀ i, G' i = if i = r ∨ (i = o ∧ o ≠ -1) then -1 else G i)
    (hX : ∀ i, i ≠ r → i ≠ o → X' i = X i) (hB : ∀ i, i ≠ r → i ≠ o → B' i = B i) :
    hs_PO D k G' O C X' B' e s ∧ (o = -1 ∨ (D o ∧ G o = e ∧ o ≠ r)) ∧ (s = -1 ∨ (D s ∧ G' s = e)) := by
  have hm : ∀ i, D i → i ≠ -1 := fun i hi => by have := hD i hi; omega
  have hfirst := hs_PO_first hD h he
  have hgr : G r ≠ -1 := by rw [gr]; exact he
  have oo : o = -1 ∨ (D o ∧ G o = e ∧ B o = r ∧ O o < O r) := by
    rcases (h r hr).2.1 hgr with c | c
    · exact Or.inl (ho.trans c)
    · rw [← ho, gr] at c; exact Or.inr c
  have onr : o = -1 ∨ (D o ∧ G o = e ∧ o ≠ r) := by
    rcases oo with c | c
    · exact Or.inl c
    · exact Or.inr ⟨c.1, c.2.1, fun x => by rw [x] at c; omega⟩
  have gK : ∀ i, i ≠ r → i ≠ o → G' i = G i := by
    intro i x y
    rw [hG i, if_neg]
    intro w
    rcases w with w | w
    · exact x w
    · exact y w.1
  have ss : s = -1 ∨ (o ≠ -1 ∧ D s ∧ G s = e ∧ B s = o ∧ s ≠ r ∧ s ≠ o ∧ X o = s) := by
    rcases oo with c | c
    · rw [if_pos c] at hs; exact Or.inl hs
    · have co := hm o c.1
      rw [if_neg co] at hs
      rcases (h o c.1).2.1 (by rw [c.2.1]; exact he) with d | d
      · exact Or.inl (hs.trans d)
      · rw [← hs, c.2.1] at d
        refine Or.inr ⟨co, d.1, d.2.1, d.2.2.1, ?_, ?_, hs.symm⟩
        · intro x; rw [x] at d; omega
        · intro x; rw [x] at d; omega
  refine ⟨?_, onr, ?_⟩
  · intro i hi
    have him := hm i hi
    obtain ⟨h1, h2, h3⟩ := h i hi
    refine ⟨fun hie => ?_, fun hg => ?_, ?_⟩
    · rcases h1 hie with c | c
      · exact Or.inl c
      · have n1 : C i ≠ r := fun x => by rw [x, gr] at c; exact hie c.2.1.symm
        have n2 : C i ≠ o := by
          intro x
          rcases oo with d | d
          · exact hm _ c.1 (x.trans d)
          · rw [x, d.2.1] at c; exact hie c.2.1.symm
        exact Or.inr ⟨c.1, by rw [gK _ n1 n2]; exact c.2.1, by rw [hB _ n1 n2]; exact c.2.2⟩
    · have ir : i ≠ r := by
        intro x
        apply hg
        rw [hG i, if_pos (Or.inl x)]
      have io : i ≠ o := by
        intro x
        apply hg
        rw [hG i, if_pos (Or.inr ⟨x, fun y => him (x.trans y)⟩)]
      rw [gK i ir io] at hg ⊢
      rw [hX i ir io]
      rcases h2 hg with c | c
      · exact Or.inl c
      · have n1 : X i ≠ r := by
          intro x
          rw [x, gr] at c
          rcases hfirst i hi c.2.1.symm with d | d
          · exact ir d
          · omega
        have n2 : X i ≠ o := by
          intro x
          rcases oo with d | d
          · exact hm _ c.1 (x.trans d)
          · rw [x, d.2.2.1] at c; exact ir c.2.2.1.symm
        exact Or.inr ⟨c.1, by rw [gK _ n1 n2]; exact c.2.1, by rw [hB _ n1 n2]; exact c.2.2.1, c.2.2.2⟩
    · by_cases ir : i = r
      · left; rw [hG i, if_pos (Or.inl ir)]
      · by_cases io : i = o
        · left; rw [hG i, if_pos (Or.inr ⟨io, fun y => him (io.trans y)⟩)]
        · rw [gK i ir io]
          rcases h3 with c | ⟨c1, c2, c3⟩
          · exact Or.inl c
          · refine Or.inr ⟨c1, c2, ?_⟩
            rw [hB i ir io]
            rcases c3 with c3 | c3 | c3
            · exact absurd c3 ir
            · exact Or.inr (Or.inl c3)
            · by_cases b1 : B i = r
              · rw [b1, ← ho] at c3
                exact absurd c3.2.2.symm io
              · by_cases b2 : B i = o
                · left
                  rw [b2] at c3
                  have co := hm o c3.1
                  rw [if_neg co] at hs
                  rw [hs]; exact c3.2.2.symm
                · right; right
                  exact ⟨c3.1, by rw [gK _ b1 b2]; exact c3.2.1, by rw [hX _ b1 b2]; exact c3.2.2⟩
  · rcases ss with c | ⟨_, c1, c2, _, c4, c5, _⟩
    · exact Or.inl c
    · exact Or.inr ⟨c1, by rw [gK s c4 c5]; exact c2⟩
/-- the item e, without children, goes out of its list -/
theorem hs_PO_out {D D' : Int → Prop} {k G O C X B C' X' B' : Int → Int} {e b n : Int} (hD : ∀ i, D i → 0 ≤ i ∧ i < 24) (h : hs_PO D k G O C X B e (-1))
    (he : D e) (hD' : ∀ i, D' i ↔ D i ∧ i ≠ e) (ge : G e ≠ -1) (eb : b = B e) (en : n = X e)
    (hC : (C b = e ∧ C' = hs_u C b n ∧ X' = X) ∨ (C b ≠ e ∧ C' = C ∧ X' = hs_u X b n))
    (hB : (n = -1 ∧ B' = B) ∨ (n ≠ -1 ∧ B' = hs_u B n b)) : hs_PO D' k G O C' X' B' (-1) (-1) := by
  have hm : ∀ i, D i → i ≠ -1 := fun i hi => by have := hD i hi; omega
  have hem := hm e he
  have nope : ∀ i, D i → G i ≠ e := by
    intro i hi x
    rcases hs_PO_first hD h hem i hi x with c | c
    · exact hm i hi c
    · exact c.1 rfl
  obtain ⟨_, e2, e3⟩ := h e he
  obtain ⟨g1, g2, g3⟩ : D (G e) ∧ k (G e) < k e ∧ (e = -1 ∨ (B e = G e ∧ G e ≠ e ∧ C (G e) = e) ∨ (D (B e) ∧ G (B e) = G e ∧ X (B e) = e)) := by
    rcases e3 with c | c
    · exact absurd c ge
    · exact c
  have gne : G e ≠ e := nope e he
  -- back is the parent or a sibling
  have bb : (b = G e ∧ C b = e) ∨ (D b ∧ b ≠ e ∧ G b = G e ∧ X b = e ∧ C b ≠ e) := by
    rcases g3 with c | c | c
    · exact absurd c hem
    · left; rw [eb, c.1]; exact ⟨rfl, c.2.2⟩
    · right
      rw [← eb] at c
      have bne : b ≠ e := by
        intro x
        have d := (h e he).2.1 ge
        rw [x] at c
        rw [c.2.2] at d
        rcases d with d | d
        · exact hem d
        · omega
      refine ⟨c.1, bne, c.2.1, c.2.2, ?_⟩
      intro x
      rcases (h b c.1).1 bne with d | d
      · exact hem (x.symm.trans d)
      · rw [x] at d
        have y := d.2.1
        rw [← c.2.1] at y
        rcases (h b c.1).2.2 with f | f
        · exact hm b c.1 (y.symm.trans f)
        · rw [y] at f; omega
  have nn : n = -1 ∨ (D n ∧ G n = G e ∧ B n = e ∧ O n < O e) := by
    rcases e2 ge with c | c
    · exact Or.inl (en.trans c)
    · rw [← en] at c; exact Or.inr c
  have nne : n = -1 ∨ n ≠ e := by
    rcases nn with c | c
    · exact Or.inl c
    · exact Or.inr (fun x => by rw [x] at c; omega)
  have bn : n ≠ -1 → B' n = b := by
    intro x
    rcases hB with ⟨y, _⟩ | ⟨_, y⟩
    · exact absurd y x
    · rw [y]; exact hs_us
  have bo : ∀ i, D i → i ≠ n → B' i = B i := by
    intro i _ x
    rcases hB with ⟨_, y⟩ | ⟨_, y⟩
    · rw [y]
    · rw [y]; exact hs_un x
  have Dn : n ≠ -1 → D' n := by
    intro x
    rcases nn with c | c
    · exact absurd c x
    · exact (hD' n).mpr ⟨c.1, by rcases nne with d | d; exact absurd d x; exact d⟩
  have gb : ∀ i, D i → G i = i → False := by
    intro i hi x
    rcases (h i hi).2.2 with f | f
    · exact hm i hi (x.symm.trans f)
    · rw [x] at f; omega
  intro i hi'
  obtain ⟨hi, hie⟩ := (hD' i).mp hi'
  have him := hm i hi
  obtain ⟨h1, h2, h3⟩ := h i hi
  refine ⟨fun _ => ?_, fun hg => ?_, ?_⟩
  · -- children
    have old : C i ≠ e → C i = -1 ∨ (D' (C i) ∧ G (C i) = i ∧ B' (C i) = i) := by
      intro y
      rcases h1 hie with c | c
      · exact Or.inl c
      · refine Or.inr ⟨(hD' _).mpr ⟨c.1, y⟩, c.2.1, ?_⟩
        rw [bo _ c.1]
        · exact c.2.2
        · intro w
          rcases nn with d | d
          · exact hm _ c.1 (w.trans d)
          · rw [w, d.2.2.1] at c; exact hie c.2.2.symm
    rcases hC with ⟨c1, c2, _⟩ | ⟨c1, c2, _⟩
    · rw [c2]
      by_cases ib : i = b
      · rw [hs_ue ib]
        by_cases hn : n = -1
        · exact Or.inl hn
        · right
          refine ⟨Dn hn, ?_, by rw [bn hn, ib]⟩
          rcases nn with d | d
          · exact absurd d hn
          · rw [d.2.1, ib]
            rcases bb with f | f
            · exact f.1.symm
            · exact absurd c1 f.2.2.2.2
      · rw [hs_un ib]
        apply old
        intro x
        rcases h1 hie with d | d
        · exact hem (x.symm.trans d)
        · rw [x] at d
          exact ib (d.2.2.symm.trans eb.symm)
    · rw [c2]
      apply old
      intro x
      rcases h1 hie with d | d
      · exact hem (x.symm.trans d)
      · rw [x] at d
        rw [← d.2.2, ← eb] at x
        exact c1 x
  · -- next
    have old : X i ≠ e → X i = -1 ∨ (D' (X i) ∧ G (X i) = G i ∧ B' (X i) = i ∧ O (X i) < O i) := by
      intro y
      rcases h2 hg with c | c
      · exact Or.inl c
      · refine Or.inr ⟨(hD' _).mpr ⟨c.1, y⟩, c.2.1, ?_, c.2.2.2⟩
        rw [bo _ c.1]
        · exact c.2.2.1
        · intro w
          rcases nn with d | d
          · exact hm _ c.1 (w.trans d)
          · rw [w, d.2.2.1] at c; exact hie c.2.2.1.symm
    rcases hC with ⟨c1, _, c2⟩ | ⟨c1, _, c2⟩
    · rw [c2]
      apply old
      intro x
      rcases h2 hg with d | d
      · exact hem (x.symm.trans d)
      · rw [x] at d
        have ib : i = b := d.2.2.1.symm.trans eb.symm
        rcases bb with f | f
        · apply gb i hi
          rw [← d.2.1, ib]; exact f.1.symm
        · exact f.2.2.2.2 c1
    · rw [c2]
      by_cases ib : i = b
      · rw [hs_ue ib]
        by_cases hn : n = -1
        · exact Or.inl hn
        · right
          rcases nn with d | d
          · exact absurd d hn
          · rcases bb with f | f
            · exact absurd f.2 c1
            · refine ⟨Dn hn, by rw [d.2.1, ib]; exact f.2.2.1.symm, by rw [bn hn, ib], ?_⟩
              have w := (h b f.1).2.1 (by rw [f.2.2.1]; exact ge)
              rw [f.2.2.2.1] at w
              rcases w with w | w
              · exact absurd w hem
              · rw [ib]; omega
      · rw [hs_un ib]
        apply old
        intro x
        rcases h2 hg with d | d
        · exact hem (x.symm.trans d)
        · rw [x] at d
          exact ib (d.2.2.1.symm.trans eb.symm)
  · rcases h3 with c | ⟨c1, c2, c3⟩
    · exact Or.inl c
    · right
      refine ⟨(hD' _).mpr ⟨c1, nope i hi⟩, c2, Or.inr ?_⟩
      by_cases cn : i = n
      · have hn : n ≠ -1 := fun x => him (cn.trans x)
        rcases nn with d | d
        · exact absurd d hn
        · rw [cn, bn hn, d.2.1]
          rcases bb with f | f
          · left
            refine ⟨f.1, hm _ g1, ?_⟩
            rcases hC with ⟨_, x, _⟩ | ⟨x, _⟩
            · rw [x, ← f.1]; exact hs_us
            · exact absurd f.2 x
          · right
            refine ⟨(hD' b).mpr ⟨f.1, f.2.1⟩, f.2.2.1, ?_⟩
            rcases hC with ⟨x, _⟩ | ⟨_, _, x⟩
            · exact absurd x f.2.2.2.2
            · rw [x]; exact hs_us
      · rw [bo i hi cn]
        rcases c3 with c3 | c3 | c3
        · exact absurd c3 him
        · left
          refine ⟨c3.1, hm _ c1, ?_⟩
          rcases hC with ⟨x, y, _⟩ | ⟨_, y, _⟩
          · rw [y]
            by_cases w : G i = b
            · rw [← w, c3.2.2] at x; exact absurd x hie
            · rw [hs_un w]; exact c3.2.2
          · rw [y]; exact c3.2.2
        · right
          have w : B i ≠ e := fun y => cn (by rw [← c3.2.2, y]; exact en.symm)
          refine ⟨(hD' _).mpr ⟨c3.1, w⟩, c3.2.1, ?_⟩
          rcases hC with ⟨_, _, y⟩ | ⟨x0, _, y⟩
          · rw [y]; exact c3.2.2
          · rw [y]
            by_cases v : B i = b
            · rcases bb with f | f
              · exact absurd f.2 x0
              · rw [v, f.2.2.2.1] at c3; exact absurd c3.2.2.symm hie
            · rw [hs_un v]; exact c3.2.2
end HS05
