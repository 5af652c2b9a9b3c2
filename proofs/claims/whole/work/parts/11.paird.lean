section HS11
/-- two trees paired: t above f -/
def hs_UP (D : Int → Prop) (k G C X B G' O' C' X' B' : Int → Int) (e r a b t f : Int) : Prop :=
  hs_PO D k G' O' C' X' B' e r ∧ ((t = a ∧ f = b) ∨ (t = b ∧ f = a)) ∧ (t = -1 → f = -1) ∧ (f = -1 ∨ (D f ∧ G' f = t)) ∧
  (∀ n, n ≠ f → G' n = G n ∧ X' n = X n) ∧ (∀ n, D n → G n = -1 → n ≠ f → B' n = B n) ∧
  hs_fr D C C' ∧ hs_fr D X X' ∧ hs_fr D B B'
theorem hs_UP_nil {D : Int → Prop} {k G O C X B : Int → Int} {e r a b t f : Int} (h : hs_PO D k G O C X B e r) (hf : f = -1) (hab : (t = a ∧ f = b) ∨ (t = b ∧ f = a)) :
    hs_UP D k G C X B G O C X B e r a b t f :=
  ⟨h, hab, fun _ => hf, Or.inl hf, fun _ _ => ⟨rfl, rfl⟩, fun _ _ _ _ => rfl, hs_fr_refl, hs_fr_refl, hs_fr_refl⟩
theorem hs_UP_go {D : Int → Prop} {k G O C X B B' : Int → Int} {e r a b t f : Int} (hm : ∀ i, D i → i ≠ -1) (h : hs_PO D k G O C X B e r)
    (ht : D t) (hf : D f) (gt : G t = -1) (gf : G f = -1) (hte : t ≠ e) (htf : t ≠ f) (lt : k t < k f) (hab : (t = a ∧ f = b) ∨ (t = b ∧ f = a))
    (hB : (C t = -1 ∧ B' = hs_u B f t) ∨ (C t ≠ -1 ∧ B' = hs_u (hs_u B f t) (C t) f)) :
    hs_UP D k G C X B (hs_u G f t) (hs_u O f (if C t = -1 then 0 else O (C t) + 1)) (hs_u C t f) (hs_u X f (C t)) B' e r a b t f := by
  have hs : C t = -1 ∨ (D (C t) ∧ G (C t) = t ∧ B (C t) = t) := (h t ht).1 hte
  refine ⟨hs_PO_up hm h ht hf gt gf hte htf lt hB, hab, fun x => absurd x (hm t ht), Or.inr ⟨hf, hs_us⟩, fun n x => ⟨hs_un x, hs_un x⟩, ?_, hs_fr_u ht (Or.inr hf), hs_fr_u hf ?_, ?_⟩
  · intro n hn gn x
    rcases hB with ⟨_, y⟩ | ⟨y, z⟩
    · rw [y]; exact hs_un x
    · rw [z, hs_un, hs_un x]
      intro w
      rcases hs with v | v
      · exact y v
      · rw [← w, gn] at v; exact hm t ht v.2.1.symm
  · rcases hs with v | v
    · exact Or.inl v
    · exact Or.inr v.1
  · rcases hB with ⟨_, y⟩ | ⟨y, z⟩
    · rw [y]; exact hs_fr_u hf (Or.inr ht)
    · rw [z]
      rcases hs with v | v
      · exact absurd v y
      · exact hs_fr_trans (hs_fr_u hf (Or.inr ht)) (hs_fr_u v.1 (Or.inr hf))
/-- the first pass: the first two children that are left are cut off .. -/
theorem hs_PP_cut {D : Int → Prop} {k G O C X B X1 B1 : Int → Int} {e r s p o : Int} {l : List Int} (hD : ∀ i, D i → 0 ≤ i ∧ i < 24) (h : hs_PP D k G O C X B e r s p (-1) l) (hr : r ≠ -1) (ho : o = X r)
    (hXB : (o = -1 ∧ X1 = hs_u X r (-1) ∧ B1 = hs_u B r (-1)) ∨ (o ≠ -1 ∧ X1 = hs_u (hs_u X o (-1)) r (-1) ∧ B1 = hs_u (hs_u B o (-1)) r (-1))) :
    hs_PO D k (fun i => if i = r ∨ (i = o ∧ o ≠ -1) then -1 else G i) O C X1 B1 e (if o = -1 then -1 else X o) ∧ D r ∧ G r = e ∧ r ≠ e ∧ (o = -1 ∨ (D o ∧ G o = e ∧ o ≠ e)) ∧ (r = o → r = -1) ∧
    ((if o = -1 then -1 else X o) = -1 ∨ (D (if o = -1 then -1 else X o) ∧ (fun i => if i = r ∨ (i = o ∧ o ≠ -1) then -1 else G i) (if o = -1 then -1 else X o) = e)) ∧
    hs_fr D X X1 ∧ hs_fr D B B1 := by
  have hm : ∀ i, D i → i ≠ -1 := fun i hi => by have := hD i hi; omega
  obtain ⟨h1, h2, h3, h4, h5, h6, h7, h8, h9⟩ := h
  obtain ⟨r1, r2⟩ : D r ∧ G r = e := by
    rcases h3 with c | c
    · exact absurd c hr
    · exact c
  have hX : ∀ i, i ≠ r → i ≠ o → X1 i = X i := by
    intro i x y
    rcases hXB with ⟨_, z, _⟩ | ⟨_, z, _⟩
    · rw [z]; exact hs_un x
    · rw [z, hs_un x]; exact hs_un y
  have hB : ∀ i, i ≠ r → i ≠ o → B1 i = B i := by
    intro i x y
    rcases hXB with ⟨_, _, z⟩ | ⟨_, _, z⟩
    · rw [z]; exact hs_un x
    · rw [z, hs_un x]; exact hs_un y
  have cut := hs_PO_cut (G' := fun i => if i = r ∨ (i = o ∧ o ≠ -1) then -1 else G i) (s := if o = -1 then -1 else X o) hD h1 (hm e h2) r1 r2 ho rfl (fun i => rfl) hX hB
  have ne : ∀ i, D i → G i = e → i ≠ e := by
    intro i hi x y
    rcases (h1 i hi).2.2 with c | c
    · rw [x] at c; exact hm e h2 c
    · rw [x, y] at c; omega
  have fx : hs_fr D X X1 := by
    rcases hXB with ⟨_, z, _⟩ | ⟨w, z, _⟩
    · rw [z]; exact hs_fr_u r1 (Or.inl rfl)
    · rw [z]
      rcases cut.2.1 with c | c
      · exact absurd c w
      · exact hs_fr_trans (hs_fr_u c.1 (Or.inl rfl)) (hs_fr_u r1 (Or.inl rfl))
  have fb : hs_fr D B B1 := by
    rcases hXB with ⟨_, _, z⟩ | ⟨w, _, z⟩
    · rw [z]; exact hs_fr_u r1 (Or.inl rfl)
    · rw [z]
      rcases cut.2.1 with c | c
      · exact absurd c w
      · exact hs_fr_trans (hs_fr_u c.1 (Or.inl rfl)) (hs_fr_u r1 (Or.inl rfl))
  refine ⟨cut.1, r1, r2, ne r r1 r2, ?_, ?_, cut.2.2, fx, fb⟩
  · rcases cut.2.1 with c | c
    · exact Or.inl c
    · exact Or.inr ⟨c.1, c.2.1, ne o c.1 c.2.1⟩
  · intro x
    rcases cut.2.1 with c | c
    · exact x.trans c
    · exact absurd x.symm c.2.2
/-- .. paired, and go to the head of the list -/
theorem hs_PP_push {D : Int → Prop} {k G O C X B X1 B1 G2 O2 C2 X2 B2 : Int → Int} {e r s p o t f : Int} {l : List Int} (hD : ∀ i, D i → 0 ≤ i ∧ i < 24) (h : hs_PP D k G O C X B e r s p (-1) l) (hr : r ≠ -1) (ho : o = X r)
    (hXB : (o = -1 ∧ X1 = hs_u X r (-1) ∧ B1 = hs_u B r (-1)) ∨ (o ≠ -1 ∧ X1 = hs_u (hs_u X o (-1)) r (-1) ∧ B1 = hs_u (hs_u B o (-1)) r (-1)))
    (hu : hs_UP D k (fun i => if i = r ∨ (i = o ∧ o ≠ -1) then -1 else G i) C X1 B1 G2 O2 C2 X2 B2 e (if o = -1 then -1 else X o) r o t f) :
    hs_PP D k G2 O2 C2 (hs_u X2 t p) B2 e (if o = -1 then -1 else X o) s t (-1) (t :: l) ∧ hs_c G2 e + 1 ≤ hs_c G e ∧ D t ∧ hs_fr D X2 (hs_u X2 t p) := by
  have hm : ∀ i, D i → i ≠ -1 := fun i hi => by have := hD i hi; omega
  have cut := hs_PP_cut hD h hr ho hXB
  obtain ⟨h1, h2, h3, h4, h5, h6, h7, h8, h9⟩ := h
  obtain ⟨_, r1, r2, r3, o1, ro, s1, _, _⟩ := cut
  obtain ⟨u1, u2, u3, u4, u5, u6, u7, u8, u9⟩ := hu
  have he := hm e h2
  have gr : ∀ i, G i = -1 → i ≠ r ∧ (o ≠ -1 → i ≠ o) := by
    intro i x
    refine ⟨fun y => ?_, fun z y => ?_⟩
    · rw [y, r2] at x; exact he x
    · rcases o1 with c | c
      · exact z c
      · rw [y, c.2.1] at x; exact he x
  have tt : t ≠ -1 := by
    intro x
    have y := u3 x
    rcases u2 with c | c
    · rw [← c.1] at hr; exact hr x
    · rw [← c.2] at hr; exact hr y
  have tro : t = r ∨ t = o := by
    rcases u2 with c | c
    · exact Or.inl c.1
    · exact Or.inr c.1
  have fro : f = r ∨ f = o := by
    rcases u2 with c | c
    · exact Or.inr c.2
    · exact Or.inl c.2
  have tf : t ≠ f := by
    intro x
    rcases u2 with c | c
    · exact hr (ro (by rw [← c.1, ← c.2]; exact x))
    · exact hr (ro (by rw [← c.1, ← c.2]; exact x.symm))
  have Dt : D t := by
    rcases tro with c | c
    · rw [c]; exact r1
    · rw [c]
      rcases o1 with d | d
      · exact absurd (c.trans d) tt
      · exact d.1
  have te : t ≠ e := by
    rcases tro with c | c
    · rw [c]; exact r3
    · rcases o1 with d | d
      · exact absurd (c.trans d) tt
      · rw [c]; exact d.2.2
  have Gt : G t = e := by
    rcases tro with c | c
    · rw [c]; exact r2
    · rcases o1 with d | d
      · exact absurd (c.trans d) tt
      · rw [c]; exact d.2.1
  have g1o : ∀ i, i ≠ r → (o ≠ -1 → i ≠ o) → (fun i => if i = r ∨ (i = o ∧ o ≠ -1) then -1 else G i) i = G i := by
    intro i x y
    exact if_neg (fun z => z.elim x (fun w => y w.2 w.1))
  have nf : ∀ i, D i → i ≠ r → (o ≠ -1 → i ≠ o) → i ≠ f := by
    intro i hi x y z
    rcases fro with c | c
    · exact x (z.trans c)
    · by_cases w : o = -1
      · exact hm i hi (z.trans (c.trans w))
      · exact y w (z.trans c)
  have nt : ∀ i, i ≠ r → (o ≠ -1 → i ≠ o) → i ≠ t := by
    intro i x y z
    rcases tro with c | c
    · exact x (z.trans c)
    · exact y (fun w => tt (c.trans w)) (z.trans c)
  have x1o : ∀ i, i ≠ r → (o ≠ -1 → i ≠ o) → X1 i = X i ∧ B1 i = B i := by
    intro i x y
    rcases hXB with ⟨_, z, w⟩ | ⟨v, z, w⟩
    · rw [z, w, hs_un x, hs_un x]; exact ⟨rfl, rfl⟩
    · rw [z, w, hs_un x, hs_un x, hs_un (y v), hs_un (y v)]; exact ⟨rfl, rfl⟩
  have b1t : B1 t = -1 := by
    rcases hXB with ⟨z, _, w⟩ | ⟨v, z, w⟩
    · rw [w]
      rcases tro with c | c
      · exact hs_ue c
      · exact absurd (c.trans z) tt
    · rw [w]
      by_cases c : t = r
      · exact hs_ue c
      · rw [hs_un c]
        rcases tro with d | d
        · exact absurd d c
        · exact hs_ue d
  have G1t : (fun i => if i = r ∨ (i = o ∧ o ≠ -1) then -1 else G i) t = -1 := by
    refine if_pos ?_
    rcases tro with c | c
    · exact Or.inl c
    · exact Or.inr ⟨c, fun w => tt (c.trans w)⟩
  have G2t : G2 t = -1 := by rw [(u5 t tf).1]; exact G1t
  have B2t : B2 t = -1 := by rw [u6 t Dt G1t tf]; exact b1t
  -- an old root is left alone
  have old : ∀ i, D i → G i = -1 → G2 i = -1 ∧ B2 i = B i ∧ hs_u X2 t p i = X i ∧ i ≠ t := by
    intro i hi x
    have y := gr i x
    have z := nf i hi y.1 y.2
    have w := g1o i y.1 y.2
    refine ⟨?_, ?_, ?_, nt i y.1 y.2⟩
    · rw [(u5 i z).1, w]; exact x
    · rw [u6 i hi (w.trans x) z]; exact (x1o i y.1 y.2).2
    · rw [hs_un (nt i y.1 y.2), (u5 i z).2]; exact (x1o i y.1 y.2).1
  refine ⟨⟨?_, h2, ?_, ?_, ?_, ?_, Or.inl rfl, ?_, ?_⟩, ?_, Dt, ?_⟩
  · refine hs_PO_root u1 (fun i _ x => hs_un (fun y => x (by rw [y]; exact G2t))) (fun _ _ _ => rfl) hm
  · rcases s1 with c | c
    · exact Or.inl c
    · right
      refine ⟨c.1, ?_⟩
      rw [(u5 _ ?_).1]
      · exact c.2
      · intro x
        have y := c.2
        rw [x] at y
        have z : (fun i => if i = r ∨ (i = o ∧ o ≠ -1) then -1 else G i) f = -1 := by
          refine if_pos ?_
          rcases fro with d | d
          · exact Or.inl d
          · exact Or.inr ⟨d, fun w => hm _ c.1 (x.trans (d.trans w))⟩
        exact he (y.symm.trans z)
  · refine ⟨rfl, tt, ?_⟩
    rw [hs_us]
    refine hs_seg_u l p (fun a ha => ?_) h4
    have y := h6 a ha
    exact (old a y.1 y.2.1).2.2.1
  · refine List.nodup_cons.mpr ⟨fun x => ?_, h5⟩
    have y := h6 t x
    rw [Gt] at y
    exact he y.2.1
  · intro a ha
    rcases List.mem_cons.mp ha with x | x
    · rw [x]
      refine ⟨Dt, G2t, B2t, te, fun y => ?_, tt⟩
      rw [← y, Gt] at h9
      exact he h9.2.1
    · have y := h6 a x
      have z := old a y.1 y.2.1
      exact ⟨y.1, z.1, z.2.1.trans y.2.2.1, y.2.2.2⟩
  · intro i hi x
    by_cases a : i = t
    · exact Or.inr (Or.inl (by rw [a]; exact List.mem_cons_self ..))
    · by_cases b : i = f
      · rcases u4 with c | c
        · exact absurd (b.trans c) (hm i hi)
        · rw [b, c.2] at x; exact absurd x tt
      · have nr : i ≠ r ∧ i ≠ o := by
          rcases u2 with c | c
          · rw [← c.1, ← c.2]; exact ⟨a, b⟩
          · rw [← c.1, ← c.2]; exact ⟨b, a⟩
        rw [(u5 i b).1, g1o i nr.1 (fun _ => nr.2)] at x
        rcases h8 i hi x with c | c | c
        · exact Or.inl c
        · exact Or.inr (Or.inl (List.mem_cons_of_mem _ c))
        · exact Or.inr (Or.inr c)
  · have z := old s h9.1 h9.2.1
    exact ⟨h9.1, z.1, z.2.1.trans h9.2.2.1, z.2.2.1.trans h9.2.2.2⟩
  · refine hs_sum_lt (k := r) (hD r r1).1 (n := 24) (by have := (hD r r1).2; omega) ?_ ?_
    · show (if G2 r = e then (1 : Int) else 0) + 1 ≤ (if G r = e then (1 : Int) else 0)
      rw [if_pos r2, if_neg]
      · omega
      · intro x
        by_cases y : r = f
        · rcases u4 with c | c
          · exact hr (y.trans c)
          · rw [y, c.2] at x; exact te x
        · rw [(u5 r y).1] at x
          have : (fun i => if i = r ∨ (i = o ∧ o ≠ -1) then -1 else G i) r = -1 := if_pos (Or.inl rfl)
          exact he (x.symm.trans this)
    · intro j j0 _
      show (if G2 j = e then (1 : Int) else 0) ≤ (if G j = e then (1 : Int) else 0)
      by_cases x : G2 j = e
      · rw [if_pos x]
        have : G j = e := by
          by_cases y : j = f
          · rcases u4 with c | c
            · omega
            · rw [y, c.2] at x; exact absurd x te
          · rw [(u5 j y).1] at x
            by_cases z : j = r ∨ (j = o ∧ o ≠ -1)
            · have w : (fun i => if i = r ∨ (i = o ∧ o ≠ -1) then -1 else G i) j = -1 := if_pos z
              exact absurd (x.symm.trans w) he
            · have w : (fun i => if i = r ∨ (i = o ∧ o ≠ -1) then -1 else G i) j = G j := if_neg z
              exact w.symm.trans x
        rw [if_pos this]; omega
      · rw [if_neg x]; split <;> omega
  · refine hs_fr_u Dt ?_
    cases l with
    | nil => exact Or.inl h4
    | cons a l =>
      right
      rw [h4.1]
      exact (h6 a (List.mem_cons_self ..)).1
/-- the second pass: the head of the list joins the whole -/
theorem hs_PP_pop {D : Int → Prop} {k G O C X B G2 O2 C2 X2 B2 : Int → Int} {e s p m t f : Int} {l : List Int} (hD : ∀ i, D i → 0 ≤ i ∧ i < 24) (h : hs_PP D k G O C X B e (-1) s p m (p :: l))
    (hu : hs_UP D k G C (hs_u X p (-1)) B G2 O2 C2 X2 B2 e (-1) m p t f) :
    hs_PP D k G2 O2 C2 X2 B2 e (-1) s (X p) t l := by
  have hm : ∀ i, D i → i ≠ -1 := fun i hi => by have := hD i hi; omega
  obtain ⟨h1, h2, h3, h4, h5, h6, h7, h8, h9⟩ := h
  obtain ⟨u1, u2, u3, u4, u5, u6, u7, u8, u9⟩ := hu
  have pl := h6 p (List.mem_cons_self ..)
  have nd := List.nodup_cons.mp h5
  have tt : t ≠ -1 := by
    intro x
    have y := u3 x
    rcases u2 with c | c
    · exact hm p pl.1 (c.2.symm.trans y)
    · exact hm p pl.1 (c.1.symm.trans x)
  have tin : t = m ∨ t = p := by
    rcases u2 with c | c
    · exact Or.inl c.1
    · exact Or.inr c.1
  have fin : f = m ∨ f = p := by
    rcases u2 with c | c
    · exact Or.inr c.2
    · exact Or.inl c.2
  have mp : m ≠ p := fun x => pl.2.2.2.2.2 x.symm
  have tf : t ≠ f := by
    intro x
    rcases u2 with c | c
    · exact mp (by rw [← c.1, ← c.2]; exact x)
    · exact mp (by rw [← c.1, ← c.2]; exact x.symm)
  have tm : D t ∧ G t = -1 ∧ B t = -1 ∧ hs_u X p (-1) t = -1 ∧ t ≠ e ∧ t ≠ s := by
    rcases tin with c | c
    · rcases h7 with d | d
      · exact absurd (c.trans d) tt
      · rw [c, hs_un mp]; exact d
    · rw [c, hs_us]; exact ⟨pl.1, pl.2.1, pl.2.2.1, rfl, pl.2.2.2.1, pl.2.2.2.2.1⟩
  have old : ∀ i, D i → G i = -1 → i ≠ m → i ≠ p → G2 i = -1 ∧ B2 i = B i ∧ X2 i = X i ∧ i ≠ t := by
    intro i hi x a b
    have nf : i ≠ f := by
      rcases fin with c | c
      · rw [c]; exact a
      · rw [c]; exact b
    refine ⟨by rw [(u5 i nf).1]; exact x, u6 i hi x nf, by rw [(u5 i nf).2]; exact hs_un b, ?_⟩
    rcases tin with c | c
    · rw [c]; exact a
    · rw [c]; exact b
  refine ⟨u1, h2, Or.inl rfl, ?_, nd.2, ?_, Or.inr ?_, ?_, ?_⟩
  · refine hs_seg_u l (X p) (fun a ha => ?_) h4.2.2
    have y := h6 a (List.mem_cons_of_mem _ ha)
    exact (old a y.1 y.2.1 y.2.2.2.2.2 (fun z => nd.1 (by rw [← z]; exact ha))).2.2.1
  · intro a ha
    have y := h6 a (List.mem_cons_of_mem _ ha)
    have z := old a y.1 y.2.1 y.2.2.2.2.2 (fun z => nd.1 (by rw [← z]; exact ha))
    exact ⟨y.1, z.1, z.2.1.trans y.2.2.1, y.2.2.2.1, y.2.2.2.2.1, z.2.2.2⟩
  · exact ⟨tm.1, by rw [(u5 t tf).1]; exact tm.2.1, by rw [u6 t tm.1 tm.2.1 tf]; exact tm.2.2.1, by rw [(u5 t tf).2]; exact tm.2.2.2.1, tm.2.2.2.2⟩
  · intro i hi x
    by_cases a : i = f
    · rcases u4 with c | c
      · exact absurd (a.trans c) (hm i hi)
      · rw [a, c.2] at x; exact absurd x tt
    · rw [(u5 i a).1] at x
      rcases h8 i hi x with c | c | c
      · exact Or.inl c
      · rcases List.mem_cons.mp c with d | d
        · right; right
          rcases u2 with g | g
          · exact absurd (d.trans g.2.symm) a
          · exact d.trans g.1.symm
        · exact Or.inr (Or.inl d)
      · right; right
        rcases u2 with g | g
        · exact c.trans g.1.symm
        · exact absurd (c.trans g.2.symm) a
  · have sm : s ≠ m := by
      intro x
      rcases h7 with d | d
      · exact hm s h9.1 (x.trans d)
      · exact d.2.2.2.2.2 x.symm
    have z := old s h9.1 h9.2.1 sm (fun x => pl.2.2.2.2.1 x.symm)
    exact ⟨h9.1, z.1, z.2.1.trans h9.2.2.1, z.2.2.1.trans h9.2.2.2⟩
end HS11
