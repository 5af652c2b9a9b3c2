section HS03
/-! engines 2 and 3: trees that lean to the left, pure; D: the nodes of a queue, k: their order, G: their parents, e: a node whose children are cut off -/
def hs_LO (D : Int → Prop) (k G L R : Int → Int) (e : Int) : Prop := ∀ n, D n →
  (n ≠ e → (L n = -1 ∨ (D (L n) ∧ G (L n) = n)) ∧ (R n = -1 ∨ (D (R n) ∧ G (R n) = n)) ∧ (L n = R n → L n = -1)) ∧
  (G n = -1 ∨ (D (G n) ∧ G n ≠ e ∧ k (G n) < k n ∧ (L (G n) = n ∨ R (G n) = n)))
def hs_rank (N : Int → Int) (x : Int) : Int := if x = -1 then 0 else N x
def hs_LK (L R N : Int → Int) (n : Int) : Prop := ¬ hs_i (hs_rank N (L n)) < hs_i (hs_rank N (R n)) ∧ N n = hs_rank N (R n) + 1
/-- within D alone, and then to -1 or a node of D -/
def hs_fr (D : Int → Prop) (A A' : Int → Int) : Prop := ∀ j, A' j = A j ∨ (D j ∧ (A' j = -1 ∨ D (A' j)))
def hs_fn (D : Int → Prop) (A A' : Int → Int) : Prop := ∀ j, A' j = A j ∨ D j
theorem hs_fr_refl {D : Int → Prop} {A : Int → Int} : hs_fr D A A := fun _ => Or.inl rfl
theorem hs_fr_trans {D : Int → Prop} {A A' A'' : Int → Int} (h : hs_fr D A A') (h' : hs_fr D A' A'') : hs_fr D A A'' := by
  intro j
  rcases h' j with e | e
  · rcases h j with e2 | e2
    · exact Or.inl (e.trans e2)
    · rw [← e] at e2; exact Or.inr e2
  · exact Or.inr e
theorem hs_fr_u {D : Int → Prop} {A : Int → Int} {x v : Int} (hx : D x) (hv : v = -1 ∨ D v) : hs_fr D A (hs_u A x v) := by
  intro j
  by_cases e : j = x
  · rw [hs_ue e, e]; exact Or.inr ⟨hx, hv⟩
  · exact Or.inl (hs_un e)
theorem hs_fn_refl {D : Int → Prop} {A : Int → Int} : hs_fn D A A := fun _ => Or.inl rfl
theorem hs_fn_trans {D : Int → Prop} {A A' A'' : Int → Int} (h : hs_fn D A A') (h' : hs_fn D A' A'') : hs_fn D A A'' := by
  intro j
  rcases h' j with e | e
  · rcases h j with e2 | e2
    · exact Or.inl (e.trans e2)
    · exact Or.inr e2
  · exact Or.inr e
theorem hs_fn_u {D : Int → Prop} {A : Int → Int} {x v : Int} (hx : D x) : hs_fn D A (hs_u A x v) := by
  intro j
  by_cases e : j = x
  · exact Or.inr (by rw [e]; exact hx)
  · exact Or.inl (hs_un e)
/-- a walk up: V marks the nodes that may be wrong, a chain by G -/
def hs_V (D V : Int → Prop) (k G : Int → Int) (e : Int) : Prop :=
  (∀ n, V n → D n ∧ n ≠ e) ∧ (∀ n m, V n → V m → k m < k n → G n ≠ -1 ∧ k m ≤ k (G n)) ∧ (∀ n, V n → G n = -1 ∨ V (G n))
def hs_LI (z : Int) (D V : Int → Prop) (k G L R N : Int → Int) (e v : Int) : Prop :=
  hs_LO D k G L R e ∧ (v = -1 ∨ (D v ∧ (V v ∨ ((∀ m, ¬ V m) ∧ e = -1)))) ∧
  (z = 0 → ∀ n, D n → n ≠ e → ¬ hs_LK L R N n → v ≠ -1 ∧ ((V n ∧ k n ≤ k v) ∨ n = v))
theorem hs_LO_swap {D : Int → Prop} {k G L R : Int → Int} {e v : Int} (h : hs_LO D k G L R e) : hs_LO D k G (hs_u L v (R v)) (hs_u R v (L v)) e := by
  intro n hn
  have a := h n hn
  refine ⟨fun he => ?_, ?_⟩
  · have b := a.1 he
    by_cases c : n = v
    · subst c
      rw [hs_us, hs_us]
      exact ⟨b.2.1, b.1, fun x => by rw [x]; exact b.2.2 x.symm⟩
    · rw [hs_un c, hs_un c]; exact b
  · rcases a.2 with b | ⟨b1, b2, b3, b4⟩
    · exact Or.inl b
    · refine Or.inr ⟨b1, b2, b3, ?_⟩
      by_cases c : G n = v
      · rw [c] at b4 ⊢
        rw [hs_us, hs_us]
        exact b4.symm
      · rw [hs_un c, hs_un c]; exact b4
theorem hs_LK_eq {L R N L' R' N' : Int → Int} {n : Int} (eL : L' n = L n) (eR : R' n = R n) (eN : N' n = N n) (el : L n = -1 ∨ N' (L n) = N (L n)) (er : R n = -1 ∨ N' (R n) = N (R n)) :
    hs_LK L' R' N' n ↔ hs_LK L R N n := by
  have rl : hs_rank N' (L n) = hs_rank N (L n) := by
    unfold hs_rank
    split
    · rfl
    · rcases el with c | c
      · contradiction
      · exact c
  have rr : hs_rank N' (R n) = hs_rank N (R n) := by
    unfold hs_rank
    split
    · rfl
    · rcases er with c | c
      · contradiction
      · exact c
  unfold hs_LK
  rw [eL, eR, eN, rl, rr]
/-- one step of the walk up -/
theorem hs_LI_step {z : Int} {D V : Int → Prop} {k G L R N L' R' : Int → Int} {e v : Int} (hm : ∀ n, D n → n ≠ -1) (hk : ∀ n m, D n → D m → k n = k m → n = m) (hV : hs_V D V k G e)
    (h : hs_LI z D V k G L R N e v) (hv : v ≠ -1)
    (hs : (L' = hs_u L v (R v) ∧ R' = hs_u R v (L v) ∧ (z = 0 → hs_i (hs_rank N (L v)) < hs_i (hs_rank N (R v)))) ∨ (L' = L ∧ R' = R ∧ (z = 0 → ¬ hs_i (hs_rank N (L v)) < hs_i (hs_rank N (R v))))) :
    hs_LI z D V k G L' R' (hs_u N v (hs_rank N (R' v) + 1)) e (G v) ∧ hs_fr D L L' ∧ hs_fr D R R' := by
  obtain ⟨hO, hd, hK⟩ := h
  rcases hd with hd | ⟨hd, hd2⟩
  · exact absurd hd hv
  have hve : v ≠ e := by
    rcases hd2 with c | c
    · exact (hV.1 v c).2
    · rw [c.2]; exact hv
  have hav := (hO v hd).1 hve
  have hL1 : L v = -1 ∨ D (L v) := by rcases hav.1 with c | c; exact Or.inl c; exact Or.inr c.1
  have hR1 : R v = -1 ∨ D (R v) := by rcases hav.2.1 with c | c; exact Or.inl c; exact Or.inr c.1
  have hO' : hs_LO D k G L' R' e := by
    rcases hs with ⟨rfl, rfl, _⟩ | ⟨rfl, rfl, _⟩
    · exact hs_LO_swap hO
    · exact hO
  have hfr : hs_fr D L L' ∧ hs_fr D R R' := by
    rcases hs with ⟨rfl, rfl, _⟩ | ⟨rfl, rfl, _⟩
    · exact ⟨hs_fr_u hd hR1, hs_fr_u hd hL1⟩
    · exact ⟨hs_fr_refl, hs_fr_refl⟩
  have hav' := (hO' v hd).1 hve
  have hGv : G v = -1 ∨ D (G v) := by rcases (hO v hd).2 with c | c; exact Or.inl c; exact Or.inr c.1
  have hnv : ∀ x, D x → G x = v → x ≠ v := by
    intro x hx e2 e3
    subst e3
    rcases (hO x hx).2 with c | c
    · exact hv (e2 ▸ c)
    · have := c.2.2.1; rw [e2] at this; omega
  refine ⟨⟨hO', ?_, ?_⟩, hfr⟩
  · by_cases c : G v = -1
    · exact Or.inl c
    · refine Or.inr ⟨by rcases hGv with d | d; exact absurd d c; exact d, ?_⟩
      rcases hd2 with d | d
      · left
        rcases hV.2.2 v d with f | f
        · exact absurd f c
        · exact f
      · exact Or.inr d
  · intro hz n hn hne hbad
    -- n is not v: v is right now
    have hnn : n ≠ v := by
      intro e3
      subst e3
      apply hbad
      have rl : hs_rank (hs_u N n (hs_rank N (R' n) + 1)) (L' n) = hs_rank N (L' n) := by
        unfold hs_rank
        split
        · rfl
        · rcases hav'.1 with c | c
          · contradiction
          · exact hs_un (hnv _ c.1 c.2)
      have rr : hs_rank (hs_u N n (hs_rank N (R' n) + 1)) (R' n) = hs_rank N (R' n) := by
        unfold hs_rank
        split
        · rfl
        · rcases hav'.2.1 with c | c
          · contradiction
          · exact hs_un (hnv _ c.1 c.2)
      refine ⟨?_, ?_⟩
      · rw [rl, rr]
        rcases hs with ⟨rfl, rfl, c⟩ | ⟨rfl, rfl, c⟩
        · rw [hs_us, hs_us]
          exact Int32.lt_asymm (c hz)
        · exact c hz
      · rw [rr, hs_us]
    have eL : L' n = L n := by
      rcases hs with ⟨rfl, rfl, _⟩ | ⟨rfl, rfl, _⟩
      · exact hs_un hnn
      · rfl
    have eR : R' n = R n := by
      rcases hs with ⟨rfl, rfl, _⟩ | ⟨rfl, rfl, _⟩
      · exact hs_un hnn
      · rfl
    by_cases hp : n = G v
    · exact ⟨fun c => hm n hn (hp.trans c), Or.inr hp⟩
    · have han := (hO n hn).1 hne
      have hbad0 : ¬ hs_LK L R N n := by
        intro c
        apply hbad
        refine (hs_LK_eq eL eR (hs_un hnn) ?_ ?_).mpr c
        · rcases han.1 with d | d
          · exact Or.inl d
          · exact Or.inr (hs_un (fun x => hp (by rw [← x]; exact d.2.symm)))
        · rcases han.2.1 with d | d
          · exact Or.inl d
          · exact Or.inr (hs_un (fun x => hp (by rw [← x]; exact d.2.symm)))
      have b := (hK hz n hn hne hbad0).2
      rcases b with ⟨b1, b2⟩ | b
      · rcases hd2 with d | d
        · -- n is in V, below v
          by_cases hlt : k n < k v
          · have c := hV.2.1 v n d b1 hlt
            exact ⟨c.1, Or.inl ⟨b1, c.2⟩⟩
          · -- k n = k v: then v < n by neither; use chain from n
            have hkk : k n = k v := by omega
            exfalso
            exact hnn (hk n v hn hd hkk)
        · exact absurd b1 (d.1 n)
      · exact absurd b hnn
/-! the meld: t the tail, a and b what is still to be melded, Z the other roots -/
def hs_MI (z : Int) (D V Z : Int → Prop) (k G L R U N : Int → Int) (e t p a b : Int) : Prop :=
  hs_LO D k G L (hs_u R t (-1)) e ∧
  (a = -1 ∨ (D a ∧ G a = -1 ∧ (e = -1 ∨ k e < k a) ∧ (t = -1 ∨ k t < k a))) ∧
  (b = -1 ∨ (D b ∧ G b = -1 ∧ (e = -1 ∨ k e < k b) ∧ (t = -1 ∨ k t < k b))) ∧
  (a = b → a = -1) ∧
  (∀ n, D n → n ≠ a → n ≠ b → U n = G n) ∧
  hs_V D V k G e ∧ (∀ n, V n → t ≠ -1 ∧ k n ≤ k t) ∧ (t = -1 ∨ V t) ∧
  ((t = -1 ∧ p = -1) ∨ (t ≠ -1 ∧ D p ∧ G p = -1 ∧ p ≠ a ∧ p ≠ b)) ∧
  (∀ n, D n → G n = -1 → n = p ∨ n = a ∨ n = b ∨ Z n) ∧
  (∀ n, Z n → D n ∧ G n = -1 ∧ n ≠ a ∧ n ≠ b ∧ n ≠ p) ∧
  (z = 0 → ∀ n, D n → n ≠ e → ¬ hs_LK L R N n → V n)
theorem hs_MI_comm {z : Int} {D V Z : Int → Prop} {k G L R U N : Int → Int} {e t p a b : Int} (h : hs_MI z D V Z k G L R U N e t p a b) : hs_MI z D V Z k G L R U N e t p b a := by
  obtain ⟨h1, h2, h3, h4, h5, h6, h7, h8, h9, h10, h11, h12⟩ := h
  refine ⟨h1, h3, h2, fun x => ?_, fun n x y w => h5 n x w y, h6, h7, h8, ?_, ?_, ?_, h12⟩
  · have := h4 x.symm
    rw [x]; exact this
  · rcases h9 with c | ⟨c1, c2, c3, c4, c5⟩
    · exact Or.inl c
    · exact Or.inr ⟨c1, c2, c3, c5, c4⟩
  · intro n x y
    rcases h10 n x y with c | c | c | c
    · exact Or.inl c
    · exact Or.inr (Or.inr (Or.inl c))
    · exact Or.inr (Or.inl c)
    · exact Or.inr (Or.inr (Or.inr c))
  · intro n x
    have c := h11 n x
    exact ⟨c.1, c.2.1, c.2.2.2.1, c.2.2.1, c.2.2.2.2⟩
/-- the lesser root a goes below the tail; then the meld goes on with its right child -/
theorem hs_MI_step {z : Int} {D V Z : Int → Prop} {k G L R U N R1 : Int → Int} {e t p a b : Int} (hm : ∀ n, D n → n ≠ -1)
    (h : hs_MI z D V Z k G L R U N e t p a b) (ha : a ≠ -1) (hb : b ≠ -1) (lt : k a < k b)
    (hR : (t = -1 ∧ R1 = R) ∨ (t ≠ -1 ∧ R1 = hs_u R t a)) :
    hs_MI z D (fun n => V n ∨ n = a) Z k (hs_u (hs_u G (R a) (-1)) a t) L R1 (hs_u U a t) N e a (if t = -1 then a else p) (R a) b ∧ R1 a = R a ∧ hs_fr D R R1 ∧ D a ∧ (t = -1 ∨ (D t ∧ k t < k a)) ∧ (e = -1 ∨ k e < k a) ∧ (R a = -1 ∨ (D (R a) ∧ k a < k (R a))) := by
  obtain ⟨h1, h2, h3, h4, h5, h6, h7, h8, h9, h10, h11, h12⟩ := h
  obtain ⟨a1, a2, a3, a4⟩ : D a ∧ G a = -1 ∧ (e = -1 ∨ k e < k a) ∧ (t = -1 ∨ k t < k a) := by
    rcases h2 with c | c
    · exact absurd c ha
    · exact c
  obtain ⟨b1, b2, b3, b4⟩ : D b ∧ G b = -1 ∧ (e = -1 ∨ k e < k b) ∧ (t = -1 ∨ k t < k b) := by
    rcases h3 with c | c
    · exact absurd c hb
    · exact c
  have hab : a ≠ b := fun c => ha (h4 c)
  have hta : t ≠ a := by
    intro c
    rcases a4 with d | d
    · exact ha (c ▸ d)
    · rw [c] at d; omega
  have hae : a ≠ e := by
    intro c
    rcases a3 with d | d
    · exact ha (c.trans d)
    · rw [c] at d; omega
  have hDt : t = -1 ∨ D t := by
    rcases h8 with c | c
    · exact Or.inl c
    · exact Or.inr (h6.1 t c).1
  have eRa : R1 a = R a := by
    rcases hR with ⟨_, c⟩ | ⟨_, c⟩
    · rw [c]
    · rw [c]; exact hs_un (fun x => hta x.symm)
  have hoa := (h1 a a1).1 hae
  rw [hs_un (fun x => hta x.symm)] at hoa
  -- the right child of a
  have hra : R a = -1 ∨ (D (R a) ∧ G (R a) = a ∧ k a < k (R a)) := by
    rcases hoa.2.1 with c | c
    · exact Or.inl c
    · refine Or.inr ⟨c.1, c.2, ?_⟩
      rcases (h1 (R a) c.1).2 with d | d
      · exact absurd (c.2.symm.trans d) ha
      · rw [c.2] at d; exact d.2.2.1
  have hRaa : R a ≠ a := by
    intro c
    rcases hra with d | d
    · exact ha (c ▸ d)
    · rw [c] at d; omega
  have gA : hs_u (hs_u G (R a) (-1)) a t a = t := hs_us
  have gO : ∀ n, n ≠ a → n ≠ R a → hs_u (hs_u G (R a) (-1)) a t n = G n := fun n x y => by rw [hs_un x, hs_un y]
  have gR : ∀ n, n ≠ a → n = R a → hs_u (hs_u G (R a) (-1)) a t n = -1 := fun n x y => by rw [hs_un x, hs_ue y]
  have hbR : b ≠ R a := by
    intro c
    rcases hra with d | d
    · exact hb (c.trans d)
    · rw [← c, b2] at d
      exact ha d.2.1.symm
  have hpa : ∀ n, V n → n ≠ a ∧ n ≠ R a := by
    intro n hn
    have c := h7 n hn
    have d : k t < k a := by rcases a4 with d | d; exact absurd d c.1; exact d
    refine ⟨fun x => ?_, fun x => ?_⟩
    · rw [x] at c; omega
    · rcases hra with f | f
      · exact hm n (h6.1 n hn).1 (x.trans f)
      · rw [x] at c; omega
  have hZ : ∀ n, D n → G n = -1 → n ≠ R a := by
    intro n x y w
    rcases hra with f | f
    · exact hm n x (w.trans f)
    · rw [← w, y] at f
      exact ha f.2.1.symm
  have hR1 : ∀ n, n ≠ t → R1 n = R n := by
    intro n x
    rcases hR with ⟨_, c⟩ | ⟨_, c⟩
    · rw [c]
    · rw [c]; exact hs_un x
  refine ⟨⟨?_, ?_, ?_, ?_, ?_, ?_, ?_, ?_, ?_, ?_, ?_, ?_⟩, eRa, ?_, a1, ?_, a3, ?_⟩
  · -- the forest
    intro n hn
    have c := h1 n hn
    have hLn : n ≠ e → L n = -1 ∨ (D (L n) ∧ hs_u (hs_u G (R a) (-1)) a t (L n) = n) := by
      intro he
      rcases (c.1 he).1 with d | d
      · exact Or.inl d
      · refine Or.inr ⟨d.1, ?_⟩
        rw [gO _ ?_ ?_]
        · exact d.2
        · intro x; rw [x, a2] at d; exact hm n hn d.2.symm
        · intro x
          have y : a = n := by
            rcases hra with f | f
            · exact absurd (x.trans f) (hm _ d.1)
            · rw [← f.2.1, ← x]; exact d.2
          have w := (hoa.2.2 (by rw [y] at x ⊢; exact x))
          rw [y] at w
          exact hm _ d.1 w
    refine ⟨fun he => ⟨hLn he, ?_, ?_⟩, ?_⟩
    · by_cases ca : n = a
      · left; exact hs_ue ca
      · rw [hs_un ca]
        by_cases ct : n = t
        · right
          have ht : t ≠ -1 := fun x => hm n hn (ct.trans x)
          have : R1 n = a := by
            rcases hR with ⟨x, _⟩ | ⟨_, x⟩
            · exact absurd x ht
            · rw [x]; exact hs_ue ct
          rw [this]
          exact ⟨a1, gA.trans ct.symm⟩
        · rw [hR1 n ct]
          have d := (c.1 he).2.1
          rw [hs_un ct] at d
          rcases d with d | d
          · exact Or.inl d
          · refine Or.inr ⟨d.1, ?_⟩
            rw [gO _ ?_ ?_]
            · exact d.2
            · intro x; rw [x, a2] at d; exact hm n hn d.2.symm
            · intro x
              rcases hra with f | f
              · exact hm _ d.1 (x.trans f)
              · exact ca (by rw [← f.2.1, ← x]; exact d.2.symm)
    · intro x
      by_cases ca : n = a
      · rw [hs_ue ca] at x; exact x
      · rw [hs_un ca] at x
        by_cases ct : n = t
        · have ht : t ≠ -1 := fun y => hm n hn (ct.trans y)
          have : R1 n = a := by
            rcases hR with ⟨y, _⟩ | ⟨_, y⟩
            · exact absurd y ht
            · rw [y]; exact hs_ue ct
          rw [this] at x
          rcases (c.1 he).1 with d | d
          · exact d
          · rw [x, a2] at d; exact absurd d.2.symm (hm n hn)
        · rw [hR1 n ct] at x
          have d := (c.1 he).2.2
          rw [hs_un ct] at d
          exact d x
    · by_cases ca : n = a
      · rw [ca, gA]
        rcases a4 with d | d
        · exact Or.inl d
        · by_cases ht : t = -1
          · exact Or.inl ht
          · right
            have hVt : V t := by rcases h8 with f | f; exact absurd f ht; exact f
            refine ⟨(h6.1 t hVt).1, (h6.1 t hVt).2, d, Or.inr ?_⟩
            rw [hs_un hta]
            rcases hR with ⟨y, _⟩ | ⟨_, y⟩
            · exact absurd y ht
            · rw [y]; exact hs_us
      · by_cases cr : n = R a
        · exact Or.inl (gR n ca cr)
        · rw [gO n ca cr]
          rcases c.2 with d | ⟨d1, d2, d3, d4⟩
          · exact Or.inl d
          · refine Or.inr ⟨d1, d2, d3, ?_⟩
            rcases d4 with d4 | d4
            · exact Or.inl d4
            · right
              have gt : G n ≠ t := by
                intro x
                rw [x, hs_us] at d4
                exact hm n hn d4.symm
              rw [hs_un gt] at d4
              by_cases ga : G n = a
              · rw [ga] at d4; exact absurd d4.symm cr
              · rw [hs_un ga, hR1 _ gt]; exact d4
  · rcases hra with c | c
    · exact Or.inl c
    · refine Or.inr ⟨c.1, gR _ hRaa rfl, ?_, Or.inr c.2.2⟩
      rcases a3 with d | d
      · exact Or.inl d
      · right; omega
  · exact Or.inr ⟨b1, by rw [gO b (fun x => hab x.symm) hbR]; exact b2, b3, Or.inr lt⟩
  · intro x; exact absurd x.symm hbR
  · intro n hn c d
    by_cases ca : n = a
    · rw [hs_ue ca, ca, gA]
    · rw [hs_un ca, gO n ca c]
      exact h5 n hn ca d
  · refine ⟨?_, ?_, ?_⟩
    · intro n hn
      rcases hn with c | c
      · exact h6.1 n c
      · rw [c]; exact ⟨a1, hae⟩
    · intro n m hn hm' hlt
      rcases hn with c | c
      · have w := hpa n c
        rw [gO n w.1 w.2]
        rcases hm' with d | d
        · exact h6.2.1 n m c d hlt
        · have f := h7 n c
          rw [d] at hlt
          rcases a4 with g | g
          · exact absurd g f.1
          · omega
      · rw [c, gA]
        rcases hm' with d | d
        · exact h7 m d
        · rw [d, c] at hlt; omega
    · intro n hn
      rcases hn with c | c
      · have w := hpa n c
        rw [gO n w.1 w.2]
        rcases h6.2.2 n c with d | d
        · exact Or.inl d
        · exact Or.inr (Or.inl d)
      · rw [c, gA]
        rcases h8 with d | d
        · exact Or.inl d
        · exact Or.inr (Or.inl d)
  · intro n hn
    refine ⟨ha, ?_⟩
    rcases hn with c | c
    · have f := h7 n c
      rcases a4 with g | g
      · exact absurd g f.1
      · omega
    · rw [c]; omega
  · exact Or.inr (Or.inr rfl)
  · right
    by_cases ht : t = -1
    · rw [if_pos ht]
      exact ⟨ha, a1, gA.trans ht, fun x => hRaa x.symm, hab⟩
    · rw [if_neg ht]
      rcases h9 with c | ⟨_, c2, c3, c4, c5⟩
      · exact absurd c.1 ht
      · exact ⟨ha, c2, by rw [gO p c4 (hZ p c2 c3)]; exact c3, hZ p c2 c3, c5⟩
  · intro n hn c
    by_cases ca : n = a
    · rw [ca, gA] at c
      left; rw [if_pos c]; exact ca
    · by_cases cr : n = R a
      · exact Or.inr (Or.inl cr)
      · rw [gO n ca cr] at c
        rcases h10 n hn c with d | d | d | d
        · rcases h9 with f | f
          · exact absurd (d.trans f.2) (hm n hn)
          · left; rw [if_neg f.1]; exact d
        · exact absurd d ca
        · exact Or.inr (Or.inr (Or.inl d))
        · exact Or.inr (Or.inr (Or.inr d))
  · intro n hn
    have c := h11 n hn
    refine ⟨c.1, by rw [gO n c.2.2.1 (hZ n c.1 c.2.1)]; exact c.2.1, hZ n c.1 c.2.1, c.2.2.2.1, ?_⟩
    by_cases ht : t = -1
    · rw [if_pos ht]; exact c.2.2.1
    · rw [if_neg ht]; exact c.2.2.2.2
  · intro hz n hn hne hbad
    by_cases ct : n = t
    · left
      rcases h8 with d | d
      · exact absurd (ct.trans d) (hm n hn)
      · rw [ct]; exact d
    · left
      apply h12 hz n hn hne
      intro hk
      apply hbad
      unfold hs_LK at hk ⊢
      rw [hR1 n ct]
      exact hk
  · rcases hR with ⟨_, c⟩ | ⟨c, d⟩
    · rw [c]; exact hs_fr_refl
    · rw [d]
      rcases hDt with f | f
      · exact absurd f c
      · exact hs_fr_u f (Or.inr a1)
  · rcases hDt with f | f
    · exact Or.inl f
    · rcases a4 with g | g
      · exact Or.inl g
      · exact Or.inr ⟨f, g⟩
  · rcases hra with c | c
    · exact Or.inl c
    · exact Or.inr ⟨c.1, c.2.2⟩
/-- one of the two is used up: the other goes below the tail -/
theorem hs_MI_end {z : Int} {D V Z : Int → Prop} {k G L R U N : Int → Int} {e t p r : Int} (hm : ∀ n, D n → n ≠ -1)
    (h : hs_MI z D V Z k G L R U N e t p r (-1)) (ht : t ≠ -1) {U1 : Int → Int} (hU : (r = -1 ∧ U1 = U) ∨ (r ≠ -1 ∧ U1 = hs_u U r t)) :
    ∃ G1 : Int → Int, hs_LI z D V k G1 L (hs_u R t r) N e t ∧ hs_V D V k G1 e ∧ (∀ n, D n → U1 n = G1 n) ∧ D p ∧ G1 p = -1 ∧ (∀ n, D n → G1 n = -1 → n = p ∨ Z n) ∧ (∀ n, Z n → G1 n = -1 ∧ n ≠ p) ∧ (∀ n, n ≠ r → G1 n = G n) ∧ D t ∧ (r = -1 ∨ D r) := by
  obtain ⟨h1, h2, h3, h4, h5, h6, h7, h8, h9, h10, h11, h12⟩ := h
  have hVt : V t := by rcases h8 with f | f; exact absurd f ht; exact f
  have hDt := h6.1 t hVt
  obtain ⟨_, p2, p3, p4, p5⟩ : t ≠ -1 ∧ D p ∧ G p = -1 ∧ p ≠ r ∧ p ≠ -1 := by
    rcases h9 with c | c
    · exact absurd c.1 ht
    · exact c
  have hr : r = -1 ∨ (D r ∧ G r = -1 ∧ k t < k r) := by
    rcases h2 with c | ⟨c1, c2, _, c4⟩
    · exact Or.inl c
    · rcases c4 with d | d
      · exact absurd d ht
      · exact Or.inr ⟨c1, c2, d⟩
  have hVr : ∀ n, V n → n ≠ r := by
    intro n hn x
    have c := h7 n hn
    rcases hr with d | d
    · exact hm n (h6.1 n hn).1 (x.trans d)
    · rw [x] at c; omega
  refine ⟨hs_u G r t, ⟨?_, Or.inr ⟨hDt.1, Or.inl hVt⟩, ?_⟩, ?_, ?_, p2, ?_, ?_, ?_, fun n x => hs_un x, hDt.1, ?_⟩
  · intro n hn
    have c := h1 n hn
    have key : ∀ x, D x → G x = n → hs_u G r t x = n := by
      intro x hx y
      rw [hs_un]
      · exact y
      · intro w
        rcases hr with d | d
        · exact hm x hx (w.trans d)
        · rw [w, d.2.1] at y; exact hm n hn y.symm
    refine ⟨fun he => ⟨?_, ?_, ?_⟩, ?_⟩
    · rcases (c.1 he).1 with d | d
      · exact Or.inl d
      · exact Or.inr ⟨d.1, key _ d.1 d.2⟩
    · by_cases ct : n = t
      · rw [hs_ue ct]
        rcases hr with d | d
        · exact Or.inl d
        · exact Or.inr ⟨d.1, hs_us.trans ct.symm⟩
      · have d := (c.1 he).2.1
        rw [hs_un ct] at d ⊢
        rcases d with d | d
        · exact Or.inl d
        · exact Or.inr ⟨d.1, key _ d.1 d.2⟩
    · intro x
      by_cases ct : n = t
      · rw [hs_ue ct] at x
        rcases (c.1 he).1 with d | d
        · exact d
        · rcases hr with f | f
          · exact x.trans f
          · rw [x, f.2.1] at d; exact absurd d.2.symm (hm n hn)
      · have d := (c.1 he).2.2
        rw [hs_un ct] at d x
        exact d x
    · by_cases cr : n = r
      · rw [hs_ue cr]
        right
        refine ⟨hDt.1, hDt.2, ?_, Or.inr (by rw [hs_us, cr])⟩
        rcases hr with d | d
        · exact absurd (cr.trans d) (hm n hn)
        · rw [cr]; exact d.2.2
      · rw [hs_un cr]
        rcases c.2 with d | ⟨d1, d2, d3, d4⟩
        · exact Or.inl d
        · refine Or.inr ⟨d1, d2, d3, ?_⟩
          rcases d4 with d4 | d4
          · exact Or.inl d4
          · right
            have gt : G n ≠ t := by
              intro x
              rw [x, hs_us] at d4
              exact hm n hn d4.symm
            rw [hs_un gt] at d4 ⊢
            exact d4
  · intro hz n hn hne hbad
    refine ⟨ht, Or.inl ?_⟩
    have hV : V n := by
      by_cases ct : n = t
      · rw [ct]; exact hVt
      · apply h12 hz n hn hne
        intro hk
        apply hbad
        unfold hs_LK at hk ⊢
        rw [hs_un ct]
        exact hk
    exact ⟨hV, (h7 n hV).2⟩
  · refine ⟨h6.1, ?_, ?_⟩
    · intro n m hn hm' hlt
      rw [hs_un (hVr n hn)]
      exact h6.2.1 n m hn hm' hlt
    · intro n hn
      rw [hs_un (hVr n hn)]
      exact h6.2.2 n hn
  · intro n hn
    by_cases cr : n = r
    · rw [hs_ue cr]
      rcases hU with ⟨c, _⟩ | ⟨_, c⟩
      · exact absurd (cr.trans c) (hm n hn)
      · rw [c]; exact hs_ue cr
    · rw [hs_un cr]
      rcases hU with ⟨_, c⟩ | ⟨_, c⟩
      · rw [c]; exact h5 n hn cr (hm n hn)
      · rw [c, hs_un cr]; exact h5 n hn cr (hm n hn)
  · rw [hs_un p4]; exact p3
  · intro n hn c
    by_cases cr : n = r
    · rw [hs_ue cr] at c; exact absurd c ht
    · rw [hs_un cr] at c
      rcases h10 n hn c with d | d | d | d
      · exact Or.inl d
      · exact absurd d cr
      · exact absurd d (hm n hn)
      · exact Or.inr d
  · intro n hn
    have c := h11 n hn
    exact ⟨by rw [hs_un c.2.2.1]; exact c.2.1, c.2.2.2.2⟩
  · rcases hr with d | d
    · exact Or.inl d
    · exact Or.inr d.1
end HS03
