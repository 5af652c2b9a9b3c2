section HS39
/-! the public methods' own loops -/
theorem hs_free (h : Int → Int) : ∃ j, 0 ≤ j ∧ j ≤ 24 ∧ (∀ i, 0 ≤ i → i < j → h i ≠ -1) ∧ (j < 24 → h j = -1) := by
  have main : ∀ n : Nat, n ≤ 24 → (∃ j, 0 ≤ j ∧ j < (n : Int) ∧ (∀ i, 0 ≤ i → i < j → h i ≠ -1) ∧ h j = -1) ∨ (∀ i, 0 ≤ i → i < (n : Int) → h i ≠ -1) := by
    intro n
    induction n with
    | zero => intro _; exact Or.inr (fun i a b => by omega)
    | succ n ih =>
      intro hn
      rcases ih (by omega) with ⟨j, a, b, c, d⟩ | x
      · exact Or.inl ⟨j, a, by omega, c, d⟩
      · by_cases e : h (n : Int) = -1
        · exact Or.inl ⟨(n : Int), by omega, by omega, x, e⟩
        · refine Or.inr (fun i a b => ?_)
          by_cases f : i = (n : Int)
          · rw [f]; exact e
          · exact x i a (by omega)
  rcases main 24 (by omega) with ⟨j, a, b, c, d⟩ | x
  · exact ⟨j, a, by omega, c, fun _ => d⟩
  · exact ⟨24, by omega, by omega, x, fun y => by omega⟩
theorem hs_ins {post : Int32 → SX → Prop} {k h c S F P lr ll lR lu ln pr pc pn pb tr tc tn tu ni nn wi : Int → Int} {q y j : Int} (kr : hs_kr k) (hh : hs_rg h 24 (-1) 3) (hq : 0 ≤ q) (hq' : q ≤ 3) (y0 : -999 ≤ y) (y1 : y ≤ 999) (E : hs_EN (hs_K k) h S F P lr ll lR lu ln pr pc pn pb tr tc tn tu ni nn wi)
    (j0 : 0 ≤ j) (j1 : j ≤ 24) (hj : ∀ i, 0 ≤ i → i < j → h i ≠ -1) (hj2 : j < 24 → h j = -1) (hF : j = 24 → post (-2000) (hs_e k, hs_e h, hs_e c, hs_e S, hs_e F, hs_e P, hs_e lr, hs_e ll, hs_e lR, hs_e lu, hs_e ln, hs_e pr, hs_e pc, hs_e pn, hs_e pb, hs_e tr, hs_e tc, hs_e tn, hs_e tu, hs_e ni, hs_e nn, hs_e wi))
    (hK : j < 24 → ∀ S1 F1 P1 lr1 ll1 lR1 lu1 ln1 pr1 pc1 pn1 pb1 tr1 tc1 tn1 tu1 ni1 nn1 wi1 : Int → Int, hs_EN (hs_K (hs_u k j y)) (hs_u h j q) S1 F1 P1 lr1 ll1 lR1 lu1 ln1 pr1 pc1 pn1 pb1 tr1 tc1 tn1 tu1 ni1 nn1 wi1 → post (hs_i j) (hs_e (hs_u k j y), hs_e (hs_u h j q), hs_e (hs_u c q (c q + 1)), hs_e S1, hs_e F1, hs_e P1, hs_e lr1, hs_e ll1, hs_e lR1, hs_e lu1, hs_e ln1, hs_e pr1, hs_e pc1, hs_e pn1, hs_e pb1, hs_e tr1, hs_e tc1, hs_e tn1, hs_e tu1, hs_e ni1, hs_e nn1, hs_e wi1)) :
    ∃ n, wX_insert_20 post (hs_i q) (hs_i y) (hs_e k) (hs_e h) (hs_e c) (hs_e S) (hs_e F) (hs_e P) (hs_e lr) (hs_e ll) (hs_e lR) (hs_e lu) (hs_e ln) (hs_e pr) (hs_e pc) (hs_e pn) (hs_e pb) (hs_e tr) (hs_e tc) (hs_e tn) (hs_e tu) (hs_e ni) (hs_e nn) (hs_e wi) n 0 := by
  have loop : ∀ (n : Nat) (i : Int), 0 ≤ i → i ≤ j → j - i < n → wX_insert_20 post (hs_i q) (hs_i y) (hs_e k) (hs_e h) (hs_e c) (hs_e S) (hs_e F) (hs_e P) (hs_e lr) (hs_e ll) (hs_e lR) (hs_e lu) (hs_e ln) (hs_e pr) (hs_e pc) (hs_e pn) (hs_e pb) (hs_e tr) (hs_e tc) (hs_e tn) (hs_e tu) (hs_e ni) (hs_e nn) (hs_e wi) n (hs_i i) := by
    intro n
    induction n with
    | zero => intro i a b c; omega
    | succ n ih =>
      intro i i0 i1 hn
      refine hs_le 24 i (fun z => hF (by omega)) (fun z => ⟨hs_in i0 (by omega) (by decide), ?_⟩)
      have r := hh i i0 z
      rw [hs_get (A := h) i0 (by omega)]
      refine hs_eq (h i) (-1) (fun x => ?_) (fun x => nm_r (hs_1 i) (ih (i + 1) (by omega) ?_ (by omega)))
      · have e : i = j := by
          apply Classical.byContradiction
          intro v
          exact hj i i0 (by omega) x
        rw [e]
        exact hs_attach kr hq hq' j0 (by omega) (by rw [e] at x; omega) y0 y1 E (hK (by omega))
      · have : i ≠ j := by
          intro e
          exact x (by rw [e]; exact hj2 (by omega))
        omega
  refine ⟨26, ?_⟩
  rw [← hs_l0]
  exact loop 26 0 (by omega) j0 (by omega)
theorem hs_yins {post : Int32 → SY → Prop} {k h Q : Int → Int} {q y j : Int} (hh : hs_rg h 24 (-1) 3) (hQ : ∀ i, 0 ≤ i → i < 24 → Q i = h i + 1)
    (j0 : 0 ≤ j) (j1 : j ≤ 24) (hj : ∀ i, 0 ≤ i → i < j → h i ≠ -1) (hj2 : j < 24 → h j = -1) (hF : j = 24 → post (-2000) (hs_e Q, hs_e k))
    (hK : j < 24 → post (hs_i j) (hs_e (hs_u Q j (q + 1)), hs_e (hs_u k j y))) :
    ∃ n, wY_insert_22 post (hs_i q) (hs_i y) (hs_e Q) (hs_e k) n 0 := by
  have loop : ∀ (n : Nat) (i : Int), 0 ≤ i → i ≤ j → j - i < n → wY_insert_22 post (hs_i q) (hs_i y) (hs_e Q) (hs_e k) n (hs_i i) := by
    intro n
    induction n with
    | zero => intro i a b c; omega
    | succ n ih =>
      intro i i0 i1 hn
      refine hs_le 24 i (fun z => hF (by omega)) (fun z => ⟨hs_in i0 (by omega) (by decide), ?_⟩)
      have r := hh i i0 z
      rw [hs_get (A := Q) i0 (by omega), hQ i i0 z]
      refine hs_eq (h i + 1) 0 (fun x => ?_) (fun x => nm_r (hs_1 i) (ih (i + 1) (by omega) ?_ (by omega)))
      · have e : i = j := by
          apply Classical.byContradiction
          intro v
          exact hj i i0 (by omega) (by omega)
        rw [e]
        exact hs_wr j (q + 1) rfl (hs_1 q) j0 (by omega) (by decide) (hs_wr j y rfl rfl j0 (by omega) (by decide) (hK (by omega)))
      · have : i ≠ j := by
          intro e
          have := hj2 (by omega)
          rw [e] at x
          omega
        omega
  refine ⟨26, ?_⟩
  rw [← hs_l0]
  exact loop 26 0 (by omega) j0 (by omega)
theorem hs_key {k : Int → Int} {r i : Int} (r0 : 0 ≤ r) (r1 : r < 24) (i0 : 0 ≤ i) (i1 : i < 24) (h : hs_K k r ≤ hs_K k i) : k r ≤ k i := by
  unfold hs_K at h
  omega
theorem hs_tk {post : Int32 → SX → Prop} {k h0 : Int → Int} {q l : Int} (kr : hs_kr k) (hh : hs_rg h0 24 (-1) 3) (hq : 0 ≤ q) (hq' : q ≤ 3) (hl : -2147483648 ≤ l ∧ l < 2147483648)
    (hK : ∀ h c S F P lr ll lR lu ln pr pc pn pb tr tc tn tu ni nn wi : Int → Int, hs_EN (hs_K k) h S F P lr ll lR lu ln pr pc pn pb tr tc tn tu ni nn wi → (∀ i, 0 ≤ i → i < 24 → h i = if h0 i = q ∧ k i ≤ l then -1 else h0 i) → (∀ p, 0 ≤ p → p ≤ 3 → c p = hs_c h p) → post (hs_i (hs_c h0 q - hs_c h q)) (hs_e k, hs_e h, hs_e c, hs_e S, hs_e F, hs_e P, hs_e lr, hs_e ll, hs_e lR, hs_e lu, hs_e ln, hs_e pr, hs_e pc, hs_e pn, hs_e pb, hs_e tr, hs_e tc, hs_e tn, hs_e tu, hs_e ni, hs_e nn, hs_e wi)) :
    ∀ (n : Nat) (h c S F P lr ll lR lu ln pr pc pn pb tr tc tn tu ni nn wi : Int → Int), hs_EN (hs_K k) h S F P lr ll lR lu ln pr pc pn pb tr tc tn tu ni nn wi → (∀ i, 0 ≤ i → i < 24 → h i = h0 i ∨ (h0 i = q ∧ k i ≤ l ∧ h i = -1)) → (∀ p, 0 ≤ p → p ≤ 3 → c p = hs_c h p) → hs_c h q < n →
    wX_takeUpTo_16 post (hs_i q) (hs_i l) n (hs_i (hs_c h0 q - hs_c h q)) (hs_i (hs_c h0 q - hs_c h q)) (hs_e k) (hs_e h) (hs_e c) (hs_e S) (hs_e F) (hs_e P) (hs_e lr) (hs_e ll) (hs_e lR) (hs_e lu) (hs_e ln) (hs_e pr) (hs_e pc) (hs_e pn) (hs_e pb) (hs_e tr) (hs_e tc) (hs_e tn) (hs_e tu) (hs_e ni) (hs_e nn) (hs_e wi) := by
  intro n
  induction n with
  | zero =>
    intro h c S F P lr ll lR lu ln pr pc pn pb tr tc tn tu ni nn wi _ _ _ hn
    have := hs_c_r h q
    omega
  | succ n ih =>
    intro h c S F P lr ll lR lu ln pr pc pn pb tr tc tn tu ni nn wi E hH hc hn
    have c0 := hs_c_r h0 q
    have c1 := hs_c_r h q
    have le : hs_c h q ≤ hs_c h0 q := by
      refine hs_sum_le 24 fun j a b => ?_
      try dsimp only
      by_cases x : h j = q
      · rw [if_pos x]
        rcases hH j a (by omega) with y | y
        · rw [if_pos (by rw [← y]; exact x)]; omega
        · rw [if_pos y.1]; omega
      · rw [if_neg x]; split <;> omega
    have fin : (∀ i, 0 ≤ i → i < 24 → h i = q → ¬ k i ≤ l) → post (hs_i (hs_c h0 q - hs_c h q)) (hs_e k, hs_e h, hs_e c, hs_e S, hs_e F, hs_e P, hs_e lr, hs_e ll, hs_e lR, hs_e lu, hs_e ln, hs_e pr, hs_e pc, hs_e pn, hs_e pb, hs_e tr, hs_e tc, hs_e tn, hs_e tu, hs_e ni, hs_e nn, hs_e wi) := by
      intro z
      refine hK h c S F P lr ll lR lu ln pr pc pn pb tr tc tn tu ni nn wi E (fun i a b => ?_) hc
      rcases hH i a b with y | y
      · by_cases x : h0 i = q ∧ k i ≤ l
        · exact absurd x.2 (z i a b (y.trans x.1))
        · rw [if_neg x]; exact y
      · rw [if_pos ⟨y.1, y.2.1⟩]; exact y.2.2
    refine hs_le 24 (hs_c h0 q - hs_c h q) (fun z => fin (fun i a b e => ?_)) (fun z => ?_)
    · have := hs_c_pos (H := h) (q := q) a b e
      omega
    · refine hs_firstBy (e := 0) kr hq hq' (by omega) (by omega) E (fun r m => ?_)
      have rb : -1 ≤ r ∧ r < 24 := by
        rcases m with x | x
        · omega
        · omega
      refine hs_eq r (-1) (fun x => fin (fun i a b e => ?_)) (fun x => ?_)
      · rcases m with y | y
        · exact absurd e (y.2 i a b)
        · omega
      · obtain ⟨r0, r1, r2, r3⟩ := m.resolve_left (fun y => x y.1)
        have kb := kr r r0 r1
        refine ⟨hs_in r0 (by omega) (by decide), ?_⟩
        rw [hs_get (A := k) r0 (by omega)]
        refine hs_le (k r) l (fun y => ?_) (fun y => fin (fun i a b e v => ?_))
        · have hr0 : h0 r = q := by
            rcases hH r r0 r1 with u | u
            · rw [← u]; exact r2
            · exact u.1
          refine hs_detach kr r0 r1 (by omega) (by omega) E ?_
          intro S1 F1 P1 lr1 ll1 lR1 lu1 ln1 pr1 pc1 pn1 pb1 tr1 tc1 tn1 tu1 ni1 nn1 wi1 E1
          have cd : hs_c (hs_u h r (-1)) q = hs_c h q - 1 := by
            rw [hs_c_upd h r0 r1, if_neg (by omega), if_pos r2]; omega
          have := ih (hs_u h r (-1)) (hs_u c (h r) (c (h r) - 1)) S1 F1 P1 lr1 ll1 lR1 lu1 ln1 pr1 pc1 pn1 pb1 tr1 tc1 tn1 tu1 ni1 nn1 wi1 E1 (fun i a b => ?_) (fun p p0 p1 => ?_) (by omega)
          · rw [cd] at this
            rw [show hs_c h0 q - (hs_c h q - 1) = hs_c h0 q - hs_c h q + 1 by omega] at this
            exact nm_r (hs_1 _) (nm_r (hs_1 _) this)
          · by_cases e : i = r
            · rw [hs_ue e, e]; exact Or.inr ⟨hr0, y, rfl⟩
            · rw [hs_un e]; exact hH i a b
          · rw [hs_c_upd h r0 r1, if_neg (by omega)]
            by_cases e : p = h r
            · rw [hs_ue e, if_pos e.symm, ← e, hc p p0 p1]; omega
            · rw [hs_un e, if_neg (fun t => e t.symm), hc p p0 p1]; omega
        · have := hs_key r0 r1 a b (r3 i a b e)
          omega
theorem hs_sc {post : Int32 → Prop} {k h c S F P lr ll lR lu ln pr pc pn pb tr tc tn tu ni nn wi : Int → Int} {q t : Int} (kr : hs_kr k) (hh : hs_rg h 24 (-1) 3) (hq : 0 ≤ q) (hq' : q ≤ 3) (ht : -1 ≤ t ∧ t < 24)
    (hK : ∀ r, hs_mw (hs_K k) h q t (-1) r 24 → (r = -1 → post (-3000)) ∧ (r ≠ -1 → post (hs_i r))) : ∃ n, wX_second_23 post (hs_i q) (hs_i t) (hs_e k) (hs_e h) (hs_e c) (hs_e S) (hs_e F) (hs_e P) (hs_e lr) (hs_e ll) (hs_e lR) (hs_e lu) (hs_e ln) (hs_e pr) (hs_e pc) (hs_e pn) (hs_e pb) (hs_e tr) (hs_e tc) (hs_e tn) (hs_e tu) (hs_e ni) (hs_e nn) (hs_e wi) n (-1) 0 := by
  have loop : ∀ (n : Nat) (m i : Int), hs_mw (hs_K k) h q t (-1) m i → 0 ≤ i → i ≤ 24 → 24 - i < n → wX_second_23 post (hs_i q) (hs_i t) (hs_e k) (hs_e h) (hs_e c) (hs_e S) (hs_e F) (hs_e P) (hs_e lr) (hs_e ll) (hs_e lR) (hs_e lu) (hs_e ln) (hs_e pr) (hs_e pc) (hs_e pn) (hs_e pb) (hs_e tr) (hs_e tc) (hs_e tn) (hs_e tu) (hs_e ni) (hs_e nn) (hs_e wi) n (hs_i m) (hs_i i) := by
    intro n
    induction n with
    | zero => intro m i _ a b c; omega
    | succ n ih =>
      intro m i hm i0 i1 hn
      have mb : -1 ≤ m ∧ m < 24 := by
        rcases hm with x | x
        · omega
        · omega
      refine hs_le 24 i (fun z => ?_) (fun z => ⟨hs_in i0 (by omega) (by decide), ?_⟩)
      · have e : i = 24 := by omega
        rw [e] at hm
        have g := hK m hm
        exact hs_eq m (-1) g.1 g.2
      · have r := hh i i0 z
        have skip : (h i = q → i = t) → hs_mw (hs_K k) h q t (-1) m (i + 1) := by
          intro hs
          rcases hm with x | x
          · refine Or.inl ⟨x.1, fun j a b c => ?_⟩
            by_cases e : j = i
            · rw [e] at c ⊢; exact hs c
            · exact x.2 j a (by omega) c
          · refine Or.inr ⟨x.1, by omega, x.2.2.1, x.2.2.2.1, fun j a b c d => ?_⟩
            by_cases e : j = i
            · rw [e] at c d; exact absurd (hs c) d
            · exact x.2.2.2.2 j a (by omega) c d
        rw [hs_get (A := h) i0 (by omega)]
        refine hs_eq (h i) q (fun y => hs_eq i t (fun x => nm_r (hs_1 i) (ih m (i + 1) (skip (fun _ => x)) (by omega) (by omega) (by omega))) (fun x => ?_)) (fun y => nm_r (hs_1 i) (ih m (i + 1) (skip (fun x => absurd x y)) (by omega) (by omega) (by omega)))
        refine hs_bet kr mb.1 mb.2 (by omega) z (nm_r (hs_1 i) (ih _ (i + 1) ?_ (by omega) (by omega) (by omega)))
        have le := hs_bt_le (K := hs_K k) (x := m) (y := i)
        have g := le.2 (by omega)
        right
        have rg : 0 ≤ hs_bt (hs_K k) m i ∧ hs_bt (hs_K k) m i < i + 1 ∧ h (hs_bt (hs_K k) m i) = q ∧ hs_bt (hs_K k) m i ≠ t := by
          rcases hs_bt_r (K := hs_K k) (x := m) (y := i) with e | e
          · rcases hm with v | v
            · rw [e] at g; exact absurd v.1 g.1
            · rw [e]; exact ⟨v.1, by omega, v.2.2.1, v.2.2.2.1⟩
          · rw [e]; exact ⟨i0, by omega, y, x⟩
        refine ⟨rg.1, rg.2.1, rg.2.2.1, rg.2.2.2, fun j a b c d => ?_⟩
        by_cases e : j = i
        · rw [e]; exact g.2
        · rcases hm with v | v
          · exact absurd (v.2 j a (by omega) c) d
          · have := v.2.2.2.2 j a (by omega) c d
            have := (le.1 (by omega)).2
            omega
  refine ⟨26, ?_⟩
  rw [← hs_lm1, ← hs_l0]
  exact loop 26 (-1) 0 (Or.inl ⟨rfl, fun j a b => by omega⟩) (by omega) (by omega) (by omega)
theorem hs_ag {post : Int32 → Prop} {k h c S F P lr ll lR lu ln pr pc pn pb tr tc tn tu ni nn wi : Int → Int} {e f : Int} (kr : hs_kr k) (e0 : 0 ≤ e) (e1 : e ≤ 6) (f0 : 0 ≤ f) (f1 : f ≤ 6) (E : hs_EN (hs_K k) h S F P lr ll lR lu ln pr pc pn pb tr tc tn tu ni nn wi) (hp : post 1) : ∃ n, wX_agree_18 post (hs_i e) (hs_i f) (hs_e k) (hs_e h) (hs_e c) (hs_e S) (hs_e F) (hs_e P) (hs_e lr) (hs_e ll) (hs_e lR) (hs_e lu) (hs_e ln) (hs_e pr) (hs_e pc) (hs_e pn) (hs_e pb) (hs_e tr) (hs_e tc) (hs_e tn) (hs_e tu) (hs_e ni) (hs_e nn) (hs_e wi) n 0 := by
  have loop : ∀ (n : Nat) (q : Int), 0 ≤ q → q ≤ 4 → 4 - q < n → wX_agree_18 post (hs_i e) (hs_i f) (hs_e k) (hs_e h) (hs_e c) (hs_e S) (hs_e F) (hs_e P) (hs_e lr) (hs_e ll) (hs_e lR) (hs_e lu) (hs_e ln) (hs_e pr) (hs_e pc) (hs_e pn) (hs_e pb) (hs_e tr) (hs_e tc) (hs_e tn) (hs_e tu) (hs_e ni) (hs_e nn) (hs_e wi) n (hs_i q) := by
    intro n
    induction n with
    | zero => intro q a b c; omega
    | succ n ih =>
      intro q q0 q1 hn
      refine hs_le 4 q (fun _ => hp) (fun z => hs_firstBy kr q0 (by omega) e0 e1 E (fun r m => hs_firstBy kr q0 (by omega) f0 f1 E (fun r' m' => ?_)))
      rw [hs_mn_uniq (hs_K_inj k) m m']
      exact br_t rfl (nm_r (hs_1 q) (ih (q + 1) (by omega) (by omega) (by omega)))
  refine ⟨6, ?_⟩
  rw [← hs_l0]
  exact loop 6 0 (by omega) (by omega) (by omega)
end HS39
