/-- the same keys on both sides; a queue's number is one more on the reference's; the counts and all seven engines are as they must be -/
def i_Rel (_ : Nat) (u : SX) (v : SY) : Prop := ∃ k h c S F P lr ll lR lu ln pr pc pn pb tr tc tn tu ni nn wi Q : Int → Int, u = (hs_e k, hs_e h, hs_e c, hs_e S, hs_e F, hs_e P, hs_e lr, hs_e ll, hs_e lR, hs_e lu, hs_e ln, hs_e pr, hs_e pc, hs_e pn, hs_e pb, hs_e tr, hs_e tc, hs_e tn, hs_e tu, hs_e ni, hs_e nn, hs_e wi) ∧ v = (hs_e Q, hs_e k) ∧ hs_kr k ∧ hs_rg h 24 (-1) 3 ∧ (∀ q, 0 ≤ q → q ≤ 3 → c q = hs_c h q) ∧ hs_EN (hs_K k) h S F P lr ll lR lu ln pr pc pn pb tr tc tn tu ni nn wi ∧ (∀ i, 0 ≤ i → i < 24 → Q i = h i + 1)
theorem i_up {k : Nat} {u : SX} {v : SY} (h : i_Rel k u v) : i_Rel (k + 3) u v := h
theorem hs_mk {z : Nat} {k h c S F P lr ll lR lu ln pr pc pn pb tr tc tn tu ni nn wi Q : Int → Int} (kr : hs_kr k) (hh : hs_rg h 24 (-1) 3) (hc : ∀ q, 0 ≤ q → q ≤ 3 → c q = hs_c h q) (E : hs_EN (hs_K k) h S F P lr ll lR lu ln pr pc pn pb tr tc tn tu ni nn wi) (hQ : ∀ i, 0 ≤ i → i < 24 → Q i = h i + 1) :
    i_Rel z (hs_e k, hs_e h, hs_e c, hs_e S, hs_e F, hs_e P, hs_e lr, hs_e ll, hs_e lR, hs_e lu, hs_e ln, hs_e pr, hs_e pc, hs_e pn, hs_e pb, hs_e tr, hs_e tc, hs_e tn, hs_e tu, hs_e ni, hs_e nn, hs_e wi) (hs_e Q, hs_e k) := ⟨k, h, c, S, F, P, lr, ll, lR, lu, ln, pr, pc, pn, pb, tr, tc, tn, tu, ni, nn, wi, Q, rfl, rfl, kr, hh, hc, E, hQ⟩
theorem i_vc0 : wpX_init (fun u => wpY_init (fun v => i_Rel 0 u v)) := by
  unfold wpX_init
  refine ⟨26, ?_⟩
  rw [hs_zero, ← hs_l0]
  refine hs_in182 (fun h ni nn L R T W a b c d e => ?_) 26 _ _ _ 0 (fun j x y => by omega) (by omega) (by omega) (by omega)
  have E := hs_EN0 (K := hs_K (fun _ => 0)) a b c d e
  unfold wpY_init
  rw [hs_zero]
  refine hs_mk (fun i _ _ => by omega) (fun i x y => by rw [(a i x y).1]; omega) E.2 E.1 (fun i x y => ?_)
  rw [(a i x y).1]; rfl
/-- after a detach -/
theorem hs_c_det {h c : Int → Int} {x : Int} (x0 : 0 ≤ x) (x1 : x < 24) (hx : 0 ≤ h x) (hc : ∀ q, 0 ≤ q → q ≤ 3 → c q = hs_c h q) : ∀ q, 0 ≤ q → q ≤ 3 → hs_u c (h x) (c (h x) - 1) q = hs_c (hs_u h x (-1)) q := by
  intro q q0 q1
  rw [hs_c_upd h x0 x1, if_neg (by omega)]
  by_cases e : q = h x
  · rw [hs_ue e, if_pos e.symm, ← e, hc q q0 q1]; omega
  · rw [hs_un e, if_neg (fun t => e t.symm), hc q q0 q1]; omega
theorem hs_c_att {h c : Int → Int} {x p : Int} (x0 : 0 ≤ x) (x1 : x < 24) (hx : ¬ 0 ≤ h x) (hc : ∀ q, 0 ≤ q → q ≤ 3 → c q = hs_c h q) : ∀ q, 0 ≤ q → q ≤ 3 → hs_u c p (c p + 1) q = hs_c (hs_u h x p) q := by
  intro q q0 q1
  rw [hs_c_upd h x0 x1, if_neg (by omega : ¬ h x = q)]
  by_cases e : q = p
  · rw [hs_ue e, if_pos e.symm, ← e, hc q q0 q1]; omega
  · rw [hs_un e, if_neg (fun t => e t.symm), hc q q0 q1]; omega
theorem hs_rg_u {h : Int → Int} {x v : Int} (hh : hs_rg h 24 (-1) 3) (v0 : -1 ≤ v) (v1 : v ≤ 3) : hs_rg (hs_u h x v) 24 (-1) 3 := by
  intro j a b
  by_cases e : j = x
  · rw [hs_ue e]; exact ⟨v0, v1⟩
  · rw [hs_un e]; exact hh j a b
theorem hs_kr_u {k : Int → Int} {x v : Int} (kr : hs_kr k) (v0 : -999 ≤ v) (v1 : v ≤ 999) : hs_kr (hs_u k x v) := by
  intro j a b
  by_cases e : j = x
  · rw [hs_ue e]; exact ⟨v0, v1⟩
  · rw [hs_un e]; exact kr j a b
theorem i_vc_insert {k : Nat} {u : SX} {v : SY} (I : i_Rel k u v) (hk : k + 3 ≤ 1536) (v1 : Int32) (v2 : Int32) : wpX_insert (fun r u' => wpY_insert (fun r' v' => r' = r ∧ i_Rel (k + 3) u' v') v v1 v2) u v1 v2 := by
  have J : i_Rel (k + 3) u v := i_up I
  obtain ⟨kk, h, c, S, F, P, lr, ll, lR, lu, ln, pr, pc, pn, pb, tr, tc, tn, tu, ni, nn, wi, Q, rfl, rfl, kr, hh, hc, E, hQ⟩ := I
  obtain ⟨q, q0, q1, rfl⟩ := hs_of v1
  obtain ⟨y, y0, y1, rfl⟩ := hs_of v2
  have bad : ¬ ((0 ≤ q ∧ q ≤ 3) ∧ (-999 ≤ y ∧ y ≤ 999)) → wpY_insert (fun r' v' => r' = -1000 ∧ i_Rel (k + 3) (hs_e kk, hs_e h, hs_e c, hs_e S, hs_e F, hs_e P, hs_e lr, hs_e ll, hs_e lR, hs_e lu, hs_e ln, hs_e pr, hs_e pc, hs_e pn, hs_e pb, hs_e tr, hs_e tc, hs_e tn, hs_e tu, hs_e ni, hs_e nn, hs_e wi) v') (hs_e Q, hs_e kk) (hs_i q) (hs_i y) := by
    intro hn
    unfold wpY_insert
    dsimp only
    exact hs_yQ ⟨q0, q1⟩ (fun a b => br_f (by decide) (hs_yK ⟨y0, y1⟩ (fun x z => absurd ⟨⟨a, b⟩, x, z⟩ hn) (fun _ => br_t rfl ⟨rfl, J⟩))) (fun _ => br_t rfl ⟨rfl, J⟩)
  unfold wpX_insert
  dsimp only
  refine hs_isQ ⟨q0, q1⟩ (fun a b => br_f (by decide) (hs_isK ⟨y0, y1⟩ (fun x z => br_f (by decide) ?_) (fun hn => br_t rfl (bad (fun t => hn t.2))))) (fun hn => br_t rfl (bad (fun t => hn t.1)))
  obtain ⟨j, j0, j1, j2, j3⟩ := hs_free h
  have go : ∀ {A : Int32} {post : Int32 → SY → Prop}, (∃ n, wY_insert_22 post (hs_i q) (hs_i y) (hs_e Q) (hs_e kk) n 0) → wpY_insert post (hs_e Q, hs_e kk) (hs_i q) (hs_i y) := by
    intro A post hx
    unfold wpY_insert
    dsimp only
    exact hs_yQ ⟨q0, q1⟩ (fun _ _ => br_f (by decide) (hs_yK ⟨y0, y1⟩ (fun _ _ => br_f (by decide) hx) (fun t => absurd ⟨x, z⟩ t))) (fun t => absurd ⟨a, b⟩ t)
  refine hs_ins kr hh a b x z E j0 j1 j2 j3 (fun e => go (A := 0) (hs_yins hh hQ j0 j1 j2 j3 (fun _ => ⟨rfl, J⟩) (fun t => absurd e (by omega)))) (fun e S1 F1 P1 lr1 ll1 lR1 lu1 ln1 pr1 pc1 pn1 pb1 tr1 tc1 tn1 tu1 ni1 nn1 wi1 E1 => go (A := 0) (hs_yins hh hQ j0 j1 j2 j3 (fun t => absurd t (by omega)) (fun _ => ⟨rfl, ?_⟩)))
  refine hs_mk (hs_kr_u kr x z) (hs_rg_u hh (by omega) b) (hs_c_att j0 e (by rw [j3 e]; omega) hc) E1 (fun i i0 i1 => ?_)
  by_cases t : i = j
  · rw [hs_ue t, hs_ue t]
  · rw [hs_un t, hs_un t]; exact hQ i i0 i1
theorem i_vc_first {k : Nat} {u : SX} {v : SY} (I : i_Rel k u v) (hk : k + 3 ≤ 1536) (v1 : Int32) (v2 : Int32) : wpX_first (fun r => wpY_first (fun r' => r' = r ∧ i_Rel (k + 3) u v) v v1 v2) u v1 v2 := by
  have J : i_Rel (k + 3) u v := i_up I
  obtain ⟨kk, h, c, S, F, P, lr, ll, lR, lu, ln, pr, pc, pn, pb, tr, tc, tn, tu, ni, nn, wi, Q, rfl, rfl, kr, hh, hc, E, hQ⟩ := I
  obtain ⟨e, e0, e1, rfl⟩ := hs_of v1
  obtain ⟨q, q0, q1, rfl⟩ := hs_of v2
  have bad : ¬ ((0 ≤ q ∧ q ≤ 3) ∧ (0 ≤ e ∧ e ≤ 6)) → wpY_first (fun r' => r' = -1000 ∧ i_Rel (k + 3) (hs_e kk, hs_e h, hs_e c, hs_e S, hs_e F, hs_e P, hs_e lr, hs_e ll, hs_e lR, hs_e lu, hs_e ln, hs_e pr, hs_e pc, hs_e pn, hs_e pb, hs_e tr, hs_e tc, hs_e tn, hs_e tu, hs_e ni, hs_e nn, hs_e wi) (hs_e Q, hs_e kk)) (hs_e Q, hs_e kk) (hs_i e) (hs_i q) := by
    intro hn
    unfold wpY_first
    dsimp only
    exact hs_lt e 0 (fun _ => ⟨rfl, J⟩) (fun a => hs_lt 6 e (fun _ => ⟨rfl, J⟩) (fun b => hs_yQ ⟨q0, q1⟩ (fun x z => absurd ⟨⟨x, z⟩, a, b⟩ hn) (fun _ => br_t rfl ⟨rfl, J⟩)))
  unfold wpX_first
  dsimp only
  refine hs_isQ ⟨q0, q1⟩ (fun a b => br_f (by decide) (hs_isE ⟨e0, e1⟩ (fun x z => br_f (by decide) (hs_firstBy kr a b x z E (fun r m => ?_))) (fun hn => br_t rfl (bad (fun t => hn t.2))))) (fun hn => br_t rfl (bad (fun t => hn t.1)))
  have mb : -1 ≤ r ∧ r < 24 := by
    rcases m with t | t <;> omega
  have go : ∀ A : Int32, A = (if r = -1 then hs_i (-3000) else hs_i r) → wpY_first (fun r' => r' = A ∧ i_Rel (k + 3) (hs_e kk, hs_e h, hs_e c, hs_e S, hs_e F, hs_e P, hs_e lr, hs_e ll, hs_e lR, hs_e lu, hs_e ln, hs_e pr, hs_e pc, hs_e pn, hs_e pb, hs_e tr, hs_e tc, hs_e tn, hs_e tu, hs_e ni, hs_e nn, hs_e wi) (hs_e Q, hs_e kk)) (hs_e Q, hs_e kk) (hs_i e) (hs_i q) := by
    intro A hA
    unfold wpY_first
    dsimp only
    refine hs_lt e 0 (fun t => absurd t (by omega)) (fun _ => hs_lt 6 e (fun t => absurd t (by omega)) (fun _ => hs_yQ ⟨q0, q1⟩ (fun _ _ => br_f (by decide) ?_) (fun t => absurd ⟨a, b⟩ t)))
    refine hs_yL (w := -3000) kr hh hQ a b (by omega) ?_
    intro r' m'
    refine ⟨?_, J⟩
    rw [hA]
    rcases hs_mw_uniq (hs_K_inj kk) (fun j _ _ => Iff.rfl) (hs_mn_mw (w := -3000) (by omega) m) m' with t | t
    · rw [t.1, t.2, if_pos rfl]
    · rw [t.2.2, if_neg (by omega)]
  refine hs_eq r (-1) (fun t => go _ ?_) (fun t => go _ ?_)
  · rw [if_pos t]; decide
  · rw [if_neg t]
theorem i_vc_take {k : Nat} {u : SX} {v : SY} (I : i_Rel k u v) (hk : k + 3 ≤ 1536) (v1 : Int32) : wpX_take (fun r u' => wpY_take (fun r' v' => r' = r ∧ i_Rel (k + 3) u' v') v v1) u v1 := by
  have J : i_Rel (k + 3) u v := i_up I
  obtain ⟨kk, h, c, S, F, P, lr, ll, lR, lu, ln, pr, pc, pn, pb, tr, tc, tn, tu, ni, nn, wi, Q, rfl, rfl, kr, hh, hc, E, hQ⟩ := I
  obtain ⟨q, q0, q1, rfl⟩ := hs_of v1
  unfold wpX_take
  dsimp only
  refine hs_isQ ⟨q0, q1⟩ (fun a b => br_f (by decide) (hs_firstBy (e := 0) kr a b (by omega) (by omega) E (fun r m => ?_))) (fun hn => br_t rfl ?_)
  · have mb : -1 ≤ r ∧ r < 24 := by
      rcases m with t | t <;> omega
    have go : ∀ post : Int32 → SY → Prop, (r = -1 → post (-3000) (hs_e Q, hs_e kk)) → (r ≠ -1 → post (hs_i r) (hs_e (hs_u Q r 0), hs_e kk)) → wpY_take post (hs_e Q, hs_e kk) (hs_i q) := by
      intro post x y
      unfold wpY_take
      dsimp only
      refine hs_yQ ⟨q0, q1⟩ (fun _ _ => br_f (by decide) (hs_yL (w := -3000) kr hh hQ a b (by omega) (fun r' m' => ?_))) (fun t => absurd ⟨a, b⟩ t)
      rcases hs_mw_uniq (hs_K_inj kk) (fun j _ _ => Iff.rfl) (hs_mn_mw (w := -3000) (by omega) m) m' with t | t
      · rw [t.2]
        exact br_t (by decide) (x t.1)
      · rw [t.2.2]
        exact hs_lt r 0 (fun z => absurd z (by omega)) (fun _ => hs_wr r 0 rfl hs_l0.symm t.1 (by omega) (by decide) (y (by omega)))
    refine hs_eq r (-1) (fun t => go _ (fun _ => ⟨rfl, J⟩) (fun z => absurd t z)) (fun t => ?_)
    obtain ⟨r0, r1, r2, r3⟩ := m.resolve_left (fun z => t z.1)
    refine hs_detach kr r0 r1 (by omega) (by omega) E (fun S1 F1 P1 lr1 ll1 lR1 lu1 ln1 pr1 pc1 pn1 pb1 tr1 tc1 tn1 tu1 ni1 nn1 wi1 E1 => go _ (fun z => absurd z t) (fun _ => ⟨rfl, ?_⟩))
    refine hs_mk kr (hs_rg_u hh (by omega) (by omega)) (hs_c_det r0 r1 (by omega) hc) E1 (fun i i0 i1 => ?_)
    by_cases z : i = r
    · rw [hs_ue z, hs_ue z]; rfl
    · rw [hs_un z, hs_un z]; exact hQ i i0 i1
  · unfold wpY_take
    dsimp only
    exact hs_yQ ⟨q0, q1⟩ (fun a b => absurd ⟨a, b⟩ hn) (fun _ => br_t rfl ⟨rfl, J⟩)
theorem i_vc_size {k : Nat} {u : SX} {v : SY} (I : i_Rel k u v) (hk : k + 3 ≤ 1536) (v1 : Int32) : wpX_size (fun r => wpY_size (fun r' => r' = r ∧ i_Rel (k + 3) u v) v v1) u v1 := by
  have J : i_Rel (k + 3) u v := i_up I
  obtain ⟨kk, h, c, S, F, P, lr, ll, lR, lu, ln, pr, pc, pn, pb, tr, tc, tn, tu, ni, nn, wi, Q, rfl, rfl, kr, hh, hc, E, hQ⟩ := I
  obtain ⟨q, q0, q1, rfl⟩ := hs_of v1
  unfold wpX_size
  dsimp only
  refine hs_isQ ⟨q0, q1⟩ (fun a b => br_f (by decide) ⟨hs_in a (by omega) (by decide), ?_⟩) (fun hn => br_t rfl (hs_ySzB ⟨q0, q1⟩ hn ⟨rfl, J⟩))
  rw [hs_get (A := c) a (by omega), hc q a b]
  exact hs_ySz hh hQ a b ⟨rfl, J⟩
theorem i_vc_keyOf {k : Nat} {u : SX} {v : SY} (I : i_Rel k u v) (hk : k + 3 ≤ 1536) (v1 : Int32) : wpX_keyOf (fun r => wpY_keyOf (fun r' => r' = r ∧ i_Rel (k + 3) u v) v v1) u v1 := by
  have J : i_Rel (k + 3) u v := i_up I
  obtain ⟨kk, h, c, S, F, P, lr, ll, lR, lu, ln, pr, pc, pn, pb, tr, tc, tn, tu, ni, nn, wi, Q, rfl, rfl, kr, hh, hc, E, hQ⟩ := I
  obtain ⟨x, q0, q1, rfl⟩ := hs_of v1
  have go : ∀ A : Int32, (¬ (0 ≤ x ∧ x < 24) → A = -1000) → (0 ≤ x → x < 24 → h x = -1 → A = -3000) → (0 ≤ x → x < 24 → h x ≠ -1 → A = hs_i (kk x)) → wpY_keyOf (fun r' => r' = A ∧ i_Rel (k + 3) (hs_e kk, hs_e h, hs_e c, hs_e S, hs_e F, hs_e P, hs_e lr, hs_e ll, hs_e lR, hs_e lu, hs_e ln, hs_e pr, hs_e pc, hs_e pn, hs_e pb, hs_e tr, hs_e tc, hs_e tn, hs_e tu, hs_e ni, hs_e nn, hs_e wi) (hs_e Q, hs_e kk)) (hs_e Q, hs_e kk) (hs_i x) := by
    intro A a1 a2 a3
    unfold wpY_keyOf
    dsimp only
    refine hs_yI ⟨q0, q1⟩ (fun a b => br_f (by decide) ⟨hs_in a (by omega) (by decide), ?_⟩) (fun hn => br_t rfl ⟨(a1 hn).symm, J⟩)
    have r := hh x a b
    rw [hs_get (A := Q) a (by omega), hQ x a b]
    refine hs_eq (h x + 1) 0 (fun z => ⟨(a2 a b (by omega)).symm, J⟩) (fun z => ⟨hs_in a (by omega) (by decide), ?_⟩)
    rw [hs_get (A := kk) a (by omega)]
    exact ⟨(a3 a b (by omega)).symm, J⟩
  unfold wpX_keyOf
  dsimp only
  refine hs_isI ⟨q0, q1⟩ (fun a b => br_f (by decide) ⟨hs_in a (by omega) (by decide), ?_⟩) (fun hn => br_t rfl (go _ (fun _ => rfl) (fun a b => absurd ⟨a, b⟩ hn) (fun a b => absurd ⟨a, b⟩ hn)))
  have r := hh x a b
  rw [hs_get (A := h) a (by omega)]
  refine hs_eq (h x) (-1) (fun z => go _ (fun t => absurd ⟨a, b⟩ t) (fun _ _ _ => rfl) (fun _ _ t => absurd z t)) (fun z => ⟨hs_in a (by omega) (by decide), ?_⟩)
  rw [hs_get (A := kk) a (by omega)]
  exact go _ (fun t => absurd ⟨a, b⟩ t) (fun _ _ t => absurd t z) (fun _ _ _ => rfl)
theorem hs_yqo {post : Int32 → Prop} {kk h Q : Int → Int} {x : Int} (hh : hs_rg h 24 (-1) 3) (hQ : ∀ i, 0 ≤ i → i < 24 → Q i = h i + 1) (hx : -2147483648 ≤ x ∧ x < 2147483648) (a1 : ¬ (0 ≤ x ∧ x < 24) → post (-1000)) (a2 : 0 ≤ x → x < 24 → h x = -1 → post (-3000)) (a3 : 0 ≤ x → x < 24 → h x ≠ -1 → post (hs_i (h x))) :
    wpY_queueOf post (hs_e Q, hs_e kk) (hs_i x) := by
  unfold wpY_queueOf
  dsimp only
  refine hs_yI hx (fun a b => br_f (by decide) ⟨hs_in a (by omega) (by decide), ?_⟩) (fun hn => br_t rfl (a1 hn))
  have r := hh x a b
  rw [hs_get (A := Q) a (by omega), hQ x a b, hs_s1, show h x + 1 - 1 = h x by omega]
  exact hs_eq (h x + 1) 0 (fun z => a2 a b (by omega)) (fun z => ⟨hs_in a (by omega) (by decide), a3 a b (by omega)⟩)
theorem i_vc_queueOf {k : Nat} {u : SX} {v : SY} (I : i_Rel k u v) (hk : k + 3 ≤ 1536) (v1 : Int32) : wpX_queueOf (fun r => wpY_queueOf (fun r' => r' = r ∧ i_Rel (k + 3) u v) v v1) u v1 := by
  have J : i_Rel (k + 3) u v := i_up I
  obtain ⟨kk, h, c, S, F, P, lr, ll, lR, lu, ln, pr, pc, pn, pb, tr, tc, tn, tu, ni, nn, wi, Q, rfl, rfl, kr, hh, hc, E, hQ⟩ := I
  obtain ⟨x, q0, q1, rfl⟩ := hs_of v1
  unfold wpX_queueOf
  dsimp only
  refine hs_isI ⟨q0, q1⟩ (fun a b => br_f (by decide) ⟨hs_in a (by omega) (by decide), ?_⟩) (fun hn => br_t rfl (hs_yqo hh hQ ⟨q0, q1⟩ (fun _ => ⟨rfl, J⟩) (fun a b => absurd ⟨a, b⟩ hn) (fun a b => absurd ⟨a, b⟩ hn)))
  have r := hh x a b
  rw [hs_get (A := h) a (by omega)]
  exact hs_eq (h x) (-1) (fun z => hs_yqo hh hQ ⟨q0, q1⟩ (fun t => absurd ⟨a, b⟩ t) (fun _ _ _ => ⟨rfl, J⟩) (fun _ _ t => absurd z t)) (fun z => ⟨hs_in a (by omega) (by decide), hs_yqo hh hQ ⟨q0, q1⟩ (fun t => absurd ⟨a, b⟩ t) (fun _ _ t => absurd t z) (fun _ _ _ => ⟨rfl, J⟩)⟩)
theorem i_vc_remove {k : Nat} {u : SX} {v : SY} (I : i_Rel k u v) (hk : k + 3 ≤ 1536) (v1 : Int32) : wpX_remove (fun r u' => wpY_remove (fun r' v' => r' = r ∧ i_Rel (k + 3) u' v') v v1) u v1 := by
  have J : i_Rel (k + 3) u v := i_up I
  obtain ⟨kk, h, c, S, F, P, lr, ll, lR, lu, ln, pr, pc, pn, pb, tr, tc, tn, tu, ni, nn, wi, Q, rfl, rfl, kr, hh, hc, E, hQ⟩ := I
  obtain ⟨x, q0, q1, rfl⟩ := hs_of v1
  have go : ∀ post : Int32 → SY → Prop, (¬ (0 ≤ x ∧ x < 24) → post (-1000) (hs_e Q, hs_e kk)) → (0 ≤ x → x < 24 → h x = -1 → post (-3000) (hs_e Q, hs_e kk)) → (0 ≤ x → x < 24 → h x ≠ -1 → post (hs_i (h x)) (hs_e (hs_u Q x 0), hs_e kk)) → wpY_remove post (hs_e Q, hs_e kk) (hs_i x) := by
    intro post a1 a2 a3
    unfold wpY_remove
    dsimp only
    refine hs_yqo hh hQ ⟨q0, q1⟩ (fun t => br_t (by decide) (a1 t)) (fun a b t => br_t (by decide) (a2 a b t)) (fun a b t => ?_)
    have r := hh x a b
    exact hs_lt (h x) 0 (fun z => absurd z (by omega)) (fun _ => hs_wr x 0 rfl hs_l0.symm a (by omega) (by decide) (a3 a b t))
  unfold wpX_remove
  dsimp only
  refine hs_isI ⟨q0, q1⟩ (fun a b => br_f (by decide) (hs_rd x rfl a (by omega) (by decide) ?_)) (fun hn => br_t rfl (go _ (fun _ => ⟨rfl, J⟩) (fun a b => absurd ⟨a, b⟩ hn) (fun a b => absurd ⟨a, b⟩ hn)))
  have r := hh x a b
  refine hs_eq (h x) (-1) (fun z => go _ (fun t => absurd ⟨a, b⟩ t) (fun _ _ _ => ⟨rfl, J⟩) (fun _ _ t => absurd z t)) (fun z => ?_)
  refine hs_detach kr a b (by omega) r.2 E (fun S1 F1 P1 lr1 ll1 lR1 lu1 ln1 pr1 pc1 pn1 pb1 tr1 tc1 tn1 tu1 ni1 nn1 wi1 E1 => go _ (fun t => absurd ⟨a, b⟩ t) (fun _ _ t => absurd t z) (fun _ _ _ => ⟨rfl, ?_⟩))
  refine hs_mk kr (hs_rg_u hh (by omega) (by omega)) (hs_c_det a b (by omega) hc) E1 (fun i i0 i1 => ?_)
  by_cases t : i = x
  · rw [hs_ue t, hs_ue t]; rfl
  · rw [hs_un t, hs_un t]; exact hQ i i0 i1
/-- an item leaves its queue and enters it again with another key -/
theorem hs_re {post : SX → Prop} {z : Nat} {kk h c S F P lr ll lR lu ln pr pc pn pb tr tc tn tu ni nn wi Q : Int → Int} {x y : Int} (kr : hs_kr kk) (hh : hs_rg h 24 (-1) 3) (hc : ∀ q, 0 ≤ q → q ≤ 3 → c q = hs_c h q) (E : hs_EN (hs_K kk) h S F P lr ll lR lu ln pr pc pn pb tr tc tn tu ni nn wi) (hQ : ∀ i, 0 ≤ i → i < 24 → Q i = h i + 1)
    (x0 : 0 ≤ x) (x1 : x < 24) (hx : h x ≠ -1) (y0 : -999 ≤ y) (y1 : y ≤ 999) (hK : ∀ u : SX, i_Rel z u (hs_e Q, hs_e (hs_u kk x y)) → post u) :
    wpX_detach (fun u => wpX_attach post u (hs_i (h x)) (hs_i x) (hs_i y)) (hs_e kk, hs_e h, hs_e c, hs_e S, hs_e F, hs_e P, hs_e lr, hs_e ll, hs_e lR, hs_e lu, hs_e ln, hs_e pr, hs_e pc, hs_e pn, hs_e pb, hs_e tr, hs_e tc, hs_e tn, hs_e tu, hs_e ni, hs_e nn, hs_e wi) (hs_i x) := by
  have r := hh x x0 x1
  refine hs_detach kr x0 x1 (by omega) r.2 E (fun S1 F1 P1 lr1 ll1 lR1 lu1 ln1 pr1 pc1 pn1 pb1 tr1 tc1 tn1 tu1 ni1 nn1 wi1 E1 => ?_)
  refine hs_attach kr (by omega) r.2 x0 x1 (by rw [hs_us]; omega) y0 y1 E1 (fun S2 F2 P2 lr2 ll2 lR2 lu2 ln2 pr2 pc2 pn2 pb2 tr2 tc2 tn2 tu2 ni2 nn2 wi2 E2 => hK _ ?_)
  refine hs_mk (hs_kr_u kr y0 y1) (hs_rg_u (hs_rg_u hh (by omega) (by omega)) (by omega) r.2) (hs_c_att x0 x1 (by rw [hs_us]; omega) (hs_c_det x0 x1 (by omega) hc)) E2 (fun i i0 i1 => ?_)
  by_cases t : i = x
  · rw [hs_ue t, ← t]; exact hQ i i0 i1
  · rw [hs_un t, hs_un t]; exact hQ i i0 i1
theorem i_vc_lower {k : Nat} {u : SX} {v : SY} (I : i_Rel k u v) (hk : k + 3 ≤ 1536) (v1 : Int32) (v2 : Int32) : wpX_lower (fun r u' => wpY_lower (fun r' v' => r' = r ∧ i_Rel (k + 3) u' v') v v1 v2) u v1 v2 := by
  have J : i_Rel (k + 3) u v := i_up I
  obtain ⟨kk, h, c, S, F, P, lr, ll, lR, lu, ln, pr, pc, pn, pb, tr, tc, tn, tu, ni, nn, wi, Q, rfl, rfl, kr, hh, hc, E, hQ⟩ := I
  obtain ⟨x, q0, q1, rfl⟩ := hs_of v1
  obtain ⟨d, d0, d1, rfl⟩ := hs_of v2
  have go : ∀ post : Int32 → SY → Prop, (¬ ((0 ≤ x ∧ x < 24) ∧ (0 ≤ d ∧ d ≤ 999)) → post (-1000) (hs_e Q, hs_e kk)) → (0 ≤ x → x < 24 → 0 ≤ d → d ≤ 999 → h x = -1 → post (-3000) (hs_e Q, hs_e kk)) →
      (0 ≤ x → x < 24 → 0 ≤ d → d ≤ 999 → h x ≠ -1 → ¬ (-999 ≤ kk x - d ∧ kk x - d ≤ 999) → post (-1000) (hs_e Q, hs_e kk)) →
      (0 ≤ x → x < 24 → 0 ≤ d → d ≤ 999 → h x ≠ -1 → -999 ≤ kk x - d → kk x - d ≤ 999 → post (hs_i (kk x - d)) (hs_e Q, hs_e (hs_u kk x (kk x - d)))) → wpY_lower post (hs_e Q, hs_e kk) (hs_i x) (hs_i d) := by
    intro post a1 a2 a3 a4
    unfold wpY_lower
    dsimp only
    refine hs_yI ⟨q0, q1⟩ (fun a b => br_f (by decide) (hs_lt d 0 (fun t => a1 (by omega)) (fun c0 => hs_le d 999 (fun c1 => ⟨hs_in a (by omega) (by decide), ?_⟩) (fun t => a1 (by omega))))) (fun hn => br_t rfl (a1 (fun t => hn t.1)))
    have r := hh x a b
    have kb := kr x a b
    rw [hs_get (A := Q) a (by omega), hQ x a b, hs_get (A := kk) a (by omega), hs_sub]
    refine hs_eq (h x + 1) 0 (fun z => a2 a b c0 c1 (by omega)) (fun z => ⟨hs_in a (by omega) (by decide), hs_yK (by omega) (fun s t => br_f (by decide) ⟨hs_in a (by omega) (by decide), hs_wr x (kk x - d) rfl rfl a (by omega) (by decide) ⟨hs_in a (by omega) (by decide), ?_⟩⟩) (fun t => br_t rfl (a3 a b c0 c1 (by omega) t))⟩)
    rw [hs_get (A := hs_u kk x (kk x - d)) a (by omega), hs_us]
    exact a4 a b c0 c1 (by omega) s t
  unfold wpX_lower
  dsimp only
  refine hs_isI ⟨q0, q1⟩ (fun a b => br_f (by decide) (hs_lt d 0 (fun t => go _ (fun _ => ⟨rfl, J⟩) (fun _ _ s => absurd s (by omega)) (fun _ _ s => absurd s (by omega)) (fun _ _ s => absurd s (by omega))) (fun c0 => hs_le d 999 (fun c1 => ⟨hs_in a (by omega) (by decide), ?_⟩) (fun t => go _ (fun _ => ⟨rfl, J⟩) (fun _ _ _ s => absurd s (by omega)) (fun _ _ _ s => absurd s (by omega)) (fun _ _ _ s => absurd s (by omega)))))) (fun hn => br_t rfl (go _ (fun _ => ⟨rfl, J⟩) (fun a b => absurd ⟨a, b⟩ hn) (fun a b => absurd ⟨a, b⟩ hn) (fun a b => absurd ⟨a, b⟩ hn)))
  have r := hh x a b
  have kb := kr x a b
  rw [hs_get (A := h) a (by omega), hs_get (A := kk) a (by omega), hs_sub]
  have ok : (0 ≤ x ∧ x < 24) ∧ (0 ≤ d ∧ d ≤ 999) := ⟨⟨a, b⟩, c0, c1⟩
  refine hs_eq (h x) (-1) (fun z => go _ (fun t => absurd ok t) (fun _ _ _ _ _ => ⟨rfl, J⟩) (fun _ _ _ _ t => absurd z t) (fun _ _ _ _ t => absurd z t)) (fun z => ⟨hs_in a (by omega) (by decide), nm_r rfl (hs_isK (by omega) (fun s t => br_f (by decide) ⟨hs_in a (by omega) (by decide), nm_r rfl ?_⟩) (fun t => br_t rfl (go _ (fun s => absurd ok s) (fun _ _ _ _ s => absurd s z) (fun _ _ _ _ _ _ => ⟨rfl, J⟩) (fun _ _ _ _ _ s1 s2 => absurd ⟨s1, s2⟩ t))))⟩)
  exact hs_re (z := k + 3) kr hh hc E hQ a b z s t (fun u hu => go _ (fun s => absurd ok s) (fun _ _ _ _ s => absurd s z) (fun _ _ _ _ _ w => absurd ⟨s, t⟩ w) (fun _ _ _ _ _ _ _ => ⟨rfl, hu⟩))
theorem i_vc_change {k : Nat} {u : SX} {v : SY} (I : i_Rel k u v) (hk : k + 3 ≤ 1536) (v1 : Int32) (v2 : Int32) : wpX_change (fun r u' => wpY_change (fun r' v' => r' = r ∧ i_Rel (k + 3) u' v') v v1 v2) u v1 v2 := by
  have J : i_Rel (k + 3) u v := i_up I
  obtain ⟨kk, h, c, S, F, P, lr, ll, lR, lu, ln, pr, pc, pn, pb, tr, tc, tn, tu, ni, nn, wi, Q, rfl, rfl, kr, hh, hc, E, hQ⟩ := I
  obtain ⟨x, q0, q1, rfl⟩ := hs_of v1
  obtain ⟨d, d0, d1, rfl⟩ := hs_of v2
  have go : ∀ post : Int32 → SY → Prop, (¬ ((0 ≤ x ∧ x < 24) ∧ (-999 ≤ d ∧ d ≤ 999)) → post (-1000) (hs_e Q, hs_e kk)) → (0 ≤ x → x < 24 → -999 ≤ d → d ≤ 999 → h x = -1 → post (-3000) (hs_e Q, hs_e kk)) →
      (0 ≤ x → x < 24 → -999 ≤ d → d ≤ 999 → h x ≠ -1 → post (hs_i (kk x)) (hs_e Q, hs_e (hs_u kk x d))) → wpY_change post (hs_e Q, hs_e kk) (hs_i x) (hs_i d) := by
    intro post a1 a2 a3
    unfold wpY_change
    dsimp only
    refine hs_yI ⟨q0, q1⟩ (fun a b => br_f (by decide) (hs_yK ⟨d0, d1⟩ (fun c0 c1 => br_f (by decide) ⟨hs_in a (by omega) (by decide), ?_⟩) (fun t => br_t rfl (a1 (fun s => t s.2))))) (fun hn => br_t rfl (a1 (fun t => hn t.1)))
    have r := hh x a b
    rw [hs_get (A := Q) a (by omega), hQ x a b]
    exact hs_eq (h x + 1) 0 (fun z => a2 a b c0 c1 (by omega)) (fun z => hs_rd x rfl a (by omega) (by decide) (hs_wr x d rfl rfl a (by omega) (by decide) (a3 a b c0 c1 (by omega))))
  unfold wpX_change
  dsimp only
  refine hs_isI ⟨q0, q1⟩ (fun a b => br_f (by decide) (hs_isK ⟨d0, d1⟩ (fun c0 c1 => br_f (by decide) ⟨hs_in a (by omega) (by decide), ?_⟩) (fun t => br_t rfl (go _ (fun _ => ⟨rfl, J⟩) (fun _ _ s1 s2 => absurd ⟨s1, s2⟩ t) (fun _ _ s1 s2 => absurd ⟨s1, s2⟩ t))))) (fun hn => br_t rfl (go _ (fun _ => ⟨rfl, J⟩) (fun a b => absurd ⟨a, b⟩ hn) (fun a b => absurd ⟨a, b⟩ hn)))
  have r := hh x a b
  have ok : (0 ≤ x ∧ x < 24) ∧ (-999 ≤ d ∧ d ≤ 999) := ⟨⟨a, b⟩, c0, c1⟩
  rw [hs_get (A := h) a (by omega)]
  refine hs_eq (h x) (-1) (fun z => go _ (fun t => absurd ok t) (fun _ _ _ _ _ => ⟨rfl, J⟩) (fun _ _ _ _ t => absurd z t)) (fun z => hs_rd x rfl a (by omega) (by decide) ⟨hs_in a (by omega) (by decide), nm_r rfl ?_⟩)
  exact hs_re (z := k + 3) kr hh hc E hQ a b z c0 c1 (fun u hu => go _ (fun s => absurd ok s) (fun _ _ _ _ s => absurd s z) (fun _ _ _ _ _ => ⟨rfl, hu⟩))
theorem i_vc_join {k : Nat} {u : SX} {v : SY} (I : i_Rel k u v) (hk : k + 3 ≤ 1536) (v1 : Int32) (v2 : Int32) : wpX_join (fun r u' => wpY_join (fun r' v' => r' = r ∧ i_Rel (k + 3) u' v') v v1 v2) u v1 v2 := by
  have J : i_Rel (k + 3) u v := i_up I
  obtain ⟨kk, h, c, S, F, P, lr, ll, lR, lu, ln, pr, pc, pn, pb, tr, tc, tn, tu, ni, nn, wi, Q, rfl, rfl, kr, hh, hc, E, hQ⟩ := I
  obtain ⟨a, a0, a1, rfl⟩ := hs_of v1
  obtain ⟨b, b0, b1, rfl⟩ := hs_of v2
  have go : ∀ post : Int32 → SY → Prop, (¬ ((0 ≤ a ∧ a ≤ 3) ∧ (0 ≤ b ∧ b ≤ 3) ∧ a ≠ b) → post (-1000) (hs_e Q, hs_e kk)) → (0 ≤ a → a ≤ 3 → 0 ≤ b → b ≤ 3 → a ≠ b → ∃ n, wY_join_27 post (hs_i a) (hs_i b) n 0 (hs_e Q) (hs_e kk)) → wpY_join post (hs_e Q, hs_e kk) (hs_i a) (hs_i b) := by
    intro post x y
    unfold wpY_join
    dsimp only
    exact hs_yQ ⟨a0, a1⟩ (fun s1 s2 => br_f (by decide) (hs_yQ ⟨b0, b1⟩ (fun t1 t2 => br_f (by decide) (hs_eq a b (fun z => x (fun w => w.2.2 z)) (fun z => y s1 s2 t1 t2 z))) (fun t => br_t rfl (x (fun w => t w.2.1))))) (fun t => br_t rfl (x (fun w => t w.1)))
  unfold wpX_join
  dsimp only
  refine hs_isQ ⟨a0, a1⟩ (fun s1 s2 => br_f (by decide) (hs_isQ ⟨b0, b1⟩ (fun t1 t2 => br_f (by decide) (hs_eq a b (fun z => go _ (fun _ => ⟨rfl, J⟩) (fun _ _ _ _ w => absurd z w)) (fun z => hs_join kr s1 s2 t1 t2 z hh E ?_))) (fun t => br_t rfl (go _ (fun _ => ⟨rfl, J⟩) (fun _ _ w1 w2 => absurd ⟨w1, w2⟩ t))))) (fun t => br_t rfl (go _ (fun _ => ⟨rfl, J⟩) (fun w1 w2 => absurd ⟨w1, w2⟩ t)))
  intro H S1 F1 P1 lr1 ll1 lR1 lu1 ln1 pr1 pc1 pn1 pb1 tr1 tc1 tn1 tu1 ni1 nn1 wi1 E1 hH
  refine go _ (fun t => absurd ⟨⟨s1, s2⟩, ⟨t1, t2⟩, z⟩ t) (fun _ _ _ _ _ => ⟨26, ?_⟩)
  rw [← hs_l0]
  have cj := hs_c_join h z
  have cH : ∀ q, hs_c H q = hs_c (fun i => if h i = b then a else h i) q := fun q => hs_c_congr (fun i i0 i1 => by rw [hH i i0 i1])
  refine hs_yJ (k := kk) hh s1 s2 t1 t2 (fun Q' hQ' => ⟨?_, ?_⟩) 26 Q 0 (fun j j0 j1 => ?_) (by omega) (by omega) (by omega)
  · rw [if_neg (fun w => by omega)]; exact hQ j j0 j1
  · rw [cj.1, hc a s1 s2, hc b t1 t2]
  · refine hs_mk kr (fun i i0 i1 => ?_) (fun q x y => ?_) E1 (fun i i0 i1 => ?_)
    · have := hh i i0 i1
      rw [hH i i0 i1]
      split <;> omega
    · rw [cH q]
      by_cases e : q = b
      · rw [e, hs_us, cj.2]
      · rw [hs_un e]
        by_cases f : q = a
        · rw [f, hs_us, cj.1, hc a s1 s2, hc b t1 t2]
        · rw [hs_un f, hc q x y]
          refine (hs_c_congr (fun i _ _ => ?_)).symm
          by_cases g : h i = b
          · rw [if_pos g]; exact ⟨fun t => absurd t.symm f, fun t => absurd (t.symm.trans g) e⟩
          · rw [if_neg g]
    · rw [hQ' i i0 i1, hH i i0 i1]
theorem hs_cl2_eq {k h h' : Int → Int} {q l : Int} (hq : 0 ≤ q) (hH : ∀ i, 0 ≤ i → i < 24 → h' i = if h i = q ∧ k i ≤ l then -1 else h i) : hs_cl2 k h q l 24 = hs_c h q - hs_c h' q := by
  have : hs_c h q = hs_c h' q + hs_cl2 k h q l 24 := by
    refine hs_sum_add 24 fun j a b => ?_
    rw [hH j a (by omega)]
    by_cases x : h j = q ∧ k j ≤ l
    · rw [if_pos x, if_pos x, if_pos x.1, if_neg (by omega)]; rfl
    · rw [if_neg x, if_neg x]; omega
  omega
theorem i_vc_takeUpTo {k : Nat} {u : SX} {v : SY} (I : i_Rel k u v) (hk : k + 3 ≤ 1536) (v1 : Int32) (v2 : Int32) : wpX_takeUpTo (fun r u' => wpY_takeUpTo (fun r' v' => r' = r ∧ i_Rel (k + 3) u' v') v v1 v2) u v1 v2 := by
  have J : i_Rel (k + 3) u v := i_up I
  obtain ⟨kk, h, c, S, F, P, lr, ll, lR, lu, ln, pr, pc, pn, pb, tr, tc, tn, tu, ni, nn, wi, Q, rfl, rfl, kr, hh, hc, E, hQ⟩ := I
  obtain ⟨q, q0, q1, rfl⟩ := hs_of v1
  obtain ⟨l, l0, l1, rfl⟩ := hs_of v2
  unfold wpX_takeUpTo
  dsimp only
  refine hs_isQ ⟨q0, q1⟩ (fun a b => br_f (by decide) ⟨26, ?_⟩) (fun hn => br_t rfl ?_)
  · rw [← hs_l0]
    have cr := hs_c_r h q
    have := hs_tk (post := fun r u' => wpY_takeUpTo (fun r' v' => r' = r ∧ i_Rel (k + 3) u' v') (hs_e Q, hs_e kk) (hs_i q) (hs_i l)) kr hh a b ⟨l0, l1⟩ (fun h' c' S1 F1 P1 lr1 ll1 lR1 lu1 ln1 pr1 pc1 pn1 pb1 tr1 tc1 tn1 tu1 ni1 nn1 wi1 E1 hH hc' => ?_) 26 h c S F P lr ll lR lu ln pr pc pn pb tr tc tn tu ni nn wi E (fun i _ _ => Or.inl rfl) hc (by omega)
    · rw [show hs_c h q - hs_c h q = 0 by omega] at this
      exact this
    · unfold wpY_takeUpTo
      dsimp only
      refine ⟨26, ?_⟩
      rw [← hs_l0]
      refine hs_yT kr hh a b ⟨l0, l1⟩ (fun Q' hQ' => ⟨?_, ?_⟩) 26 Q 0 (fun j j0 j1 => ?_) (by omega) (by omega)
      · rw [if_neg (fun w => by omega)]; exact hQ j j0 j1
      · rw [hs_cl2_eq a hH]
      · refine hs_mk kr (fun i i0 i1 => ?_) hc' E1 (fun i i0 i1 => ?_)
        · have := hh i i0 i1
          rw [hH i i0 i1]
          split <;> omega
        · rw [hQ' i i0 i1, hH i i0 i1]
  · unfold wpY_takeUpTo
    dsimp only
    refine ⟨1, ?_⟩
    refine br_f (by decide) (hs_yQ ⟨q0, q1⟩ (fun x y => absurd ⟨x, y⟩ hn) (fun _ => br_t rfl ?_))
    unfold wY_takeUpTo_61
    exact hs_yQ ⟨q0, q1⟩ (fun x y => absurd ⟨x, y⟩ hn) (fun _ => br_t rfl ⟨rfl, J⟩)
theorem i_vc_second {k : Nat} {u : SX} {v : SY} (I : i_Rel k u v) (hk : k + 3 ≤ 1536) (v1 : Int32) : wpX_second (fun r => wpY_second (fun r' => r' = r ∧ i_Rel (k + 3) u v) v v1) u v1 := by
  have J : i_Rel (k + 3) u v := i_up I
  obtain ⟨kk, h, c, S, F, P, lr, ll, lR, lu, ln, pr, pc, pn, pb, tr, tc, tn, tu, ni, nn, wi, Q, rfl, rfl, kr, hh, hc, E, hQ⟩ := I
  obtain ⟨q, q0, q1, rfl⟩ := hs_of v1
  unfold wpX_second
  dsimp only
  refine hs_isQ ⟨q0, q1⟩ (fun a b => br_f (by decide) (hs_firstBy (e := 0) kr a b (by omega) (by omega) E (fun t m => ?_))) (fun hn => br_t rfl ?_)
  · have mb : -1 ≤ t ∧ t < 24 := by
      rcases m with x | x <;> omega
    refine hs_sc kr hh a b mb (fun r m2 => ?_)
    have go : ∀ A : Int32, A = (if r = -1 then hs_i (-3000) else hs_i r) → wpY_second (fun r' => r' = A ∧ i_Rel (k + 3) (hs_e kk, hs_e h, hs_e c, hs_e S, hs_e F, hs_e P, hs_e lr, hs_e ll, hs_e lR, hs_e lu, hs_e ln, hs_e pr, hs_e pc, hs_e pn, hs_e pb, hs_e tr, hs_e tc, hs_e tn, hs_e tu, hs_e ni, hs_e nn, hs_e wi) (hs_e Q, hs_e kk)) (hs_e Q, hs_e kk) (hs_i q) := by
      intro A hA
      unfold wpY_second
      dsimp only
      refine hs_yQ ⟨q0, q1⟩ (fun _ _ => br_f (by decide) (hs_yL (w := -3000) kr hh hQ a b (by omega) (fun t' m' => ?_))) (fun z => absurd ⟨a, b⟩ z)
      have tt : (t = -1 ∧ t' = -3000) ∨ (0 ≤ t ∧ t < 24 ∧ t' = t) := hs_mw_uniq (hs_K_inj kk) (fun j _ _ => Iff.rfl) (hs_mn_mw (w := -3000) (by omega) m) m'
      refine hs_yL kr hh hQ a b (by rcases tt with x | x <;> omega) (fun r' m3 => ⟨?_, J⟩)
      rw [hA]
      rcases hs_mw_uniq (hs_K_inj kk) (fun j j0 j1 => by rcases tt with x | x <;> omega) m2 m3 with x | x
      · rw [x.1, x.2, if_pos rfl]
      · rw [x.2.2, if_neg (by omega)]
    refine ⟨fun z => go _ ?_, fun z => go _ ?_⟩
    · rw [if_pos z]; decide
    · rw [if_neg z]
  · unfold wpY_second
    dsimp only
    exact hs_yQ ⟨q0, q1⟩ (fun x y => absurd ⟨x, y⟩ hn) (fun _ => br_t rfl ⟨rfl, J⟩)
theorem i_vc_agree {k : Nat} {u : SX} {v : SY} (I : i_Rel k u v) (hk : k + 3 ≤ 1536) (v1 : Int32) (v2 : Int32) : wpX_agree (fun r => wpY_agree (fun r' => r' = r ∧ i_Rel (k + 3) u v) v v1 v2) u v1 v2 := by
  have J : i_Rel (k + 3) u v := i_up I
  obtain ⟨kk, h, c, S, F, P, lr, ll, lR, lu, ln, pr, pc, pn, pb, tr, tc, tn, tu, ni, nn, wi, Q, rfl, rfl, kr, hh, hc, E, hQ⟩ := I
  obtain ⟨e, e0, e1, rfl⟩ := hs_of v1
  obtain ⟨f, f0, f1, rfl⟩ := hs_of v2
  have go : ∀ A : Int32, ((0 ≤ e ∧ e ≤ 6) ∧ (0 ≤ f ∧ f ≤ 6) → A = 1) → (¬ ((0 ≤ e ∧ e ≤ 6) ∧ (0 ≤ f ∧ f ≤ 6)) → A = 0) → wpY_agree (fun r' => r' = A ∧ i_Rel (k + 3) (hs_e kk, hs_e h, hs_e c, hs_e S, hs_e F, hs_e P, hs_e lr, hs_e ll, hs_e lR, hs_e lu, hs_e ln, hs_e pr, hs_e pc, hs_e pn, hs_e pb, hs_e tr, hs_e tc, hs_e tn, hs_e tu, hs_e ni, hs_e nn, hs_e wi) (hs_e Q, hs_e kk)) (hs_e Q, hs_e kk) (hs_i e) (hs_i f) := by
    intro A x y
    unfold wpY_agree
    dsimp only
    exact hs_lt e 0 (fun t => ⟨(y (by omega)).symm, J⟩) (fun a => hs_lt 6 e (fun t => ⟨(y (by omega)).symm, J⟩) (fun b => hs_lt f 0 (fun t => ⟨(y (by omega)).symm, J⟩) (fun a2 => hs_lt 6 f (fun t => ⟨(y (by omega)).symm, J⟩) (fun b2 => ⟨(x ⟨⟨a, b⟩, a2, b2⟩).symm, J⟩))))
  unfold wpX_agree
  dsimp only
  exact hs_isE ⟨e0, e1⟩ (fun a b => br_f (by decide) (hs_isE ⟨f0, f1⟩ (fun a2 b2 => br_f (by decide) (hs_ag kr a b a2 b2 E (go 1 (fun _ => rfl) (fun t => absurd ⟨⟨a, b⟩, a2, b2⟩ t)))) (fun t => br_t rfl (go 0 (fun s => absurd s.2 t) (fun _ => rfl))))) (fun t => br_t rfl (go 0 (fun s => absurd s.1 t) (fun _ => rfl)))
theorem i_vc_sound {k : Nat} {u : SX} {v : SY} (I : i_Rel k u v) (hk : k + 3 ≤ 1536) : wpX_sound (fun r => wpY_sound (fun r' => r' = r ∧ i_Rel (k + 3) u v) v) u := by
  have J : i_Rel (k + 3) u v := i_up I
  obtain ⟨kk, h, c, S, F, P, lr, ll, lR, lu, ln, pr, pc, pn, pb, tr, tc, tn, tu, ni, nn, wi, Q, rfl, rfl, kr, hh, hc, E, hQ⟩ := I
  exact hs_sound kr hh hc E ⟨rfl, J⟩
