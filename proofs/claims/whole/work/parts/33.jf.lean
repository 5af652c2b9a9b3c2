section HS33
theorem hs_j70 {post : Int32 → SX → Prop} {k h c S F P lr ll lR lu ln pr pc pn pb tr tc tn tu ni nn wi : Int → Int} {a b : Int} (ha : 0 ≤ a) (ha' : a ≤ 3) (hb : 0 ≤ b) (hb' : b ≤ 3) (hab : a ≠ b) (hh : ∀ i, 0 ≤ i → i < 24 → -1 ≤ h i ∧ h i ≤ 3)
    (hK : ∀ H : Int → Int, (∀ i, 0 ≤ i → i < 24 → H i = if h i = b then a else h i) → post (hs_i (c a + c b)) (hs_e k, hs_e H, hs_e (hs_u (hs_u c a (c a + c b)) b 0), hs_e S, hs_e F, hs_e P, hs_e lr, hs_e ll, hs_e lR, hs_e lu, hs_e ln, hs_e pr, hs_e pc, hs_e pn, hs_e pb, hs_e tr, hs_e tc, hs_e tn, hs_e tu, hs_e ni, hs_e nn, hs_e wi)) :
    ∀ (n : Nat) (H : Int → Int) (i : Int), (∀ j, 0 ≤ j → j < 24 → H j = if j < i ∧ h j = b then a else h j) → 0 ≤ i → i ≤ 24 → 24 - i < n →
    wX_join_70 post (hs_i a) (hs_i b) n (hs_i i) (hs_e k) (hs_e H) (hs_e c) (hs_e S) (hs_e F) (hs_e P) (hs_e lr) (hs_e ll) (hs_e lR) (hs_e lu) (hs_e ln) (hs_e pr) (hs_e pc) (hs_e pn) (hs_e pb) (hs_e tr) (hs_e tc) (hs_e tn) (hs_e tu) (hs_e ni) (hs_e nn) (hs_e wi) := by
  intro n
  induction n with
  | zero => intro H i _ x y z; omega
  | succ n ih =>
    intro H i hH i0 i1 hn
    refine hs_le 24 i (fun z => ?_) (fun z => ⟨hs_in i0 (by omega) (by decide), ?_⟩)
    · refine ⟨hs_in ha (by omega) (by decide), hs_in hb (by omega) (by decide), ?_⟩
      rw [hs_get (A := c) (x := a) ha (by omega), hs_get (A := c) (x := b) hb (by omega), hs_add]
      refine hs_wr a (c a + c b) rfl rfl ha (by omega) (by decide) (hs_wr b 0 rfl hs_l0.symm hb (by omega) (by decide) ⟨hs_in ha (by omega) (by decide), ?_⟩)
      rw [hs_get ha (by omega), hs_un hab, hs_us]
      refine hK H (fun j j0 j1 => ?_)
      rw [hH j j0 j1]
      by_cases y : h j = b
      · rw [if_pos y, if_pos ⟨by omega, y⟩]
      · rw [if_neg y, if_neg (fun v => y v.2)]
    · have e : H i = h i := by rw [hH i i0 z]; exact if_neg (fun v => by omega)
      have r := hh i i0 z
      rw [hs_get (A := H) i0 (by omega), e]
      refine hs_eq (h i) b (fun y => ?_) (fun y => ?_)
      · refine hs_wr i a rfl rfl i0 (by omega) (by decide) (nm_r (hs_1 i) (ih _ (i + 1) (fun j j0 j1 => ?_) (by omega) (by omega) (by omega)))
        by_cases v : j = i
        · rw [hs_ue v, v, if_pos ⟨by omega, y⟩]
        · rw [hs_un v, hH j j0 j1]
          by_cases u : j < i ∧ h j = b
          · rw [if_pos u, if_pos ⟨by omega, u.2⟩]
          · rw [if_neg u, if_neg (fun t => u ⟨by omega, t.2⟩)]
      · refine nm_r (hs_1 i) (ih _ (i + 1) (fun j j0 j1 => ?_) (by omega) (by omega) (by omega))
        rw [hH j j0 j1]
        by_cases u : j < i ∧ h j = b
        · rw [if_pos u, if_pos ⟨by omega, u.2⟩]
        · rw [if_neg u, if_neg (fun t => ?_)]
          have : j ≠ i := fun v => y (by rw [← v]; exact t.2)
          exact u ⟨by omega, t.2⟩
theorem hs_join {post : Int32 → SX → Prop} {k h c S F P lr ll lR lu ln pr pc pn pb tr tc tn tu ni nn wi : Int → Int} {a b : Int} (kr : hs_kr k) (ha : 0 ≤ a) (ha' : a ≤ 3) (hb : 0 ≤ b) (hb' : b ≤ 3) (hab : a ≠ b) (hh : ∀ i, 0 ≤ i → i < 24 → -1 ≤ h i ∧ h i ≤ 3)
    (E : hs_EN (hs_K k) h S F P lr ll lR lu ln pr pc pn pb tr tc tn tu ni nn wi)
    (hK : ∀ H S1 F1 P1 lr1 ll1 lR1 lu1 ln1 pr1 pc1 pn1 pb1 tr1 tc1 tn1 tu1 ni1 nn1 wi1 : Int → Int, hs_EN (hs_K k) H S1 F1 P1 lr1 ll1 lR1 lu1 ln1 pr1 pc1 pn1 pb1 tr1 tc1 tn1 tu1 ni1 nn1 wi1 → (∀ i, 0 ≤ i → i < 24 → H i = if h i = b then a else h i) → post (hs_i (c a + c b)) (hs_e k, hs_e H, hs_e (hs_u (hs_u c a (c a + c b)) b 0), hs_e S1, hs_e F1, hs_e P1, hs_e lr1, hs_e ll1, hs_e lR1, hs_e lu1, hs_e ln1, hs_e pr1, hs_e pc1, hs_e pn1, hs_e pb1, hs_e tr1, hs_e tc1, hs_e tn1, hs_e tu1, hs_e ni1, hs_e nn1, hs_e wi1)) :
    ∃ n, wX_join_25 post (hs_i a) (hs_i b) n 0 (hs_e k) (hs_e h) (hs_e c) (hs_e S) (hs_e F) (hs_e P) (hs_e lr) (hs_e ll) (hs_e lR) (hs_e lu) (hs_e ln) (hs_e pr) (hs_e pc) (hs_e pn) (hs_e pb) (hs_e tr) (hs_e tc) (hs_e tn) (hs_e tu) (hs_e ni) (hs_e nn) (hs_e wi) := by
  obtain ⟨⟨a0, a1, a2⟩, ⟨l0, l1, l2⟩, ⟨p0, p1⟩, ⟨b0, b1, b2⟩, ⟨t0, t1⟩⟩ := E
  refine ⟨3, ?_⟩
  rw [← hs_l0]
  have hT : ∀ (w : Int) (T T' : Int → Int) (D : Int → Prop), (∀ j, j ≠ w * 4 + a → j ≠ w * 4 + b → T' j = T j) → (T' (w * 4 + a) = -1 ∨ D (T' (w * 4 + a))) → T' (w * 4 + b) = -1 → ∀ j, T' j = T j ∨ (w * 4 ≤ j ∧ j < w * 4 + 4 ∧ (T' j = -1 ∨ D (T' j))) := by
    intro w T T' D u v t j
    by_cases e : j = w * 4 + a
    · rw [e]; exact Or.inr ⟨by omega, by omega, v⟩
    · by_cases f : j = w * 4 + b
      · rw [f]; exact Or.inr ⟨by omega, by omega, Or.inl t⟩
      · exact Or.inl (u j e f)
  refine hs_le 2 0 (fun z => absurd z (by decide)) (fun _ => hs_joinA kr (by omega) (by omega) ha ha' hb hb' hab a0 ?_)
  intro S1 F1 P1 e1 k1
  have a1 := hs_AA_other (by omega) (by omega) (by decide) k1 a1
  have a2 := hs_AK_rg k1 a2
  refine hs_joinL kr (by omega) (by omega) ha ha' hb hb' hab l0 ?_
  intro T1 L1 R1 U1 N1 f1 f2 f3 f4 f5
  have w1 := hs_LW_of (by omega) (by omega) hs_LD_r f2 (hT _ _ _ _ f3 f4 f5)
  have l1 := hs_LL_other (by omega) (by decide) w1 l1
  have l2 := hs_LW_rg w1 l2
  refine nm_r (e' := hs_i 1) (by decide) ?_
  refine hs_le 2 1 (fun z => absurd z (by decide)) (fun _ => hs_joinA kr (by omega) (by omega) ha ha' hb hb' hab a1 ?_)
  intro S2 F2 P2 g1 k2
  have e1 := hs_AA_other (by omega) (by omega) (by decide) k2 e1
  have a2 := hs_AK_rg k2 a2
  refine hs_joinL kr (by omega) (by omega) ha ha' hb hb' hab l1 ?_
  intro T2 L2 R2 U2 N2 j1 j2 j3 j4 j5
  have w2 := hs_LW_of (by omega) (by omega) hs_LD_r j2 (hT _ _ _ _ j3 j4 j5)
  have f1 := hs_LL_other (by omega) (by decide) w2 f1
  have l2 := hs_LW_rg w2 l2
  refine nm_r (e' := hs_i 2) (by decide) ?_
  refine hs_le 2 2 (fun _ => hs_joinP kr ha ha' hb hb' hab p0 ?_) (fun z => absurd z (by decide))
  intro pr1 pc1 pn1 pb1 m1 m2 m3 m4 m5
  have mr : hs_PR pr1 pc1 pn1 pb1 := by
    refine ⟨fun j u v => ?_, hs_fr_rg p1.2.1 m2.1 hs_PD_r, hs_fr_rg p1.2.2.1 m2.2.1 hs_PD_r, hs_fr_rg p1.2.2.2 m2.2.2 hs_PD_r⟩
    by_cases e : j = a
    · rw [e]
      rcases m4 with y | y
      · omega
      · have := y.1; have := y.2.1; omega
    · by_cases f : j = b
      · rw [f, m5]; omega
      · rw [m3 j e f]; exact p1.1 j u v
  refine hs_joinB kr ha ha' hb hb' hab b1 b0 ?_
  intro tr1 tc1 tn1 tu1 n1 n2
  have nr : hs_BG tr1 tc1 tn1 tu1 := by
    refine ⟨fun j u v => ?_, hs_fr_rg b2.2.1 n2.1 hs_BD_r, hs_fr_rg b2.2.2.1 n2.2.1 hs_BD_r, hs_fr_rg b2.2.2.2 n2.2.2.1 hs_BD_r⟩
    rcases n2.2.2.2 j with y | y
    · rw [y]; exact b2.1 j u v
    · rcases y.2 with z | z
      · omega
      · have := z.1; have := z.2.1; omega
  refine hs_joinT kr ha ha' hb hb' hab t0 t1 ?_
  intro W o1 o2
  have EN1 : hs_EN (hs_K k) (fun i => if h i = b then a else h i) S2 F2 P2 T2 L2 R2 U2 N2 pr1 pc1 pn1 pb1 tr1 tc1 tn1 tu1 ni nn W := ⟨⟨e1, g1, a2⟩, ⟨f1, j1, l2⟩, ⟨m1, mr⟩, ⟨n1, b1, nr⟩, ⟨o1, o2⟩⟩
  refine ⟨26, ?_⟩
  rw [← hs_l0]
  refine hs_j70 ha ha' hb hb' hab hh (fun H hH => hK H _ _ _ _ _ _ _ _ _ _ _ _ _ _ _ _ _ _ _ (hs_EN_congr EN1 hH (fun _ _ _ _ => rfl)) hH) 26 h 0 (fun j _ _ => ?_) (by omega) (by omega) (by omega)
  rw [if_neg (fun v => by omega)]
/-! the first item, by each engine -/
theorem hs_fB {post : Int32 → Prop} {k h c S F P lr ll lR lu ln pr pc pn pb tr tc tn tu ni nn wi : Int → Int} {q : Int} (kr : hs_kr k) (hq : 0 ≤ q) (hq' : q ≤ 3) (E : hs_EN (hs_K k) h S F P lr ll lR lu ln pr pc pn pb tr tc tn tu ni nn wi)
    (hK : ∀ r, hs_mn (hs_K k) h q r → post (hs_i r)) : wpX_firstOfBinomial post (hs_e k, hs_e h, hs_e c, hs_e S, hs_e F, hs_e P, hs_e lr, hs_e ll, hs_e lR, hs_e lu, hs_e ln, hs_e pr, hs_e pc, hs_e pn, hs_e pb, hs_e tr, hs_e tc, hs_e tn, hs_e tu, hs_e ni, hs_e nn, hs_e wi) (hs_i q) := by
  obtain ⟨_, _, _, ⟨b0, b1, b2⟩, _⟩ := E
  have root := hs_BT_root b1 (b0 q hq hq')
  obtain ⟨d, t1, t2, t3, t4⟩ := b0 q hq hq'
  have loop : ∀ (n : Nat) (m o : Int), ((m = -1 ∧ ∀ o', 0 ≤ o' → o' < o → tr (q * 5 + o') = -1) ∨ (0 ≤ m ∧ m < 24 ∧ h m = q ∧ ∀ o', 0 ≤ o' → o' < o → tr (q * 5 + o') ≠ -1 → hs_K k m ≤ hs_K k (ni (tr (q * 5 + o'))))) → 0 ≤ o → o ≤ 5 → 5 - o < n →
      wX_firstOfBinomial_4 post (hs_i q) (hs_e k) (hs_e h) (hs_e c) (hs_e S) (hs_e F) (hs_e P) (hs_e lr) (hs_e ll) (hs_e lR) (hs_e lu) (hs_e ln) (hs_e pr) (hs_e pc) (hs_e pn) (hs_e pb) (hs_e tr) (hs_e tc) (hs_e tn) (hs_e tu) (hs_e ni) (hs_e nn) (hs_e wi) n (hs_i m) (hs_i o) := by
    intro n
    induction n with
    | zero => intro m o _ x y z; omega
    | succ n ih =>
      intro m o hm o0 o5 hn
      refine hs_le 5 o (fun z => hK m ?_) (fun z => hs_rd (q * 5 + o) (hs_x5 _ _) (by omega) (by omega) (by decide) ?_)
      · rcases hm with ⟨x, y⟩ | ⟨x1, x2, x3, x4⟩
        · refine Or.inl ⟨x, fun i i0 i1 e => ?_⟩
          obtain ⟨o', u1, u2, u3, _⟩ := root i i0 i1 e
          exact u3 (y o' u1 (by omega))
        · refine Or.inr ⟨x1, x2, x3, fun i i0 i1 e => ?_⟩
          obtain ⟨o', u1, u2, u3, u4⟩ := root i i0 i1 e
          have := x4 o' u1 (by omega) u3
          omega
      · have rt := t3.2 o o0 (by omega)
        have tb := b2.1 (q * 5 + o) (by omega) (by omega)
        refine hs_eq (tr (q * 5 + o)) (-1) (fun y => nm_r (hs_1 o) (ih m (o + 1) ?_ (by omega) (by omega) (by omega))) (fun y => ?_)
        · rcases hm with ⟨x, v⟩ | ⟨x1, x2, x3, x4⟩
          · refine Or.inl ⟨x, fun o' u1 u2 => ?_⟩
            by_cases e : o' = o
            · rw [e]; exact y
            · exact v o' u1 (by omega)
          · refine Or.inr ⟨x1, x2, x3, fun o' u1 u2 u3 => ?_⟩
            have e : o' ≠ o := fun e => u3 (by rw [e]; exact y)
            exact x4 o' u1 (by omega) u3
        · have rD := rt.resolve_left y
          have rr := hs_BD_r _ rD.1
          have nr := b1 _ rr.1 rr.2
          refine ⟨hs_in rr.1 (by omega) (by decide), ?_⟩
          rw [hs_get (A := ni) rr.1 (by omega)]
          have mb : -1 ≤ m ∧ m < 24 := by rcases hm with x | x <;> omega
          refine hs_bet kr mb.1 mb.2 (by omega) nr.2.1 (nm_r (hs_1 o) (ih _ (o + 1) ?_ (by omega) (by omega) (by omega)))
          have le := hs_bt_le (K := hs_K k) (x := m) (y := ni (tr (q * 5 + o)))
          have g := le.2 (by omega)
          right
          have rg : 0 ≤ hs_bt (hs_K k) m (ni (tr (q * 5 + o))) ∧ hs_bt (hs_K k) m (ni (tr (q * 5 + o))) < 24 ∧ h (hs_bt (hs_K k) m (ni (tr (q * 5 + o)))) = q := by
            rcases hs_bt_r (K := hs_K k) (x := m) (y := ni (tr (q * 5 + o))) with e | e
            · rcases hm with x | x
              · rw [e] at g; exact absurd x.1 g.1
              · rw [e]; exact ⟨x.1, x.2.1, x.2.2.1⟩
            · rw [e]; exact ⟨nr.1, nr.2.1, rD.1.2.2⟩
          refine ⟨rg.1, rg.2.1, rg.2.2, fun o' u1 u2 u3 => ?_⟩
          by_cases e : o' = o
          · rw [e]; exact g.2
          · rcases hm with x | x
            · exact absurd (x.2 o' u1 (by omega)) u3
            · have := x.2.2.2 o' u1 (by omega) u3
              have := (le.1 (by omega)).2
              omega
  unfold wpX_firstOfBinomial
  dsimp only
  refine ⟨6, ?_⟩
  rw [← hs_lm1, ← hs_l0]
  exact loop 6 (-1) 0 (Or.inl ⟨rfl, fun o' x y => by omega⟩) (by omega) (by omega) (by omega)
theorem hs_firstBy {post : Int32 → Prop} {k h c S F P lr ll lR lu ln pr pc pn pb tr tc tn tu ni nn wi : Int → Int} {e q : Int} (kr : hs_kr k) (hq : 0 ≤ q) (hq' : q ≤ 3) (he : 0 ≤ e) (he' : e ≤ 6) (E : hs_EN (hs_K k) h S F P lr ll lR lu ln pr pc pn pb tr tc tn tu ni nn wi)
    (hK : ∀ r, hs_mn (hs_K k) h q r → post (hs_i r)) : wpX_firstBy post (hs_e k, hs_e h, hs_e c, hs_e S, hs_e F, hs_e P, hs_e lr, hs_e ll, hs_e lR, hs_e lu, hs_e ln, hs_e pr, hs_e pc, hs_e pn, hs_e pb, hs_e tr, hs_e tc, hs_e tn, hs_e tu, hs_e ni, hs_e nn, hs_e wi) (hs_i e) (hs_i q) := by
  have E0 := E
  obtain ⟨⟨a0, a1, a2⟩, ⟨l0, l1, l2⟩, ⟨p0, p1⟩, ⟨b0, b1, b2⟩, ⟨t0, t1⟩⟩ := E
  have ar : ∀ w, 0 ≤ w → w ≤ 1 → hs_AA (hs_K k) h S F P w → wpX_firstOfArrayHeap post (hs_e k, hs_e h, hs_e c, hs_e S, hs_e F, hs_e P, hs_e lr, hs_e ll, hs_e lR, hs_e lu, hs_e ln, hs_e pr, hs_e pc, hs_e pn, hs_e pb, hs_e tr, hs_e tc, hs_e tn, hs_e tu, hs_e ni, hs_e nn, hs_e wi) (hs_i w) (hs_i q) := by
    intro w w0 w1 hA
    have m := hs_AH_mn (hA q hq hq')
    have cr := hs_c_r h q
    have f := (hA q hq hq').1
    unfold wpX_firstOfArrayHeap
    dsimp only
    refine nm_r (hs_x4 w q) ⟨hs_in (by omega) (by omega) (by decide), ?_⟩
    rw [hs_get (A := F) (by omega) (by omega)]
    refine hs_eq (F (w * 4 + q)) 0 (fun z => ?_) (fun z => ?_)
    · rw [if_pos z] at m; rw [← hs_lm1]; exact hK _ m
    · rw [if_neg z] at m
      rw [hs_m24, hs_get (A := S) (by omega) (by omega)]
      exact ⟨hs_in (by omega) (by omega) (by decide), hK _ m⟩
  have le : ∀ w, 0 ≤ w → w ≤ 1 → hs_LL (hs_K k) h lr ll lR lu ln w → wpX_firstOfLeaning post (hs_e k, hs_e h, hs_e c, hs_e S, hs_e F, hs_e P, hs_e lr, hs_e ll, hs_e lR, hs_e lu, hs_e ln, hs_e pr, hs_e pc, hs_e pn, hs_e pb, hs_e tr, hs_e tc, hs_e tn, hs_e tu, hs_e ni, hs_e nn, hs_e wi) (hs_i w) (hs_i q) := by
    intro w w0 w1 hL
    have m := hs_LT_mn w0 (hL q hq hq')
    have r := l2.1 (w * 4 + q) (by omega) (by omega)
    unfold wpX_firstOfLeaning
    dsimp only
    refine hs_rd (w * 4 + q) (hs_x4 _ _) (by omega) (by omega) (by decide) (hs_eq (lr (w * 4 + q)) (-1) (fun z => ?_) (fun z => ?_))
    · rw [if_pos z] at m; rw [← hs_lm1]; exact hK _ m
    · rw [if_neg z] at m
      rw [hs_m24, hs_sub]
      exact hK _ m
  have to : vp_in ((hs_i q * 48) + 1) 192 ∧ post (hs_e wi ((hs_i q * 48) + 1).toNatClampNeg) := by
    rw [hs_m48, hs_1, hs_get (A := wi) (by omega) (by omega)]
    exact ⟨hs_in (by omega) (by omega) (by decide), hK _ (hs_TN_mn (t0 q hq hq'))⟩
  unfold wpX_firstBy
  dsimp only
  refine hs_lt e 0 (fun z => absurd z (by omega)) (fun _ => hs_lt 5 e (fun _ => to) (fun c5 => ?_))
  refine hs_eq e 0 (fun z => ?_) (fun z0 => hs_eq e 1 (fun z => ?_) (fun z1 => hs_eq e 2 (fun z => ?_) (fun z2 => hs_eq e 3 (fun z => ?_) (fun z3 => hs_eq e 4 (fun z => ?_) (fun z4 => hs_eq e 5 (fun z => ?_) (fun z5 => trivial))))))
  · unfold wX_firstBy_40
    rw [z, show hs_i 0 - 0 = hs_i 0 from by decide]
    exact ar 0 (by omega) (by omega) a0
  · unfold wX_firstBy_40
    rw [z, show hs_i 1 - 0 = hs_i 1 from by decide]
    exact ar 1 (by omega) (by omega) a1
  · unfold wX_firstBy_49
    rw [z, show hs_i 2 - 2 = hs_i 0 from by decide]
    exact le 0 (by omega) (by omega) l0
  · unfold wX_firstBy_49
    rw [z, show hs_i 3 - 2 = hs_i 1 from by decide]
    exact le 1 (by omega) (by omega) l1
  · rw [hs_get (A := pr) hq (by omega)]
    exact ⟨hs_in hq (by omega) (by decide), hK _ (hs_PT_mn (p0 q hq hq'))⟩
  · exact hs_fB kr hq hq' E0 hK
end HS33
