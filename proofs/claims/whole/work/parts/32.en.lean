section HS32
/-! all engines together -/
def hs_PR (T C X B : Int → Int) : Prop := hs_rg T 4 (-1) 23 ∧ hs_rg C 24 (-1) 23 ∧ hs_rg X 24 (-1) 23 ∧ hs_rg B 24 (-1) 23
def hs_BG (T C X U : Int → Int) : Prop := hs_rg T 20 (-1) 23 ∧ hs_rg C 24 (-1) 23 ∧ hs_rg X 24 (-1) 23 ∧ hs_rg U 24 (-1) 23
def hs_EN (K H S F P lr ll lR lu ln pr pc pn pb tr tc tn tu ni nn wi : Int → Int) : Prop :=
  (hs_AA K H S F P 0 ∧ hs_AA K H S F P 1 ∧ hs_rg S 192 0 23) ∧ (hs_LL K H lr ll lR lu ln 0 ∧ hs_LL K H lr ll lR lu ln 1 ∧ hs_LR lr ll lR lu) ∧
  (hs_PA K H pr pc pn pb ∧ hs_PR pr pc pn pb) ∧ (hs_BA K H tr tc tn tu ni ∧ hs_PM ni nn ∧ hs_BG tr tc tn tu) ∧ (hs_TA K H wi ∧ hs_rg wi 192 (-1) 23)
theorem hs_fr_rg {D : Int → Prop} {A A' : Int → Int} {n : Int} (h : hs_rg A n (-1) 23) (hF : hs_fr D A A') (hD : ∀ n, D n → 0 ≤ n ∧ n < 24) : hs_rg A' n (-1) 23 := by
  intro j a b
  rcases hF j with e | ⟨_, e⟩
  · rw [e]; exact h j a b
  · rcases e with e | e
    · omega
    · have := hD _ e; omega
theorem hs_EN_congr {K K' H H' S F P lr ll lR lu ln pr pc pn pb tr tc tn tu ni nn wi : Int → Int} (h : hs_EN K H S F P lr ll lR lu ln pr pc pn pb tr tc tn tu ni nn wi) (hH : ∀ i, 0 ≤ i → i < 24 → H' i = H i) (hK : ∀ i, 0 ≤ i → i < 24 → 0 ≤ H i → K' i = K i) : hs_EN K' H' S F P lr ll lR lu ln pr pc pn pb tr tc tn tu ni nn wi := by
  obtain ⟨⟨a0, a1, a2⟩, ⟨l0, l1, l2⟩, ⟨p0, p1⟩, ⟨b0, b1, b2⟩, ⟨t0, t1⟩⟩ := h
  have hq : ∀ q, ∀ i, 0 ≤ i → i < 24 → (H' i = q ↔ H i = q) := fun q i x y => by rw [hH i x y]
  have hk : ∀ q, 0 ≤ q → ∀ i, 0 ≤ i → i < 24 → H i = q → K' i = K i := fun q z i x y e => hK i x y (by omega)
  refine ⟨⟨?_, ?_, a2⟩, ⟨?_, ?_, l2⟩, ⟨?_, p1⟩, ⟨?_, b1, b2⟩, ⟨?_, t1⟩⟩
  · intro q q0 q1
    exact hs_AH_congr (a0 q q0 q1) (hq q) (hk q q0) (fun _ _ _ => rfl) rfl (fun _ _ _ _ => rfl)
  · intro q q0 q1
    exact hs_AH_congr (a1 q q0 q1) (hq q) (hk q q0) (fun _ _ _ => rfl) rfl (fun _ _ _ _ => rfl)
  · intro q q0 q1
    exact hs_LT_congr (by omega) (l0 q q0 q1) (hq q) (hk q q0) rfl (fun _ _ => rfl) (fun _ _ => rfl) (fun _ _ => rfl) (fun _ _ => rfl)
  · intro q q0 q1
    exact hs_LT_congr (by omega) (l1 q q0 q1) (hq q) (hk q q0) rfl (fun _ _ => rfl) (fun _ _ => rfl) (fun _ _ => rfl) (fun _ _ => rfl)
  · intro q q0 q1
    exact hs_PT_congr (p0 q q0 q1) (hq q) (hk q q0) rfl (fun _ _ => rfl) (fun _ _ => rfl) (fun _ _ => rfl)
  · intro q q0 q1
    refine hs_BT_congr (b0 q q0 q1) ?_ (hq q) ?_ (fun _ _ _ => rfl) (fun _ _ => rfl) (fun _ _ => rfl) (fun _ _ => rfl)
    · intro n
      constructor
      · intro c; exact ⟨c.1, c.2.1, (hq q _ (b1 n c.1 c.2.1).1 (b1 n c.1 c.2.1).2.1).mp c.2.2⟩
      · intro c; exact ⟨c.1, c.2.1, (hq q _ (b1 n c.1 c.2.1).1 (b1 n c.1 c.2.1).2.1).mpr c.2.2⟩
    · intro n c
      exact hk q q0 _ (b1 n c.1 c.2.1).1 (b1 n c.1 c.2.1).2.1 c.2.2
  · intro q q0 q1
    exact hs_TN_congr (t0 q q0 q1) (hq q) (hk q q0) (fun _ _ _ => rfl)
theorem hs_attach {post : SX → Prop} {k h c S F P lr ll lR lu ln pr pc pn pb tr tc tn tu ni nn wi : Int → Int} {q x key : Int} (kr : hs_kr k) (hq : 0 ≤ q) (hq' : q ≤ 3) (x0 : 0 ≤ x) (x1 : x < 24) (hx : ¬ (0 ≤ h x)) (y0 : -999 ≤ key) (y1 : key ≤ 999)
    (E : hs_EN (hs_K k) h S F P lr ll lR lu ln pr pc pn pb tr tc tn tu ni nn wi)
    (hK : ∀ S1 F1 P1 lr1 ll1 lR1 lu1 ln1 pr1 pc1 pn1 pb1 tr1 tc1 tn1 tu1 ni1 nn1 wi1 : Int → Int, hs_EN (hs_K (hs_u k x key)) (hs_u h x q) S1 F1 P1 lr1 ll1 lR1 lu1 ln1 pr1 pc1 pn1 pb1 tr1 tc1 tn1 tu1 ni1 nn1 wi1 → post (hs_e (hs_u k x key), hs_e (hs_u h x q), hs_e (hs_u c q (c q + 1)), hs_e S1, hs_e F1, hs_e P1, hs_e lr1, hs_e ll1, hs_e lR1, hs_e lu1, hs_e ln1, hs_e pr1, hs_e pc1, hs_e pn1, hs_e pb1, hs_e tr1, hs_e tc1, hs_e tn1, hs_e tu1, hs_e ni1, hs_e nn1, hs_e wi1)) :
    wpX_attach post (hs_e k, hs_e h, hs_e c, hs_e S, hs_e F, hs_e P, hs_e lr, hs_e ll, hs_e lR, hs_e lu, hs_e ln, hs_e pr, hs_e pc, hs_e pn, hs_e pb, hs_e tr, hs_e tc, hs_e tn, hs_e tu, hs_e ni, hs_e nn, hs_e wi) (hs_i q) (hs_i x) (hs_i key) := by
  have kr' : hs_kr (hs_u k x key) := by
    intro i a b
    by_cases e : i = x
    · rw [hs_ue e]; exact ⟨y0, y1⟩
    · rw [hs_un e]; exact kr i a b
  have E := hs_EN_congr (K' := hs_K (hs_u k x key)) E (fun _ _ _ => rfl) (fun i a b z => by
    have e : i ≠ x := fun t => hx (by rw [← t]; exact z)
    unfold hs_K
    rw [hs_un e])
  obtain ⟨⟨a0, a1, a2⟩, ⟨l0, l1, l2⟩, ⟨p0, p1⟩, ⟨b0, b1, b2⟩, ⟨t0, t1⟩⟩ := E
  generalize hk' : hs_u k x key = k' at *
  have other : ∀ q', 0 ≤ q' → q' ≠ q → ∀ i, 0 ≤ i → i < 24 → (hs_u h x q i = q' ↔ h i = q') := by
    intro q' z0 e i c0 c1
    by_cases z : i = x
    · rw [hs_ue z, z]
      exact ⟨fun y => absurd y.symm e, fun y => by omega⟩
    · rw [hs_un z]
  unfold wpX_attach
  dsimp only
  refine hs_wr x key rfl rfl x0 (by omega) (by decide) (hs_wr x q rfl rfl x0 (by omega) (by decide) ⟨hs_in hq (by omega) (by decide), ?_⟩)
  rw [hs_get (A := c) hq (by omega), hs_1, hk']
  refine hs_wr q (c q + 1) rfl rfl hq (by omega) (by decide) ⟨3, ?_⟩
  rw [← hs_l0]
  refine hs_le 2 0 (fun z => absurd z (by decide)) (fun _ => hs_addA kr' (by omega) (by omega) hq hq' x0 x1 hx a0 ?_)
  intro S1 F1 P1 e1 e2 e3 e4
  have k1 := hs_AK_of hq hq' e2 e3 e4
  have a1 := hs_AA_other (by omega) (by omega) (by decide) k1 a1
  have a2 := hs_AK_rg k1 a2
  refine hs_addL kr' (by omega) (by omega) hq hq' x0 x1 hx l0 ?_
  intro T1 L1 R1 U1 N1 f1 f2 f3 f4
  have hT : ∀ (w : Int) (T T' : Int → Int) (D : Int → Prop), (∀ j, j ≠ w * 4 + q → T' j = T j) → (T' (w * 4 + q) = -1 ∨ D (T' (w * 4 + q))) → ∀ j, T' j = T j ∨ (w * 4 ≤ j ∧ j < w * 4 + 4 ∧ (T' j = -1 ∨ D (T' j))) := by
    intro w T T' D u v j
    by_cases e : j = w * 4 + q
    · rw [e]; exact Or.inr ⟨by omega, by omega, v⟩
    · exact Or.inl (u j e)
  have w1 := hs_LW_of (by omega) (by omega) hs_LD_r f2 (hT _ _ _ _ f3 f4)
  have l1 := hs_LL_other (by omega) (by decide) w1 l1
  have l2 := hs_LW_rg w1 l2
  refine nm_r (e' := hs_i 1) (by decide) ?_
  refine hs_le 2 1 (fun z => absurd z (by decide)) (fun _ => hs_addA kr' (by omega) (by omega) hq hq' x0 x1 hx a1 ?_)
  intro S2 F2 P2 g1 g2 g3 g4
  have k2 := hs_AK_of hq hq' g2 g3 g4
  have e1 := hs_AA_other (by omega) (by omega) (by decide) k2 e1
  have a2 := hs_AK_rg k2 a2
  refine hs_addL kr' (by omega) (by omega) hq hq' x0 x1 hx l1 ?_
  intro T2 L2 R2 U2 N2 j1 j2 j3 j4
  have w2 := hs_LW_of (by omega) (by omega) hs_LD_r j2 (hT _ _ _ _ j3 j4)
  have f1 := hs_LL_other (by omega) (by decide) w2 f1
  have l2 := hs_LW_rg w2 l2
  refine nm_r (e' := hs_i 2) (by decide) ?_
  refine hs_le 2 2 (fun _ => hs_addP kr' hq hq' x0 x1 hx p0 ?_) (fun z => absurd z (by decide))
  intro pr1 pc1 pn1 pb1 m1 m2 m3 m4
  have mr : hs_PR pr1 pc1 pn1 pb1 := by
    refine ⟨fun j u v => ?_, hs_fr_rg p1.2.1 m2.1 hs_PD_r, hs_fr_rg p1.2.2.1 m2.2.1 hs_PD_r, hs_fr_rg p1.2.2.2 m2.2.2 hs_PD_r⟩
    by_cases e : j = q
    · rw [e]
      rcases m4 with y | y
      · omega
      · have := y.1; have := y.2.1; omega
    · rw [m3 j e]; exact p1.1 j u v
  refine hs_addB kr' hq hq' x0 x1 hx b1 b0 ?_
  intro tr1 tc1 tn1 tu1 n1 n2
  have nr : hs_BG tr1 tc1 tn1 tu1 := by
    refine ⟨fun j u v => ?_, hs_fr_rg b2.2.1 n2.1 hs_BD_r, hs_fr_rg b2.2.2.1 n2.2.1 hs_BD_r, hs_fr_rg b2.2.2.2 n2.2.2.1 hs_BD_r⟩
    rcases n2.2.2.2 j with y | y
    · rw [y]; exact b2.1 j u v
    · rcases y.2.2 with z | z
      · omega
      · have := z.1; have := z.2.1; omega
  refine hs_seat (H' := hs_u h x q) kr' hq hq' x0 x1 (t0 q hq hq') t1 (fun i _ _ e => by rw [hs_un e]) (by rw [hs_us, if_pos rfl]) ?_
  intro W o1 o2
  refine hK S2 F2 P2 T2 L2 R2 U2 N2 pr1 pc1 pn1 pb1 tr1 tc1 tn1 tu1 ni nn W ⟨⟨e1, g1, a2⟩, ⟨f1, j1, l2⟩, ⟨m1, mr⟩, ⟨n1, b1, nr⟩, ⟨?_, hs_fW_rg t1 o2⟩⟩
  intro q' z0 z1
  by_cases e : q' = q
  · rw [e]; exact o1
  · exact hs_TN_keep (t0 q' z0 z1) e (other q' z0 e) o2
theorem hs_detach {post : SX → Prop} {k h c S F P lr ll lR lu ln pr pc pn pb tr tc tn tu ni nn wi : Int → Int} {x : Int} (kr : hs_kr k) (x0 : 0 ≤ x) (x1 : x < 24) (hx : 0 ≤ h x) (hx' : h x ≤ 3)
    (E : hs_EN (hs_K k) h S F P lr ll lR lu ln pr pc pn pb tr tc tn tu ni nn wi)
    (hK : ∀ S1 F1 P1 lr1 ll1 lR1 lu1 ln1 pr1 pc1 pn1 pb1 tr1 tc1 tn1 tu1 ni1 nn1 wi1 : Int → Int, hs_EN (hs_K k) (hs_u h x (-1)) S1 F1 P1 lr1 ll1 lR1 lu1 ln1 pr1 pc1 pn1 pb1 tr1 tc1 tn1 tu1 ni1 nn1 wi1 → post (hs_e k, hs_e (hs_u h x (-1)), hs_e (hs_u c (h x) (c (h x) - 1)), hs_e S1, hs_e F1, hs_e P1, hs_e lr1, hs_e ll1, hs_e lR1, hs_e lu1, hs_e ln1, hs_e pr1, hs_e pc1, hs_e pn1, hs_e pb1, hs_e tr1, hs_e tc1, hs_e tn1, hs_e tu1, hs_e ni1, hs_e nn1, hs_e wi1)) :
    wpX_detach post (hs_e k, hs_e h, hs_e c, hs_e S, hs_e F, hs_e P, hs_e lr, hs_e ll, hs_e lR, hs_e lu, hs_e ln, hs_e pr, hs_e pc, hs_e pn, hs_e pb, hs_e tr, hs_e tc, hs_e tn, hs_e tu, hs_e ni, hs_e nn, hs_e wi) (hs_i x) := by
  obtain ⟨⟨a0, a1, a2⟩, ⟨l0, l1, l2⟩, ⟨p0, p1⟩, ⟨b0, b1, b2⟩, ⟨t0, t1⟩⟩ := E
  unfold wpX_detach
  dsimp only
  refine hs_rd x rfl x0 (by omega) (by decide) ⟨3, ?_⟩
  rw [← hs_l0]
  generalize hq0 : h x = q at *
  have hq := hx
  have hq' := hx'
  have other : ∀ q', 0 ≤ q' → q' ≠ q → ∀ i, 0 ≤ i → i < 24 → (hs_u h x (-1) i = q' ↔ h i = q') := by
    intro q' z0 e i c0 c1
    by_cases z : i = x
    · rw [hs_ue z, z]
      exact ⟨fun y => by omega, fun y => by omega⟩
    · rw [hs_un z]
  refine hs_le 2 0 (fun z => absurd z (by decide)) (fun _ => hs_dropA kr (by omega) (by omega) hq hq' x0 x1 hq0 a0 ?_)
  intro S1 F1 P1 e1 e2 e3 e4
  have k1 := hs_AK_of hq hq' e2 e3 e4
  have a1 := hs_AA_other (by omega) (by omega) (by decide) k1 a1
  have a2 := hs_AK_rg k1 a2
  refine hs_dropL kr (by omega) (by omega) hq hq' x0 x1 hq0 l0 ?_
  intro T1 L1 R1 U1 N1 f1 f2 f3 f4
  have hT : ∀ (w : Int) (T T' : Int → Int) (D : Int → Prop), (∀ j, j ≠ w * 4 + q → T' j = T j) → (T' (w * 4 + q) = -1 ∨ D (T' (w * 4 + q))) → ∀ j, T' j = T j ∨ (w * 4 ≤ j ∧ j < w * 4 + 4 ∧ (T' j = -1 ∨ D (T' j))) := by
    intro w T T' D u v j
    by_cases e : j = w * 4 + q
    · rw [e]; exact Or.inr ⟨by omega, by omega, v⟩
    · exact Or.inl (u j e)
  have w1 := hs_LW_of (by omega) (by omega) hs_LD_r f2 (hT _ _ _ _ f3 f4)
  have l1 := hs_LL_other (by omega) (by decide) w1 l1
  have l2 := hs_LW_rg w1 l2
  refine nm_r (e' := hs_i 1) (by decide) ?_
  refine hs_le 2 1 (fun z => absurd z (by decide)) (fun _ => hs_dropA kr (by omega) (by omega) hq hq' x0 x1 hq0 a1 ?_)
  intro S2 F2 P2 g1 g2 g3 g4
  have k2 := hs_AK_of hq hq' g2 g3 g4
  have e1 := hs_AA_other (by omega) (by omega) (by decide) k2 e1
  have a2 := hs_AK_rg k2 a2
  refine hs_dropL kr (by omega) (by omega) hq hq' x0 x1 hq0 l1 ?_
  intro T2 L2 R2 U2 N2 j1 j2 j3 j4
  have w2 := hs_LW_of (by omega) (by omega) hs_LD_r j2 (hT _ _ _ _ j3 j4)
  have f1 := hs_LL_other (by omega) (by decide) w2 f1
  have l2 := hs_LW_rg w2 l2
  refine nm_r (e' := hs_i 2) (by decide) ?_
  refine hs_le 2 2 (fun _ => hs_dropP kr hq hq' x0 x1 hq0 p0 ?_) (fun z => absurd z (by decide))
  intro pr1 pc1 pn1 pb1 m1 m2 m3 m4
  have mr : hs_PR pr1 pc1 pn1 pb1 := by
    refine ⟨fun j u v => ?_, hs_fr_rg p1.2.1 m2.1 hs_PD_r, hs_fr_rg p1.2.2.1 m2.2.1 hs_PD_r, hs_fr_rg p1.2.2.2 m2.2.2 hs_PD_r⟩
    by_cases e : j = q
    · rw [e]
      rcases m4 with y | y
      · omega
      · have := y.1; have := y.2.1; omega
    · rw [m3 j e]; exact p1.1 j u v
  refine hs_dropB kr hq hq' x0 x1 hq0 b1 b0 ?_
  intro tr1 tc1 tn1 tu1 ni1 nn1 n1 nP n2
  have nr : hs_BG tr1 tc1 tn1 tu1 := by
    refine ⟨fun j u v => ?_, hs_fr_rg b2.2.1 n2.1 hs_BD_r, hs_fr_rg b2.2.2.1 n2.2.1 hs_BD_r, hs_fr_rg b2.2.2.2 n2.2.2.1 hs_BD_r⟩
    rcases n2.2.2.2 j with y | y
    · rw [y]; exact b2.1 j u v
    · rcases y.2.2 with z | z
      · omega
      · have := z.1; have := z.2.1; omega
  show wpX_seat _ _ _ _ (-1)
  rw [← hs_lm1]
  refine hs_seat (H' := hs_u h x (-1)) kr hq hq' x0 x1 (t0 q hq hq') t1 (fun i _ _ e => by rw [hs_un e]) (by rw [hs_us, if_neg (by omega)]) ?_
  intro W o1 o2
  dsimp only
  refine hs_wr x (-1) rfl rfl x0 (by omega) (by decide) ⟨hs_in hq (by omega) (by decide), ?_⟩
  rw [hs_get (A := c) hq (by omega), hs_s1]
  refine hs_wr q (c q - 1) rfl rfl hq (by omega) (by decide) ?_
  refine hK S2 F2 P2 T2 L2 R2 U2 N2 pr1 pc1 pn1 pb1 tr1 tc1 tn1 tu1 ni1 nn1 W ⟨⟨e1, g1, a2⟩, ⟨f1, j1, l2⟩, ⟨m1, mr⟩, ⟨n1, nP, nr⟩, ⟨?_, hs_fW_rg t1 o2⟩⟩
  intro q' z0 z1
  by_cases e : q' = q
  · rw [e]; exact o1
  · exact hs_TN_keep (t0 q' z0 z1) e (other q' z0 e) o2
end HS32
