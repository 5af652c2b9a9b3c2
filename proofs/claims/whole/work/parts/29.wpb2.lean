section HS29
variable {gv1 gv2 gv3 gv4 gv5 gv6 gv7 gv8 gv9 gv10 gv11 gv12 gv13 gv14 gv15 gv16 gv17 gv18 gv19 gv20 gv21 gv22 : Nat → Int32}
theorem hs_ra {post : SX → Prop} {D : Int → Prop} {kk H d U C X : Int → Int} {q x : Int} (hD : ∀ n, D n → 0 ≤ n ∧ n < 24) (hO : hs_BO D d U C X (-1)) (x0 : 0 ≤ x) (x1 : x < 24) :
    ∀ (n : Nat) (NI IN : Int → Int) (v st : Int), hs_RI D (hs_K kk) H U NI IN q v x → 0 ≤ st → st ≤ d v → 5 - st < n →
    (∀ (NI' IN' : Int → Int) (v' : Int), hs_RI D (hs_K kk) H U NI' IN' q v' x → U v' = -1 → (∀ j, NI' j = NI j ∨ D j) → post (gv1, gv2, gv3, gv4, gv5, gv6, gv7, gv8, gv9, gv10, gv11, gv12, gv13, gv14, gv15, gv16, gv17, gv18, hs_e U, hs_e (hs_u NI' v' x), hs_e (hs_u IN' x v'), gv22)) →
    wX_raiseToRoot_9 post (hs_i x) n (hs_i v) (hs_i st) gv1 gv2 gv3 gv4 gv5 gv6 gv7 gv8 gv9 gv10 gv11 gv12 gv13 gv14 gv15 gv16 gv17 gv18 (hs_e U) (hs_e NI) (hs_e IN) gv22 := by
  intro n
  induction n with
  | zero =>
    intro NI IN v st hR h0 h1 h2
    have := (hO v hR.2.2.2.2).2.1
    omega
  | succ n ih =>
    intro NI IN v st hR h0 h1 h2 hK
    have dv := hR.2.2.2.2
    have vr := hD v dv
    have d4 := (hO v dv).2.1
    have ub : U v = -1 ∨ D (U v) := by
      rcases (hO v dv).2.2.2.2.1 with y | ⟨_, y | y⟩
      · exact Or.inl y
      · exact Or.inl y
      · exact Or.inr y
    have ub2 : -2147483648 ≤ U v ∧ U v < 2147483648 := by
      rcases ub with y | y
      · omega
      · have := hD _ y; omega
    refine hs_le 5 st (fun c => absurd c (by omega)) (fun c => ⟨hs_in vr.1 (by omega) (by decide), ?_⟩)
    rw [hs_get (A := U) vr.1 (by omega)]
    refine hs_eq (U v) (-1) (fun c => ?_) (fun c => ?_)
    · unfold wX_raiseToRoot_66
      exact hs_wr v x rfl rfl vr.1 (by omega) (by decide) (hs_wr x v rfl rfl x0 (by omega) (by decide) (hK NI IN v hR c (fun _ => Or.inl rfl)))
    · obtain ⟨s1, s2, s3, s4, s5⟩ := hs_RI_step hO hR c
      have pr := hD _ s5
      refine ⟨hs_in vr.1 (by omega) (by decide), nm_r rfl (hs_rd (U v) rfl pr.1 (by omega) (by decide) ?_)⟩
      refine hs_wr v (NI (U v)) rfl rfl vr.1 (by omega) (by decide) (hs_wr (NI (U v)) v rfl rfl s2 (by omega) (by decide) (nm_r (hs_1 st) ?_))
      refine ih _ _ (U v) (st + 1) s1 (by omega) (by omega) (by omega) ?_
      intro NI' IN' v' a1 a2 a3
      refine hK NI' IN' v' a1 a2 (fun j => ?_)
      rcases a3 j with e | e
      · by_cases z : j = v
        · exact Or.inr (by rw [z]; exact dv)
        · rw [hs_un z] at e; exact Or.inl e
      · exact Or.inr e
theorem hs_dl {post : SX → Prop} {D : Int → Prop} {kk NI : Int → Int} {q e tot : Int} (kr : hs_kr kk) (hq : 0 ≤ q) (hq' : q ≤ 3) (hD : ∀ n, D n → 0 ≤ n ∧ n < 24) (hN : ∀ n, D n → 0 ≤ NI n ∧ NI n < 24) (hI : ∀ n m, D n → D m → NI n = NI m → n = m) (htot : tot ≤ 24) :
    ∀ (n : Nat) (d G T C X U : Int → Int) (c o : Int), hs_PL D (fun n => hs_K kk (NI n)) d G T C X U q e c o tot → o + 1 < n →
    (∀ (d' G' T' C' X' U' : Int → Int) (o' : Int), hs_PL D (fun n => hs_K kk (NI n)) d' G' T' C' X' U' q e (-1) o' tot → hs_BF D q T C X U T' C' X' U' → post (hs_e kk, gv2, gv3, gv4, gv5, gv6, gv7, gv8, gv9, gv10, gv11, gv12, gv13, gv14, gv15, hs_e T', hs_e C', hs_e X', hs_e U', hs_e NI, gv21, gv22)) →
    wX_dropFromBinomial_45 post (hs_i q) n (hs_i c) (hs_i o) (hs_e kk) gv2 gv3 gv4 gv5 gv6 gv7 gv8 gv9 gv10 gv11 gv12 gv13 gv14 gv15 (hs_e T) (hs_e C) (hs_e X) (hs_e U) (hs_e NI) gv21 gv22 := by
  have hm : ∀ n, D n → n ≠ -1 := fun n hn => by have := hD n hn; omega
  intro n
  induction n with
  | zero =>
    intro d G T C X U c o hL hn
    rcases hL.2.2.2.2.2.1 with y | y
    · omega
    · omega
  | succ n ih =>
    intro d G T C X U c o hL hn hK
    have fin : c = -1 → post (hs_e kk, gv2, gv3, gv4, gv5, gv6, gv7, gv8, gv9, gv10, gv11, gv12, gv13, gv14, gv15, hs_e T, hs_e C, hs_e X, hs_e U, hs_e NI, gv21, gv22) := by
      intro z
      rw [z] at hL
      exact hK d G T C X U o hL ⟨hs_fr_refl, hs_fr_refl, hs_fr_refl, fun _ => Or.inl rfl⟩
    have co := hL.2.2.2.2.2.1
    have cb : -2147483648 ≤ c ∧ c < 2147483648 := by
      rcases co with y | y
      · omega
      · have := hD c y.2.1; omega
    have ob : -1 ≤ o ∧ o ≤ 4 := by
      rcases co with y | y
      · omega
      · have := (hL.1 c y.2.1).2.1; omega
    refine hs_lt o 0 (fun z => fin ?_) (fun z => hs_eq c (-1) fin (fun y => ?_))
    · rcases co with y | y
      · exact y.2
      · omega
    · obtain ⟨_, c1, c2, c3⟩ := co.resolve_left (fun x => y x.2)
      have cr := hD c c1
      obtain ⟨a1, a2, a3, a4, a5⟩ := hs_PL_at hm hL y
      refine hs_rd c rfl cr.1 (by omega) (by decide) ?_
      unfold wpX_addTree
      dsimp only
      refine ⟨6, ?_⟩
      refine hs_at kr hq hq' hD hN hI (by omega) (Or.inr hL.2.2.2.2.1.1) 6 _ _ _ _ _ _ c o a1 (by omega) ?_
      intro d' G' T' C' X' U' b1 b2 b3 b4 b5 b6 b7 b8
      refine nm_r (hs_m1 o) (ih d' G' T' C' X' U' (X c) (o - 1) (hs_PL_next hm hL y b1 b2 b3 b4 b5 b6 b7) (by omega) ?_)
      intro d2 G2 T2 C2 X2 U2 o2 e1 e2
      exact hK d2 G2 T2 C2 X2 U2 o2 e1 (hs_BF_trans b8 e2)
theorem hs_dropB {post : SX → Prop} {kk H T C X U NI IN : Int → Int} {q x : Int} (kr : hs_kr kk) (hq : 0 ≤ q) (hq' : q ≤ 3) (x0 : 0 ≤ x) (x1 : x < 24) (hx : H x = q) (hP : hs_PM NI IN)
    (h : hs_BA (hs_K kk) H T C X U NI)
    (hK : ∀ T' C' X' U' NI' IN' : Int → Int, hs_BA (hs_K kk) (hs_u H x (-1)) T' C' X' U' NI' → hs_PM NI' IN' → hs_BF (hs_BD H NI q) q T C X U T' C' X' U' → post (hs_e kk, gv2, gv3, gv4, gv5, gv6, gv7, gv8, gv9, gv10, gv11, gv12, gv13, gv14, gv15, hs_e T', hs_e C', hs_e X', hs_e U', hs_e NI', hs_e IN', gv22)) :
    wpX_dropFromBinomial post (hs_e kk, gv2, gv3, gv4, gv5, gv6, gv7, gv8, gv9, gv10, gv11, gv12, gv13, gv14, gv15, hs_e T, hs_e C, hs_e X, hs_e U, hs_e NI, hs_e IN, gv22) (hs_i q) (hs_i x) := by
  have p := hP x x0 x1
  obtain ⟨d, t1, t2, t3, t4⟩ := h q hq hq'
  have xD : hs_BD H NI q (IN x) := ⟨p.2.2.1, p.2.2.2.1, by rw [p.2.2.2.2.1]; exact hx⟩
  have up : ∀ n, hs_BD H NI q n → U n ≠ -1 → hs_BD H NI q (U n) ∧ hs_K kk (NI (U n)) < hs_K kk (NI n) := by
    intro n hn c
    refine ⟨?_, ?_⟩
    · rcases (t1 n hn).2.2.2.2.1 with f | ⟨_, f | f⟩
      · exact absurd f c
      · exact absurd f c
      · exact f
    · rcases t2 n hn with f | f | f
      · exact absurd f c
      · exact absurd f c
      · exact f
  have RI0 : hs_RI (hs_BD H NI q) (hs_K kk) H U NI IN q (IN x) x := by
    unfold hs_RI
    rw [hs_self p.2.2.2.2.1, hs_self (rfl : IN x = IN x)]
    refine ⟨hP, fun n => Iff.rfl, fun n hn _ c _ => (up n hn c).2, fun c n hn e => ?_, xD⟩
    have a := (up n hn (by rw [e]; exact hs_BD_m _ xD)).2
    have b := (up _ xD c).2
    rw [e] at a
    omega
  have cr := hs_c_r (hs_u H x (-1)) q
  unfold wpX_dropFromBinomial
  dsimp only
  unfold wpX_raiseToRoot
  dsimp only
  refine hs_rd x rfl x0 (by omega) (by decide) ⟨7, ?_⟩
  rw [← hs_l0]
  refine hs_ra hs_BD_r t1 x0 x1 7 NI IN (IN x) 0 RI0 (by omega) (t1 _ xD).1 (by omega) ?_
  intro NI' IN' v hR uv fN
  obtain ⟨r1, r2, r3, r4, r5⟩ := hR
  have vr := hs_BD_r v r5
  have dv := t1 v r5
  dsimp only
  refine hs_rd x rfl x0 (by omega) (by decide) ?_
  rw [hs_us]
  refine hs_oo hs_BD_r t1 r5 ?_
  refine hs_wr (q * 5 + d v) (-1) (hs_x5 _ _) hs_lm1.symm (by omega) (by omega) (by decide) (hs_rd v rfl vr.1 (by omega) (by decide) (nm_r (hs_s1 _) ⟨7, ?_⟩))
  have PL0 := hs_BT_drop (K := hs_K kk) (NI' := hs_u NI' v x) (IN' := hs_u IN' x v) x0 x1 hx (by omega) t1 t3 t4 r1 hs_us r2 r3 r5 uv
  have NIr : ∀ n, hs_BD (hs_u H x (-1)) (hs_u NI' v x) q n → 0 ≤ hs_u NI' v x n ∧ hs_u NI' v x n < 24 := fun n hn => ⟨(r1 n hn.1 hn.2.1).1, (r1 n hn.1 hn.2.1).2.1⟩
  refine hs_dl kr hq hq' hs_BD_r NIr (fun n m hn hm e => hs_PM_inj r1 hn.1 hn.2.1 hm.1 hm.2.1 e) (by omega) 7 _ _ _ _ _ _ _ _ PL0 (by omega) ?_
  intro d' G' T' C' X' U' o' e1 e2
  have sub : ∀ n, hs_BD (hs_u H x (-1)) (hs_u NI' v x) q n → hs_BD H NI q n := by
    intro n hn
    refine (r2 n).mpr ⟨hn.1, hn.2.1, ?_⟩
    have := hn.2.2
    by_cases z : hs_u NI' v x n = x
    · rw [hs_ue z] at this; omega
    · rw [hs_un z] at this; exact this
  have wide : ∀ {A B : Int → Int}, hs_fr (hs_BD (hs_u H x (-1)) (hs_u NI' v x) q) A B → hs_fr (hs_BD H NI q) A B := by
    intro A B y j
    rcases y j with u | u
    · exact Or.inl u
    · refine Or.inr ⟨sub j u.1, ?_⟩
      rcases u.2 with g | g
      · exact Or.inl g
      · exact Or.inr (sub _ g)
  have hF : hs_BF (hs_BD H NI q) q T C X U T' C' X' U' := by
    refine ⟨wide e2.1, wide e2.2.1, wide e2.2.2.1, fun j => ?_⟩
    rcases e2.2.2.2 j with y | y
    · by_cases z : j = q * 5 + d v
      · rw [hs_ue z] at y
        exact Or.inr ⟨by omega, by omega, Or.inl y⟩
      · rw [hs_un z] at y; exact Or.inl y
    · refine Or.inr ⟨y.1, y.2.1, ?_⟩
      rcases y.2.2 with g | g
      · exact Or.inl g
      · exact Or.inr (sub _ g)
  have NIo : ∀ n, ¬ hs_BD H NI q n → hs_u NI' v x n = NI n := by
    intro n hn
    have nv : n ≠ v := fun z => hn (by rw [z]; exact r5)
    rw [hs_un nv]
    rcases fN n with y | y
    · exact y
    · exact absurd y hn
  refine hK T' C' X' U' _ _ ?_ r1 hF
  intro q' b0 b1
  by_cases e : q' = q
  · rw [e]; exact hs_PL_end e1 rfl
  · refine hs_BT_keep (h q' b0 b1) e ?_ ?_ ?_ hF ?_
    · intro i c0 c1
      by_cases z : i = x
      · rw [hs_ue z, z]
        exact ⟨fun y => by omega, fun y => by omega⟩
      · rw [hs_un z]
    · intro n
      constructor
      · intro c
        have nD : ¬ hs_BD H NI q n := by
          intro y
          have g := ((r2 n).mp y).2.2
          have c2 := c.2.2
          by_cases z : hs_u NI' v x n = x
          · rw [hs_ue z] at c2; omega
          · rw [hs_un z] at c2; omega
        have c2 := c.2.2
        rw [NIo n nD] at c2
        by_cases z : NI n = x
        · rw [hs_ue z] at c2; omega
        · rw [hs_un z] at c2; exact ⟨c.1, c.2.1, c2⟩
      · intro c
        have nD : ¬ hs_BD H NI q n := fun y => e (c.2.2.symm.trans y.2.2)
        refine ⟨c.1, c.2.1, ?_⟩
        rw [NIo n nD]
        have z : NI n ≠ x := fun y => by have := c.2.2; rw [y] at this; omega
        rw [hs_un z]; exact c.2.2
    · intro n hn
      exact NIo n (fun y => e (hn.2.2.symm.trans y.2.2))
    · intro n hn y
      exact e (hn.2.2.symm.trans y.2.2)
def hs_BJ (D : Int → Prop) (a b : Int) (T C X U T' C' X' U' : Int → Int) : Prop := hs_fr D C C' ∧ hs_fr D X X' ∧ hs_fr D U U' ∧ (∀ j, T' j = T j ∨ (((a * 5 ≤ j ∧ j < a * 5 + 5) ∨ (b * 5 ≤ j ∧ j < b * 5 + 5)) ∧ (T' j = -1 ∨ D (T' j))))
theorem hs_jl {post : SX → Prop} {D : Int → Prop} {kk NI : Int → Int} {a b tot : Int} (kr : hs_kr kk) (ha : 0 ≤ a) (ha' : a ≤ 3) (hb : 0 ≤ b) (hb' : b ≤ 3) (hab : a ≠ b) (hD : ∀ n, D n → 0 ≤ n ∧ n < 24) (hN : ∀ n, D n → 0 ≤ NI n ∧ NI n < 24) (hI : ∀ n m, D n → D m → NI n = NI m → n = m) (htot : tot ≤ 24) :
    ∀ (n : Nat) (d G T C X U : Int → Int) (o : Int), hs_JL D (fun n => hs_K kk (NI n)) d G T C X U a b o tot → 0 ≤ o → o ≤ 5 → 5 - o < n →
    (∀ d' G' T' C' X' U' : Int → Int, hs_JL D (fun n => hs_K kk (NI n)) d' G' T' C' X' U' a b 5 tot → hs_BJ D a b T C X U T' C' X' U' → post (hs_e kk, gv2, gv3, gv4, gv5, gv6, gv7, gv8, gv9, gv10, gv11, gv12, gv13, gv14, gv15, hs_e T', hs_e C', hs_e X', hs_e U', hs_e NI, gv21, gv22)) →
    wX_joinBinomial_2 post (hs_i a) (hs_i b) n (hs_i o) (hs_e kk) gv2 gv3 gv4 gv5 gv6 gv7 gv8 gv9 gv10 gv11 gv12 gv13 gv14 gv15 (hs_e T) (hs_e C) (hs_e X) (hs_e U) (hs_e NI) gv21 gv22 := by
  have hm : ∀ n, D n → n ≠ -1 := fun n hn => by have := hD n hn; omega
  intro n
  induction n with
  | zero => intro d G T C X U o _ h0 h1 h2; omega
  | succ n ih =>
    intro d G T C X U o hJ h0 h1 h2 hK
    refine hs_le 5 o (fun z => ?_) (fun z => hs_rd (b * 5 + o) (hs_x5 _ _) (by omega) (by omega) (by decide) ?_)
    · have e : o = 5 := by omega
      rw [e] at hJ
      exact hK d G T C X U hJ ⟨hs_fr_refl, hs_fr_refl, hs_fr_refl, fun _ => Or.inl rfl⟩
    · have tr := hJ.2.2.2.2.2.1 o (by omega) (by omega)
      have tb : -2147483648 ≤ T (b * 5 + o) ∧ T (b * 5 + o) < 2147483648 := by
        rcases tr with x | x
        · omega
        · have := hD _ x.1; omega
      refine hs_eq (T (b * 5 + o)) (-1) (fun y => nm_r (hs_1 o) (ih d G T C X U (o + 1) (hs_JL_skip hm hJ y) (by omega) (by omega) (by omega) hK)) (fun y => ?_)
      refine hs_wr (b * 5 + o) (-1) (hs_x5 _ _) hs_lm1.symm (by omega) (by omega) (by decide) ?_
      obtain ⟨a1, a2, a3⟩ := hs_JL_at hm hab hJ h0 (by omega) y
      unfold wpX_addTree
      dsimp only
      refine ⟨6, ?_⟩
      refine hs_at kr ha ha' hD hN hI (by omega) (Or.inl rfl) 6 _ _ _ _ _ _ _ o a1 (by omega) ?_
      intro d' G' T' C' X' U' b1 b2 b3 b4 b5 b6 b7 b8
      refine nm_r (hs_1 o) (ih d' G' T' C' X' U' (o + 1) (hs_JL_next hab hJ h0 (by omega) b1 b2 b3 b4 b5 (fun n hn => ⟨(b6 n hn).1, (b6 n hn).2.1⟩) ?_ a3) (by omega) (by omega) (by omega) ?_)
      · intro o' c0 c1
        rcases b8.2.2.2 (b * 5 + o') with e | e
        · exact e
        · omega
      · intro d2 G2 T2 C2 X2 U2 c1 c2
        refine hK d2 G2 T2 C2 X2 U2 c1 ⟨hs_fr_trans b8.1 c2.1, hs_fr_trans b8.2.1 c2.2.1, hs_fr_trans b8.2.2.1 c2.2.2.1, fun j => ?_⟩
        rcases c2.2.2.2 j with e | e
        · rcases b8.2.2.2 j with f | f
          · by_cases g : j = b * 5 + o
            · rw [hs_ue g] at f
              exact Or.inr ⟨Or.inr ⟨by omega, by omega⟩, Or.inl (e.trans f)⟩
            · rw [hs_un g] at f
              exact Or.inl (e.trans f)
          · rw [← e] at f
            exact Or.inr ⟨Or.inl ⟨f.1, f.2.1⟩, f.2.2⟩
        · exact Or.inr e
theorem hs_joinB {post : SX → Prop} {kk H T C X U NI IN : Int → Int} {a b : Int} (kr : hs_kr kk) (ha : 0 ≤ a) (ha' : a ≤ 3) (hb : 0 ≤ b) (hb' : b ≤ 3) (hab : a ≠ b) (hP : hs_PM NI IN)
    (h : hs_BA (hs_K kk) H T C X U NI)
    (hK : ∀ T' C' X' U' : Int → Int, hs_BA (hs_K kk) (fun i => if H i = b then a else H i) T' C' X' U' NI → hs_BJ (hs_BD (fun i => if H i = b then a else H i) NI a) a b T C X U T' C' X' U' → post (hs_e kk, gv2, gv3, gv4, gv5, gv6, gv7, gv8, gv9, gv10, gv11, gv12, gv13, gv14, gv15, hs_e T', hs_e C', hs_e X', hs_e U', hs_e NI, gv21, gv22)) :
    wpX_joinBinomial post (hs_e kk, gv2, gv3, gv4, gv5, gv6, gv7, gv8, gv9, gv10, gv11, gv12, gv13, gv14, gv15, hs_e T, hs_e C, hs_e X, hs_e U, hs_e NI, gv21, gv22) (hs_i a) (hs_i b) := by
  obtain ⟨d, hJ⟩ := hs_JL_start hab (h a ha ha') (h b hb hb')
  have cr := hs_c_r (fun i => if H i = b then a else H i) a
  unfold wpX_joinBinomial
  dsimp only
  refine ⟨7, ?_⟩
  rw [← hs_l0]
  refine hs_jl kr ha ha' hb hb' hab hs_BD_r (fun n hn => ⟨(hP n hn.1 hn.2.1).1, (hP n hn.1 hn.2.1).2.1⟩) (fun n m hn hm e => hs_PM_inj hP hn.1 hn.2.1 hm.1 hm.2.1 e) cr.2 7 _ _ _ _ _ _ 0 hJ (by omega) (by omega) (by omega) ?_
  intro d' G' T' C' X' U' c1 c2
  have en := hs_JL_end hab c1
  refine hK T' C' X' U' ?_ c2
  intro q b0 b1
  by_cases e : q = a
  · rw [e]; exact en.1
  · by_cases f : q = b
    · rw [f]; exact en.2
    · have hH : ∀ i, ((fun i => if H i = b then a else H i) i = q ↔ H i = q) := by
        intro i
        by_cases z : H i = b
        · have w : (fun i => if H i = b then a else H i) i = a := if_pos z
          rw [w]; exact ⟨fun y => absurd y.symm e, fun y => absurd (y.symm.trans z) f⟩
        · have w : (fun i => if H i = b then a else H i) i = H i := if_neg z
          rw [w]
      have nd : ∀ n, hs_BD H NI q n → ¬ hs_BD (fun i => if H i = b then a else H i) NI a n := by
        intro n hn y
        rcases (hs_BD_join hab n).mp y with u | u
        · exact e (hn.2.2.symm.trans u.2.2)
        · exact f (hn.2.2.symm.trans u.2.2)
      refine hs_BT_congr (h q b0 b1) ?_ (fun i _ _ => hH i) (fun _ _ => rfl) ?_ ?_ ?_ ?_
      · intro n
        constructor
        · intro c; exact ⟨c.1, c.2.1, (hH _).mp c.2.2⟩
        · intro c; exact ⟨c.1, c.2.1, (hH _).mpr c.2.2⟩
      · intro o x y
        rcases c2.2.2.2 (q * 5 + o) with u | u
        · exact u
        · omega
      · intro n hn
        rcases c2.1 n with u | u
        · exact u
        · exact absurd u.1 (nd n hn)
      · intro n hn
        rcases c2.2.1 n with u | u
        · exact u
        · exact absurd u.1 (nd n hn)
      · intro n hn
        rcases c2.2.2.1 n with u | u
        · exact u
        · exact absurd u.1 (nd n hn)
end HS29
