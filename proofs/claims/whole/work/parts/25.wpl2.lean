section HS25
variable {gv1 gv2 gv3 gv4 gv5 gv6 gv7 gv8 gv9 gv10 gv11 gv12 gv13 gv14 gv15 gv16 gv17 gv18 gv19 gv20 gv21 gv22 : Nat → Int32}
def hs_LL (K H T L R U N : Int → Int) (w : Int) : Prop := ∀ q, 0 ≤ q → q ≤ 3 → hs_LT K H T L R U N w q
/-- what a change within one leaning tree leaves alone -/
def hs_LF (D : Int → Prop) (L R U N L' R' U' N' : Int → Int) : Prop := hs_fr D L L' ∧ hs_fr D R R' ∧ hs_fr D U U' ∧ hs_fn D N N'
theorem hs_LF_trans {D : Int → Prop} {L R U N L1 R1 U1 N1 L2 R2 U2 N2 : Int → Int} (h : hs_LF D L R U N L1 R1 U1 N1) (h' : hs_LF D L1 R1 U1 N1 L2 R2 U2 N2) : hs_LF D L R U N L2 R2 U2 N2 :=
  ⟨hs_fr_trans h.1 h'.1, hs_fr_trans h.2.1 h'.2.1, hs_fr_trans h.2.2.1 h'.2.2.1, hs_fn_trans h.2.2.2 h'.2.2.2⟩
theorem hs_LT_keep {D : Int → Prop} {K H H' T T' L L' R R' U U' N N' : Int → Int} {w' q' : Int} (hw : 0 ≤ w') (h : hs_LT K H T L R U N w' q') (hH : ∀ i, 0 ≤ i → i < 24 → (H' i = q' ↔ H i = q'))
    (hT : T' (w' * 4 + q') = T (w' * 4 + q')) (hF : hs_LF D L R U N L' R' U' N') (hd : ∀ n, hs_LD H w' q' n → ¬ D n) : hs_LT K H' T' L' R' U' N' w' q' := by
  refine hs_LT_congr hw h hH (fun _ _ _ _ => rfl) hT ?_ ?_ ?_ ?_
  · intro n hn
    rcases hF.1 n with e | e
    · exact e
    · exact absurd e.1 (hd n hn)
  · intro n hn
    rcases hF.2.1 n with e | e
    · exact e
    · exact absurd e.1 (hd n hn)
  · intro n hn
    rcases hF.2.2.1 n with e | e
    · exact e
    · exact absurd e.1 (hd n hn)
  · intro n hn
    rcases hF.2.2.2 n with e | e
    · exact e
    · exact absurd e (hd n hn)
theorem hs_LD_r {H : Int → Int} {w q : Int} : ∀ n, hs_LD H w q n → w * 24 ≤ n ∧ n < w * 24 + 24 := fun _ h => ⟨h.1, h.2.1⟩
theorem hs_LD_k {K H : Int → Int} {w q : Int} (hK : hs_Inj K) : ∀ n m, hs_LD H w q n → hs_LD H w q m → hs_Lk K w n = hs_Lk K w m → n = m :=
  fun _ _ hn hm e => hs_Lk_inj (H := H) hK hn.1 hn.2.1 hm.1 hm.2.1 e
theorem hs_meld {post : Int32 → SX → Prop} {D Z : Int → Prop} {kk G0 L R U N : Int → Int} {w e a0 b0 : Int} (kr : hs_kr kk) (hw : 0 ≤ w) (hw' : w ≤ 1) (hD : ∀ n, D n → w * 24 ≤ n ∧ n < w * 24 + 24) (hk : ∀ n m, D n → D m → hs_Lk (hs_K kk) w n = hs_Lk (hs_K kk) w m → n = m)
    (h : hs_MI w D (fun _ => False) Z (hs_Lk (hs_K kk) w) G0 L R U N e (-1) (-1) a0 b0)
    (hK : ∀ (G' L' R' U' N' : Int → Int) (r' : Int), hs_ME w D Z (hs_Lk (hs_K kk) w) G0 G' L' R' U' N' e a0 b0 r' → hs_LF D L R U N L' R' U' N' → post (hs_i r') (hs_e kk, gv2, gv3, gv4, gv5, gv6, gv7, hs_e L', hs_e R', hs_e U', hs_e N', gv12, gv13, gv14, gv15, gv16, gv17, gv18, gv19, gv20, gv21, gv22)) :
    wpX_meldLeaning post (hs_e kk, gv2, gv3, gv4, gv5, gv6, gv7, hs_e L, hs_e R, hs_e U, hs_e N, gv12, gv13, gv14, gv15, gv16, gv17, gv18, gv19, gv20, gv21, gv22) (hs_i w) (hs_i a0) (hs_i b0) := by
  unfold wpX_meldLeaning
  dsimp only
  refine nm_r (hs_m24 w) ⟨25, ?_⟩
  rw [← hs_lm1, ← hs_l0]
  exact hs_md kr hw hw' hD hk 25 _ G0 R U (-1) (-1) a0 b0 0 h (by omega) (by omega) (Or.inl ⟨rfl, rfl⟩) (by omega) (Or.inl ⟨rfl, Or.inl ⟨rfl, rfl⟩⟩) (Or.inr rfl) (fun G' L' R' U' N' r' a b c d f => hK G' L' R' U' N' r' a ⟨b, c, d, f⟩)
theorem hs_addL {post : SX → Prop} {kk H T L R U N : Int → Int} {w q x : Int} (kr : hs_kr kk) (hw : 0 ≤ w) (hw' : w ≤ 1) (hq : 0 ≤ q) (hq' : q ≤ 3) (x0 : 0 ≤ x) (x1 : x < 24) (hx : ¬ (0 ≤ H x))
    (h : hs_LL (hs_K kk) H T L R U N w)
    (hK : ∀ T' L' R' U' N' : Int → Int, hs_LL (hs_K kk) (hs_u H x q) T' L' R' U' N' w → hs_LF (hs_LD (hs_u H x q) w q) L R U N L' R' U' N' → (∀ j, j ≠ w * 4 + q → T' j = T j) → (T' (w * 4 + q) = -1 ∨ hs_LD (hs_u H x q) w q (T' (w * 4 + q))) → post (hs_e kk, gv2, gv3, gv4, gv5, gv6, hs_e T', hs_e L', hs_e R', hs_e U', hs_e N', gv12, gv13, gv14, gv15, gv16, gv17, gv18, gv19, gv20, gv21, gv22)) :
    wpX_addToLeaning post (hs_e kk, gv2, gv3, gv4, gv5, gv6, hs_e T, hs_e L, hs_e R, hs_e U, hs_e N, gv12, gv13, gv14, gv15, gv16, gv17, gv18, gv19, gv20, gv21, gv22) (hs_i w) (hs_i q) (hs_i x) := by
  have hD : hs_LD (hs_u H x q) w q (w * 24 + x) := ⟨by omega, by omega, hs_ue (by omega)⟩
  unfold wpX_addToLeaning
  dsimp only
  refine nm_r (hs_x24 w x) ?_
  refine hs_wr (w * 24 + x) (-1) rfl hs_lm1.symm (by omega) (by omega) (by decide) ?_
  refine hs_wr (w * 24 + x) (-1) rfl hs_lm1.symm (by omega) (by omega) (by decide) ?_
  refine hs_wr (w * 24 + x) (-1) rfl hs_lm1.symm (by omega) (by omega) (by decide) ?_
  refine hs_wr (w * 24 + x) 1 rfl hs_l1.symm (by omega) (by omega) (by decide) ?_
  refine nm_r (hs_x4 w q) ⟨hs_in (by omega) (by omega) (by decide), ?_⟩
  rw [hs_get (by omega) (by omega)]
  refine hs_meld kr hw hw' hs_LD_r (hs_LD_k (hs_K_inj kk)) (hs_LT_add hw (h q hq hq') x0 x1 (by omega)) ?_
  intro G' L' R' U' N' r hE hF
  refine hs_wr (w * 4 + q) r rfl rfl (by omega) (by omega) (by decide) ?_
  have hF2 : hs_LF (hs_LD (hs_u H x q) w q) L R U N L' R' U' N' := hs_LF_trans ⟨hs_fr_u hD (Or.inl rfl), hs_fr_u hD (Or.inl rfl), hs_fr_u hD (Or.inl rfl), hs_fn_u hD⟩ hF
  refine hK _ _ _ _ _ ?_ hF2 (fun j z => hs_un z) ?_
  · intro q' b0 b1
    by_cases e : q' = q
    · rw [e]
      exact hs_LT_of hw hE hs_us
    · refine hs_LT_keep hw (h q' b0 b1) ?_ (hs_un (by omega)) hF2 ?_
      · intro i c0 c1
        by_cases z : i = x
        · rw [hs_ue z, z]
          exact ⟨fun y => absurd y.symm e, fun y => by omega⟩
        · rw [hs_un z]
      · intro n hn y
        have a := hn.2.2
        have b := y.2.2
        by_cases z : n - w * 24 = x
        · rw [z] at a; omega
        · rw [hs_un z] at b; omega
  · rw [hs_us]
    rcases hE.2.2.1 with y | y
    · exact Or.inl y.1
    · exact Or.inr y.1
theorem hs_dropL {post : SX → Prop} {kk H T L R U N : Int → Int} {w q x : Int} (kr : hs_kr kk) (hw : 0 ≤ w) (hw' : w ≤ 1) (hq : 0 ≤ q) (hq' : q ≤ 3) (x0 : 0 ≤ x) (x1 : x < 24) (hx : H x = q)
    (h : hs_LL (hs_K kk) H T L R U N w)
    (hK : ∀ T' L' R' U' N' : Int → Int, hs_LL (hs_K kk) (hs_u H x (-1)) T' L' R' U' N' w → hs_LF (hs_LD H w q) L R U N L' R' U' N' → (∀ j, j ≠ w * 4 + q → T' j = T j) → (T' (w * 4 + q) = -1 ∨ hs_LD H w q (T' (w * 4 + q))) → post (hs_e kk, gv2, gv3, gv4, gv5, gv6, hs_e T', hs_e L', hs_e R', hs_e U', hs_e N', gv12, gv13, gv14, gv15, gv16, gv17, gv18, gv19, gv20, gv21, gv22)) :
    wpX_dropFromLeaning post (hs_e kk, gv2, gv3, gv4, gv5, gv6, hs_e T, hs_e L, hs_e R, hs_e U, hs_e N, gv12, gv13, gv14, gv15, gv16, gv17, gv18, gv19, gv20, gv21, gv22) (hs_i w) (hs_i q) (hs_i x) := by
  have hD : hs_LD H w q (w * 24 + x) := ⟨by omega, by omega, by rw [show w * 24 + x - w * 24 = x by omega]; exact hx⟩
  have hT := h q hq hq'
  have hm := hs_LD_m (H := H) (q := q) hw
  obtain ⟨t1, t2, t3, t4⟩ := hT
  have ch := (t1 _ hD).1 (hm _ hD)
  have up := (t1 _ hD).2
  have sub : ∀ n, hs_LD (hs_u H x (-1)) w q n → hs_LD H w q n := by
    intro n hn
    refine ⟨hn.1, hn.2.1, ?_⟩
    have := hn.2.2
    by_cases z : n - w * 24 = x
    · rw [hs_ue z] at this; omega
    · rw [hs_un z] at this; exact this
  have keep : ∀ {T' L' R' U' N' : Int → Int}, hs_LT (hs_K kk) (hs_u H x (-1)) T' L' R' U' N' w q → hs_LF (hs_LD H w q) L R U N L' R' U' N' → (∀ j, j ≠ w * 4 + q → T' j = T j) → hs_LL (hs_K kk) (hs_u H x (-1)) T' L' R' U' N' w := by
    intro T' L' R' U' N' a b c q' b0 b1
    by_cases e : q' = q
    · rw [e]; exact a
    · refine hs_LT_keep hw (h q' b0 b1) ?_ (c _ (by omega)) b ?_
      · intro i c0 c1
        by_cases z : i = x
        · rw [hs_ue z, z]
          exact ⟨fun y => by omega, fun y => by omega⟩
        · rw [hs_un z]
      · intro n hn y
        exact e (hn.2.2.symm.trans y.2.2)
  unfold wpX_dropFromLeaning
  dsimp only
  refine nm_r (hs_x24 w x) ?_
  have MI := hs_LT_drop hw (h q hq hq') x0 x1 hx
  generalize hE : w * 24 + x = E at *
  have Er := hD.1
  have Er' := hD.2.1
  refine hs_rd E rfl (by omega) (by omega) (by decide) ⟨hs_in (by omega) (by omega) (by decide), ?_⟩
  rw [hs_get (A := L) (by omega) (by omega), hs_get (A := R) (by omega) (by omega)]
  refine ⟨hs_in (by omega) (by omega) (by decide), ?_⟩
  refine hs_meld kr hw hw' hs_LD_r (hs_LD_k (hs_K_inj kk)) MI ?_
  intro G' L' R' U' N' r hE2 hF
  have gE : G' E = U E := by
    rcases hE2.2.2.2.2.2.2 with z | z
    · exact absurd z (hm E hD)
    · rw [z]
      refine if_neg (fun y => ?_)
      rcases y with y | y
      · rcases ch.1 with v | v
        · exact hm E hD (y.trans v)
        · rw [← y] at v
          rcases up with u | u
          · exact hm E hD (v.2.symm.trans u)
          · rw [v.2] at u; omega
      · rcases ch.2.1 with v | v
        · exact hm E hD (y.trans v)
        · rw [← y] at v
          rcases up with u | u
          · exact hm E hD (v.2.symm.trans u)
          · rw [v.2] at u; omega
  have rD : r = -1 ∨ hs_LD H w q r := by
    rcases hE2.2.2.1 with y | y
    · exact Or.inl y.1
    · exact Or.inr y.1
  have rb : -2147483648 ≤ r ∧ r < 2147483648 := by
    rcases rD with y | y
    · omega
    · have := y.1; have := y.2.1; omega
  have ub : U E = -1 ∨ hs_LD H w q (U E) := by
    rcases up with u | u
    · exact Or.inl u
    · exact Or.inr u.1
  have ub2 : -2147483648 ≤ U E ∧ U E < 2147483648 := by
    rcases ub with y | y
    · omega
    · have := y.1; have := y.2.1; omega
  refine hs_eq (U E) (-1) (fun c => ?_) (fun c => ?_)
  · refine hs_wr (w * 4 + q) r (hs_x4 _ _) rfl (by omega) (by omega) (by decide) ?_
    have hr : T (w * 4 + q) = E := t2 E hD c
    refine hK _ _ _ _ _ (keep (hs_LT_drop0 (i := x) hw (by rw [hE]; exact hE2) x0 x1 hx (by rw [hE]; exact hr) hs_us (by omega)) hF (fun j z => hs_un z)) hF (fun j z => hs_un z) ?_
    rw [hs_us]; exact rD
  · have pD : hs_LD H w q (U E) := by
      rcases ub with y | y
      · exact absurd y c
      · exact y
    have p1 := pD.1
    have p2 := pD.2.1
    have hk : r = -1 ∨ hs_Lk (hs_K kk) w E < hs_Lk (hs_K kk) w r := by
      rcases hE2.2.2.1 with y | y
      · exact Or.inl y.1
      · right
        have kid : ∀ n, hs_LD H w q n → U n = E → hs_Lk (hs_K kk) w E < hs_Lk (hs_K kk) w n := by
          intro n hn z
          rcases (t1 n hn).2 with v | v
          · rw [z] at v; exact absurd v (hm E hD)
          · rw [z] at v; exact v.2.2.1
        rcases y.2.2 with z | z
        · rcases ch.1 with v | v
          · exact absurd (z.trans v) (hm r y.1)
          · rw [z]; exact kid _ v.1 v.2
        · rcases ch.2.1 with v | v
          · exact absurd (z.trans v) (hm r y.1)
          · rw [z]; exact kid _ v.1 v.2
    have hT1 : T (w * 4 + q) = -1 ∨ hs_LD H w q (T (w * 4 + q)) := by
      rcases t3 with y | y
      · exact Or.inl y
      · exact Or.inr y.1
    -- the last two steps
    have fin : ∀ L2 R2 : Int → Int, ((L' (U E) = E ∧ L2 = hs_u L' (U E) r ∧ R2 = R') ∨ (L' (U E) ≠ E ∧ L2 = L' ∧ R2 = hs_u R' (U E) r)) →
        wX_dropFromLeaning_90 post (hs_i w) (hs_i (U E)) (hs_i r) (hs_e kk) gv2 gv3 gv4 gv5 gv6 (hs_e T) (hs_e L2) (hs_e R2) (hs_e U') (hs_e N') gv12 gv13 gv14 gv15 gv16 gv17 gv18 gv19 gv20 gv21 gv22 := by
      intro L2 R2 hLR
      have fLR : hs_fr (hs_LD H w q) L' L2 ∧ hs_fr (hs_LD H w q) R' R2 := by
        rcases hLR with ⟨_, y, z⟩ | ⟨_, y, z⟩
        · rw [y, z]; exact ⟨hs_fr_u pD rD, hs_fr_refl⟩
        · rw [y, z]; exact ⟨hs_fr_refl, hs_fr_u pD rD⟩
      have core : ∀ U2 : Int → Int, ((r = -1 ∧ U2 = U') ∨ (r ≠ -1 ∧ U2 = hs_u U' r (U E))) →
          wX_dropFromLeaning_105 post (hs_i w) (hs_i (U E)) (hs_e kk) gv2 gv3 gv4 gv5 gv6 (hs_e T) (hs_e L2) (hs_e R2) (hs_e U2) (hs_e N') gv12 gv13 gv14 gv15 gv16 gv17 gv18 gv19 gv20 gv21 gv22 := by
        intro U2 hU
        have fU : hs_fr (hs_LD H w q) U' U2 := by
          rcases hU with ⟨_, y⟩ | ⟨y, z⟩
          · rw [y]; exact hs_fr_refl
          · rw [z]
            rcases rD with v | v
            · exact absurd v y
            · exact hs_fr_u v (Or.inr pD)
        obtain ⟨d1, d2, d3, d4, d5⟩ := hs_LT_drop1 (i := x) (p := U E) (L2 := L2) (R2 := R2) (U2 := U2) hw (by rw [hE]; exact hE2) x0 x1 hx (by omega) (by rw [hE]; exact gE.symm) c (by rw [hE]; exact hk) hT1 (by rw [hE]; exact hLR) hU
        have hF2 : hs_LF (hs_LD H w q) L R U N L2 R2 U2 N' := hs_LF_trans hF ⟨fLR.1, fLR.2, fU, hs_fn_refl⟩
        have T3 : T (w * 4 + q) = -1 ∨ hs_LD H w q (T (w * 4 + q)) := hT1
        unfold wX_dropFromLeaning_105
        refine hs_eq w 0 (fun z => ?_) (fun z => ?_)
        · unfold wpX_lean
          dsimp only
          refine ⟨25, ?_⟩
          rw [← hs_l0]
          have rk := hs_rk_r (hs_K kk) (i := U E - w * 24) (by omega) (by omega)
          have vv : hs_V (hs_LD (hs_u H x (-1)) w q) (fun _ => False) (hs_Lk (hs_K kk) w) U2 (-1) := ⟨fun n v => v.elim, fun n m v => v.elim, fun n v => v.elim⟩
          refine hs_ln hw hw' hs_LD_r (hs_LD_k (hs_K_inj kk)) vv (fun _ _ => rfl) 25 (U E) 0 L2 R2 N' d1 (by omega) (Or.inr (by omega)) (by omega) (by omega) ?_
          intro L3 R3 N3 a1 a2 a3 a4
          have wide : ∀ {A B : Int → Int}, hs_fr (hs_LD (hs_u H x (-1)) w q) A B → hs_fr (hs_LD H w q) A B := by
            intro A B v j
            rcases v j with u | u
            · exact Or.inl u
            · refine Or.inr ⟨sub j u.1, ?_⟩
              rcases u.2 with g | g
              · exact Or.inl g
              · exact Or.inr (sub _ g)
          have wide2 : ∀ {A B : Int → Int}, hs_fn (hs_LD (hs_u H x (-1)) w q) A B → hs_fn (hs_LD H w q) A B := by
            intro A B v j
            rcases v j with u | u
            · exact Or.inl u
            · exact Or.inr (sub j u)
          have hF3 : hs_LF (hs_LD H w q) L R U N L3 R3 U2 N3 := hs_LF_trans hF2 ⟨wide a2, wide a3, hs_fr_refl, wide2 a4⟩
          refine hK T L3 R3 U2 N3 (keep ⟨a1.1, d2, d3, fun v n hn => ?_⟩ hF3 (fun _ _ => rfl)) hF3 (fun _ _ => rfl) T3
          apply Classical.byContradiction
          intro u
          exact (a1.2.2 v n hn (hs_LD_m hw n hn) u).1 rfl
        · refine hK T L2 R2 U2 N' (keep ⟨d1.1, d2, d3, fun v => absurd v z⟩ hF2 (fun _ _ => rfl)) hF2 (fun _ _ => rfl) T3
      unfold wX_dropFromLeaning_90
      refine hs_eq r (-1) (fun z => core U' (Or.inl ⟨z, rfl⟩)) (fun z => ?_)
      have rr : hs_LD H w q r := by
        rcases rD with v | v
        · exact absurd v z
        · exact v
      have r1 := rr.1
      have r2 := rr.2.1
      exact hs_wr r (U E) rfl rfl (by omega) (by omega) (by decide) (core _ (Or.inr ⟨z, rfl⟩))
    dsimp only
    refine ⟨hs_in (by omega) (by omega) (by decide), ?_⟩
    rw [hs_get (A := L') (by omega) (by omega)]
    have une : U E ≠ E := by
      intro z
      rcases up with u | u
      · exact c u
      · rw [z] at u; omega
    have lb : L' (U E) = -1 ∨ hs_LD H w q (L' (U E)) := (hs_LO_ch hE2.1 pD une).1
    have lb2 : -2147483648 ≤ L' (U E) ∧ L' (U E) < 2147483648 := by
      rcases lb with y | y
      · omega
      · have := y.1; have := y.2.1; omega
    refine hs_eq (L' (U E)) E (fun z => ?_) (fun z => ?_)
    · exact hs_wr (U E) r rfl rfl (by omega) (by omega) (by decide) (fin _ _ (Or.inl ⟨z, rfl, rfl⟩))
    · exact hs_wr (U E) r rfl rfl (by omega) (by omega) (by decide) (fin _ _ (Or.inr ⟨z, rfl, rfl⟩))
theorem hs_LT_join {K H T L R U N : Int → Int} {w a b : Int} (hw : 0 ≤ w) (ha : hs_LT K H T L R U N w a) (hb : hs_LT K H T L R U N w b) (hab : a ≠ b) :
    hs_MI w (hs_LD (fun i => if H i = b then a else H i) w a) (fun _ => False) (fun _ => False) (hs_Lk K w) U L R U N (-1) (-1) (-1) (T (w * 4 + a)) (T (w * 4 + b)) := by
  have hD : ∀ n, hs_LD (fun i => if H i = b then a else H i) w a n ↔ hs_LD H w a n ∨ hs_LD H w b n := by
    intro n
    constructor
    · intro c
      have := c.2.2
      by_cases z : H (n - w * 24) = b
      · exact Or.inr ⟨c.1, c.2.1, z⟩
      · dsimp only at this
        rw [if_neg z] at this
        exact Or.inl ⟨c.1, c.2.1, this⟩
    · intro c
      rcases c with c | c
      · refine ⟨c.1, c.2.1, ?_⟩
        dsimp only
        rw [if_neg (by rw [c.2.2]; exact hab)]; exact c.2.2
      · refine ⟨c.1, c.2.1, ?_⟩
        dsimp only
        rw [if_pos c.2.2]
  have hm := hs_LD_m (H := fun i => if H i = b then a else H i) (q := a) hw
  obtain ⟨a1, a2, a3, a4⟩ := ha
  obtain ⟨b1, b2, b3, b4⟩ := hb
  refine ⟨?_, ?_, ?_, ?_, fun _ _ _ _ => rfl, ⟨fun n c => c.elim, fun n m c => c.elim, fun n c => c.elim⟩, fun n c => c.elim, Or.inl rfl, Or.inl ⟨rfl, rfl⟩, ?_, fun n c => c.elim, ?_⟩
  · intro n hn
    have n1 := hm n hn
    have key : ∀ q, hs_LO (hs_LD H w q) (hs_Lk K w) U L R (-1) → (∀ m, hs_LD H w q m → hs_LD (fun i => if H i = b then a else H i) w a m) → hs_LD H w q n →
        (n ≠ -1 → (L n = -1 ∨ (hs_LD (fun i => if H i = b then a else H i) w a (L n) ∧ U (L n) = n)) ∧ (hs_u R (-1) (-1) n = -1 ∨ (hs_LD (fun i => if H i = b then a else H i) w a (hs_u R (-1) (-1) n) ∧ U (hs_u R (-1) (-1) n) = n)) ∧ (L n = hs_u R (-1) (-1) n → L n = -1)) ∧
        (U n = -1 ∨ (hs_LD (fun i => if H i = b then a else H i) w a (U n) ∧ U n ≠ -1 ∧ hs_Lk K w (U n) < hs_Lk K w n ∧ (L (U n) = n ∨ hs_u R (-1) (-1) (U n) = n))) := by
      intro q hO hs hq
      obtain ⟨c1, c2⟩ := hO n hq
      obtain ⟨d1, d2, d3⟩ := c1 n1
      rw [hs_un n1]
      refine ⟨fun _ => ⟨?_, ?_, d3⟩, ?_⟩
      · rcases d1 with v | v
        · exact Or.inl v
        · exact Or.inr ⟨hs _ v.1, v.2⟩
      · rcases d2 with v | v
        · exact Or.inl v
        · exact Or.inr ⟨hs _ v.1, v.2⟩
      · rcases c2 with v | ⟨v1, v2, v3, v4⟩
        · exact Or.inl v
        · exact Or.inr ⟨hs _ v1, v2, v3, by rw [hs_un v2]; exact v4⟩
    rcases (hD n).mp hn with c | c
    · exact key a a1 (fun m x => (hD m).mpr (Or.inl x)) c
    · exact key b b1 (fun m x => (hD m).mpr (Or.inr x)) c
  · rcases a3 with c | c
    · exact Or.inl c
    · exact Or.inr ⟨(hD _).mpr (Or.inl c.1), c.2, Or.inl rfl, Or.inl rfl⟩
  · rcases b3 with c | c
    · exact Or.inl c
    · exact Or.inr ⟨(hD _).mpr (Or.inr c.1), c.2, Or.inl rfl, Or.inl rfl⟩
  · intro x
    rcases a3 with c | c
    · exact c
    · rcases b3 with d | d
      · exact x.trans d
      · have e1 := c.1.2.2
        have e2 := d.1.2.2
        rw [x] at e1
        exact absurd (e1.symm.trans e2) hab
  · intro n hn c
    rcases (hD n).mp hn with d | d
    · exact Or.inr (Or.inl (a2 n d c).symm)
    · exact Or.inr (Or.inr (Or.inl (b2 n d c).symm))
  · intro hz n hn _ hbad
    apply hbad
    rcases (hD n).mp hn with d | d
    · exact a4 hz n d
    · exact b4 hz n d
theorem hs_joinL {post : SX → Prop} {kk H T L R U N : Int → Int} {w a b : Int} (kr : hs_kr kk) (hw : 0 ≤ w) (hw' : w ≤ 1) (ha : 0 ≤ a) (ha' : a ≤ 3) (hb : 0 ≤ b) (hb' : b ≤ 3) (hab : a ≠ b)
    (h : hs_LL (hs_K kk) H T L R U N w)
    (hK : ∀ T' L' R' U' N' : Int → Int, hs_LL (hs_K kk) (fun i => if H i = b then a else H i) T' L' R' U' N' w → hs_LF (hs_LD (fun i => if H i = b then a else H i) w a) L R U N L' R' U' N' → (∀ j, j ≠ w * 4 + a → j ≠ w * 4 + b → T' j = T j) → (T' (w * 4 + a) = -1 ∨ hs_LD (fun i => if H i = b then a else H i) w a (T' (w * 4 + a))) → T' (w * 4 + b) = -1 → post (hs_e kk, gv2, gv3, gv4, gv5, gv6, hs_e T', hs_e L', hs_e R', hs_e U', hs_e N', gv12, gv13, gv14, gv15, gv16, gv17, gv18, gv19, gv20, gv21, gv22)) :
    wpX_joinLeaning post (hs_e kk, gv2, gv3, gv4, gv5, gv6, hs_e T, hs_e L, hs_e R, hs_e U, hs_e N, gv12, gv13, gv14, gv15, gv16, gv17, gv18, gv19, gv20, gv21, gv22) (hs_i w) (hs_i a) (hs_i b) := by
  unfold wpX_joinLeaning
  dsimp only
  refine nm_r (hs_x4 w a) (nm_r (hs_x4 w b) ⟨hs_in (by omega) (by omega) (by decide), hs_in (by omega) (by omega) (by decide), ?_⟩)
  rw [hs_get (x := w * 4 + a) (by omega) (by omega), hs_get (x := w * 4 + b) (by omega) (by omega)]
  refine hs_meld kr hw hw' hs_LD_r (hs_LD_k (hs_K_inj kk)) (hs_LT_join hw (h a ha ha') (h b hb hb') hab) ?_
  intro G' L' R' U' N' r hE hF
  refine hs_wr (w * 4 + a) r rfl rfl (by omega) (by omega) (by decide) (hs_wr (w * 4 + b) (-1) rfl hs_lm1.symm (by omega) (by omega) (by decide) ?_)
  have T1 : hs_u (hs_u T (w * 4 + a) r) (w * 4 + b) (-1) (w * 4 + a) = r := by rw [hs_un (by omega), hs_us]
  have T2 : ∀ j, j ≠ w * 4 + a → j ≠ w * 4 + b → hs_u (hs_u T (w * 4 + a) r) (w * 4 + b) (-1) j = T j := fun j x y => by rw [hs_un y, hs_un x]
  refine hK _ _ _ _ _ ?_ hF T2 ?_ hs_us
  · intro q b0 b1
    by_cases e : q = a
    · rw [e]; exact hs_LT_of hw hE T1
    · by_cases f : q = b
      · have none : ∀ n, ¬ hs_LD (fun i => if H i = b then a else H i) w b n := by
          intro n hn
          have := hn.2.2
          dsimp only at this
          by_cases z : H (n - w * 24) = b
          · rw [if_pos z] at this; exact hab this
          · rw [if_neg z] at this; exact z this
        rw [f]
        exact ⟨fun n hn => absurd hn (none n), fun n hn => absurd hn (none n), Or.inl hs_us, fun _ n hn => absurd hn (none n)⟩
      · refine hs_LT_keep hw (h q b0 b1) ?_ (T2 _ (by omega) (by omega)) hF ?_
        · intro i c0 c1
          try dsimp only
          by_cases z : H i = b
          · rw [if_pos z]; exact ⟨fun y => absurd y.symm e, fun y => absurd (y.symm.trans z) f⟩
          · rw [if_neg z]
        · intro n hn y
          have u := y.2.2
          have v := hn.2.2
          dsimp only at u
          by_cases z : H (n - w * 24) = b
          · exact f (v.symm.trans z)
          · rw [if_neg z] at u; exact e (v.symm.trans u)
  · rw [T1]
    rcases hE.2.2.1 with y | y
    · exact Or.inl y.1
    · exact Or.inr y.1
end HS25
