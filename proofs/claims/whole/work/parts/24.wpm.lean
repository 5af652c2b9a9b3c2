section HS24
variable {gv1 gv2 gv3 gv4 gv5 gv6 gv7 gv8 gv9 gv10 gv11 gv12 gv13 gv14 gv15 gv16 gv17 gv18 gv19 gv20 gv21 gv22 : Nat → Int32}
/-- one of the two is used up -/
theorem hs_m119 {post : Int32 → SX → Prop} {D V Z : Int → Prop} {kk G0 G L R U N : Int → Int} {w e t p r a0 b0 : Int} (hw : 0 ≤ w) (hw' : w ≤ 1) (hD : ∀ n, D n → w * 24 ≤ n ∧ n < w * 24 + 24) (hk : ∀ n m, D n → D m → hs_Lk (hs_K kk) w n = hs_Lk (hs_K kk) w m → n = m)
    (h : hs_MI w D V Z (hs_Lk (hs_K kk) w) G L R U N e t p r (-1)) (hp : (t = -1 ∧ ((r = a0 ∧ b0 = -1) ∨ (r = b0 ∧ a0 = -1))) ∨ (t ≠ -1 ∧ (p = a0 ∨ p = b0))) (he : e = -1 ∨ G e = G0 e)
    (hK : ∀ (G' L' R' U' N' : Int → Int) (r' : Int), hs_ME w D Z (hs_Lk (hs_K kk) w) G0 G' L' R' U' N' e a0 b0 r' → hs_fr D L L' → hs_fr D R R' → hs_fr D U U' → hs_fn D N N' → post (hs_i r') (hs_e kk, gv2, gv3, gv4, gv5, gv6, gv7, hs_e L', hs_e R', hs_e U', hs_e N', gv12, gv13, gv14, gv15, gv16, gv17, gv18, gv19, gv20, gv21, gv22)) :
    wX_meldLeaning_132 post (hs_i w) (hs_i p) (hs_i t) (hs_i r) (hs_e kk) gv2 gv3 gv4 gv5 gv6 gv7 (hs_e L) (hs_e R) (hs_e U) (hs_e N) gv12 gv13 gv14 gv15 gv16 gv17 gv18 gv19 gv20 gv21 gv22 := by
  have hm : ∀ n, D n → n ≠ -1 := fun n hn => by have := hD n hn; omega
  have hI := h
  obtain ⟨h1, h2, h3, h4, h5, h6, h7, h8, h9, h10, h11, h12⟩ := h
  have hr : r = -1 ∨ (D r ∧ G r = -1) := by
    rcases h2 with x | x
    · exact Or.inl x
    · exact Or.inr ⟨x.1, x.2.1⟩
  have ht : t = -1 ∨ D t := by
    rcases h8 with x | x
    · exact Or.inl x
    · exact Or.inr (h6.1 t x).1
  have rb : -2147483648 ≤ r ∧ r < 2147483648 := by
    rcases hr with x | x
    · omega
    · have := hD r x.1; omega
  have tb : -2147483648 ≤ t ∧ t < 2147483648 := by
    rcases ht with x | x
    · omega
    · have := hD t x; omega
  have go : ∀ U1 : Int → Int, ((r = -1 ∧ U1 = U) ∨ (r ≠ -1 ∧ U1 = hs_u U r t)) → wX_meldLeaning_149 post (hs_i w) (hs_i p) (hs_i t) (hs_i r) (hs_e kk) gv2 gv3 gv4 gv5 gv6 gv7 (hs_e L) (hs_e R) (hs_e U1) (hs_e N) gv12 gv13 gv14 gv15 gv16 gv17 gv18 gv19 gv20 gv21 gv22 := by
    intro U1 hU
    have fU : hs_fr D U U1 := by
      rcases hU with ⟨_, x⟩ | ⟨x, y⟩
      · rw [x]; exact hs_fr_refl
      · rw [y]
        rcases hr with z | z
        · exact absurd z x
        · exact hs_fr_u z.1 ht
    unfold wX_meldLeaning_149
    refine hs_eq t (-1) (fun c => ?_) (fun c => ?_)
    · refine hK G L R U1 N r ⟨?_, ?_, ?_, ?_, ?_, ?_, he⟩ hs_fr_refl hs_fr_refl fU hs_fn_refl
      · refine hs_LO_congr h1 (fun _ => Iff.rfl) (fun _ _ => rfl) (fun _ _ => rfl) (fun _ _ => rfl) (fun n hn => ?_)
        rw [hs_un]
        rw [c]; exact hm n hn
      · intro n hn
        rcases hU with ⟨x, y⟩ | ⟨x, y⟩
        · rw [y]; exact h5 n hn (by rw [x]; exact hm n hn) (hm n hn)
        · rw [y]
          by_cases z : n = r
          · rw [hs_ue z, z]
            rcases hr with v | v
            · exact absurd v x
            · rw [v.2]; exact c
          · rw [hs_un z]; exact h5 n hn z (hm n hn)
      · rcases hp with ⟨_, x⟩ | x
        · rcases hr with v | v
          · left
            rcases x with y | y
            · exact ⟨v, by rw [← y.1]; exact v, y.2⟩
            · exact ⟨v, y.2, by rw [← y.1]; exact v⟩
          · right
            refine ⟨v.1, v.2, ?_⟩
            rcases x with y | y
            · exact Or.inl y.1
            · exact Or.inr y.1
        · exact absurd c x.1
      · intro n hn x
        rcases h10 n hn x with y | y | y | y
        · rcases h9 with z | z
          · exact absurd (y.trans z.2) (hm n hn)
          · exact absurd c z.1
        · exact Or.inl y
        · exact absurd y (hm n hn)
        · exact Or.inr y
      · intro n hn
        have x := h11 n hn
        exact ⟨x.2.1, x.2.2.1⟩
      · intro z n hn hne
        apply Classical.byContradiction
        intro x
        exact (h7 n (h12 z n hn hne x)).1 c
    · obtain ⟨G1, e1, e2, e3, e4, e5, e6, e7, e8, e9, e10⟩ := hs_MI_end hm hI c hU
      have tr := hD t e9
      refine hs_wr t r rfl rfl (by omega) (by omega) (by decide) ?_
      unfold wpX_lean
      dsimp only
      refine ⟨25, ?_⟩
      rw [← hs_l0]
      have rk := hs_rk_r (hs_K kk) (i := t - w * 24) (by omega) (by omega)
      refine hs_ln hw hw' hD hk e2 e3 25 t 0 L _ N e1 (by omega) (Or.inr (by omega)) (by omega) (by omega) ?_
      intro L' R' N' a1 a2 a3 a4
      refine hK G1 L' R' U1 N' p ⟨a1.1, e3, Or.inr ⟨e4, e5, ?_⟩, e6, e7, ?_, ?_⟩ a2 (hs_fr_trans (hs_fr_u e9 e10) a3) fU a4
      · rcases hp with x | x
        · exact absurd x.1 c
        · exact x.2
      · intro z n hn hne
        apply Classical.byContradiction
        intro x
        exact (a1.2.2 z n hn hne x).1 rfl
      · rcases he with x | x
        · exact Or.inl x
        · by_cases y : e = -1
          · exact Or.inl y
          · right
            rw [← x]
            apply e8
            intro v
            rcases h2 with u | u
            · exact y (v.trans u)
            · rcases u.2.2.1 with g | g
              · exact y g
              · rw [v] at g; omega
  unfold wX_meldLeaning_132
  refine hs_eq r (-1) (fun c => go U (Or.inl ⟨c, rfl⟩)) (fun c => ?_) (by rfl) (by rfl) rb (by omega)
  have rr : D r := by
    rcases hr with x | x
    · exact absurd x c
    · exact x.1
  have := hD r rr
  exact hs_wr r t rfl rfl (by omega) (by omega) (by decide) (go _ (Or.inr ⟨c, rfl⟩))
theorem hs_md {post : Int32 → SX → Prop} {D Z : Int → Prop} {kk G0 L N : Int → Int} {w e a0 b0 : Int} (kr : hs_kr kk) (hw : 0 ≤ w) (hw' : w ≤ 1) (hD : ∀ n, D n → w * 24 ≤ n ∧ n < w * 24 + 24) (hk : ∀ n m, D n → D m → hs_Lk (hs_K kk) w n = hs_Lk (hs_K kk) w m → n = m) :
    ∀ (n : Nat) (V : Int → Prop) (G R U : Int → Int) (p t a b st : Int), hs_MI w D V Z (hs_Lk (hs_K kk) w) G L R U N e t p a b → 0 ≤ st → st ≤ 24 → (t = -1 ∧ st = 0 ∨ t ≠ -1 ∧ st ≤ hs_rk (hs_K kk) (t - w * 24) + 1) → 24 - st < n →
    ((t = -1 ∧ ((a = a0 ∧ b = b0) ∨ (a = b0 ∧ b = a0))) ∨ (t ≠ -1 ∧ (p = a0 ∨ p = b0))) → (e = -1 ∨ G e = G0 e) →
    (∀ (G' L' R' U' N' : Int → Int) (r' : Int), hs_ME w D Z (hs_Lk (hs_K kk) w) G0 G' L' R' U' N' e a0 b0 r' → hs_fr D L L' → hs_fr D R R' → hs_fr D U U' → hs_fn D N N' → post (hs_i r') (hs_e kk, gv2, gv3, gv4, gv5, gv6, gv7, hs_e L', hs_e R', hs_e U', hs_e N', gv12, gv13, gv14, gv15, gv16, gv17, gv18, gv19, gv20, gv21, gv22)) →
    wX_meldLeaning_21 post (hs_i w) (hs_i (w * 24)) n (hs_i p) (hs_i t) (hs_i a) (hs_i b) (hs_i st) (hs_e kk) gv2 gv3 gv4 gv5 gv6 gv7 (hs_e L) (hs_e R) (hs_e U) (hs_e N) gv12 gv13 gv14 gv15 gv16 gv17 gv18 gv19 gv20 gv21 gv22 := by
  have hm : ∀ n, D n → n ≠ -1 := fun n hn => by have := hD n hn; omega
  intro n
  induction n with
  | zero => intro V G R U p t a b st _ _ _ _ h; omega
  | succ n ih =>
    intro V G R U p t a b st hI s0 s1 s2 hn hp he hK
    have ha : a = -1 ∨ D a := by
      rcases hI.2.1 with x | x
      · exact Or.inl x
      · exact Or.inr x.1
    have hb : b = -1 ∨ D b := by
      rcases hI.2.2.1 with x | x
      · exact Or.inl x
      · exact Or.inr x.1
    have ab : -2147483648 ≤ a ∧ a < 2147483648 := by
      rcases ha with x | x
      · omega
      · have := hD a x; omega
    have bb : -2147483648 ≤ b ∧ b < 2147483648 := by
      rcases hb with x | x
      · omega
      · have := hD b x; omega
    have fin : a = -1 ∨ b = -1 → wX_meldLeaning_119 post (hs_i w) (hs_i p) (hs_i t) (hs_i a) (hs_i b) (hs_e kk) gv2 gv3 gv4 gv5 gv6 gv7 (hs_e L) (hs_e R) (hs_e U) (hs_e N) gv12 gv13 gv14 gv15 gv16 gv17 gv18 gv19 gv20 gv21 gv22 := by
      intro c
      unfold wX_meldLeaning_119
      refine hs_eq a (-1) (fun d => ?_) (fun d => ?_)
      · have hI2 := hs_MI_comm hI
        rw [d] at hI2
        refine hs_m119 hw hw' hD hk hI2 ?_ he hK
        rcases hp with ⟨x, y⟩ | x
        · left
          refine ⟨x, ?_⟩
          rcases y with y | y
          · exact Or.inr ⟨y.2, y.1.symm.trans d⟩
          · exact Or.inl ⟨y.2, y.1.symm.trans d⟩
        · exact Or.inr x
      · have d2 : b = -1 := by rcases c with x | x; exact absurd x d; exact x
        rw [d2] at hI
        refine hs_m119 hw hw' hD hk hI ?_ he hK
        rcases hp with ⟨x, y⟩ | x
        · left
          refine ⟨x, ?_⟩
          rcases y with y | y
          · exact Or.inl ⟨y.1, y.2.symm.trans d2⟩
          · exact Or.inr ⟨y.1, y.2.symm.trans d2⟩
        · exact Or.inr x
    have go : ∀ a b, hs_MI w D V Z (hs_Lk (hs_K kk) w) G L R U N e t p a b → a ≠ -1 → b ≠ -1 → hs_Lk (hs_K kk) w a < hs_Lk (hs_K kk) w b → st < 24 →
        ((t = -1 ∧ ((a = a0 ∧ b = b0) ∨ (a = b0 ∧ b = a0))) ∨ (t ≠ -1 ∧ (p = a0 ∨ p = b0))) →
        wX_meldLeaning_69 post (wX_meldLeaning_21 post (hs_i w) (hs_i (w * 24)) n) (hs_i w) (hs_i (w * 24)) (hs_i p) (hs_i t) (hs_i a) (hs_i b) (hs_i st) (hs_e kk) gv2 gv3 gv4 gv5 gv6 gv7 (hs_e L) (hs_e R) (hs_e U) (hs_e N) gv12 gv13 gv14 gv15 gv16 gv17 gv18 gv19 gv20 gv21 gv22 := by
      intro a b hI ha hb lt hst hp
      have tb : -2147483648 ≤ t ∧ t < 2147483648 := by
        rcases hI.2.2.2.2.2.2.2.1 with x | x
        · omega
        · have := hD t (hI.2.2.2.2.2.1.1 t x).1; omega
      have core : ∀ (R1 : Int → Int) (p1 : Int), ((t = -1 ∧ R1 = R) ∨ (t ≠ -1 ∧ R1 = hs_u R t a)) → p1 = (if t = -1 then a else p) →
          wX_meldLeaning_91 post (wX_meldLeaning_21 post (hs_i w) (hs_i (w * 24)) n) (hs_i w) (hs_i (w * 24)) (hs_i p1) (hs_i t) (hs_i a) (hs_i b) (hs_i st) (hs_e kk) gv2 gv3 gv4 gv5 gv6 gv7 (hs_e L) (hs_e R1) (hs_e U) (hs_e N) gv12 gv13 gv14 gv15 gv16 gv17 gv18 gv19 gv20 gv21 gv22 := by
        intro R1 p1 hR hp1
        obtain ⟨m1, m2, m3, m4, m5, m6, m7⟩ := hs_MI_step hm hI ha hb lt hR
        have ar := hD a m4
        unfold wX_meldLeaning_91
        refine hs_wr a t rfl rfl (by omega) (by omega) (by decide) (hs_rd a rfl (by omega) (by omega) (by decide) (nm_r (hs_1 st) ?_))
        rw [m2, hp1]
        refine ih _ _ R1 _ _ a (R a) b (st + 1) m1 (by omega) (by omega) (Or.inr ⟨ha, ?_⟩) (by omega) (Or.inr ⟨ha, ?_⟩) ?_ ?_
        · rcases m5 with x | x
          · rcases s2 with y | y
            · have := hs_rk_r (hs_K kk) (i := a - w * 24) (by omega) (by omega); omega
            · exact absurd x y.1
          · have tr := hD t x.1
            have := hs_rk_lt (f := hs_K kk) (i := t - w * 24) (j := a - w * 24) (by omega) (by omega) x.2
            rcases s2 with y | y
            · omega
            · omega
        · rcases hp with ⟨x, y⟩ | ⟨x, y⟩
          · rw [if_pos x]
            rcases y with y | y
            · exact Or.inl y.1
            · exact Or.inr y.1
          · rw [if_neg x]; exact y
        · rcases he with x | x
          · exact Or.inl x
          · by_cases y : e = -1
            · exact Or.inl y
            · right
              have n1 : e ≠ a := by
                intro v
                rcases m6 with u | u
                · exact y u
                · rw [v] at u; omega
              have n2 : e ≠ R a := by
                intro v
                rcases m7 with u | u
                · exact y (v.trans u)
                · rcases m6 with g | g
                  · exact y g
                  · rw [v] at g; omega
              rw [hs_un n1, hs_un n2]; exact x
        · intro G' L' R' U' N' r' c1 c2 c3 c4 c5
          exact hK G' L' R' U' N' r' c1 c2 (hs_fr_trans m3 c3) (hs_fr_trans (hs_fr_u m4 (by rcases m5 with x | x; exact Or.inl x; exact Or.inr x.1)) c4) c5
      unfold wX_meldLeaning_69
      refine hs_eq t (-1) (fun c => core R a (Or.inl ⟨c, rfl⟩) (if_pos c).symm) (fun c => ?_)
      have tr : D t := by
        rcases hI.2.2.2.2.2.2.2.1 with x | x
        · exact absurd x c
        · exact (hI.2.2.2.2.2.1.1 t x).1
      have := hD t tr
      exact hs_wr t a rfl rfl (by omega) (by omega) (by decide) (core _ p (Or.inr ⟨c, rfl⟩) (if_neg c).symm)
    refine hs_le 24 st (fun c => fin ?_) (fun c => hs_eq a (-1) (fun d => fin (Or.inl d)) (fun d => hs_eq b (-1) (fun f => fin (Or.inr f)) (fun f => ?_)))
    · -- all items are used up
      apply Classical.byContradiction
      intro x
      have da : D a := by rcases ha with y | y; exact absurd (Or.inl y) x; exact y
      have ar := hD a da
      rcases s2 with y | y
      · omega
      · rcases hI.2.1 with z | z
        · exact x (Or.inl z)
        · rcases z.2.2.2 with v | v
          · exact y.1 v
          · have tr : D t := by
              rcases hI.2.2.2.2.2.2.2.1 with u | u
              · exact absurd u y.1
              · exact (hI.2.2.2.2.2.1.1 t u).1
            have tr := hD t tr
            have g := hs_rk_lt (f := hs_K kk) (i := t - w * 24) (j := a - w * 24) (by omega) (by omega) v
            have g2 := hs_rk_r (hs_K kk) (i := a - w * 24) (by omega) (by omega)
            omega
    · have da : D a := by rcases ha with y | y; exact absurd y d; exact y
      have db : D b := by rcases hb with y | y; exact absurd y f; exact y
      have ar := hD a da
      have br := hD b db
      rw [hs_sub, hs_sub]
      refine hs_cb kr (by omega) (by omega) (by omega) (by omega) (fun g => br_f (by decide) ?_) (fun g => br_t rfl ?_)
      · refine go b a (hs_MI_comm hI) f d g (by omega) ?_
        rcases hp with ⟨x, y⟩ | x
        · left
          exact ⟨x, by rcases y with y | y; exact Or.inr ⟨y.2, y.1⟩; exact Or.inl ⟨y.2, y.1⟩⟩
        · exact Or.inr x
      · refine go a b hI d f ?_ (by omega) hp
        have ne : hs_Lk (hs_K kk) w a ≠ hs_Lk (hs_K kk) w b := fun z => d (hI.2.2.2.1 (hk a b da db z))
        have g' : ¬ hs_Lk (hs_K kk) w b < hs_Lk (hs_K kk) w a := g
        omega
end HS24
