section HS23
variable {gv1 gv2 gv3 gv4 gv5 gv6 gv7 gv8 gv9 gv10 gv11 gv12 gv13 gv14 gv15 gv16 gv17 gv18 gv19 gv20 gv21 gv22 : Nat → Int32}
/-! engines 2 and 3: the walks -/
theorem hs_rko {post : Int32 → Prop} {N : Int → Int} {x : Int} (hx : x = -1 ∨ (0 ≤ x ∧ x < 48)) (h : post (hs_i (hs_rank N x))) : wpX_rankOf post (gv1, gv2, gv3, gv4, gv5, gv6, gv7, gv8, gv9, gv10, hs_e N, gv12, gv13, gv14, gv15, gv16, gv17, gv18, gv19, gv20, gv21, gv22) (hs_i x) := by
  unfold wpX_rankOf
  dsimp only
  unfold hs_rank at h
  refine hs_eq x (-1) (fun c => ?_) (fun c => ⟨hs_in (by omega) (by omega) (by decide), ?_⟩)
  · rw [if_pos c] at h; exact h
  · rw [if_neg c] at h; rw [hs_get (by omega) (by omega)]; exact h
theorem hs_l69 {post : SX → Prop} {J : Int32 → Int32 → (Nat → Int32) → (Nat → Int32) → (Nat → Int32) → (Nat → Int32) → (Nat → Int32) → (Nat → Int32) → (Nat → Int32) → (Nat → Int32) → (Nat → Int32) → (Nat → Int32) → (Nat → Int32) → (Nat → Int32) → (Nat → Int32) → (Nat → Int32) → (Nat → Int32) → (Nat → Int32) → (Nat → Int32) → (Nat → Int32) → (Nat → Int32) → (Nat → Int32) → (Nat → Int32) → (Nat → Int32) → Prop}
    {w : Int32} {R U N : Int → Int} {v st : Int} (v0 : 0 ≤ v) (v1 : v < 48) (hr : R v = -1 ∨ (0 ≤ R v ∧ R v < 48))
    (h : J (hs_i (U v)) (hs_i (st + 1)) gv1 gv2 gv3 gv4 gv5 gv6 gv7 gv8 (hs_e R) (hs_e U) (hs_e (hs_u N v (hs_rank N (R v) + 1))) gv12 gv13 gv14 gv15 gv16 gv17 gv18 gv19 gv20 gv21 gv22) :
    wX_lean_69 post J w (hs_i v) (hs_i st) gv1 gv2 gv3 gv4 gv5 gv6 gv7 gv8 (hs_e R) (hs_e U) (hs_e N) gv12 gv13 gv14 gv15 gv16 gv17 gv18 gv19 gv20 gv21 gv22 := by
  unfold wX_lean_69
  refine ⟨hs_in v0 (by omega) (by decide), ?_⟩
  rw [hs_get (A := R) v0 (by omega)]
  refine hs_rko hr ?_
  exact hs_wr v (hs_rank N (R v) + 1) rfl (hs_1 _) v0 (by omega) (by decide) (hs_rd v rfl v0 (by omega) (by decide) (nm_r (hs_1 st) h))
theorem hs_ln {post : SX → Prop} {D V : Int → Prop} {K G U : Int → Int} {w e : Int} (hw : 0 ≤ w) (hw' : w ≤ 1) (hD : ∀ n, D n → w * 24 ≤ n ∧ n < w * 24 + 24) (hk : ∀ n m, D n → D m → hs_Lk K w n = hs_Lk K w m → n = m)
    (hV : hs_V D V (hs_Lk K w) G e) (hU : ∀ n, D n → U n = G n) :
    ∀ (n : Nat) (v st : Int) (L R N : Int → Int), hs_LI w D V (hs_Lk K w) G L R N e v → 0 ≤ st → (v = -1 ∨ hs_rk K (v - w * 24) + st ≤ 23) → 24 - st < n → st ≤ 24 →
    (∀ L' R' N' : Int → Int, hs_LI w D V (hs_Lk K w) G L' R' N' e (-1) → hs_fr D L L' → hs_fr D R R' → hs_fn D N N' → post (gv1, gv2, gv3, gv4, gv5, gv6, gv7, hs_e L', hs_e R', hs_e U, hs_e N', gv12, gv13, gv14, gv15, gv16, gv17, gv18, gv19, gv20, gv21, gv22)) →
    wX_lean_5 post (hs_i w) n (hs_i v) (hs_i st) gv1 gv2 gv3 gv4 gv5 gv6 gv7 (hs_e L) (hs_e R) (hs_e U) (hs_e N) gv12 gv13 gv14 gv15 gv16 gv17 gv18 gv19 gv20 gv21 gv22 := by
  intro n
  have hm : ∀ n, D n → n ≠ -1 := fun n hn => by have := hD n hn; omega
  induction n with
  | zero => intro v st L R N _ h0 _ h2 h3; omega
  | succ n ih =>
    intro v st L R N hI h0 h1 h2 h3 hK
    have fin : v = -1 → post (gv1, gv2, gv3, gv4, gv5, gv6, gv7, hs_e L, hs_e R, hs_e U, hs_e N, gv12, gv13, gv14, gv15, gv16, gv17, gv18, gv19, gv20, gv21, gv22) := fun c => hK L R N (by rw [c] at hI; exact hI) hs_fr_refl hs_fr_refl hs_fn_refl
    have rng : v ≠ -1 → 0 ≤ hs_rk K (v - w * 24) := by
      intro c
      have d : D v := by rcases hI.2.1 with x | x; exact absurd x c; exact x.1
      have := hD v d
      exact (hs_rk_r K (i := v - w * 24) (by omega) (by omega)).1
    have vb : -2147483648 ≤ v ∧ v < 2147483648 := by
      rcases hI.2.1 with x | x
      · omega
      · have := hD v x.1; omega
    refine hs_le 24 st (fun c => ?_) (fun c => hs_eq v (-1) (fun d => fin d) (fun d => ?_))
    · apply fin
      rcases h1 with x | x
      · exact x
      · apply Classical.byContradiction
        intro y
        have := rng y
        omega
    · have dv : D v := by rcases hI.2.1 with x | x; exact absurd x d; exact x.1
      have vr := hD v dv
      have hve : v ≠ e := by
        rcases hI.2.1 with x | x
        · exact absurd x d
        · rcases x.2 with y | y
          · exact (hV.1 v y).2
          · rw [y.2]; exact d
      have ch := (hI.1 v dv).1 hve
      have hL : L v = -1 ∨ (0 ≤ L v ∧ L v < 48) := by
        rcases ch.1 with x | x
        · exact Or.inl x
        · have := hD _ x.1; exact Or.inr ⟨by omega, by omega⟩
      have hR : R v = -1 ∨ (0 ≤ R v ∧ R v < 48) := by
        rcases ch.2.1 with x | x
        · exact Or.inl x
        · have := hD _ x.1; exact Or.inr ⟨by omega, by omega⟩
      have nxt : G v = -1 ∨ hs_rk K (G v - w * 24) + (st + 1) ≤ 23 := by
        rcases (hI.1 v dv).2 with x | x
        · exact Or.inl x
        · right
          have g := hD _ x.1
          have := hs_rk_lt (f := K) (i := G v - w * 24) (j := v - w * 24) (by omega) (by omega) x.2.2.1
          rcases h1 with y | y
          · exact absurd y d
          · omega
      have go : ∀ L' R' : Int → Int, ((L' = hs_u L v (R v) ∧ R' = hs_u R v (L v) ∧ (w = 0 → hs_i (hs_rank N (L v)) < hs_i (hs_rank N (R v)))) ∨ (L' = L ∧ R' = R ∧ (w = 0 → ¬ hs_i (hs_rank N (L v)) < hs_i (hs_rank N (R v))))) → (R' v = -1 ∨ (0 ≤ R' v ∧ R' v < 48)) →
          wX_lean_69 post (wX_lean_5 post (hs_i w) n) (hs_i w) (hs_i v) (hs_i st) gv1 gv2 gv3 gv4 gv5 gv6 gv7 (hs_e L') (hs_e R') (hs_e U) (hs_e N) gv12 gv13 gv14 gv15 gv16 gv17 gv18 gv19 gv20 gv21 gv22 := by
        intro L' R' hs hr
        have s := hs_LI_step hm hk hV hI d hs
        refine hs_l69 (by omega) (by omega) hr ?_
        rw [hU v dv]
        refine ih (G v) (st + 1) L' R' _ s.1 (by omega) nxt (by omega) (by omega) ?_
        intro L2 R2 N2 a1 a2 a3 a4
        exact hK L2 R2 N2 a1 (hs_fr_trans s.2.1 a2) (hs_fr_trans s.2.2 a3) (hs_fn_trans (hs_fn_u dv) a4)
      have sw : (w = 0 → hs_i (hs_rank N (L v)) < hs_i (hs_rank N (R v))) → wX_lean_53 post (wX_lean_5 post (hs_i w) n) (hs_i w) (hs_i v) (hs_i st) (hs_i (L v)) (hs_i (R v)) gv1 gv2 gv3 gv4 gv5 gv6 gv7 (hs_e L) (hs_e R) (hs_e U) (hs_e N) gv12 gv13 gv14 gv15 gv16 gv17 gv18 gv19 gv20 gv21 gv22 := by
        intro c2
        unfold wX_lean_53
        refine hs_wr v (R v) rfl rfl (by omega) (by omega) (by decide) (hs_wr v (L v) rfl rfl (by omega) (by omega) (by decide) ?_)
        exact go _ _ (Or.inl ⟨rfl, rfl, c2⟩) (by rw [hs_us]; exact hL)
      refine hs_rd v rfl (by omega) (by omega) (by decide) (hs_rd v rfl (by omega) (by omega) (by decide) ?_)
      refine hs_eq w 1 (fun c2 => sw (fun z => by omega)) (fun c2 => ?_)
      refine hs_rko hL (hs_rko hR ?_)
      exact br_c (fun z => go _ _ (Or.inr ⟨rfl, rfl, fun _ => Int32.not_lt.mpr z⟩) hR) (fun z => sw (fun _ => Int32.not_le.mp z))
end HS23
