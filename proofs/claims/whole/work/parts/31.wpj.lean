section HS31
variable {gv1 gv2 gv3 gv4 gv5 gv6 gv7 gv8 gv9 gv10 gv11 gv12 gv13 gv14 gv15 gv16 gv17 gv18 gv19 gv20 gv21 gv22 : Nat → Int32}
/-! what a change of kind w leaves alone -/
def hs_AK (w : Int) (S F P S' F' P' : Int → Int) : Prop := (∀ j, S' j = S j ∨ (w * 96 ≤ j ∧ j < w * 96 + 96 ∧ 0 ≤ S' j ∧ S' j ≤ 23)) ∧ (∀ j, (j < w * 4 ∨ w * 4 + 4 ≤ j) → F' j = F j) ∧ (∀ j, (j < w * 24 ∨ w * 24 + 24 ≤ j) → P' j = P j)
theorem hs_AK_refl {w : Int} {S F P : Int → Int} : hs_AK w S F P S F P := ⟨fun _ => Or.inl rfl, fun _ _ => rfl, fun _ _ => rfl⟩
theorem hs_AK_trans {w : Int} {S F P S1 F1 P1 S2 F2 P2 : Int → Int} (h : hs_AK w S F P S1 F1 P1) (h' : hs_AK w S1 F1 P1 S2 F2 P2) : hs_AK w S F P S2 F2 P2 := by
  refine ⟨fun j => ?_, fun j e => (h'.2.1 j e).trans (h.2.1 j e), fun j e => (h'.2.2 j e).trans (h.2.2 j e)⟩
  rcases h'.1 j with e | e
  · rcases h.1 j with f | f
    · exact Or.inl (e.trans f)
    · rw [← e] at f; exact Or.inr f
  · exact Or.inr e
theorem hs_AK_of {w q : Int} {H S F P S' F' P' : Int → Int} (hq : 0 ≤ q) (hq' : q ≤ 3) (fS : hs_fS S S' ((w * 4 + q) * 24)) (fF : ∀ j, j ≠ w * 4 + q → F' j = F j) (fP : hs_fP H P P' q (w * 24)) : hs_AK w S F P S' F' P' := by
  refine ⟨fun j => ?_, fun j e => fF j (by omega), fun j e => ?_⟩
  · rcases fS j with e | e
    · exact Or.inl e
    · exact Or.inr ⟨by omega, by omega, e.2.2.1, by omega⟩
  · rcases fP j with f | ⟨i, a, b, c, d⟩
    · exact f
    · omega
theorem hs_AK_rg {w : Int} {S F P S' F' P' : Int → Int} (h : hs_AK w S F P S' F' P') (hR : hs_rg S 192 0 23) : hs_rg S' 192 0 23 := by
  intro j a b
  rcases h.1 j with e | e
  · rw [e]; exact hR j a b
  · exact e.2.2
theorem hs_AA_other {w w' : Int} {K H S F P S' F' P' : Int → Int} (hw : 0 ≤ w) (hw2 : 0 ≤ w') (hne : w' ≠ w) (hk : hs_AK w S F P S' F' P') (h : hs_AA K H S F P w') : hs_AA K H S' F' P' w' := by
  intro q q0 q1
  refine hs_AH_congr (h q q0 q1) (fun _ _ _ => Iff.rfl) (fun _ _ _ _ => rfl) ?_ (hk.2.1 _ (by omega)) (fun i a b _ => hk.2.2 _ (by omega))
  intro p a b
  rcases hk.1 ((w' * 4 + q) * 24 + p) with e | e
  · exact e
  · omega
def hs_LW (w : Int) (T L R U N T' L' R' U' N' : Int → Int) : Prop :=
  (∀ j, T' j = T j ∨ (w * 4 ≤ j ∧ j < w * 4 + 4 ∧ -1 ≤ T' j ∧ T' j ≤ 47)) ∧ (∀ j, L' j = L j ∨ (w * 24 ≤ j ∧ j < w * 24 + 24 ∧ -1 ≤ L' j ∧ L' j ≤ 47)) ∧
  (∀ j, R' j = R j ∨ (w * 24 ≤ j ∧ j < w * 24 + 24 ∧ -1 ≤ R' j ∧ R' j ≤ 47)) ∧ (∀ j, U' j = U j ∨ (w * 24 ≤ j ∧ j < w * 24 + 24 ∧ -1 ≤ U' j ∧ U' j ≤ 47)) ∧ (∀ j, (j < w * 24 ∨ w * 24 + 24 ≤ j) → N' j = N j)
theorem hs_LW_of {w : Int} {D : Int → Prop} {T L R U N T' L' R' U' N' : Int → Int} (hw : 0 ≤ w) (hw' : w ≤ 1) (hD : ∀ n, D n → w * 24 ≤ n ∧ n < w * 24 + 24) (hF : hs_LF D L R U N L' R' U' N')
    (hT : ∀ j, T' j = T j ∨ (w * 4 ≤ j ∧ j < w * 4 + 4 ∧ (T' j = -1 ∨ D (T' j)))) : hs_LW w T L R U N T' L' R' U' N' := by
  have key : ∀ A A' : Int → Int, hs_fr D A A' → ∀ j, A' j = A j ∨ (w * 24 ≤ j ∧ j < w * 24 + 24 ∧ -1 ≤ A' j ∧ A' j ≤ 47) := by
    intro A A' h j
    rcases h j with e | ⟨e, f⟩
    · exact Or.inl e
    · have := hD j e
      rcases f with f | f
      · exact Or.inr ⟨this.1, this.2, by omega, by omega⟩
      · have g := hD _ f
        exact Or.inr ⟨this.1, this.2, by omega, by omega⟩
  refine ⟨fun j => ?_, key _ _ hF.1, key _ _ hF.2.1, key _ _ hF.2.2.1, fun j e => ?_⟩
  · rcases hT j with e | ⟨e, f, g⟩
    · exact Or.inl e
    · rcases g with g | g
      · exact Or.inr ⟨e, f, by omega, by omega⟩
      · have := hD _ g
        exact Or.inr ⟨e, f, by omega, by omega⟩
  · rcases hF.2.2.2 j with f | f
    · exact f
    · have := hD j f; omega
theorem hs_LL_other {w w' : Int} {K H T L R U N T' L' R' U' N' : Int → Int} (hw2 : 0 ≤ w') (hne : w' ≠ w) (hk : hs_LW w T L R U N T' L' R' U' N') (h : hs_LL K H T L R U N w') : hs_LL K H T' L' R' U' N' w' := by
  intro q q0 q1
  refine hs_LT_congr hw2 (h q q0 q1) (fun _ _ _ => Iff.rfl) (fun _ _ _ _ => rfl) ?_ ?_ ?_ ?_ ?_
  · rcases hk.1 (w' * 4 + q) with e | e
    · exact e
    · omega
  · intro n hn
    have a := hn.1
    have b := hn.2.1
    rcases hk.2.1 n with e | e
    · exact e
    · omega
  · intro n hn
    have a := hn.1
    have b := hn.2.1
    rcases hk.2.2.1 n with e | e
    · exact e
    · omega
  · intro n hn
    have a := hn.1
    have b := hn.2.1
    rcases hk.2.2.2.1 n with e | e
    · exact e
    · omega
  · intro n hn
    have a := hn.1
    have b := hn.2.1
    exact hk.2.2.2.2 n (by omega)
def hs_LR (T L R U : Int → Int) : Prop := hs_rg T 8 (-1) 47 ∧ hs_rg L 48 (-1) 47 ∧ hs_rg R 48 (-1) 47 ∧ hs_rg U 48 (-1) 47
theorem hs_LW_rg {w : Int} {T L R U N T' L' R' U' N' : Int → Int} (hk : hs_LW w T L R U N T' L' R' U' N') (h : hs_LR T L R U) : hs_LR T' L' R' U' := by
  refine ⟨fun j a b => ?_, fun j a b => ?_, fun j a b => ?_, fun j a b => ?_⟩
  · rcases hk.1 j with e | e
    · rw [e]; exact h.1 j a b
    · exact e.2.2
  · rcases hk.2.1 j with e | e
    · rw [e]; exact h.2.1 j a b
    · exact e.2.2
  · rcases hk.2.2.1 j with e | e
    · rw [e]; exact h.2.2.1 j a b
    · exact e.2.2
  · rcases hk.2.2.2.1 j with e | e
    · rw [e]; exact h.2.2.2 j a b
    · exact e.2.2
/-- the array heap of b is emptied into that of a -/
theorem hs_jal {post : SX → Prop} {k H S0 P0 : Int → Int} {w a b m : Int} (kr : hs_kr k) (hw : 0 ≤ w) (hw' : w ≤ 1) (ha : 0 ≤ a) (ha' : a ≤ 3) (hb : 0 ≤ b) (hb' : b ≤ 3) (hab : a ≠ b) (m1 : m ≤ 24)
    (h0 : hs_AB H S0 P0 b ((w * 4 + b) * 24) (w * 24) m) :
    ∀ (n : Nat) (S F P : Int → Int) (p : Int), hs_AA (hs_K k) (fun i => if H i = b then (if P0 (w * 24 + i) < p then a else -1) else H i) S F P w → (∀ p', 0 ≤ p' → p' < 24 → S ((w * 4 + b) * 24 + p') = S0 ((w * 4 + b) * 24 + p')) → 0 ≤ p → p ≤ m → m - p < n →
    (∀ S' F' P' : Int → Int, hs_AA (hs_K k) (fun i => if H i = b then a else H i) S' F' P' w → hs_AK w S F P S' F' P' → post (hs_e k, gv2, gv3, hs_e S', hs_e F', hs_e P', gv7, gv8, gv9, gv10, gv11, gv12, gv13, gv14, gv15, gv16, gv17, gv18, gv19, gv20, gv21, gv22)) →
    wX_joinArrayHeaps_27 post (hs_i w) (hs_i a) (hs_i (w * 4 + b)) (hs_i m) n (hs_i p) (hs_e k) gv2 gv3 (hs_e S) (hs_e F) (hs_e P) gv7 gv8 gv9 gv10 gv11 gv12 gv13 gv14 gv15 gv16 gv17 gv18 gv19 gv20 gv21 gv22 := by
  intro n
  induction n with
  | zero => intro S F P p _ _ x y z; omega
  | succ n ih =>
    intro S F P p hA hS p0 p1 hn hK
    refine hs_le m p (fun c => ?_) (fun c => ?_)
    · refine hK S F P (fun q q0 q1 => hs_AH_congr (hA q q0 q1) (fun i i0 i1 => ?_) (fun _ _ _ _ => rfl) (fun _ _ _ => rfl) rfl (fun _ _ _ _ => rfl)) hs_AK_refl
      by_cases z : H i = b
      · have := (h0.2 i i0 i1 z).2.1
        rw [if_pos z, if_pos z, if_pos (by omega)]
      · rw [if_neg z, if_neg z]
    · have x := h0.1 p p0 c
      refine hs_rd ((w * 4 + b) * 24 + p) (hs_x24 _ _) (by omega) (by omega) (by decide) ?_
      rw [hS p p0 (by omega)]
      generalize hx : S0 ((w * 4 + b) * 24 + p) = y at *
      have hHy : (fun i => if H i = b then (if P0 (w * 24 + i) < p then a else -1) else H i) y = -1 := by
        show (if H y = b then (if P0 (w * 24 + y) < p then a else -1) else H y) = -1
        rw [if_pos x.2.2.1, if_neg (by omega)]
      have nxt : ∀ i, 0 ≤ i → i < 24 → ∀ q, ((fun i => if H i = b then (if P0 (w * 24 + i) < p + 1 then a else -1) else H i) i = q ↔ hs_u (fun i => if H i = b then (if P0 (w * 24 + i) < p then a else -1) else H i) y a i = q) := by
        intro i i0 i1 q
        by_cases e : i = y
        · rw [hs_ue e]
          have v : (fun i => if H i = b then (if P0 (w * 24 + i) < p + 1 then a else -1) else H i) i = a := by
            show (if H i = b then (if P0 (w * 24 + i) < p + 1 then a else -1) else H i) = a
            rw [e, if_pos x.2.2.1, if_pos (by omega)]
          rw [v]
        · rw [hs_un e]
          by_cases z : H i = b
          · have g := h0.2 i i0 i1 z
            have ne : P0 (w * 24 + i) ≠ p := by
              intro t
              rw [t, hx] at g
              exact e g.2.2.symm
            have v1 : (fun i => if H i = b then (if P0 (w * 24 + i) < p + 1 then a else -1) else H i) i = (if P0 (w * 24 + i) < p then a else -1) := by
              show (if H i = b then (if P0 (w * 24 + i) < p + 1 then a else -1) else H i) = _
              rw [if_pos z]
              by_cases t : P0 (w * 24 + i) < p
              · rw [if_pos t, if_pos (by omega)]
              · rw [if_neg t, if_neg (by omega)]
            rw [v1, if_pos z]
          · have v1 : (fun i => if H i = b then (if P0 (w * 24 + i) < p + 1 then a else -1) else H i) i = H i := if_neg z
            rw [v1, if_neg z]
      generalize hHc : (fun i => if H i = b then (if P0 (w * 24 + i) < p then a else -1) else H i) = Hc at *
      refine hs_addA kr hw hw' ha ha' x.1 x.2.1 (by omega) hA ?_
      intro S1 F1 P1 e1 e2 e3 e4
      refine nm_r (hs_1 p) (ih S1 F1 P1 (p + 1) ?_ ?_ (by omega) (by omega) (by omega) ?_)
      · intro q q0 q1
        exact hs_AH_congr (e1 q q0 q1) (fun i i0 i1 => nxt i i0 i1 q) (fun _ _ _ _ => rfl) (fun _ _ _ => rfl) rfl (fun _ _ _ _ => rfl)
      · intro p' a0 a1
        rw [← hS p' a0 a1]
        rcases e2 ((w * 4 + b) * 24 + p') with g | g
        · exact g
        · omega
      · intro S2 F2 P2 f1 f2
        exact hK S2 F2 P2 f1 (hs_AK_trans (hs_AK_of ha ha' e2 e3 e4) f2)
theorem hs_joinA {post : SX → Prop} {k H S F P : Int → Int} {w a b : Int} (kr : hs_kr k) (hw : 0 ≤ w) (hw' : w ≤ 1) (ha : 0 ≤ a) (ha' : a ≤ 3) (hb : 0 ≤ b) (hb' : b ≤ 3) (hab : a ≠ b) (h : hs_AA (hs_K k) H S F P w)
    (hK : ∀ S' F' P' : Int → Int, hs_AA (hs_K k) (fun i => if H i = b then a else H i) S' F' P' w → hs_AK w S F P S' F' P' → post (hs_e k, gv2, gv3, hs_e S', hs_e F', hs_e P', gv7, gv8, gv9, gv10, gv11, gv12, gv13, gv14, gv15, gv16, gv17, gv18, gv19, gv20, gv21, gv22)) :
    wpX_joinArrayHeaps post (hs_e k, gv2, gv3, hs_e S, hs_e F, hs_e P, gv7, gv8, gv9, gv10, gv11, gv12, gv13, gv14, gv15, gv16, gv17, gv18, gv19, gv20, gv21, gv22) (hs_i w) (hs_i a) (hs_i b) := by
  have hh := h b hb hb'
  have cr := hs_c_r H b
  unfold wpX_joinArrayHeaps
  dsimp only
  refine nm_r (hs_x4 w b) (hs_rd (w * 4 + b) rfl (by omega) (by omega) (by decide) (hs_wr (w * 4 + b) 0 rfl hs_l0.symm (by omega) (by omega) (by decide) ⟨26, ?_⟩))
  rw [← hs_l0]
  have f24 : F (w * 4 + b) ≤ 24 ∧ 0 ≤ F (w * 4 + b) := by rw [hh.1]; omega
  refine hs_jal (H := H) (S0 := S) (P0 := P) kr hw hw' ha ha' hb hb' hab f24.1 hh.2.1 26 S _ P 0 ?_ (fun _ _ _ => rfl) (by omega) (by omega) (by omega) ?_
  · intro q q0 q1
    by_cases e : q = b
    · rw [e]
      unfold hs_AH
      rw [hs_us]
      have c0 : hs_c (fun i => if H i = b then (if P (w * 24 + i) < 0 then a else -1) else H i) b = 0 := by
        have : hs_c (fun i => if H i = b then (if P (w * 24 + i) < 0 then a else -1) else H i) b = hs_sum (fun _ => 0) 24 := by
          refine hs_sum_congr 24 fun j _ _ => if_neg ?_
          show ¬ (if H j = b then (if P (w * 24 + j) < 0 then a else -1) else H j) = b
          by_cases z : H j = b
          · rw [if_pos z]
            split
            · exact hab
            · omega
          · rw [if_neg z]; exact z
        rw [this, hs_sum_const]; rfl
      rw [c0]
      refine ⟨rfl, ⟨fun p x y => absurd y (by omega), fun i x y z => ?_⟩, fun p x y => absurd y (by omega)⟩
      exact absurd z (hs_c_0 c0 x y)
    · refine hs_AH_congr (h q q0 q1) (fun i i0 i1 => ?_) (fun _ _ _ _ => rfl) (fun _ _ _ => rfl) (hs_un (by omega)) (fun _ _ _ _ => rfl)
      by_cases z : H i = b
      · have g := (hh.2.1.2 i i0 i1 z).1
        rw [if_pos z, if_neg (by omega)]
        exact ⟨fun y => by omega, fun y => by omega⟩
      · rw [if_neg z]
  · intro S' F' P' e1 e2
    refine hK S' F' P' e1 (hs_AK_trans ⟨fun _ => Or.inl rfl, fun j e => hs_un (by omega), fun _ _ => rfl⟩ e2)
end HS31
