section HS26
variable {gv1 gv2 gv3 gv4 gv5 gv6 gv7 gv8 gv9 gv10 gv11 gv12 gv13 gv14 gv15 gv16 gv17 gv18 gv19 gv20 gv21 gv22 : Nat → Int32}
/-! engine 4: the walks -/
theorem hs_pu48 {post : Int32 → SX → Prop} {C X B : Int → Int} {t f : Int} (t0 : 0 ≤ t) (t1 : t < 24) (f0 : 0 ≤ f) (f1 : f < 24) (hc : C t = -1 ∨ (0 ≤ C t ∧ C t < 24))
    (hK : ∀ B' : Int → Int, ((C t = -1 ∧ B' = hs_u B f t) ∨ (C t ≠ -1 ∧ B' = hs_u (hs_u B f t) (C t) f)) → post (hs_i t) (gv1, gv2, gv3, gv4, gv5, gv6, gv7, gv8, gv9, gv10, gv11, gv12, hs_e (hs_u C t f), hs_e (hs_u X f (C t)), hs_e B', gv16, gv17, gv18, gv19, gv20, gv21, gv22)) :
    wX_pairUp_48 post (hs_i t) (hs_i f) gv1 gv2 gv3 gv4 gv5 gv6 gv7 gv8 gv9 gv10 gv11 gv12 (hs_e C) (hs_e X) (hs_e B) gv16 gv17 gv18 gv19 gv20 gv21 gv22 := by
  unfold wX_pairUp_48
  refine hs_rd t rfl t0 (by omega) (by decide) (hs_wr f (C t) rfl rfl f0 (by omega) (by decide) (hs_wr f t rfl rfl f0 (by omega) (by decide) ?_))
  refine hs_eq (C t) (-1) (fun c => ?_) (fun c => ?_)
  · exact hs_wr t f rfl rfl t0 (by omega) (by decide) (hK _ (Or.inl ⟨c, rfl⟩))
  · exact hs_wr (C t) f rfl rfl (by omega) (by omega) (by decide) (hs_wr t f rfl rfl t0 (by omega) (by decide) (hK _ (Or.inr ⟨c, rfl⟩)))
theorem hs_pu {post : Int32 → SX → Prop} {D : Int → Prop} {kk G O C X B : Int → Int} {e r a b : Int} (kr : hs_kr kk) (hD : ∀ i, D i → 0 ≤ i ∧ i < 24) (h : hs_PO D (hs_K kk) G O C X B e r)
    (ha : a = -1 ∨ (D a ∧ G a = -1 ∧ a ≠ e)) (hb : b = -1 ∨ (D b ∧ G b = -1 ∧ b ≠ e)) (hab : a = b → a = -1)
    (hK : ∀ (G' O' C' X' B' : Int → Int) (t f : Int), hs_UP D (hs_K kk) G C X B G' O' C' X' B' e r a b t f → post (hs_i t) (hs_e kk, gv2, gv3, gv4, gv5, gv6, gv7, gv8, gv9, gv10, gv11, gv12, hs_e C', hs_e X', hs_e B', gv16, gv17, gv18, gv19, gv20, gv21, gv22)) :
    wpX_pairUp post (hs_e kk, gv2, gv3, gv4, gv5, gv6, gv7, gv8, gv9, gv10, gv11, gv12, hs_e C, hs_e X, hs_e B, gv16, gv17, gv18, gv19, gv20, gv21, gv22) (hs_i a) (hs_i b) := by
  have hm : ∀ i, D i → i ≠ -1 := fun i hi => by have := hD i hi; omega
  have ar : -2147483648 ≤ a ∧ a < 2147483648 := by
    rcases ha with x | x
    · omega
    · have := hD a x.1; omega
  have br : -2147483648 ≤ b ∧ b < 2147483648 := by
    rcases hb with x | x
    · omega
    · have := hD b x.1; omega
  have ch : ∀ t, D t → t ≠ e → C t = -1 ∨ (0 ≤ C t ∧ C t < 24) := by
    intro t ht hte
    rcases (h t ht).1 hte with x | x
    · exact Or.inl x
    · exact Or.inr (hD _ x.1)
  unfold wpX_pairUp
  dsimp only
  refine hs_eq a (-1) (fun c => ?_) (fun c => hs_eq b (-1) (fun d => ?_) (fun d => ?_))
  · unfold wX_pairUp_10
    exact hs_eq a (-1) (fun _ => hK G O C X B b a (hs_UP_nil h c (Or.inr ⟨rfl, rfl⟩))) (fun z => absurd c z)
  · unfold wX_pairUp_10
    exact hs_eq a (-1) (fun z => absurd z c) (fun z => hK G O C X B a b (hs_UP_nil h d (Or.inl ⟨rfl, rfl⟩)))
  · obtain ⟨a1, a2, a3⟩ : D a ∧ G a = -1 ∧ a ≠ e := by
      rcases ha with x | x
      · exact absurd x c
      · exact x
    obtain ⟨b1, b2, b3⟩ : D b ∧ G b = -1 ∧ b ≠ e := by
      rcases hb with x | x
      · exact absurd x d
      · exact x
    have ra := hD a a1
    have rb := hD b b1
    have ne : a ≠ b := fun z => c (hab z)
    refine hs_cb kr ra.1 ra.2 rb.1 rb.2 (fun g => br_f (by decide) ?_) (fun g => br_t rfl ?_)
    · unfold wX_pairUp_37
      refine br_f (by decide) (hs_pu48 ra.1 ra.2 rb.1 rb.2 (ch a a1 a3) (fun B' hB => ?_))
      exact hK _ _ _ _ B' a b (hs_UP_go hm h a1 b1 a2 b2 a3 ne g (Or.inl ⟨rfl, rfl⟩) hB)
    · unfold wX_pairUp_37
      have lt : hs_K kk b < hs_K kk a := by
        have : hs_K kk a ≠ hs_K kk b := fun z => ne (hs_K_inj kk a b ra.1 ra.2 rb.1 rb.2 z)
        omega
      refine br_t rfl (hs_pu48 rb.1 rb.2 ra.1 ra.2 (ch b b1 b3) (fun B' hB => ?_))
      exact hK _ _ _ _ B' b a (hs_UP_go hm h b1 a1 b2 a2 b3 (fun z => ne z.symm) lt (Or.inr ⟨rfl, rfl⟩) hB)
def hs_PF (D : Int → Prop) (C X B C' X' B' : Int → Int) : Prop := hs_fr D C C' ∧ hs_fr D X X' ∧ hs_fr D B B'
theorem hs_PF_refl {D : Int → Prop} {C X B : Int → Int} : hs_PF D C X B C X B := ⟨hs_fr_refl, hs_fr_refl, hs_fr_refl⟩
theorem hs_PF_trans {D : Int → Prop} {C X B C1 X1 B1 C2 X2 B2 : Int → Int} (h : hs_PF D C X B C1 X1 B1) (h' : hs_PF D C1 X1 B1 C2 X2 B2) : hs_PF D C X B C2 X2 B2 :=
  ⟨hs_fr_trans h.1 h'.1, hs_fr_trans h.2.1 h'.2.1, hs_fr_trans h.2.2 h'.2.2⟩
/-- the second pass -/
theorem hs_pc2 {post : Int32 → SX → Prop} {D : Int → Prop} {kk : Int → Int} {e s : Int} (kr : hs_kr kk) (hD : ∀ i, D i → 0 ≤ i ∧ i < 24) :
    ∀ (n : Nat) (G O C X B : Int → Int) (p m st : Int) (l : List Int), hs_PP D (hs_K kk) G O C X B e (-1) s p m l → 0 ≤ st → st + l.length ≤ 24 → 24 - st < n →
    (∀ (G' O' C' X' B' : Int → Int) (m' : Int), hs_PP D (hs_K kk) G' O' C' X' B' e (-1) s (-1) m' [] → hs_PF D C X B C' X' B' → post (hs_i m') (hs_e kk, gv2, gv3, gv4, gv5, gv6, gv7, gv8, gv9, gv10, gv11, gv12, hs_e (hs_u C' e (-1)), hs_e X', hs_e B', gv16, gv17, gv18, gv19, gv20, gv21, gv22)) →
    wX_pairChildrenOf_117 post (hs_i e) n (hs_i p) (hs_i m) (hs_i st) (hs_e kk) gv2 gv3 gv4 gv5 gv6 gv7 gv8 gv9 gv10 gv11 gv12 (hs_e C) (hs_e X) (hs_e B) gv16 gv17 gv18 gv19 gv20 gv21 gv22 := by
  have hm : ∀ i, D i → i ≠ -1 := fun i hi => by have := hD i hi; omega
  intro n
  induction n with
  | zero => intro G O C X B p m st l _ h0 h1 h2; omega
  | succ n ih =>
    intro G O C X B p m st l hP h0 h1 h2 hK
    have er := hD e hP.2.1
    have fin : l = [] → vp_in (hs_i e) 24 ∧ ∀ y, y = upd (hs_e C) (hs_i e).toNatClampNeg (-1) → post (hs_i m) (hs_e kk, gv2, gv3, gv4, gv5, gv6, gv7, gv8, gv9, gv10, gv11, gv12, y, hs_e X, hs_e B, gv16, gv17, gv18, gv19, gv20, gv21, gv22) := by
      intro z
      refine hs_wr e (-1) rfl hs_lm1.symm er.1 (by omega) (by decide) (hK G O C X B m ?_ hs_PF_refl)
      have hp : p = -1 := by
        have := hP.2.2.2.1
        rw [z] at this
        exact this
      rw [z, hp] at hP
      exact hP
    have pb : -2147483648 ≤ p ∧ p < 2147483648 := by
      cases l with
      | nil => have : p = -1 := hP.2.2.2.1; omega
      | cons a l =>
        have := hP.2.2.2.1.1
        have := hD a (hP.2.2.2.2.2.1 a (List.mem_cons_self ..)).1
        omega
    refine hs_le 24 st (fun c => fin ?_) (fun c => hs_eq p (-1) (fun d => fin ?_) (fun d => ?_))
    · cases l with
      | nil => rfl
      | cons a l => rw [List.length_cons] at h1; omega
    · cases l with
      | nil => rfl
      | cons a l => exact absurd (hP.2.2.2.1.1.symm.trans d) hP.2.2.2.1.2.1
    · cases l with
      | nil => exact absurd hP.2.2.2.1 d
      | cons a l =>
        have ea : p = a := hP.2.2.2.1.1
        subst ea
        have pl := hP.2.2.2.2.2.1 p (List.mem_cons_self ..)
        have pr := hD p pl.1
        refine hs_rd p rfl pr.1 (by omega) (by decide) (hs_wr p (-1) rfl hs_lm1.symm pr.1 (by omega) (by decide) ?_)
        have po : hs_PO D (hs_K kk) G O C (hs_u X p (-1)) B e (-1) := hs_PO_root hP.1 (fun i _ x => hs_un (fun y => x (by rw [y]; exact pl.2.1))) (fun _ _ _ => rfl) hm
        have ma : m = -1 ∨ (D m ∧ G m = -1 ∧ m ≠ e) := by
          rcases hP.2.2.2.2.2.2.1 with x | x
          · exact Or.inl x
          · exact Or.inr ⟨x.1, x.2.1, x.2.2.2.2.1⟩
        refine hs_pu kr hD po ma (Or.inr ⟨pl.1, pl.2.1, pl.2.2.2.1⟩) (fun z => absurd z.symm pl.2.2.2.2.2) ?_
        intro G' O' C' X' B' t f hU
        refine nm_r (hs_1 st) (ih G' O' C' X' B' (X p) t (st + 1) l (hs_PP_pop hD hP hU) (by omega) (by rw [List.length_cons] at h1; omega) (by omega) ?_)
        intro G2 O2 C2 X2 B2 m2 c1 c2
        exact hK G2 O2 C2 X2 B2 m2 c1 (hs_PF_trans ⟨hU.2.2.2.2.2.2.1, hs_fr_trans (hs_fr_u pl.1 (Or.inl rfl)) hU.2.2.2.2.2.2.2.1, hU.2.2.2.2.2.2.2.2⟩ c2)
/-- the first pass -/
theorem hs_pc1 {post : Int32 → SX → Prop} {D : Int → Prop} {kk : Int → Int} {e s : Int} (kr : hs_kr kk) (hD : ∀ i, D i → 0 ≤ i ∧ i < 24) :
    ∀ (n : Nat) (G O C X B : Int → Int) (r p st : Int) (l : List Int), hs_PP D (hs_K kk) G O C X B e r s p (-1) l → 0 ≤ st → st + hs_c G e ≤ 24 → l.length ≤ st → 24 - st < n →
    (∀ (G' O' C' X' B' : Int → Int) (m' : Int), hs_PP D (hs_K kk) G' O' C' X' B' e (-1) s (-1) m' [] → hs_PF D C X B C' X' B' → post (hs_i m') (hs_e kk, gv2, gv3, gv4, gv5, gv6, gv7, gv8, gv9, gv10, gv11, gv12, hs_e (hs_u C' e (-1)), hs_e X', hs_e B', gv16, gv17, gv18, gv19, gv20, gv21, gv22)) →
    wX_pairChildrenOf_12 post (hs_i e) n (hs_i r) (hs_i p) (hs_i st) (hs_e kk) gv2 gv3 gv4 gv5 gv6 gv7 gv8 gv9 gv10 gv11 gv12 (hs_e C) (hs_e X) (hs_e B) gv16 gv17 gv18 gv19 gv20 gv21 gv22 := by
  have hm : ∀ i, D i → i ≠ -1 := fun i hi => by have := hD i hi; omega
  intro n
  induction n with
  | zero =>
    intro G O C X B r p st l _ h0 h1 _ h2
    have := hs_c_r G e
    omega
  | succ n ih =>
    intro G O C X B r p st l hP h0 h1 hl h2 hK
    have cr := hs_c_r G e
    have fin : r = -1 → ∃ n117 : Nat, wX_pairChildrenOf_117 post (hs_i e) n117 (hs_i p) (-1) 0 (hs_e kk) gv2 gv3 gv4 gv5 gv6 gv7 gv8 gv9 gv10 gv11 gv12 (hs_e C) (hs_e X) (hs_e B) gv16 gv17 gv18 gv19 gv20 gv21 gv22 := by
      intro z
      rw [z] at hP
      refine ⟨25, ?_⟩
      rw [← hs_lm1, ← hs_l0]
      exact hs_pc2 kr hD 25 G O C X B p (-1) 0 l hP (by omega) (by omega) (by omega) hK
    have rr : r = -1 ∨ (D r ∧ G r = e) := hP.2.2.1
    have rb : -2147483648 ≤ r ∧ r < 2147483648 := by
      rcases rr with x | x
      · omega
      · have := hD r x.1; omega
    refine hs_le 24 st (fun c => fin ?_) (fun c => hs_eq r (-1) (fun d => fin d) (fun d => ?_))
    · rcases rr with x | x
      · exact x
      · have := hs_c_pos (H := G) (q := e) (hD r x.1).1 (hD r x.1).2 x.2
        omega
    · obtain ⟨r1, r2⟩ : D r ∧ G r = e := by
        rcases rr with x | x
        · exact absurd x d
        · exact x
      have rg := hD r r1
      -- what follows for o, the second child
      have core : ∀ (o : Int) (X1 B1 Y1 Z1 : Int → Int), o = X r → hs_u Y1 r (-1) = X1 → hs_u Z1 r (-1) = B1 →
          ((o = -1 ∧ X1 = hs_u X r (-1) ∧ B1 = hs_u B r (-1)) ∨ (o ≠ -1 ∧ X1 = hs_u (hs_u X o (-1)) r (-1) ∧ B1 = hs_u (hs_u B o (-1)) r (-1))) →
          wX_pairChildrenOf_68 post (wX_pairChildrenOf_12 post (hs_i e) n) (hs_i e) (hs_i (if o = -1 then -1 else X o)) (hs_i p) (hs_i st) (hs_i r) (hs_i o) (hs_e kk) gv2 gv3 gv4 gv5 gv6 gv7 gv8 gv9 gv10 gv11 gv12 (hs_e C) (hs_e Y1) (hs_e Z1) gv16 gv17 gv18 gv19 gv20 gv21 gv22 := by
        intro o X1 B1 Y1 Z1 ho hY hZ hXB
        have cut := hs_PP_cut hD hP d ho hXB
        unfold wX_pairChildrenOf_68
        refine hs_wr r (-1) rfl hs_lm1.symm rg.1 (by omega) (by decide) (hs_wr r (-1) rfl hs_lm1.symm rg.1 (by omega) (by decide) ?_)
        rw [hY, hZ]
        have g1 : (fun i => if i = r ∨ (i = o ∧ o ≠ -1) then -1 else G i) r = -1 := if_pos (Or.inl rfl)
        refine hs_pu kr hD cut.1 (Or.inr ⟨cut.2.1, g1, cut.2.2.2.1⟩) ?_ cut.2.2.2.2.2.1 ?_
        · rcases cut.2.2.2.2.1 with x | x
          · exact Or.inl x
          · exact Or.inr ⟨x.1, if_pos (Or.inr ⟨rfl, hm o x.1⟩), x.2.2⟩
        · intro G' O' C' X' B' t f hU
          have ps := hs_PP_push hD hP d ho hXB hU
          have tr := hD t ps.2.2.1
          refine hs_wr t p rfl rfl tr.1 (by omega) (by decide) (nm_r (hs_1 st) (ih G' O' C' _ B' _ t (st + 1) (t :: l) ps.1 (by omega) (by omega) (by rw [List.length_cons]; omega) (by omega) ?_))
          intro G2 O2 C2 X2 B2 m2 c1 c2
          refine hK G2 O2 C2 X2 B2 m2 c1 (hs_PF_trans ⟨hU.2.2.2.2.2.2.1, ?_, ?_⟩ c2)
          · exact hs_fr_trans (hs_fr_trans cut.2.2.2.2.2.2.2.1 hU.2.2.2.2.2.2.2.1) ps.2.2.2
          · exact hs_fr_trans cut.2.2.2.2.2.2.2.2 hU.2.2.2.2.2.2.2.2
      have or : X r = -1 ∨ D (X r) := by
        rcases (hP.1 r r1).2.1 (by rw [r2]; exact hm e hP.2.1) with x | x
        · exact Or.inl x
        · exact Or.inr x.1
      have ob : -2147483648 ≤ X r ∧ X r < 2147483648 := by
        rcases or with x | x
        · omega
        · have := hD _ x; omega
      refine hs_rd r rfl rg.1 (by omega) (by decide) ?_
      refine hs_eq (X r) (-1) (fun c2 => ?_) (fun c2 => ?_)
      · have := core (X r) _ _ X B rfl rfl rfl (Or.inl ⟨c2, rfl, rfl⟩)
        rw [if_pos c2, hs_lm1] at this
        exact this
      · have oD : D (X r) := by
          rcases or with x | x
          · exact absurd x c2
          · exact x
        have og := hD _ oD
        refine hs_rd (X r) rfl og.1 (by omega) (by decide) (hs_wr (X r) (-1) rfl hs_lm1.symm og.1 (by omega) (by decide) (hs_wr (X r) (-1) rfl hs_lm1.symm og.1 (by omega) (by decide) ?_))
        have := core (X r) _ _ (hs_u X (X r) (-1)) (hs_u B (X r) (-1)) rfl rfl rfl (Or.inr ⟨c2, rfl, rfl⟩)
        rw [if_neg c2] at this
        exact this
end HS26
