section HS22
variable {gv1 gv2 gv3 gv4 gv5 gv6 gv7 gv8 gv9 gv10 gv11 gv12 gv13 gv14 gv15 gv16 gv17 gv18 gv19 gv20 gv21 gv22 : Nat → Int32}
def hs_AA (K H S F P : Int → Int) (w : Int) : Prop := ∀ q, 0 ≤ q → q ≤ 3 → hs_AH K H S F P w q
/-- another heap than (w, q) is left alone -/
theorem hs_AH_keep {K H H' H0 S S' F F' P P' : Int → Int} {w q w' q' : Int} (q0 : 0 ≤ q) (q1 : q ≤ 3) (q0' : 0 ≤ q') (q1' : q' ≤ 3) (hne : w' ≠ w ∨ q' ≠ q)
    (h : hs_AH K H S F P w' q') (hH : ∀ i, 0 ≤ i → i < 24 → (H' i = q' ↔ H i = q')) (fS : hs_fS S S' ((w * 4 + q) * 24)) (fF : ∀ j, j ≠ w * 4 + q → F' j = F j) (fP : hs_fP H0 P P' q (w * 24))
    (hd : w' = w → ∀ i, 0 ≤ i → i < 24 → H0 i = q → H i ≠ q') : hs_AH K H' S' F' P' w' q' := by
  refine hs_AH_congr h hH (fun _ _ _ _ => rfl) ?_ (fF _ (by omega)) ?_
  · intro p a b
    rcases fS ((w' * 4 + q') * 24 + p) with e | e
    · exact e
    · omega
  · intro i a b c
    rcases fP (w' * 24 + i) with e | ⟨j, j0, j1, j2, j3⟩
    · exact e
    · have e1 : w' = w := by omega
      have e2 : i = j := by omega
      subst e2
      exact absurd c (hd e1 i a b j2)
theorem hs_addA {post : SX → Prop} {k H S F P : Int → Int} {w q x : Int} (kr : hs_kr k) (hw : 0 ≤ w) (hw' : w ≤ 1) (hq : 0 ≤ q) (hq' : q ≤ 3) (x0 : 0 ≤ x) (x1 : x < 24) (hx : ¬ (0 ≤ H x))
    (h : hs_AA (hs_K k) H S F P w)
    (hK : ∀ S' F' P' : Int → Int, hs_AA (hs_K k) (hs_u H x q) S' F' P' w → hs_fS S S' ((w * 4 + q) * 24) → (∀ j, j ≠ w * 4 + q → F' j = F j) → hs_fP (hs_u H x q) P P' q (w * 24) → post (hs_e k, gv2, gv3, hs_e S', hs_e F', hs_e P', gv7, gv8, gv9, gv10, gv11, gv12, gv13, gv14, gv15, gv16, gv17, gv18, gv19, gv20, gv21, gv22)) :
    wpX_addToArrayHeap post (hs_e k, gv2, gv3, hs_e S, hs_e F, hs_e P, gv7, gv8, gv9, gv10, gv11, gv12, gv13, gv14, gv15, gv16, gv17, gv18, gv19, gv20, gv21, gv22) (hs_i w) (hs_i q) (hs_i x) := by
  have hh := h q hq hq'
  obtain ⟨hc, ⟨hA, hB⟩, hO⟩ := hh
  have cr := hs_c_r H q
  have cl := hs_c_lt (H := H) (q := q) x0 x1 (by omega)
  unfold wpX_addToArrayHeap
  dsimp only
  refine nm_r (hs_x4 w q) (hs_rd (w * 4 + q) rfl (by omega) (by omega) (by decide) ⟨hs_in (by omega) (by omega) (by decide), ?_⟩)
  rw [hs_get (by omega) (by omega), hs_1]
  refine hs_wr (w * 4 + q) (F (w * 4 + q) + 1) rfl rfl (by omega) (by omega) (by decide) ?_
  generalize hf : F (w * 4 + q) = f at *
  have hxS : ∀ p, 0 ≤ p → p < f → S ((w * 4 + q) * 24 + p) ≠ x := by
    intro p a b e
    have := (hA p a b).2.2.1
    rw [e] at this
    omega
  have hAB : hs_AB (hs_u H x q) (hs_u S ((w * 4 + q) * 24 + f) x) (hs_u P (w * 24 + x) f) q ((w * 4 + q) * 24) (w * 24) (f + 1) := by
    refine ⟨fun p a b => ?_, fun i a b e => ?_⟩
    · by_cases c : p = f
      · rw [c, hs_us, hs_us, hs_us]; exact ⟨x0, x1, rfl, rfl⟩
      · have z := hA p a (by omega)
        have z2 := hxS p a (by omega)
        rw [hs_un (by omega), hs_un z2, hs_un (by omega)]
        exact z
    · by_cases c : i = x
      · rw [c, hs_us]; exact ⟨by omega, by omega, hs_us⟩
      · rw [hs_un c] at e
        have z := hB i a b e
        rw [hs_un (by omega), hs_un (by omega)]
        exact ⟨z.1, by omega, z.2.2⟩
  have hSI : hs_SI (hs_K k) (hs_u H x q) (hs_u S ((w * 4 + q) * 24 + f) x) (hs_u P (w * 24 + x) f) w q ((w * 4 + q) * 24) (w * 24) (f + 1) f x := by
    unfold hs_SI
    rw [hs_self (hs_us (A := S)), hs_self (hs_us (A := P))]
    refine ⟨hAB, ?_, ?_, by omega, by omega⟩
    · intro p a b c d
      have l := hs_pa_lt w a
      rw [hs_un (by omega), hs_un (by omega)]
      exact hO p a (by omega)
    · intro _ p a b c
      have l := hs_pa_lt w a
      omega
  refine hs_setSlot hw hw' hq hq' (by omega) (by omega) x0 x1 ?_
  show wpX_siftUp _ _ _ _ _
  unfold wpX_siftUp
  dsimp only
  refine nm_r (by rw [hs_x4, hs_m24]) (hs_rd (w * 24 + x) (hs_x24 _ _) (by omega) (by omega) (by decide) ⟨25, ?_⟩)
  rw [hs_us]
  refine hs_su (f := f + 1) (H := hs_u H x q) kr hw hw' hq hq' (by omega) 25 f 0 _ _ hSI (by omega) (by omega) (by omega) ?_
  intro S' P' p' a1 a2 a3 a4 a5
  have hD := a3 (by
    intro p a b c
    have l := hs_pa_lt w a
    omega)
  have xr := a1.1.1 p' a1.2.2.2.1 a1.2.2.2.2
  have fS : hs_fS S (hs_u S' ((w * 4 + q) * 24 + p') x) ((w * 4 + q) * 24) := hs_fS_trans (hs_fS_trans (hs_fS_u (by omega) (by omega) x0 x1) a4) (hs_fS_u a1.2.2.2.1 (by have := a1.2.2.2.2; omega) x0 x1)
  have fP : hs_fP (hs_u H x q) P (hs_u P' (w * 24 + x) p') q (w * 24) := hs_fP_trans (hs_fP_trans (hs_fP_u x0 x1 hs_us) a5) (hs_fP_u x0 x1 hs_us)
  have fF : ∀ j, j ≠ w * 4 + q → hs_u F (w * 4 + q) (f + 1) j = F j := fun j e => hs_un e
  refine hK _ _ _ ?_ fS fF fP
  intro q' b0 b1
  by_cases e : q' = q
  · rw [e]
    unfold hs_AH
    rw [hs_us, hs_c_upd H x0 x1, if_pos rfl, if_neg (by omega)]
    exact ⟨by omega, a1.1, hs_AO_of a1.2.1 a2 hD⟩
  · refine hs_AH_keep hq hq' b0 b1 (Or.inr e) (h q' b0 b1) ?_ fS fF fP ?_
    · intro i c0 c1
      by_cases z : i = x
      · rw [hs_ue z, z]
        exact ⟨fun y => absurd y.symm e, fun y => by omega⟩
      · rw [hs_un z]
    · intro _ i c0 c1 z y
      by_cases t : i = x
      · rw [t] at y; omega
      · rw [hs_un t] at z; omega
theorem hs_dropA {post : SX → Prop} {k H S F P : Int → Int} {w q x : Int} (kr : hs_kr k) (hw : 0 ≤ w) (hw' : w ≤ 1) (hq : 0 ≤ q) (hq' : q ≤ 3) (x0 : 0 ≤ x) (x1 : x < 24) (hx : H x = q)
    (h : hs_AA (hs_K k) H S F P w)
    (hK : ∀ S' F' P' : Int → Int, hs_AA (hs_K k) (hs_u H x (-1)) S' F' P' w → hs_fS S S' ((w * 4 + q) * 24) → (∀ j, j ≠ w * 4 + q → F' j = F j) → hs_fP H P P' q (w * 24) → post (hs_e k, gv2, gv3, hs_e S', hs_e F', hs_e P', gv7, gv8, gv9, gv10, gv11, gv12, gv13, gv14, gv15, gv16, gv17, gv18, gv19, gv20, gv21, gv22)) :
    wpX_dropFromArrayHeap post (hs_e k, gv2, gv3, hs_e S, hs_e F, hs_e P, gv7, gv8, gv9, gv10, gv11, gv12, gv13, gv14, gv15, gv16, gv17, gv18, gv19, gv20, gv21, gv22) (hs_i w) (hs_i q) (hs_i x) := by
  have hh := h q hq hq'
  obtain ⟨hc, ⟨hA, hB⟩, hO⟩ := hh
  have cr := hs_c_r H q
  have cp := hs_c_pos (H := H) (q := q) x0 x1 hx
  have px := hB x x0 x1 hx
  have hF2 : hs_c (hs_u H x (-1)) q = hs_c H q - 1 := by
    rw [hs_c_upd H x0 x1, if_neg (by omega), if_pos hx]; omega
  have other : ∀ (S' P' : Int → Int) (g : Int), hs_fS S S' ((w * 4 + q) * 24) → hs_fP H P P' q (w * 24) → ∀ q', 0 ≤ q' → q' ≤ 3 → q' ≠ q → hs_AH (hs_K k) (hs_u H x (-1)) S' (hs_u F (w * 4 + q) g) P' w q' := by
    intro S' P' g fS fP q' b0 b1 e
    refine hs_AH_keep hq hq' b0 b1 (Or.inr e) (h q' b0 b1) ?_ fS (fun j z => hs_un z) fP (fun _ i c0 c1 z => by omega)
    intro i c0 c1
    by_cases z : i = x
    · rw [hs_ue z, z]
      exact ⟨fun y => by omega, fun y => by omega⟩
    · rw [hs_un z]
  unfold wpX_dropFromArrayHeap
  dsimp only
  refine nm_r (hs_x4 w q) (hs_rd (w * 24 + x) (hs_x24 _ _) (by omega) (by omega) (by decide) ⟨hs_in (by omega) (by omega) (by decide), ?_⟩)
  rw [hs_get (by omega) (by omega), hs_s1]
  refine hs_wr (w * 4 + q) (F (w * 4 + q) - 1) rfl rfl (by omega) (by omega) (by decide) ⟨hs_in (by omega) (by omega) (by decide), ?_⟩
  rw [hs_get (by omega) (by omega), hs_us]
  generalize hf : F (w * 4 + q) = f at *
  refine hs_rd ((w * 4 + q) * 24 + (f - 1)) (hs_x24 _ _) (by omega) (by omega) (by decide) ?_
  have ya := hA (f - 1) (by omega) (by omega)
  generalize hy : S ((w * 4 + q) * 24 + (f - 1)) = y at *
  refine hs_eq y x (fun e => ?_) (fun e => ?_)
  · -- the item stands in the last slot
    refine hK _ _ _ ?_ hs_fS_refl (fun j z => hs_un z) hs_fP_refl
    intro q' b0 b1
    by_cases z : q' = q
    · rw [z]
      unfold hs_AH
      rw [hs_us, hF2]
      refine ⟨by omega, ⟨fun p a b => ?_, fun i a b c => ?_⟩, fun p a b => hO p a (by omega)⟩
      · have v := hA p a (by omega)
        have ne : S ((w * 4 + q) * 24 + p) ≠ x := by
          intro t
          rw [t] at v
          rw [e] at ya
          omega
        rw [hs_un ne]; exact v
      · have ne : i ≠ x := by
          intro t
          rw [hs_ue t] at c; omega
        rw [hs_un ne] at c
        have v := hB i a b c
        refine ⟨v.1, ?_, v.2.2⟩
        have : P (w * 24 + i) ≠ f - 1 := by
          intro t
          rw [t, hy, e] at v
          exact ne v.2.2.symm
        omega
    · exact other S P _ hs_fS_refl hs_fP_refl q' b0 b1 z
  · generalize hp : P (w * 24 + x) = p at *
    have pne : p ≠ f - 1 := by
      intro t
      rw [t, hy] at px
      exact e px.2.2
    have hSI : hs_SI (hs_K k) (hs_u H x (-1)) (hs_u S ((w * 4 + q) * 24 + p) y) (hs_u P (w * 24 + y) p) w q ((w * 4 + q) * 24) (w * 24) (f - 1) p y := by
      unfold hs_SI
      rw [hs_self (hs_us (A := S)), hs_self (hs_us (A := P))]
      refine ⟨⟨fun p' a b => ?_, fun i a b c => ?_⟩, ?_, ?_, px.1, by omega⟩
      · by_cases z : p' = p
        · rw [z, hs_us, hs_us, hs_un e]; exact ⟨ya.1, ya.2.1, ya.2.2.1, rfl⟩
        · rw [hs_un (by omega)]
          have v := hA p' a (by omega)
          have n1 : S ((w * 4 + q) * 24 + p') ≠ x := by
            intro t
            rw [t, hp] at v; omega
          have n2 : S ((w * 4 + q) * 24 + p') ≠ y := by
            intro t
            rw [t] at v; omega
          rw [hs_un n1, hs_un (by omega)]; exact v
      · have ne : i ≠ x := by
          intro t
          rw [hs_ue t] at c; omega
        rw [hs_un ne] at c
        have v := hB i a b c
        by_cases z : i = y
        · rw [z, hs_us]; exact ⟨px.1, by omega, hs_us⟩
        · rw [hs_un (by omega)]
          have n1 : P (w * 24 + i) ≠ p := by
            intro t
            rw [t, px.2.2] at v
            exact ne v.2.2.symm
          have n2 : P (w * 24 + i) ≠ f - 1 := by
            intro t
            rw [t, hy] at v
            exact z v.2.2.symm
          rw [hs_un (by omega)]
          exact ⟨v.1, by omega, v.2.2⟩
      · intro p' a b c d
        have l := hs_pa_lt w a
        rw [hs_un (by omega), hs_un (by omega)]
        exact hO p' a (by omega)
      · intro g p' a b c
        have l := hs_pa_lt w a
        have l2 := hs_pa_lt w g
        rw [hs_un (by omega), hs_un (by omega)]
        have o1 := hO p' a (by omega)
        have o2 := hO p g (by omega)
        rw [c] at o1
        omega
    refine hs_setSlot hw hw' hq hq' px.1 (by omega) ya.1 ya.2.1 ?_
    show wpX_siftUp _ _ _ _ _
    unfold wpX_siftUp
    dsimp only
    refine nm_r (by rw [hs_x4, hs_m24]) (hs_rd (w * 24 + y) (hs_x24 _ _) (by omega) (by omega) (by decide) ⟨25, ?_⟩)
    rw [hs_us]
    refine hs_su (f := f - 1) (H := hs_u H x (-1)) kr hw hw' hq hq' (by omega) 25 p 0 _ _ hSI (by omega) (by omega) (by omega) ?_
    intro S' P' p' a1 a2 a3 a4 a5
    show wpX_siftDown _ _ _ _ _
    unfold wpX_siftDown
    dsimp only
    refine hs_rd (w * 24 + y) (hs_x24 _ _) (by omega) (by omega) (by decide) ⟨25, ?_⟩
    rw [hs_us]
    have hSI2 : hs_SI (hs_K k) (hs_u H x (-1)) (hs_u S' ((w * 4 + q) * 24 + p') y) (hs_u P' (w * 24 + y) p') w q ((w * 4 + q) * 24) (w * 24) (f - 1) p' y := by
      unfold hs_SI
      rw [hs_self (hs_us (A := S')), hs_self (hs_us (A := P'))]
      exact a1
    refine hs_sd (f := f - 1) (H := hs_u H x (-1)) kr hw hw' hq hq' hs_us (by omega) 25 p' 0 _ _ hSI2 (by rw [hs_self (hs_us (A := S'))]; exact a2) (by omega) (by have := a1.2.2.2.1; omega) (by omega) ?_
    intro S2 P2 p2 c1 c2 c3 c4 c5
    have hyq : H y = q := ya.2.2.1
    have fP1 : ∀ {A B : Int → Int}, hs_fP (hs_u H x (-1)) A B q (w * 24) → hs_fP H A B q (w * 24) := by
      intro A B z j
      rcases z j with t | ⟨i, t0, t1, t2, t3⟩
      · exact Or.inl t
      · refine Or.inr ⟨i, t0, t1, ?_, t3⟩
        by_cases r : i = x
        · rw [r]; exact hx
        · rw [hs_un r] at t2; exact t2
    have fS : hs_fS S (hs_u S2 ((w * 4 + q) * 24 + p2) y) ((w * 4 + q) * 24) :=
      hs_fS_trans (hs_fS_trans (hs_fS_trans (hs_fS_trans (hs_fS_u px.1 (by omega) ya.1 ya.2.1) a4) (hs_fS_u a1.2.2.2.1 (by have := a1.2.2.2.2; omega) ya.1 ya.2.1)) c4) (hs_fS_u c1.2.2.2.1 (by have := c1.2.2.2.2; omega) ya.1 ya.2.1)
    have fP : hs_fP H P (hs_u P2 (w * 24 + y) p2) q (w * 24) :=
      hs_fP_trans (hs_fP_trans (hs_fP_trans (hs_fP_trans (hs_fP_u ya.1 ya.2.1 hyq) (fP1 a5)) (hs_fP_u ya.1 ya.2.1 hyq)) (fP1 c5)) (hs_fP_u ya.1 ya.2.1 hyq)
    refine hK _ _ _ ?_ fS (fun j z => hs_un z) fP
    intro q' b0 b1
    by_cases z : q' = q
    · rw [z]
      unfold hs_AH
      rw [hs_us, hF2]
      exact ⟨by omega, c1.1, hs_AO_of c1.2.1 c2 c3⟩
    · exact other _ _ _ fS fP q' b0 b1 z
end HS22
