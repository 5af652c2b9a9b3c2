section HS27
variable {gv1 gv2 gv3 gv4 gv5 gv6 gv7 gv8 gv9 gv10 gv11 gv12 gv13 gv14 gv15 gv16 gv17 gv18 gv19 gv20 gv21 gv22 : Nat → Int32}
def hs_PA (K H T C X B : Int → Int) : Prop := ∀ q, 0 ≤ q → q ≤ 3 → hs_PT K H T C X B q
theorem hs_PT_keep {D : Int → Prop} {K H H' T T' C C' X X' B B' : Int → Int} {q : Int} (h : hs_PT K H T C X B q) (hH : ∀ i, 0 ≤ i → i < 24 → (H' i = q ↔ H i = q)) (hT : T' q = T q)
    (hF : hs_PF D C X B C' X' B') (hd : ∀ n, hs_PD H q n → ¬ D n) : hs_PT K H' T' C' X' B' q := by
  refine hs_PT_congr h hH (fun _ _ _ _ => rfl) hT ?_ ?_ ?_
  · intro n hn
    rcases hF.1 n with e | e
    · exact e
    · exact absurd e.1 (hd n hn)
  · intro n hn
    rcases hF.2.1 n with e | e
    · exact e
    · exact absurd e.1 (hd n hn)
  · intro n hn
    rcases hF.2.2 n with e | e
    · exact e
    · exact absurd e.1 (hd n hn)
theorem hs_PT_add {K H T C X B G O : Int → Int} {q i : Int} (h : hs_PO (hs_PD H q) K G O C X B (-1) (-1)) (i0 : 0 ≤ i) (i1 : i < 24) (hi : H i ≠ q) :
    hs_PO (hs_PD (hs_u H i q) q) K (hs_u G i (-1)) O (hs_u C i (-1)) (hs_u X i (-1)) (hs_u B i (-1)) (-1) (-1) ∧ (∀ n, hs_PD H q n → hs_PD (hs_u H i q) q n ∧ n ≠ i) ∧ (∀ n, hs_PD (hs_u H i q) q n → n ≠ i → hs_PD H q n) ∧ hs_PD (hs_u H i q) q i := by
  have hold : ∀ n, hs_PD H q n → hs_PD (hs_u H i q) q n ∧ n ≠ i := by
    intro n hn
    have hne : n ≠ i := fun x => hi (by rw [← x]; exact hn.2.2)
    exact ⟨⟨hn.1, hn.2.1, by rw [hs_un hne]; exact hn.2.2⟩, hne⟩
  have hinv : ∀ n, hs_PD (hs_u H i q) q n → n ≠ i → hs_PD H q n := by
    intro n hn c
    refine ⟨hn.1, hn.2.1, ?_⟩
    have := hn.2.2
    rw [hs_un c] at this
    exact this
  refine ⟨?_, hold, hinv, ⟨i0, i1, hs_us⟩⟩
  intro n hn
  by_cases c : n = i
  · rw [hs_ue c, hs_ue c]
    exact ⟨fun _ => Or.inl rfl, fun x => absurd rfl x, Or.inl rfl⟩
  · have ho := hinv n hn c
    obtain ⟨h1, h2, h3⟩ := h n ho
    rw [hs_un c, hs_un c, hs_un c, hs_un c]
    refine ⟨fun he => ?_, fun hg => ?_, ?_⟩
    · rcases h1 he with d | d
      · exact Or.inl d
      · have g := hold _ d.1
        exact Or.inr ⟨g.1, by rw [hs_un g.2]; exact d.2.1, by rw [hs_un g.2]; exact d.2.2⟩
    · rcases h2 hg with d | d
      · exact Or.inl d
      · have g := hold _ d.1
        exact Or.inr ⟨g.1, by rw [hs_un g.2]; exact d.2.1, by rw [hs_un g.2]; exact d.2.2.1, d.2.2.2⟩
    · rcases h3 with d | ⟨d1, d2, d3⟩
      · exact Or.inl d
      · have g := hold _ d1
        refine Or.inr ⟨g.1, d2, ?_⟩
        rw [hs_un g.2]
        rcases d3 with d3 | d3 | d3
        · exact Or.inl d3
        · exact Or.inr (Or.inl d3)
        · have g2 := hold _ d3.1
          exact Or.inr (Or.inr ⟨g2.1, by rw [hs_un g2.2]; exact d3.2.1, by rw [hs_un g2.2]; exact d3.2.2⟩)
/-- two roots paired are one tree -/
theorem hs_PT_of {K H T C X B G C' X' B' G' O' : Int → Int} {q a b t f : Int} (hU : hs_UP (hs_PD H q) K G C X B G' O' C' X' B' (-1) (-1) a b t f) (hT : T q = t)
    (hr : ∀ i, hs_PD H q i → G i = -1 → i = a ∨ i = b) (ha : a = -1 ∨ (hs_PD H q a ∧ G a = -1 ∧ B a = -1 ∧ X a = -1)) (hb : b = -1 ∨ (hs_PD H q b ∧ G b = -1 ∧ B b = -1 ∧ X b = -1)) (hab : a = b → a = -1) : hs_PT K H T C' X' B' q := by
  obtain ⟨u1, u2, u3, u4, u5, u6, _⟩ := hU
  have hm := hs_PD_m (H := H) (q := q)
  have tab : t = -1 ∨ (hs_PD H q t ∧ G t = -1 ∧ B t = -1 ∧ X t = -1 ∧ t ≠ f) := by
    rcases u2 with c | c
    · rcases ha with d | d
      · exact Or.inl (c.1.trans d)
      · right
        rw [c.1, c.2]
        exact ⟨d.1, d.2.1, d.2.2.1, d.2.2.2, fun z => hm a d.1 (hab z)⟩
    · rcases hb with d | d
      · exact Or.inl (c.1.trans d)
      · right
        rw [c.1, c.2]
        exact ⟨d.1, d.2.1, d.2.2.1, d.2.2.2, fun z => hm b d.1 (z.trans (hab z.symm))⟩
  refine ⟨G', O', u1, ?_, ?_⟩
  · intro i hi c
    rw [hT]
    by_cases d : i = f
    · rcases u4 with g | g
      · exact absurd (d.trans g) (hm i hi)
      · rw [d, g.2] at c
        have := u3 c
        exact absurd (d.trans this) (hm i hi)
    · rw [(u5 i d).1] at c
      rcases hr i hi c with g | g
      · rcases u2 with v | v
        · rw [v.1]; exact g.symm
        · exact absurd (g.trans v.2.symm) d
      · rcases u2 with v | v
        · exact absurd (g.trans v.2.symm) d
        · rw [v.1]; exact g.symm
  · rw [hT]
    rcases tab with c | ⟨c1, c2, c3, c4, c5⟩
    · exact Or.inl c
    · exact Or.inr ⟨c1, by rw [(u5 t c5).1]; exact c2, by rw [u6 t c1 c2 c5]; exact c3, by rw [(u5 t c5).2]; exact c4⟩
theorem hs_UP_t {D : Int → Prop} {k G C X B G' O' C' X' B' : Int → Int} {e r a b t f : Int} (hU : hs_UP D k G C X B G' O' C' X' B' e r a b t f) (ha : a = -1 ∨ D a) (hb : b = -1 ∨ D b) : t = -1 ∨ D t := by
  rcases hU.2.1 with c | c
  · rw [c.1]; exact ha
  · rw [c.1]; exact hb
theorem hs_addP {post : SX → Prop} {kk H T C X B : Int → Int} {q x : Int} (kr : hs_kr kk) (hq : 0 ≤ q) (hq' : q ≤ 3) (x0 : 0 ≤ x) (x1 : x < 24) (hx : ¬ (0 ≤ H x))
    (h : hs_PA (hs_K kk) H T C X B)
    (hK : ∀ T' C' X' B' : Int → Int, hs_PA (hs_K kk) (hs_u H x q) T' C' X' B' → hs_PF (hs_PD (hs_u H x q) q) C X B C' X' B' → (∀ j, j ≠ q → T' j = T j) → (T' q = -1 ∨ hs_PD (hs_u H x q) q (T' q)) → post (hs_e kk, gv2, gv3, gv4, gv5, gv6, gv7, gv8, gv9, gv10, gv11, hs_e T', hs_e C', hs_e X', hs_e B', gv16, gv17, gv18, gv19, gv20, gv21, gv22)) :
    wpX_addToPairing post (hs_e kk, gv2, gv3, gv4, gv5, gv6, gv7, gv8, gv9, gv10, gv11, hs_e T, hs_e C, hs_e X, hs_e B, gv16, gv17, gv18, gv19, gv20, gv21, gv22) (hs_i q) (hs_i x) := by
  obtain ⟨G, O, t1, t2, t3⟩ := h q hq hq'
  obtain ⟨p1, p2, p3, p4⟩ := hs_PT_add (T := T) t1 x0 x1 (by omega)
  unfold wpX_addToPairing
  dsimp only
  refine hs_wr x (-1) rfl hs_lm1.symm x0 (by omega) (by decide) ?_
  refine hs_wr x (-1) rfl hs_lm1.symm x0 (by omega) (by decide) ?_
  refine hs_wr x (-1) rfl hs_lm1.symm x0 (by omega) (by decide) ⟨hs_in hq (by omega) (by decide), ?_⟩
  rw [hs_get (A := T) hq (by omega)]
  have hm := hs_PD_m (H := hs_u H x q) (q := q)
  have ta : T q = -1 ∨ (hs_PD (hs_u H x q) q (T q) ∧ hs_u G x (-1) (T q) = -1 ∧ hs_u B x (-1) (T q) = -1 ∧ hs_u X x (-1) (T q) = -1) := by
    rcases t3 with c | c
    · exact Or.inl c
    · have g := p2 _ c.1
      right
      rw [hs_un g.2, hs_un g.2, hs_un g.2]
      exact ⟨g.1, c.2⟩
  have tx : T q = x → T q = -1 := by
    intro z
    rcases t3 with c | c
    · exact c
    · exact absurd z (p2 _ c.1).2
  refine hs_pu kr hs_PD_r p1 ?_ (Or.inr ⟨p4, hs_us, by omega⟩) tx ?_
  · rcases ta with c | c
    · exact Or.inl c
    · exact Or.inr ⟨c.1, c.2.1, hm _ c.1⟩
  · intro G' O' C' X' B' t f hU
    refine hs_wr q t rfl rfl hq (by omega) (by decide) ?_
    have hF : hs_PF (hs_PD (hs_u H x q) q) C X B C' X' B' := ⟨hs_fr_trans (hs_fr_u p4 (Or.inl rfl)) hU.2.2.2.2.2.2.1, hs_fr_trans (hs_fr_u p4 (Or.inl rfl)) hU.2.2.2.2.2.2.2.1, hs_fr_trans (hs_fr_u p4 (Or.inl rfl)) hU.2.2.2.2.2.2.2.2⟩
    refine hK _ _ _ _ ?_ hF (fun j z => hs_un z) ?_
    · intro q' b0 b1
      by_cases e : q' = q
      · rw [e]
        refine hs_PT_of hU hs_us ?_ ta (Or.inr ⟨p4, hs_us, hs_us, hs_us⟩) tx
        intro i hi c
        by_cases d : i = x
        · exact Or.inr d
        · rw [hs_un d] at c
          exact Or.inl (t2 i (p3 i hi d) c).symm
      · refine hs_PT_keep (h q' b0 b1) ?_ (hs_un e) hF ?_
        · intro i c0 c1
          by_cases z : i = x
          · rw [hs_ue z, z]
            exact ⟨fun y => absurd y.symm e, fun y => by omega⟩
          · rw [hs_un z]
        · intro n hn y
          have a := hn.2.2
          have b := y.2.2
          by_cases z : n = x
          · rw [z] at a; omega
          · rw [hs_un z] at b; omega
    · rw [hs_us]
      refine hs_UP_t hU ?_ (Or.inr p4)
      rcases ta with c | c
      · exact Or.inl c
      · exact Or.inr c.1
theorem hs_PO_Ce {D : Int → Prop} {k G O C X B : Int → Int} {e r v : Int} (h : hs_PO D k G O C X B e r) : hs_PO D k G O (hs_u C e v) X B e r := by
  intro i hi
  obtain ⟨h1, h2, h3⟩ := h i hi
  refine ⟨fun he => by rw [hs_un he]; exact h1 he, h2, ?_⟩
  rcases h3 with c | ⟨c1, c2, c3⟩
  · exact Or.inl c
  · refine Or.inr ⟨c1, c2, ?_⟩
    rcases c3 with c3 | c3 | c3
    · exact Or.inl c3
    · exact Or.inr (Or.inl ⟨c3.1, c3.2.1, by rw [hs_un c3.2.1]; exact c3.2.2⟩)
    · exact Or.inr (Or.inr c3)
/-- the root e goes, its children are paired already -/
theorem hs_PO_out0 {D D' : Int → Prop} {k G O C X B : Int → Int} {e : Int} (hD : ∀ i, D i → 0 ≤ i ∧ i < 24) (h : hs_PO D k G O C X B e (-1)) (he : D e) (ge : G e = -1) (hD' : ∀ i, D' i ↔ D i ∧ i ≠ e) : hs_PO D' k G O C X B (-1) (-1) := by
  have hm : ∀ i, D i → i ≠ -1 := fun i hi => by have := hD i hi; omega
  have nope : ∀ i, D i → G i ≠ e := by
    intro i hi x
    rcases hs_PO_first hD h (hm e he) i hi x with c | c
    · exact hm i hi c
    · exact c.1 rfl
  intro i hi
  obtain ⟨hi, hie⟩ := (hD' i).mp hi
  obtain ⟨h1, h2, h3⟩ := h i hi
  refine ⟨fun _ => ?_, fun hg => ?_, ?_⟩
  · rcases h1 hie with c | c
    · exact Or.inl c
    · exact Or.inr ⟨(hD' _).mpr ⟨c.1, fun x => by rw [x, ge] at c; exact hm i hi c.2.1.symm⟩, c.2⟩
  · rcases h2 hg with c | c
    · exact Or.inl c
    · exact Or.inr ⟨(hD' _).mpr ⟨c.1, fun x => by rw [x, ge] at c; exact hg c.2.1.symm⟩, c.2⟩
  · rcases h3 with c | ⟨c1, c2, c3⟩
    · exact Or.inl c
    · refine Or.inr ⟨(hD' _).mpr ⟨c1, nope i hi⟩, c2, ?_⟩
      rcases c3 with c3 | c3 | c3
      · exact Or.inl c3
      · exact Or.inr (Or.inl ⟨c3.1, hm _ c1, c3.2.2⟩)
      · exact Or.inr (Or.inr ⟨(hD' _).mpr ⟨c3.1, fun x => by rw [x, ge] at c3; exact hm _ c1 c3.2.1.symm⟩, c3.2⟩)
theorem hs_dropP {post : SX → Prop} {kk H T C X B : Int → Int} {q x : Int} (kr : hs_kr kk) (hq : 0 ≤ q) (hq' : q ≤ 3) (x0 : 0 ≤ x) (x1 : x < 24) (hx : H x = q)
    (h : hs_PA (hs_K kk) H T C X B)
    (hK : ∀ T' C' X' B' : Int → Int, hs_PA (hs_K kk) (hs_u H x (-1)) T' C' X' B' → hs_PF (hs_PD H q) C X B C' X' B' → (∀ j, j ≠ q → T' j = T j) → (T' q = -1 ∨ hs_PD H q (T' q)) → post (hs_e kk, gv2, gv3, gv4, gv5, gv6, gv7, gv8, gv9, gv10, gv11, hs_e T', hs_e C', hs_e X', hs_e B', gv16, gv17, gv18, gv19, gv20, gv21, gv22)) :
    wpX_dropFromPairing post (hs_e kk, gv2, gv3, gv4, gv5, gv6, gv7, gv8, gv9, gv10, gv11, hs_e T, hs_e C, hs_e X, hs_e B, gv16, gv17, gv18, gv19, gv20, gv21, gv22) (hs_i q) (hs_i x) := by
  obtain ⟨G, O, t1, t2, t3⟩ := h q hq hq'
  have hm := hs_PD_m (H := H) (q := q)
  have xD : hs_PD H q x := ⟨x0, x1, hx⟩
  have hTq : hs_PD H q (T q) ∧ G (T q) = -1 ∧ B (T q) = -1 ∧ X (T q) = -1 := by
    rcases t3 with c | c
    · exfalso
      rcases hs_PT_mn (h q hq hq') with m | m
      · exact m.2 x x0 x1 hx
      · omega
    · exact c
  have hD' : ∀ i, hs_PD (hs_u H x (-1)) q i ↔ hs_PD H q i ∧ i ≠ x := by
    intro n
    constructor
    · intro c
      have hne : n ≠ x := fun z => by have := c.2.2; rw [hs_ue z] at this; omega
      exact ⟨⟨c.1, c.2.1, by have := c.2.2; rw [hs_un hne] at this; exact this⟩, hne⟩
    · intro c
      exact ⟨c.1.1, c.1.2.1, by rw [hs_un c.2]; exact c.1.2.2⟩
  have keep : ∀ {T' C' X' B' : Int → Int}, hs_PT (hs_K kk) (hs_u H x (-1)) T' C' X' B' q → hs_PF (hs_PD H q) C X B C' X' B' → (∀ j, j ≠ q → T' j = T j) → hs_PA (hs_K kk) (hs_u H x (-1)) T' C' X' B' := by
    intro T' C' X' B' a b c q' b0 b1
    by_cases e : q' = q
    · rw [e]; exact a
    · refine hs_PT_keep (h q' b0 b1) ?_ (c q' e) b ?_
      · intro i c0 c1
        by_cases z : i = x
        · rw [hs_ue z, z]
          exact ⟨fun y => by omega, fun y => by omega⟩
        · rw [hs_un z]
      · intro n hn y
        exact e (hn.2.2.symm.trans y.2.2)
  have xm : x ≠ -1 := by omega
  -- the first picture of the two passes
  have PP0 : hs_PP (hs_PD H q) (hs_K kk) G O C X B x (C x) (T q) (-1) (-1) [] := by
    refine ⟨?_, xD, ?_, rfl, List.nodup_nil, fun t ht => absurd ht (List.not_mem_nil), Or.inl rfl, fun i hi c => Or.inl (t2 i hi c).symm, hTq⟩
    · intro i hi
      obtain ⟨h1, h2, h3⟩ := t1 i hi
      refine ⟨fun _ => h1 (hm i hi), h2, ?_⟩
      rcases h3 with c | ⟨c1, c2, c3⟩
      · exact Or.inl c
      · refine Or.inr ⟨c1, c2, ?_⟩
        rcases c3 with c3 | c3 | c3
        · exact absurd c3 (hm i hi)
        · by_cases z : G i = x
          · left; rw [← c3.2.2, z]
          · exact Or.inr (Or.inl ⟨c3.1, z, c3.2.2⟩)
        · exact Or.inr (Or.inr c3)
    · rcases (t1 x xD).1 xm with c | c
      · exact Or.inl c
      · exact Or.inr ⟨c.1, c.2.1⟩
  unfold wpX_dropFromPairing
  dsimp only
  unfold wpX_pairChildrenOf
  dsimp only
  refine hs_rd x rfl x0 (by omega) (by decide) ⟨26, ?_⟩
  rw [← hs_lm1, ← hs_l0]
  have cr := hs_c_r G x
  refine hs_pc1 kr hs_PD_r 26 G O C X B (C x) (-1) 0 [] PP0 (by omega) (by omega) (by simp) (by omega) ?_
  intro G' O' C1 X1 B1 m hP hF
  obtain ⟨g1, _, _, _, _, _, g7, g8, g9⟩ := hP
  have g1 := hs_PO_Ce (v := -1) g1
  have hF1 : hs_PF (hs_PD H q) C X B (hs_u C1 x (-1)) X1 B1 := hs_PF_trans hF ⟨hs_fr_u xD (Or.inl rfl), hs_fr_refl, hs_fr_refl⟩
  generalize hC2 : hs_u C1 x (-1) = C2 at *
  have roots : ∀ i, hs_PD H q i → G' i = -1 → i = T q ∨ i = m := by
    intro i hi c
    rcases g8 i hi c with d | d | d
    · exact Or.inl d
    · exact absurd d (List.not_mem_nil)
    · exact Or.inr d
  have mD : m = -1 ∨ hs_PD H q m := by
    rcases g7 with c | c
    · exact Or.inl c
    · exact Or.inr c.1
  have mb : -2147483648 ≤ m ∧ m < 2147483648 := by
    rcases mD with c | c
    · omega
    · have := c.1; have := c.2.1; omega
  have bx : (G' x = -1 ∧ B1 x = -1) ∨ (G' x ≠ -1 ∧ hs_PD H q (B1 x)) := by
    by_cases c : G' x = -1
    · left
      refine ⟨c, ?_⟩
      rcases roots x xD c with d | d
      · rw [d]; exact g9.2.2.1
      · rcases g7 with f | f
        · exact absurd (d.trans f) xm
        · exact absurd d.symm f.2.2.2.2.1
    · right
      refine ⟨c, ?_⟩
      rcases (g1 x xD).2.2 with d | ⟨d1, d2, d3⟩
      · exact absurd d c
      · rcases d3 with d3 | d3 | d3
        · exact absurd d3 xm
        · rw [d3.1]; exact d1
        · exact d3.1
  have bb : -2147483648 ≤ B1 x ∧ B1 x < 2147483648 := by
    rcases bx with c | c
    · have := c.2; omega
    · have := c.2.1; have := c.2.2.1; omega
  dsimp only
  refine hs_rd x rfl x0 (by omega) (by decide) ?_
  refine hs_eq (B1 x) (-1) (fun c => ?_) (fun c => ?_)
  · have ge : G' x = -1 := by
      rcases bx with d | d
      · exact d.1
      · exact absurd c (hm _ d.2)
    have xT : x = T q := by
      rcases roots x xD ge with d | d
      · exact d
      · rcases g7 with f | f
        · exact absurd (d.trans f) xm
        · exact absurd d.symm f.2.2.2.2.1
    refine hs_wr q m rfl rfl hq (by omega) (by decide) ?_
    refine hK _ _ _ _ (keep ⟨G', O', hs_PO_out0 hs_PD_r g1 xD ge hD', ?_, ?_⟩ hF1 (fun j z => hs_un z)) hF1 (fun j z => hs_un z) (by rw [hs_us]; exact mD)
    · intro i hi d
      obtain ⟨hi, hie⟩ := (hD' i).mp hi
      rw [hs_us]
      rcases roots i hi d with f | f
      · exact absurd (f.trans xT.symm) hie
      · exact f.symm
    · rw [hs_us]
      rcases g7 with f | f
      · exact Or.inl f
      · exact Or.inr ⟨(hD' m).mpr ⟨f.1, f.2.2.2.2.1⟩, f.2.1, f.2.2.1, f.2.2.2.1⟩
  · obtain ⟨ge, bD⟩ : G' x ≠ -1 ∧ hs_PD H q (B1 x) := by
      rcases bx with d | d
      · exact absurd d.2 c
      · exact d
    have br := bD.1
    have br' := bD.2.1
    have nD : X1 x = -1 ∨ (hs_PD H q (X1 x) ∧ G' (X1 x) = G' x) := by
      rcases (g1 x xD).2.1 ge with d | d
      · exact Or.inl d
      · exact Or.inr ⟨d.1, d.2.1⟩
    have nD2 : X1 x = -1 ∨ hs_PD H q (X1 x) := by
      rcases nD with d | d
      · exact Or.inl d
      · exact Or.inr d.1
    have nb : -2147483648 ≤ X1 x ∧ X1 x < 2147483648 := by
      rcases nD2 with d | d
      · omega
      · have := d.1; have := d.2.1; omega
    have cb : C2 (B1 x) = -1 ∨ hs_PD H q (C2 (B1 x)) := by
      by_cases z : B1 x = x
      · rw [z, ← hC2, hs_us]; exact Or.inl rfl
      · rcases (g1 _ bD).1 z with d | d
        · exact Or.inl d
        · exact Or.inr d.1
    have cb2 : -2147483648 ≤ C2 (B1 x) ∧ C2 (B1 x) < 2147483648 := by
      rcases cb with d | d
      · omega
      · have := d.1; have := d.2.1; omega
    have sx : T q ≠ x := fun z => ge (by rw [← z]; exact g9.2.1)
    -- after the item has left its list
    have last : ∀ C3 X3 : Int → Int, ((C2 (B1 x) = x ∧ C3 = hs_u C2 (B1 x) (X1 x) ∧ X3 = X1) ∨ (C2 (B1 x) ≠ x ∧ C3 = C2 ∧ X3 = hs_u X1 (B1 x) (X1 x))) →
        wX_dropFromPairing_68 post (hs_i q) (hs_i m) (hs_i (B1 x)) (hs_i (X1 x)) (hs_e kk) gv2 gv3 gv4 gv5 gv6 gv7 gv8 gv9 gv10 gv11 (hs_e T) (hs_e C3) (hs_e X3) (hs_e B1) gv16 gv17 gv18 gv19 gv20 gv21 gv22 := by
      intro C3 X3 hCX
      have fCX : hs_fr (hs_PD H q) C2 C3 ∧ hs_fr (hs_PD H q) X1 X3 := by
        rcases hCX with ⟨_, y, z⟩ | ⟨_, y, z⟩
        · rw [y, z]; exact ⟨hs_fr_u bD nD2, hs_fr_refl⟩
        · rw [y, z]; exact ⟨hs_fr_refl, hs_fr_u bD nD2⟩
      have core : ∀ B3 : Int → Int, ((X1 x = -1 ∧ B3 = B1) ∨ (X1 x ≠ -1 ∧ B3 = hs_u B1 (X1 x) (B1 x))) → wX_dropFromPairing_83 post (hs_i q) (hs_i m) (hs_e kk) gv2 gv3 gv4 gv5 gv6 gv7 gv8 gv9 gv10 gv11 (hs_e T) (hs_e C3) (hs_e X3) (hs_e B3) gv16 gv17 gv18 gv19 gv20 gv21 gv22 := by
        intro B3 hB
        have fB : hs_fr (hs_PD H q) B1 B3 := by
          rcases hB with ⟨_, y⟩ | ⟨y, z⟩
          · rw [y]; exact hs_fr_refl
          · rw [z]
            rcases nD2 with v | v
            · exact absurd v y
            · exact hs_fr_u v (Or.inr bD)
        have po := hs_PO_out (b := B1 x) (n := X1 x) hs_PD_r g1 xD hD' ge rfl rfl hCX hB
        have rootB : ∀ i, hs_PD H q i → G' i = -1 → B3 i = B1 i := by
          intro i hi z
          rcases hB with ⟨_, y⟩ | ⟨y, v⟩
          · rw [y]
          · rw [v]
            refine hs_un (fun u => ?_)
            rcases nD with w | w
            · exact y w
            · rw [u, w.2] at z; exact ge z
        have rootX : ∀ i, hs_PD H q i → i ≠ x → G' i = -1 → X3 i = X1 i := by
          intro i hi hix z
          rcases hCX with ⟨_, _, y⟩ | ⟨y0, _, y⟩
          · rw [y]
          · rw [y]
            refine hs_un (fun u => ?_)
            -- back is a sibling, no root
            rcases (g1 x xD).2.2 with d | ⟨d1, d2, d3⟩
            · exact ge d
            · rcases d3 with d3 | d3 | d3
              · exact xm d3
              · apply y0; rw [d3.1]; exact d3.2.2
              · rw [u, d3.2.1] at z; exact ge z
        have ta : T q = -1 ∨ (hs_PD (hs_u H x (-1)) q (T q) ∧ G' (T q) = -1 ∧ B3 (T q) = -1 ∧ X3 (T q) = -1) :=
          Or.inr ⟨(hD' _).mpr ⟨g9.1, sx⟩, g9.2.1, by rw [rootB _ g9.1 g9.2.1]; exact g9.2.2.1, by rw [rootX _ g9.1 sx g9.2.1]; exact g9.2.2.2⟩
        have tb : m = -1 ∨ (hs_PD (hs_u H x (-1)) q m ∧ G' m = -1 ∧ B3 m = -1 ∧ X3 m = -1) := by
          rcases g7 with d | d
          · exact Or.inl d
          · exact Or.inr ⟨(hD' _).mpr ⟨d.1, d.2.2.2.2.1⟩, d.2.1, by rw [rootB _ d.1 d.2.1]; exact d.2.2.1, by rw [rootX _ d.1 d.2.2.2.2.1 d.2.1]; exact d.2.2.2.1⟩
        have tm : T q = m → T q = -1 := by
          intro z
          rcases g7 with d | d
          · exact z.trans d
          · exact absurd z.symm d.2.2.2.2.2
        have hm' := hs_PD_m (H := hs_u H x (-1)) (q := q)
        unfold wX_dropFromPairing_83
        refine ⟨hs_in hq (by omega) (by decide), ?_⟩
        rw [hs_get (A := T) hq (by omega)]
        refine hs_pu kr hs_PD_r po ?_ ?_ tm ?_
        · rcases ta with d | d
          · exact Or.inl d
          · exact Or.inr ⟨d.1, d.2.1, hm' _ d.1⟩
        · rcases tb with d | d
          · exact Or.inl d
          · exact Or.inr ⟨d.1, d.2.1, hm' _ d.1⟩
        · intro G4 O4 C4 X4 B4 t f hU
          refine hs_wr q t rfl rfl hq (by omega) (by decide) ?_
          have wide : ∀ {A Z : Int → Int}, hs_fr (hs_PD (hs_u H x (-1)) q) A Z → hs_fr (hs_PD H q) A Z := by
            intro A Z v j
            rcases v j with u | u
            · exact Or.inl u
            · refine Or.inr ⟨((hD' j).mp u.1).1, ?_⟩
              rcases u.2 with g | g
              · exact Or.inl g
              · exact Or.inr ((hD' _).mp g).1
          have hF4 : hs_PF (hs_PD H q) C X B C4 X4 B4 := hs_PF_trans (hs_PF_trans hF1 ⟨fCX.1, fCX.2, fB⟩) ⟨wide hU.2.2.2.2.2.2.1, wide hU.2.2.2.2.2.2.2.1, wide hU.2.2.2.2.2.2.2.2⟩
          refine hK _ _ _ _ (keep (hs_PT_of hU hs_us ?_ ta tb tm) hF4 (fun j z => hs_un z)) hF4 (fun j z => hs_un z) ?_
          · intro i hi z
            exact roots i ((hD' i).mp hi).1 z
          · rw [hs_us]
            rcases hU.2.1 with z | z
            · rw [z.1]; exact Or.inr g9.1
            · rw [z.1]; exact mD
      unfold wX_dropFromPairing_68
      refine hs_eq (X1 x) (-1) (fun d => core B1 (Or.inl ⟨d, rfl⟩)) (fun d => ?_)
      have nn : hs_PD H q (X1 x) := by
        rcases nD2 with v | v
        · exact absurd v d
        · exact v
      have n1 := nn.1
      have n2 := nn.2.1
      exact hs_wr (X1 x) (B1 x) rfl rfl n1 (by omega) (by decide) (core _ (Or.inr ⟨d, rfl⟩))
    refine hs_rd x rfl x0 (by omega) (by decide) ⟨hs_in br (by omega) (by decide), ?_⟩
    rw [hs_get (A := C2) br (by omega)]
    refine hs_eq (C2 (B1 x)) x (fun d => ?_) (fun d => ?_)
    · exact hs_wr (B1 x) (X1 x) rfl rfl br (by omega) (by decide) (last _ _ (Or.inl ⟨d, rfl, rfl⟩))
    · exact hs_wr (B1 x) (X1 x) rfl rfl br (by omega) (by decide) (last _ _ (Or.inr ⟨d, rfl, rfl⟩))
theorem hs_PO_sub {D D' : Int → Prop} {k G O C X B : Int → Int} {i : Int} (hs : ∀ n, D n → D' n) (h : (i ≠ -1 → C i = -1 ∨ (D (C i) ∧ G (C i) = i ∧ B (C i) = i)) ∧
  (G i ≠ -1 → X i = -1 ∨ (D (X i) ∧ G (X i) = G i ∧ B (X i) = i ∧ O (X i) < O i)) ∧
  (G i = -1 ∨ (D (G i) ∧ k (G i) < k i ∧ (i = -1 ∨ (B i = G i ∧ G i ≠ -1 ∧ C (G i) = i) ∨ (D (B i) ∧ G (B i) = G i ∧ X (B i) = i))))) :
  (i ≠ -1 → C i = -1 ∨ (D' (C i) ∧ G (C i) = i ∧ B (C i) = i)) ∧
  (G i ≠ -1 → X i = -1 ∨ (D' (X i) ∧ G (X i) = G i ∧ B (X i) = i ∧ O (X i) < O i)) ∧
  (G i = -1 ∨ (D' (G i) ∧ k (G i) < k i ∧ (i = -1 ∨ (B i = G i ∧ G i ≠ -1 ∧ C (G i) = i) ∨ (D' (B i) ∧ G (B i) = G i ∧ X (B i) = i)))) := by
  obtain ⟨h1, h2, h3⟩ := h
  refine ⟨fun he => ?_, fun hg => ?_, ?_⟩
  · rcases h1 he with c | c
    · exact Or.inl c
    · exact Or.inr ⟨hs _ c.1, c.2⟩
  · rcases h2 hg with c | c
    · exact Or.inl c
    · exact Or.inr ⟨hs _ c.1, c.2⟩
  · rcases h3 with c | ⟨c1, c2, c3⟩
    · exact Or.inl c
    · refine Or.inr ⟨hs _ c1, c2, ?_⟩
      rcases c3 with c3 | c3 | c3
      · exact Or.inl c3
      · exact Or.inr (Or.inl c3)
      · exact Or.inr (Or.inr ⟨hs _ c3.1, c3.2⟩)
theorem hs_joinP {post : SX → Prop} {kk H T C X B : Int → Int} {a b : Int} (kr : hs_kr kk) (ha : 0 ≤ a) (ha' : a ≤ 3) (hb : 0 ≤ b) (hb' : b ≤ 3) (hab : a ≠ b)
    (h : hs_PA (hs_K kk) H T C X B)
    (hK : ∀ T' C' X' B' : Int → Int, hs_PA (hs_K kk) (fun i => if H i = b then a else H i) T' C' X' B' → hs_PF (hs_PD (fun i => if H i = b then a else H i) a) C X B C' X' B' → (∀ j, j ≠ a → j ≠ b → T' j = T j) → (T' a = -1 ∨ hs_PD (fun i => if H i = b then a else H i) a (T' a)) → T' b = -1 → post (hs_e kk, gv2, gv3, gv4, gv5, gv6, gv7, gv8, gv9, gv10, gv11, hs_e T', hs_e C', hs_e X', hs_e B', gv16, gv17, gv18, gv19, gv20, gv21, gv22)) :
    wpX_joinPairing post (hs_e kk, gv2, gv3, gv4, gv5, gv6, gv7, gv8, gv9, gv10, gv11, hs_e T, hs_e C, hs_e X, hs_e B, gv16, gv17, gv18, gv19, gv20, gv21, gv22) (hs_i a) (hs_i b) := by
  obtain ⟨G1, O1, a1, a2, a3⟩ := h a ha ha'
  obtain ⟨G2, O2, b1, b2, b3⟩ := h b hb hb'
  have hD : ∀ n, hs_PD (fun i => if H i = b then a else H i) a n ↔ hs_PD H a n ∨ hs_PD H b n := by
    intro n
    constructor
    · intro c
      have := c.2.2
      by_cases z : H n = b
      · exact Or.inr ⟨c.1, c.2.1, z⟩
      · dsimp only at this
        rw [if_neg z] at this
        exact Or.inl ⟨c.1, c.2.1, this⟩
    · intro c
      rcases c with c | c
      · refine ⟨c.1, c.2.1, ?_⟩
        dsimp only
        rw [if_neg (by rw [c.2.2]; exact hab)]; exact c.2.2
      · refine ⟨c.1, c.2.1, ?_⟩
        dsimp only
        rw [if_pos c.2.2]
  have hm := hs_PD_m (H := fun i => if H i = b then a else H i) (q := a)
  have GA : ∀ n, hs_PD H a n → (fun n => if H n = a then G1 n else G2 n) n = G1 n := fun n hn => if_pos hn.2.2
  have GB : ∀ n, hs_PD H b n → (fun n => if H n = a then G1 n else G2 n) n = G2 n := fun n hn => if_neg (fun z => hab (z.symm.trans hn.2.2))
  have OA : ∀ n, hs_PD H a n → (fun n => if H n = a then O1 n else O2 n) n = O1 n := fun n hn => if_pos hn.2.2
  have OB : ∀ n, hs_PD H b n → (fun n => if H n = a then O1 n else O2 n) n = O2 n := fun n hn => if_neg (fun z => hab (z.symm.trans hn.2.2))
  have pa := hs_PO_congr a1 (fun _ => Iff.rfl) (fun _ _ => rfl) GA OA (fun _ _ => rfl) (fun _ _ => rfl) (fun _ _ => rfl)
  have pb := hs_PO_congr b1 (fun _ => Iff.rfl) (fun _ _ => rfl) GB OB (fun _ _ => rfl) (fun _ _ => rfl) (fun _ _ => rfl)
  generalize hG : (fun n => if H n = a then G1 n else G2 n) = G at *
  generalize hO : (fun n => if H n = a then O1 n else O2 n) = O at *
  have po : hs_PO (hs_PD (fun i => if H i = b then a else H i) a) (hs_K kk) G O C X B (-1) (-1) := by
    intro n hn
    rcases (hD n).mp hn with c | c
    · exact hs_PO_sub (fun m x => (hD m).mpr (Or.inl x)) (pa n c)
    · exact hs_PO_sub (fun m x => (hD m).mpr (Or.inr x)) (pb n c)
  have ta : T a = -1 ∨ (hs_PD (fun i => if H i = b then a else H i) a (T a) ∧ G (T a) = -1 ∧ B (T a) = -1 ∧ X (T a) = -1) := by
    rcases a3 with c | c
    · exact Or.inl c
    · exact Or.inr ⟨(hD _).mpr (Or.inl c.1), by rw [GA _ c.1]; exact c.2.1, c.2.2⟩
  have tb : T b = -1 ∨ (hs_PD (fun i => if H i = b then a else H i) a (T b) ∧ G (T b) = -1 ∧ B (T b) = -1 ∧ X (T b) = -1) := by
    rcases b3 with c | c
    · exact Or.inl c
    · exact Or.inr ⟨(hD _).mpr (Or.inr c.1), by rw [GB _ c.1]; exact c.2.1, c.2.2⟩
  have tm : T a = T b → T a = -1 := by
    intro z
    rcases a3 with c | c
    · exact c
    · rcases b3 with d | d
      · exact z.trans d
      · have e1 := c.1.2.2
        have e2 := d.1.2.2
        rw [z] at e1
        exact absurd (e1.symm.trans e2) hab
  unfold wpX_joinPairing
  dsimp only
  refine ⟨hs_in ha (by omega) (by decide), hs_in hb (by omega) (by decide), ?_⟩
  rw [hs_get (x := a) ha (by omega), hs_get (x := b) hb (by omega)]
  refine hs_pu kr hs_PD_r po ?_ ?_ tm ?_
  · rcases ta with d | d
    · exact Or.inl d
    · exact Or.inr ⟨d.1, d.2.1, hm _ d.1⟩
  · rcases tb with d | d
    · exact Or.inl d
    · exact Or.inr ⟨d.1, d.2.1, hm _ d.1⟩
  · intro G' O' C' X' B' t f hU
    refine hs_wr a t rfl rfl ha (by omega) (by decide) (hs_wr b (-1) rfl hs_lm1.symm hb (by omega) (by decide) ?_)
    have hF : hs_PF (hs_PD (fun i => if H i = b then a else H i) a) C X B C' X' B' := ⟨hU.2.2.2.2.2.2.1, hU.2.2.2.2.2.2.2.1, hU.2.2.2.2.2.2.2.2⟩
    have T1 : hs_u (hs_u T a t) b (-1) a = t := by rw [hs_un hab, hs_us]
    have T2 : ∀ j, j ≠ a → j ≠ b → hs_u (hs_u T a t) b (-1) j = T j := fun j x y => by rw [hs_un y, hs_un x]
    refine hK _ _ _ _ ?_ hF T2 ?_ hs_us
    · intro q b0 b1'
      by_cases e : q = a
      · rw [e]
        refine hs_PT_of hU T1 ?_ ta tb tm
        intro i hi c
        rcases (hD i).mp hi with d | d
        · rw [GA i d] at c; exact Or.inl (a2 i d c).symm
        · rw [GB i d] at c; exact Or.inr (b2 i d c).symm
      · by_cases f' : q = b
        · have none : ∀ n, ¬ hs_PD (fun i => if H i = b then a else H i) b n := by
            intro n hn
            have := hn.2.2
            dsimp only at this
            by_cases z : H n = b
            · rw [if_pos z] at this; exact hab this
            · rw [if_neg z] at this; exact z this
          rw [f']
          exact ⟨G, O, fun n hn => absurd hn (none n), fun n hn => absurd hn (none n), Or.inl hs_us⟩
        · refine hs_PT_keep (h q b0 b1') ?_ (T2 q e f') hF ?_
          · intro i c0 c1
            by_cases z : H i = b
            · rw [if_pos z]; exact ⟨fun y => absurd y.symm e, fun y => absurd (y.symm.trans z) f'⟩
            · rw [if_neg z]
          · intro n hn y
            have u := y.2.2
            have v := hn.2.2
            dsimp only at u
            by_cases z : H n = b
            · exact f' (v.symm.trans z)
            · rw [if_neg z] at u; exact e (v.symm.trans u)
    · rw [T1]
      refine hs_UP_t hU ?_ ?_
      · rcases ta with d | d
        · exact Or.inl d
        · exact Or.inr d.1
      · rcases tb with d | d
        · exact Or.inl d
        · exact Or.inr d.1
end HS27
