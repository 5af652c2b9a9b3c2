section HS09
/-! the binomial trees of a queue -/
def hs_BD (H NI : Int → Int) (q n : Int) : Prop := 0 ≤ n ∧ n < 24 ∧ H (NI n) = q
/-- the roots stand in T, but for c and those that P marks -/
def hs_BR (D P : Int → Prop) (T d G : Int → Int) (q c : Int) : Prop :=
  (∀ n, D n → G n = -1 → n ≠ c → ¬ P n → T (q * 5 + d n) = n) ∧
  (∀ o, 0 ≤ o → o ≤ 4 → T (q * 5 + o) = -1 ∨ (D (T (q * 5 + o)) ∧ G (T (q * 5 + o)) = -1 ∧ d (T (q * 5 + o)) = o ∧ T (q * 5 + o) ≠ c ∧ ¬ P (T (q * 5 + o))))
def hs_BT (K H T C X U NI : Int → Int) (q : Int) : Prop := ∃ d : Int → Int,
  hs_BO (hs_BD H NI q) d U C X (-1) ∧ hs_BK (hs_BD H NI q) (fun n => K (NI n)) U (-1) ∧ hs_BR (hs_BD H NI q) (fun _ => False) T d U q (-1) ∧ hs_tv T q = hs_c H q
theorem hs_BO_congr {D D' : Int → Prop} {d d' G G' C C' X X' : Int → Int} {e : Int} (h : hs_BO D d G C X e) (hD : ∀ n, D' n ↔ D n)
    (hd : ∀ n, D n → d' n = d n) (he : d' e = d e ∨ e = -1) (hG : ∀ n, D n → G' n = G n) (hC : ∀ n, D n → C' n = C n) (hX : ∀ n, D n → G n ≠ -1 → X' n = X n) : hs_BO D' d' G' C' X' e := by
  intro n hn
  have hn := (hD n).mp hn
  obtain ⟨h0, h4, hc, hx, hg, hu⟩ := h n hn
  rw [hd n hn, hG n hn, hC n hn]
  refine ⟨h0, h4, ?_, fun y => ?_, ?_, ?_⟩
  · rcases hc with f | f
    · exact Or.inl f
    · exact Or.inr ⟨(hD _).mpr f.1, by rw [hG _ f.1]; exact f.2.1, by rw [hd _ f.1]; exact f.2.2⟩
  · rw [hX n hn y]
    rcases hx y with f | f
    · exact Or.inl f
    · exact Or.inr ⟨(hD _).mpr f.1, by rw [hG _ f.1]; exact f.2.1, by rw [hd _ f.1]; exact f.2.2⟩
  · rcases hg with f | ⟨f1, f2⟩
    · exact Or.inl f
    · by_cases y : G n = -1
      · exact Or.inl y
      · right
        rcases f2 with g | g
        · refine ⟨?_, Or.inl g⟩
          rcases he with z | z
          · rw [g, z, ← g]; exact f1
          · exact absurd (g.trans z) y
        · exact ⟨by rw [hd _ g]; exact f1, Or.inr ((hD _).mpr g)⟩
  · intro m hm e1 e2 e3
    have hm := (hD m).mp hm
    rw [hG m hm] at e1
    rw [hd m hm] at e3
    exact hu m hm e1 e2 e3
theorem hs_tv_congr {T T' : Int → Int} {q : Int} (h : ∀ o, 0 ≤ o → o ≤ 4 → T' (q * 5 + o) = T (q * 5 + o)) : hs_tv T' q = hs_tv T q := by
  have h0 := h 0 (by omega) (by omega)
  rw [Int.add_zero] at h0
  unfold hs_tv
  rw [h0, h 1 (by omega) (by omega), h 2 (by omega) (by omega), h 3 (by omega) (by omega), h 4 (by omega) (by omega)]
theorem hs_BT_congr {K K' H H' T T' C C' X X' U U' NI NI' : Int → Int} {q : Int} (h : hs_BT K H T C X U NI q)
    (hD : ∀ n, hs_BD H' NI' q n ↔ hs_BD H NI q n) (hH : ∀ i, 0 ≤ i → i < 24 → (H' i = q ↔ H i = q)) (hK : ∀ n, hs_BD H NI q n → K' (NI' n) = K (NI n))
    (hT : ∀ o, 0 ≤ o → o ≤ 4 → T' (q * 5 + o) = T (q * 5 + o)) (hC : ∀ n, hs_BD H NI q n → C' n = C n) (hX : ∀ n, hs_BD H NI q n → X' n = X n) (hU : ∀ n, hs_BD H NI q n → U' n = U n) : hs_BT K' H' T' C' X' U' NI' q := by
  obtain ⟨d, h1, h2, ⟨h3, h5⟩, h4⟩ := h
  refine ⟨d, hs_BO_congr h1 hD (fun _ _ => rfl) (Or.inl rfl) hU hC (fun n x _ => hX n x), ?_, ⟨?_, ?_⟩, by rw [hs_tv_congr hT, hs_c_congr hH]; exact h4⟩
  · intro n hn
    have hn := (hD n).mp hn
    rw [hU n hn]
    rcases h2 n hn with c | c | c
    · exact Or.inl c
    · exact Or.inl c
    · by_cases y : U n = -1
      · exact Or.inl y
      · right; right
        have hp : hs_BD H NI q (U n) := by
          rcases (h1 n hn).2.2.2.2.1 with f | ⟨_, f | f⟩
          · exact absurd f y
          · exact absurd f y
          · exact f
        show K' (NI' (U n)) < K' (NI' n)
        rw [hK _ hp, hK n hn]; exact c
  · intro n hn a b c
    have hn := (hD n).mp hn
    rw [hU n hn] at a
    have r := h1 n hn
    rw [hT _ r.1 r.2.1]
    exact h3 n hn a b c
  · intro o a b
    rw [hT o a b]
    rcases h5 o a b with c | c
    · exact Or.inl c
    · exact Or.inr ⟨(hD _).mpr c.1, by rw [hU _ c.1]; exact c.2.1, c.2.2⟩
/-- every item of the queue comes behind some root, or is one -/
theorem hs_BT_root {K H T C X U NI IN : Int → Int} {q : Int} (hP : hs_PM NI IN) (h : hs_BT K H T C X U NI q) :
    ∀ i, 0 ≤ i → i < 24 → H i = q → ∃ o, 0 ≤ o ∧ o ≤ 4 ∧ T (q * 5 + o) ≠ -1 ∧ K (NI (T (q * 5 + o))) ≤ K i := by
  obtain ⟨d, h1, h2, ⟨h3, h5⟩, h4⟩ := h
  have main : ∀ (m : Nat) (n : Int), hs_BD H NI q n → 4 - d n ≤ m → ∃ o, 0 ≤ o ∧ o ≤ 4 ∧ T (q * 5 + o) ≠ -1 ∧ K (NI (T (q * 5 + o))) ≤ K (NI n) := by
    have base : ∀ n, hs_BD H NI q n → U n = -1 → ∃ o, 0 ≤ o ∧ o ≤ 4 ∧ T (q * 5 + o) ≠ -1 ∧ K (NI (T (q * 5 + o))) ≤ K (NI n) := by
      intro n hn c
      have r := h1 n hn
      have e := h3 n hn c (by have := hn.1; omega) (fun x => x)
      refine ⟨d n, r.1, r.2.1, ?_, ?_⟩
      · rw [e]; have := hn.1; omega
      · rw [e]; exact Int.le_refl _
    have up : ∀ n, hs_BD H NI q n → U n ≠ -1 → hs_BD H NI q (U n) ∧ d n < d (U n) ∧ K (NI (U n)) < K (NI n) := by
      intro n hn c
      rcases (h1 n hn).2.2.2.2.1 with f | ⟨g, f | f⟩
      · exact absurd f c
      · exact absurd f c
      · refine ⟨f, g, ?_⟩
        rcases h2 n hn with y | y | y
        · exact absurd y c
        · exact absurd y c
        · exact y
    intro m
    induction m with
    | zero =>
      intro n hn hd
      by_cases c : U n = -1
      · exact base n hn c
      · have u := up n hn c
        have := (h1 _ u.1).2.1
        omega
    | succ m ih =>
      intro n hn hd
      by_cases c : U n = -1
      · exact base n hn c
      · have u := up n hn c
        obtain ⟨o, o1, o2, o3, o4⟩ := ih (U n) u.1 (by omega)
        exact ⟨o, o1, o2, o3, by omega⟩
  intro i a b c
  have p := hP i a b
  have hn : hs_BD H NI q (IN i) := ⟨p.2.2.1, p.2.2.2.1, by rw [p.2.2.2.2.1]; exact c⟩
  have := main 4 (IN i) hn (by have := (h1 _ hn).1; omega)
  rw [p.2.2.2.2.1] at this
  exact this
/-- a tree c of order o on its way into queue q -/
def hs_AT (D P : Int → Prop) (k d G T C X U : Int → Int) (q e c o tot : Int) : Prop :=
  hs_BO D d G C X e ∧ hs_BK D k G e ∧ hs_BR D P T d G q c ∧ D c ∧ G c = -1 ∧ d c = o ∧ ¬ P c ∧ (∀ n, D n → n ≠ c → U n = G n) ∧ hs_tv T q + hs_pw o = tot
theorem hs_AT_o {D P : Int → Prop} {k d G T C X U : Int → Int} {q e c o tot : Int} (h : hs_AT D P k d G T C X U q e c o tot) : 0 ≤ o ∧ o ≤ 4 := by
  obtain ⟨h1, _, _, h4, _, h6, _, _, _⟩ := h
  have := h1 c h4
  rw [h6] at this
  exact ⟨this.1, this.2.1⟩
theorem hs_AT_end {D P : Int → Prop} {k d G T C X U : Int → Int} {q e c o tot : Int} (hm : ∀ n, D n → n ≠ -1) (h : hs_AT D P k d G T C X U q e c o tot) (hT : T (q * 5 + o) = -1) :
    hs_BO D d G C (hs_u X c (-1)) e ∧ hs_BR D P (hs_u T (q * 5 + o) c) d G q (-1) ∧ (∀ n, D n → hs_u U c (-1) n = G n) ∧ hs_tv (hs_u T (q * 5 + o) c) q = tot := by
  have ho := hs_AT_o h
  obtain ⟨h1, h2, ⟨h3, h3'⟩, h4, h5, h6, h7, h8, h9⟩ := h
  refine ⟨?_, ⟨?_, ?_⟩, ?_, ?_⟩
  · refine hs_BO_congr h1 (fun _ => Iff.rfl) (fun _ _ => rfl) (Or.inl rfl) (fun _ _ => rfl) (fun _ _ => rfl) (fun n _ x => hs_un (fun y => x (by rw [y]; exact h5)))
  · intro n hn a _ b
    by_cases x : n = c
    · rw [x, h6]; exact hs_us
    · have w := h3 n hn a x b
      rw [hs_un]
      · exact w
      · intro y
        rw [y, hT] at w
        exact hm n hn w.symm
  · intro o' a b
    by_cases x : o' = o
    · rw [x, hs_us]
      exact Or.inr ⟨h4, h5, h6, hm c h4, h7⟩
    · rw [hs_un (by omega)]
      rcases h3' o' a b with y | y
      · exact Or.inl y
      · exact Or.inr ⟨y.1, y.2.1, y.2.2.1, hm _ y.1, y.2.2.2.2⟩
  · intro n hn
    by_cases x : n = c
    · rw [hs_ue x, x]; exact h5.symm
    · rw [hs_un x]; exact h8 n hn x
  · rw [hs_tv_u T q c o ho.1 ho.2, hT]
    unfold hs_b1
    rw [if_neg (hm c h4), if_pos rfl]
    omega
theorem hs_AT_step {D P : Int → Prop} {k d G T C X U : Int → Int} {q e c o tot a b : Int} (hm : ∀ n, D n → n ≠ -1) (h : hs_AT D P k d G T C X U q e c o tot)
    (htot : tot ≤ 24) (hT : T (q * 5 + o) ≠ -1) (hab : (a = T (q * 5 + o) ∧ b = c) ∨ (a = c ∧ b = T (q * 5 + o))) (lt : k a < k b) (he : e = -1 ∨ ¬ D e) :
    hs_AT D P k (hs_u d a (o + 1)) (hs_u G b a) (hs_u T (q * 5 + o) (-1)) (hs_u C a b) (hs_u X b (C a)) (hs_u U b a) q e a (o + 1) tot ∧
    D a ∧ D b ∧ (C a = -1 ∨ D (C a)) ∧ ¬ P a ∧ ¬ P b ∧ G a = -1 ∧ G b = -1 ∧ o ≤ 3 := by
  have ho := hs_AT_o h
  obtain ⟨h1, h2, ⟨h3, h3'⟩, h4, h5, h6, h7, h8, h9⟩ := h
  obtain ⟨t1, t2, t3, t4, t5⟩ : D (T (q * 5 + o)) ∧ G (T (q * 5 + o)) = -1 ∧ d (T (q * 5 + o)) = o ∧ T (q * 5 + o) ≠ c ∧ ¬ P (T (q * 5 + o)) := by
    rcases h3' o ho.1 ho.2 with x | x
    · exact absurd x hT
    · exact x
  have htv : hs_tv (hs_u T (q * 5 + o) (-1)) q + hs_pw (o + 1) = tot := by
    have e1 := hs_tv_u T q (-1) o ho.1 ho.2
    have e2 := (hs_pw_s o ho.1 ho.2).1
    unfold hs_b1 at e1
    rw [if_pos rfl, if_neg hT] at e1
    omega
  have o3 : o ≤ 3 := by
    apply Classical.byContradiction
    intro x
    have y : o = 4 := by omega
    have z := hs_tv_r (hs_u T (q * 5 + o) (-1)) q
    rw [y] at htv z
    have : hs_pw (4 + 1) = 32 := by decide
    omega
  obtain ⟨ha, hb, ga, gb, hne, da, db, pa, pb⟩ : D a ∧ D b ∧ G a = -1 ∧ G b = -1 ∧ a ≠ b ∧ d a = o ∧ d b = o ∧ ¬ P a ∧ ¬ P b := by
    rcases hab with ⟨x, y⟩ | ⟨x, y⟩
    · rw [x, y]; exact ⟨t1, h4, t2, h5, t4, t3, h6, t5, h7⟩
    · rw [x, y]; exact ⟨h4, t1, h5, t2, fun z => t4 z.symm, h6, t3, h7, t5⟩
  have hk := hs_BO_link hm h1 ha hb ga gb hne (by omega) (by omega)
  rw [da] at hk
  refine ⟨⟨hk, hs_BK_link h2 lt, ⟨?_, ?_⟩, ha, ?_, hs_us, pa, ?_, htv⟩, ha, hb, ?_, pa, pb, ga, gb, o3⟩
  · intro n hn x y z
    have nb : n ≠ b := by
      intro w
      rw [hs_ue w] at x
      exact hm a ha x
    rw [hs_un nb] at x
    rw [hs_un y]
    have nc : n ≠ c ∧ n ≠ T (q * 5 + o) := by
      rcases hab with ⟨v, w⟩ | ⟨v, w⟩
      · rw [← v, ← w]; exact ⟨nb, y⟩
      · rw [← v, ← w]; exact ⟨y, nb⟩
    have w := h3 n hn x nc.1 z
    rw [hs_un]
    · exact w
    · intro v
      rw [v] at w
      exact nc.2 w.symm
  · intro o' x y
    by_cases z : o' = o
    · rw [z, hs_us]; exact Or.inl rfl
    · rw [hs_un (by omega)]
      rcases h3' o' x y with w | w
      · exact Or.inl w
      · right
        have n1 : T (q * 5 + o') ≠ a := by
          intro v
          have := w.2.2.1
          rw [v, da] at this
          exact z this.symm
        have n2 : T (q * 5 + o') ≠ b := by
          intro v
          have := w.2.2.1
          rw [v, db] at this
          exact z this.symm
        exact ⟨w.1, by rw [hs_un n2]; exact w.2.1, by rw [hs_un n1]; exact w.2.2.1, n1, w.2.2.2.2⟩
  · rw [hs_un hne]; exact ga
  · intro n hn x
    by_cases y : n = b
    · rw [hs_ue y, hs_ue y]
    · rw [hs_un y, hs_un y]
      apply h8 n hn
      rcases hab with ⟨v, w⟩ | ⟨v, w⟩
      · rw [← w]; exact y
      · rw [← v]; exact x
  · rcases (h1 a ha).2.2.1 with x | x
    · exact Or.inl x.1
    · exact Or.inr x.1
end HS09
section HS09b
/-- a new node: a tree of order 0 -/
theorem hs_BT_add {K H T C X U NI IN : Int → Int} {q i : Int} (hP : hs_PM NI IN) (h : hs_BT K H T C X U NI q) (i0 : 0 ≤ i) (i1 : i < 24) (hi : H i ≠ q) :
    ∃ d, hs_AT (hs_BD (hs_u H i q) NI q) (fun _ => False) (fun n => K (NI n)) (hs_u d (IN i) 0) (hs_u U (IN i) (-1)) T (hs_u C (IN i) (-1)) X U q (-1) (IN i) 0 (hs_c (hs_u H i q) q) := by
  obtain ⟨d, h1, h2, ⟨h3, h5⟩, h4⟩ := h
  have p := hP i i0 i1
  have hnew : hs_BD (hs_u H i q) NI q (IN i) := ⟨p.2.2.1, p.2.2.2.1, by rw [p.2.2.2.2.1]; exact hs_us⟩
  have hold : ∀ n, hs_BD H NI q n → hs_BD (hs_u H i q) NI q n ∧ n ≠ IN i := by
    intro n hn
    have hne : NI n ≠ i := fun x => hi (by rw [← x]; exact hn.2.2)
    refine ⟨⟨hn.1, hn.2.1, by rw [hs_un hne]; exact hn.2.2⟩, fun x => hne ?_⟩
    rw [x]; exact p.2.2.2.2.1
  have hinv : ∀ n, hs_BD (hs_u H i q) NI q n → n ≠ IN i → hs_BD H NI q n := by
    intro n hn c
    refine ⟨hn.1, hn.2.1, ?_⟩
    have hne : NI n ≠ i := fun x => c (by rw [← x]; exact (hP n hn.1 hn.2.1).2.2.2.2.2.symm)
    have := hn.2.2
    rw [hs_un hne] at this
    exact this
  have hm : ∀ n, hs_BD H NI q n → n ≠ -1 := fun n c => by have := c.1; omega
  refine ⟨d, ?_, ?_, ⟨?_, ?_⟩, hnew, hs_us, hs_us, fun x => x, fun n _ x => (hs_un x).symm, ?_⟩
  · intro n hn
    by_cases c : n = IN i
    · rw [hs_ue c, hs_ue c, hs_ue c]
      refine ⟨by omega, by omega, Or.inl ⟨rfl, rfl⟩, fun x => absurd rfl x, Or.inl rfl, fun _ _ _ x => absurd rfl x⟩
    · have ho := hinv n hn c
      obtain ⟨a0, a4, ac, ax, ag, au⟩ := h1 n ho
      rw [hs_un c, hs_un c, hs_un c]
      refine ⟨a0, a4, ?_, fun y => ?_, ?_, ?_⟩
      · rcases ac with f | f
        · exact Or.inl f
        · have g := hold _ f.1
          exact Or.inr ⟨g.1, by rw [hs_un g.2]; exact f.2.1, by rw [hs_un g.2]; exact f.2.2⟩
      · rcases ax y with f | f
        · exact Or.inl f
        · have g := hold _ f.1
          exact Or.inr ⟨g.1, by rw [hs_un g.2]; exact f.2.1, by rw [hs_un g.2]; exact f.2.2⟩
      · rcases ag with f | ⟨f1, f | f⟩
        · exact Or.inl f
        · exact Or.inl f
        · have g := hold _ f
          exact Or.inr ⟨by rw [hs_un g.2]; exact f1, Or.inr g.1⟩
      · intro m hm' e1 e2 e3
        have mc : m ≠ IN i := by
          intro x
          rw [hs_ue x] at e1
          exact e2 e1.symm
        rw [hs_un mc] at e1 e3
        exact au m (hinv m hm' mc) e1 e2 e3
  · intro n hn
    by_cases c : n = IN i
    · exact Or.inl (hs_ue c)
    · rw [hs_un c]; exact h2 n (hinv n hn c)
  · intro n hn a b c
    have ho := hinv n hn b
    rw [hs_un b] at a ⊢
    exact h3 n ho a (hm n ho) (fun x => x)
  · intro o a b
    rcases h5 o a b with c | c
    · exact Or.inl c
    · have g := hold _ c.1
      exact Or.inr ⟨g.1, by rw [hs_un g.2]; exact c.2.1, by rw [hs_un g.2]; exact c.2.2.1, g.2, fun x => x⟩
  · rw [hs_c_upd H i0 i1, if_pos rfl, if_neg hi, h4]
    show _ + 1 = _
    omega
/-- back to the queue's own form -/
theorem hs_BT_of {K H T C X U NI d G : Int → Int} {q : Int} (h1 : hs_BO (hs_BD H NI q) d G C X (-1)) (h2 : hs_BK (hs_BD H NI q) (fun n => K (NI n)) G (-1))
    (h3 : hs_BR (hs_BD H NI q) (fun _ => False) T d G q (-1)) (hU : ∀ n, hs_BD H NI q n → U n = G n) (h4 : hs_tv T q = hs_c H q) : hs_BT K H T C X U NI q := by
  refine ⟨d, hs_BO_congr h1 (fun _ => Iff.rfl) (fun _ _ => rfl) (Or.inl rfl) hU (fun _ _ => rfl) (fun _ _ _ => rfl), ?_, ⟨?_, ?_⟩, h4⟩
  · intro n hn
    rw [hU n hn]
    exact h2 n hn
  · intro n hn a b c
    rw [hU n hn] at a
    exact h3.1 n hn a b c
  · intro o a b
    rcases h3.2 o a b with c | c
    · exact Or.inl c
    · exact Or.inr ⟨c.1, by rw [hU _ c.1]; exact c.2.1, c.2.2⟩
end HS09b
