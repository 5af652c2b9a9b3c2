section HS12
/-! the binomial trees of queue b are added to those of queue a, order by order -/
theorem hs_sum_add {f g h : Int → Int} : ∀ n : Nat, (∀ j : Int, 0 ≤ j → j < n → h j = f j + g j) → hs_sum h n = hs_sum f n + hs_sum g n := by
  intro n
  induction n with
  | zero => intro _; rfl
  | succ n ih =>
    intro e
    have h1 := ih (fun j a b => e j a (by omega))
    have h2 := e (n : Int) (by omega) (by omega)
    show hs_sum h n + h (n : Int) = hs_sum f n + f (n : Int) + (hs_sum g n + g (n : Int))
    omega
theorem hs_c_join0 {H J : Int → Int} {a b : Int} (hab : a ≠ b) (h1 : ∀ i, H i = b → J i = a) (h2 : ∀ i, H i ≠ b → J i = H i) : hs_c J a = hs_c H a + hs_c H b ∧ hs_c J b = 0 := by
  constructor
  · refine hs_sum_add 24 fun j _ _ => ?_
    try dsimp only
    by_cases c : H j = b
    · rw [if_pos (h1 j c), if_pos c, if_neg (fun z => hab (z.symm.trans c))]; rfl
    · rw [h2 j c, if_neg c]; omega
  · have : hs_c J b = hs_sum (fun _ => 0) 24 := by
      refine hs_sum_congr 24 fun j _ _ => ?_
      try dsimp only
      by_cases c : H j = b
      · rw [if_neg (by rw [h1 j c]; exact hab)]
      · rw [if_neg (by rw [h2 j c]; exact c)]
    rw [this, hs_sum_const]; rfl
theorem hs_c_join (H : Int → Int) {a b : Int} (hab : a ≠ b) : hs_c (fun i => if H i = b then a else H i) a = hs_c H a + hs_c H b ∧ hs_c (fun i => if H i = b then a else H i) b = 0 :=
  hs_c_join0 hab (fun _ c => if_pos c) (fun _ c => if_neg c)
def hs_JL (D : Int → Prop) (k d G T C X U : Int → Int) (a b o tot : Int) : Prop :=
  hs_BO D d G C X (-1) ∧ hs_BK D k G (-1) ∧ hs_BR D (fun n => ∃ o', o ≤ o' ∧ o' ≤ 4 ∧ T (b * 5 + o') = n) T d G a (-1) ∧ (∀ n, D n → U n = G n) ∧
  (∀ o', 0 ≤ o' → o' < o → o' ≤ 4 → T (b * 5 + o') = -1) ∧
  (∀ o', o ≤ o' → o' ≤ 4 → T (b * 5 + o') = -1 ∨ (D (T (b * 5 + o')) ∧ G (T (b * 5 + o')) = -1 ∧ d (T (b * 5 + o')) = o')) ∧ hs_tv T a + hs_tv T b = tot
theorem hs_JL_skip {D : Int → Prop} {k d G T C X U : Int → Int} {a b o tot : Int} (hm : ∀ n, D n → n ≠ -1) (h : hs_JL D k d G T C X U a b o tot) (hT : T (b * 5 + o) = -1) : hs_JL D k d G T C X U a b (o + 1) tot := by
  obtain ⟨h1, h2, ⟨h3, h3'⟩, h4, h5, h6, h7⟩ := h
  have eqv : ∀ n, D n → (∃ o', o ≤ o' ∧ o' ≤ 4 ∧ T (b * 5 + o') = n) → ∃ o', o + 1 ≤ o' ∧ o' ≤ 4 ∧ T (b * 5 + o') = n := by
    intro n hn ⟨o', x, y, z⟩
    refine ⟨o', ?_, y, z⟩
    have : o' ≠ o := by
      intro e
      rw [e, hT] at z
      exact hm n hn z.symm
    omega
  refine ⟨h1, h2, ⟨?_, ?_⟩, h4, ?_, fun o' x y => h6 o' (by omega) y, h7⟩
  · intro n hn x y z
    exact h3 n hn x y (fun v => z (eqv n hn v))
  · intro o' x y
    rcases h3' o' x y with c | c
    · exact Or.inl c
    · refine Or.inr ⟨c.1, c.2.1, c.2.2.1, c.2.2.2.1, ?_⟩
      intro ⟨o2, u, v, w⟩
      exact c.2.2.2.2 ⟨o2, by omega, v, w⟩
  · intro o' x y z
    by_cases e : o' = o
    · rw [e]; exact hT
    · exact h5 o' x (by omega) z
theorem hs_JL_at {D : Int → Prop} {k d G T C X U : Int → Int} {a b o tot : Int} (hm : ∀ n, D n → n ≠ -1) (hab : a ≠ b) (h : hs_JL D k d G T C X U a b o tot) (o0 : 0 ≤ o) (o4 : o ≤ 4) (hT : T (b * 5 + o) ≠ -1) :
    hs_AT D (fun n => ∃ o', o + 1 ≤ o' ∧ o' ≤ 4 ∧ T (b * 5 + o') = n) k d G (hs_u T (b * 5 + o) (-1)) C X U a (-1) (T (b * 5 + o)) o (hs_tv T a + hs_pw o) ∧ hs_tv T a + hs_pw o ≤ tot ∧
    hs_tv (hs_u T (b * 5 + o) (-1)) b = hs_tv T b - hs_pw o := by
  obtain ⟨h1, h2, ⟨h3, h3'⟩, h4, h5, h6, h7⟩ := h
  obtain ⟨c1, c2, c3⟩ : D (T (b * 5 + o)) ∧ G (T (b * 5 + o)) = -1 ∧ d (T (b * 5 + o)) = o := by
    rcases h6 o (by omega) o4 with x | x
    · exact absurd x hT
    · exact x
  have ta : hs_tv (hs_u T (b * 5 + o) (-1)) a = hs_tv T a := hs_tv_congr (fun o' x y => hs_un (by omega))
  have tb : hs_tv (hs_u T (b * 5 + o) (-1)) b = hs_tv T b - hs_pw o := by
    rw [hs_tv_u T b (-1) o o0 o4]
    unfold hs_b1
    rw [if_pos rfl, if_neg hT]; omega
  have t0 := hs_tv_r (hs_u T (b * 5 + o) (-1)) b
  refine ⟨⟨h1, h2, ⟨?_, ?_⟩, c1, c2, c3, ?_, fun n hn _ => h4 n hn, by rw [ta]⟩, by omega, tb⟩
  · intro n hn x y z
    have r := h1 n hn
    rw [hs_un (by omega)]
    refine h3 n hn x (hm n hn) ?_
    · intro ⟨o', u1, u2, u3⟩
      by_cases e : o' = o
      · rw [e] at u3; exact y u3.symm
      · exact z ⟨o', by omega, u2, u3⟩
  · intro o' x y
    rw [hs_un (by omega)]
    rcases h3' o' x y with c | c
    · exact Or.inl c
    · refine Or.inr ⟨c.1, c.2.1, c.2.2.1, ?_, ?_⟩
      · intro v
        exact c.2.2.2.2 ⟨o, by omega, o4, v.symm⟩
      · intro ⟨o2, u, v, w⟩
        exact c.2.2.2.2 ⟨o2, by omega, v, w⟩
  · intro ⟨o', u1, u2, u3⟩
    rcases h6 o' (by omega) u2 with x | x
    · rw [u3] at x; exact hT x
    · rw [u3, c3] at x; omega
theorem hs_JL_next {D : Int → Prop} {k d G T C X U d' G' T' C' X' U' : Int → Int} {a b o tot : Int} (hab : a ≠ b) (h : hs_JL D k d G T C X U a b o tot) (o0 : 0 ≤ o) (o4 : o ≤ 4)
    (b1 : hs_BO D d' G' C' X' (-1)) (b2 : hs_BK D k G' (-1)) (b3 : hs_BR D (fun n => ∃ o', o + 1 ≤ o' ∧ o' ≤ 4 ∧ T (b * 5 + o') = n) T' d' G' a (-1)) (b4 : ∀ n, D n → U' n = G' n) (b5 : hs_tv T' a = hs_tv T a + hs_pw o)
    (kp : ∀ n, (∃ o', o + 1 ≤ o' ∧ o' ≤ 4 ∧ T (b * 5 + o') = n) → G' n = G n ∧ d' n = d n) (kt : ∀ o', 0 ≤ o' → o' ≤ 4 → T' (b * 5 + o') = hs_u T (b * 5 + o) (-1) (b * 5 + o')) (tb : hs_tv (hs_u T (b * 5 + o) (-1)) b = hs_tv T b - hs_pw o) :
    hs_JL D k d' G' T' C' X' U' a b (o + 1) tot := by
  obtain ⟨h1, h2, ⟨h3, h3'⟩, h4, h5, h6, h7⟩ := h
  have kt2 : ∀ o', 0 ≤ o' → o' ≤ 4 → o' ≠ o → T' (b * 5 + o') = T (b * 5 + o') := by
    intro o' x y z
    rw [kt o' x y, hs_un (by omega)]
  have eqv : ∀ n, (∃ o', o + 1 ≤ o' ∧ o' ≤ 4 ∧ T' (b * 5 + o') = n) ↔ ∃ o', o + 1 ≤ o' ∧ o' ≤ 4 ∧ T (b * 5 + o') = n := by
    intro n
    constructor
    · intro ⟨o', x, y, z⟩
      rw [kt2 o' (by omega) y (by omega)] at z
      exact ⟨o', x, y, z⟩
    · intro ⟨o', x, y, z⟩
      refine ⟨o', x, y, ?_⟩
      rw [kt2 o' (by omega) y (by omega)]; exact z
  refine ⟨b1, b2, ⟨?_, ?_⟩, b4, ?_, ?_, ?_⟩
  · intro n hn x y z
    exact b3.1 n hn x y (fun v => z ((eqv n).mpr v))
  · intro o' x y
    rcases b3.2 o' x y with c | c
    · exact Or.inl c
    · exact Or.inr ⟨c.1, c.2.1, c.2.2.1, c.2.2.2.1, fun v => c.2.2.2.2 ((eqv _).mp v)⟩
  · intro o' x y z
    by_cases e : o' = o
    · rw [e, kt o o0 o4]; exact hs_us
    · rw [kt2 o' x z e]; exact h5 o' x (by omega) z
  · intro o' x y
    rw [kt2 o' (by omega) y (by omega)]
    rcases h6 o' (by omega) y with c | c
    · exact Or.inl c
    · have k := kp (T (b * 5 + o')) ⟨o', x, y, rfl⟩
      exact Or.inr ⟨c.1, by rw [k.1]; exact c.2.1, by rw [k.2]; exact c.2.2⟩
  · rw [b5, hs_tv_congr kt, tb]; omega
theorem hs_BO_sub {D D' : Int → Prop} {d G C X : Int → Int} {n : Int} (hs : ∀ n, D n → D' n) (hu : ∀ m, D' m → G m = G n → G n ≠ -1 → D m)
    (h : 0 ≤ d n ∧ d n ≤ 4 ∧ ((C n = -1 ∧ d n = 0) ∨ (D (C n) ∧ G (C n) = n ∧ d (C n) = d n - 1)) ∧ (G n ≠ -1 → (X n = -1 ∧ d n = 0) ∨ (D (X n) ∧ G (X n) = G n ∧ d (X n) = d n - 1)) ∧ (G n = -1 ∨ (d n < d (G n) ∧ (G n = -1 ∨ D (G n)))) ∧ (∀ m, D m → G m = G n → G n ≠ -1 → d m = d n → m = n)) :
    0 ≤ d n ∧ d n ≤ 4 ∧ ((C n = -1 ∧ d n = 0) ∨ (D' (C n) ∧ G (C n) = n ∧ d (C n) = d n - 1)) ∧ (G n ≠ -1 → (X n = -1 ∧ d n = 0) ∨ (D' (X n) ∧ G (X n) = G n ∧ d (X n) = d n - 1)) ∧ (G n = -1 ∨ (d n < d (G n) ∧ (G n = -1 ∨ D' (G n)))) ∧ (∀ m, D' m → G m = G n → G n ≠ -1 → d m = d n → m = n) := by
  obtain ⟨h0, h4, hc, hx, hg, hq⟩ := h
  refine ⟨h0, h4, ?_, fun y => ?_, ?_, fun m hm a b c => hq m (hu m hm a b) a b c⟩
  · rcases hc with f | f
    · exact Or.inl f
    · exact Or.inr ⟨hs _ f.1, f.2⟩
  · rcases hx y with f | f
    · exact Or.inl f
    · exact Or.inr ⟨hs _ f.1, f.2⟩
  · rcases hg with f | ⟨f1, f | f⟩
    · exact Or.inl f
    · exact Or.inl f
    · exact Or.inr ⟨f1, Or.inr (hs _ f)⟩
theorem hs_BD_join {H NI : Int → Int} {a b : Int} (hab : a ≠ b) (n : Int) : hs_BD (fun i => if H i = b then a else H i) NI a n ↔ hs_BD H NI a n ∨ hs_BD H NI b n := by
  constructor
  · intro c
    have := c.2.2
    by_cases z : H (NI n) = b
    · exact Or.inr ⟨c.1, c.2.1, z⟩
    · dsimp only at this
      rw [if_neg z] at this
      exact Or.inl ⟨c.1, c.2.1, this⟩
  · intro c
    rcases c with c | c
    · refine ⟨c.1, c.2.1, ?_⟩
      dsimp only
      rw [if_neg (by rw [c.2.2]; exact hab)]; exact c.2.2
    · refine ⟨c.1, c.2.1, ?_⟩
      dsimp only
      rw [if_pos c.2.2]
theorem hs_JL_start {K H T C X U NI : Int → Int} {a b : Int} (hab : a ≠ b) (ha : hs_BT K H T C X U NI a) (hb : hs_BT K H T C X U NI b) :
    ∃ d, hs_JL (hs_BD (fun i => if H i = b then a else H i) NI a) (fun n => K (NI n)) d U T C X U a b 0 (hs_c (fun i => if H i = b then a else H i) a) := by
  obtain ⟨d1, a1, a2, ⟨a3, a3'⟩, a4⟩ := ha
  obtain ⟨d2, b1, b2, ⟨b3, b3'⟩, b4⟩ := hb
  have hD := hs_BD_join (H := H) (NI := NI) hab
  have DA : ∀ n, hs_BD H NI a n → (fun n => if H (NI n) = a then d1 n else d2 n) n = d1 n := fun n hn => if_pos hn.2.2
  have DB : ∀ n, hs_BD H NI b n → (fun n => if H (NI n) = a then d1 n else d2 n) n = d2 n := fun n hn => if_neg (fun z => hab (z.symm.trans hn.2.2))
  have pa := hs_BO_congr a1 (fun _ => Iff.rfl) DA (Or.inr rfl) (fun _ _ => rfl) (fun _ _ => rfl) (fun _ _ _ => rfl)
  have pb := hs_BO_congr b1 (fun _ => Iff.rfl) DB (Or.inr rfl) (fun _ _ => rfl) (fun _ _ => rfl) (fun _ _ _ => rfl)
  have upA : ∀ n, hs_BD H NI a n → U n ≠ -1 → hs_BD H NI a (U n) := by
    intro n hn c
    rcases (a1 n hn).2.2.2.2.1 with f | ⟨_, f | f⟩
    · exact absurd f c
    · exact absurd f c
    · exact f
  have upB : ∀ n, hs_BD H NI b n → U n ≠ -1 → hs_BD H NI b (U n) := by
    intro n hn c
    rcases (b1 n hn).2.2.2.2.1 with f | ⟨_, f | f⟩
    · exact absurd f c
    · exact absurd f c
    · exact f
  generalize hd : (fun n => if H (NI n) = a then d1 n else d2 n) = d at *
  refine ⟨d, ?_, ?_, ⟨?_, ?_⟩, fun _ _ => rfl, ?_, ?_, ?_⟩
  · intro n hn
    rcases (hD n).mp hn with c | c
    · refine hs_BO_sub (fun m x => (hD m).mpr (Or.inl x)) ?_ (pa n c)
      intro m hm' e1 e2
      rcases (hD m).mp hm' with f | f
      · exact f
      · have g := upB m f (by rw [e1]; exact e2)
        have g2 := upA n c e2
        rw [e1] at g
        exact absurd (g2.2.2.symm.trans g.2.2) hab
    · refine hs_BO_sub (fun m x => (hD m).mpr (Or.inr x)) ?_ (pb n c)
      intro m hm' e1 e2
      rcases (hD m).mp hm' with f | f
      · have g := upA m f (by rw [e1]; exact e2)
        have g2 := upB n c e2
        rw [e1] at g
        exact absurd (g.2.2.symm.trans g2.2.2) hab
      · exact f
  · intro n hn
    rcases (hD n).mp hn with c | c
    · exact a2 n c
    · exact b2 n c
  · intro n hn x y z
    rcases (hD n).mp hn with c | c
    · rw [DA n c]; exact a3 n c x y (fun v => v)
    · exfalso
      have r := pb n c
      have w := b3 n c x y (fun v => v)
      rw [← DB n c] at w
      exact z ⟨d n, r.1, r.2.1, w⟩
  · intro o x y
    rcases a3' o x y with c | c
    · exact Or.inl c
    · refine Or.inr ⟨(hD _).mpr (Or.inl c.1), c.2.1, by rw [DA _ c.1]; exact c.2.2.1, c.2.2.2.1, ?_⟩
      intro ⟨o', u, v, w⟩
      rcases b3' o' u v with g | g
      · rw [w] at g
        have := c.1.1; omega
      · rw [w] at g
        exact hab (c.1.2.2.symm.trans g.1.2.2)
  · intro o' x y z; omega
  · intro o' x y
    rcases b3' o' x y with c | c
    · exact Or.inl c
    · exact Or.inr ⟨(hD _).mpr (Or.inr c.1), c.2.1, by rw [DB _ c.1]; exact c.2.2.1⟩
  · rw [(hs_c_join H hab).1, a4, b4]
theorem hs_JL_end {K H T C X U NI d G : Int → Int} {a b : Int} (hab : a ≠ b) (h : hs_JL (hs_BD (fun i => if H i = b then a else H i) NI a) (fun n => K (NI n)) d G T C X U a b 5 (hs_c (fun i => if H i = b then a else H i) a)) :
    hs_BT K (fun i => if H i = b then a else H i) T C X U NI a ∧ hs_BT K (fun i => if H i = b then a else H i) T C X U NI b := by
  obtain ⟨h1, h2, ⟨h3, h3'⟩, h4, h5, h6, h7⟩ := h
  have tb : hs_tv T b = 0 := by
    unfold hs_tv hs_b1
    have e0 := h5 0 (by omega) (by omega) (by omega)
    rw [Int.add_zero] at e0
    rw [if_pos e0, if_pos (h5 1 (by omega) (by omega) (by omega)), if_pos (h5 2 (by omega) (by omega) (by omega)), if_pos (h5 3 (by omega) (by omega) (by omega)), if_pos (h5 4 (by omega) (by omega) (by omega))]
    rfl
  refine ⟨hs_BT_of (d := d) (G := G) h1 h2 ⟨?_, ?_⟩ h4 (by omega), ?_⟩
  · intro n hn x y _
    refine h3 n hn x y ?_
    intro ⟨o', u, v, _⟩
    omega
  · intro o x y
    rcases h3' o x y with c | c
    · exact Or.inl c
    · exact Or.inr ⟨c.1, c.2.1, c.2.2.1, c.2.2.2.1, fun v => v⟩
  · have none : ∀ n, ¬ hs_BD (fun i => if H i = b then a else H i) NI b n := by
      intro n hn
      have := hn.2.2
      dsimp only at this
      by_cases z : H (NI n) = b
      · rw [if_pos z] at this; exact hab this
      · rw [if_neg z] at this; exact z this
    refine ⟨d, fun n hn => absurd hn (none n), fun n hn => absurd hn (none n), ⟨fun n hn => absurd hn (none n), fun o x y => Or.inl (h5 o x (by omega) y)⟩, ?_⟩
    rw [tb, (hs_c_join H hab).2]
end HS12
