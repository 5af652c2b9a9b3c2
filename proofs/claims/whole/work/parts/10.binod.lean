section HS10
/-- the children of the root e that went are added one by one: c the next, o its order -/
def hs_PL (D : Int → Prop) (k d G T C X U : Int → Int) (q e c o tot : Int) : Prop :=
  hs_BO D d G C X e ∧ hs_BK D k G e ∧ hs_BR D (fun n => G n = e) T d G q (-1) ∧ (∀ n, D n → U n = G n) ∧ (¬ D e ∧ e ≠ -1) ∧
  ((o = -1 ∧ c = -1) ∨ (0 ≤ o ∧ D c ∧ G c = e ∧ d c = o)) ∧ (∀ n, D n → G n = e → d n ≤ o) ∧ hs_tv T q + (hs_pw (o + 1) - 1) = tot
theorem hs_PL_at {D : Int → Prop} {k d G T C X U : Int → Int} {q e c o tot : Int} (hm : ∀ n, D n → n ≠ -1) (h : hs_PL D k d G T C X U q e c o tot) (hc : c ≠ -1) :
    hs_AT D (fun n => G n = e ∧ n ≠ c) k d (hs_u G c (-1)) T C X U q e c o (hs_tv T q + hs_pw o) ∧ hs_tv T q + hs_pw o ≤ tot ∧ 0 ≤ o ∧ o ≤ 4 ∧
    ((X c = -1 ∧ o = 0) ∨ (1 ≤ o ∧ D (X c) ∧ G (X c) = e ∧ d (X c) = o - 1 ∧ X c ≠ c)) := by
  obtain ⟨h1, h2, ⟨h3, h3'⟩, h4, ⟨h5, h5'⟩, h6, h7, h8⟩ := h
  obtain ⟨o0, c1, c2, c3⟩ : 0 ≤ o ∧ D c ∧ G c = e ∧ d c = o := by
    rcases h6 with x | x
    · exact absurd x.2 hc
    · exact x
  have o4 : o ≤ 4 := by have := (h1 c c1).2.1; omega
  have ps := hs_pw_s o o0 o4
  refine ⟨⟨hs_BO_float hm h1 c1 c2 h5 (fun n a b => by rw [c3]; exact h7 n a b), ?_, ⟨?_, ?_⟩, c1, hs_us, c3, fun x => x.2 rfl, fun n hn x => by rw [hs_un x]; exact h4 n hn, rfl⟩, by omega, o0, o4, ?_⟩
  · intro n hn
    by_cases x : n = c
    · exact Or.inl (hs_ue x)
    · rw [hs_un x]; exact h2 n hn
  · intro n hn a b _
    rw [hs_un b] at a
    exact h3 n hn a (hm n hn) (fun x => h5' (x.symm.trans a))
  · intro o' a b
    rcases h3' o' a b with x | x
    · exact Or.inl x
    · right
      have n1 : T (q * 5 + o') ≠ c := by
        intro y
        have := x.2.1
        rw [y, c2] at this
        exact h5' this
      exact ⟨x.1, by rw [hs_un n1]; exact x.2.1, x.2.2.1, n1, fun y => h5' (y.1.symm.trans x.2.1)⟩
  · rcases (h1 c c1).2.2.2.1 (by rw [c2]; exact h5') with x | x
    · left; exact ⟨x.1, by omega⟩
    · right
      have := (h1 _ x.1).1
      exact ⟨by omega, x.1, by rw [x.2.1]; exact c2, by omega, fun y => by rw [y] at x; omega⟩
theorem hs_PL_next {D : Int → Prop} {k d G T C X U d' G' T' C' X' U' : Int → Int} {q e c o tot : Int} (hm : ∀ n, D n → n ≠ -1) (h : hs_PL D k d G T C X U q e c o tot) (hc : c ≠ -1)
    (b1 : hs_BO D d' G' C' X' e) (b2 : hs_BK D k G' e) (b3 : hs_BR D (fun n => G n = e ∧ n ≠ c) T' d' G' q (-1)) (b4 : ∀ n, D n → U' n = G' n) (b5 : hs_tv T' q = hs_tv T q + hs_pw o)
    (kp : ∀ n, G n = e ∧ n ≠ c → G' n = hs_u G c (-1) n ∧ d' n = d n ∧ X' n = X n) (ke : ∀ n, D n → G' n = e → hs_u G c (-1) n = e) :
    hs_PL D k d' G' T' C' X' U' q e (X c) (o - 1) tot := by
  have ha := hs_PL_at hm h hc
  obtain ⟨h1, h2, ⟨h3, h3'⟩, h4, ⟨h5, h5'⟩, h6, h7, h8⟩ := h
  obtain ⟨_, _, o0, o4, hx⟩ := ha
  obtain ⟨_, c1, c2, c3⟩ : 0 ≤ o ∧ D c ∧ G c = e ∧ d c = o := by
    rcases h6 with x | x
    · exact absurd x.2 hc
    · exact x
  have ke2 : ∀ n, D n → G' n = e → G n = e ∧ n ≠ c := by
    intro n hn x
    have y := ke n hn x
    by_cases z : n = c
    · rw [hs_ue z] at y; exact absurd y.symm h5'
    · rw [hs_un z] at y; exact ⟨y, z⟩
  refine ⟨b1, b2, ⟨?_, ?_⟩, b4, ⟨h5, h5'⟩, ?_, ?_, ?_⟩
  · intro n hn a b _
    refine b3.1 n hn a b (fun x => ?_)
    have y := (kp n x).1
    rw [hs_un x.2, x.1, a] at y
    exact h5' y.symm
  · intro o' a b
    rcases b3.2 o' a b with x | x
    · exact Or.inl x
    · exact Or.inr ⟨x.1, x.2.1, x.2.2.1, x.2.2.2.1, fun y => h5' (y.symm.trans x.2.1)⟩
  · rcases hx with x | ⟨x1, x2, x3, x4, x5⟩
    · left; exact ⟨by omega, x.1⟩
    · right
      have y := kp (X c) ⟨x3, x5⟩
      rw [hs_un x5] at y
      exact ⟨by omega, x2, y.1.trans x3, by rw [y.2.1]; exact x4⟩
  · intro n hn x
    have y := ke2 n hn x
    rw [(kp n y).2.1]
    have z := h7 n hn y.1
    have : d n ≠ o := by
      intro w
      exact y.2 ((h1 c c1).2.2.2.2.2 n hn (by rw [y.1, c2]) (by rw [c2]; exact h5') (by rw [w, c3]))
    omega
  · have := (hs_pw_s o o0 o4).1
    rw [show o - 1 + 1 = o by omega, b5]
    omega
theorem hs_PL_end {K H T C X U NI d G : Int → Int} {q e o c : Int} (h : hs_PL (hs_BD H NI q) (fun n => K (NI n)) d G T C X U q e c o (hs_c H q)) (hc : c = -1) : hs_BT K H T C X U NI q := by
  obtain ⟨h1, h2, ⟨h3, h3'⟩, h4, ⟨h5, h5'⟩, h6, h7, h8⟩ := h
  have ho : o = -1 := by
    rcases h6 with x | x
    · exact x.1
    · have := x.2.1.1; omega
  have none : ∀ n, hs_BD H NI q n → G n ≠ e := by
    intro n hn x
    have := h7 n hn x
    have := (h1 n hn).1
    omega
  refine hs_BT_of (d := d) (G := G) ?_ ?_ ⟨?_, ?_⟩ h4 ?_
  · intro n hn
    obtain ⟨a0, a4, ac, ax, ag, au⟩ := h1 n hn
    refine ⟨a0, a4, ac, ax, ?_, au⟩
    rcases ag with x | ⟨x, y | y⟩
    · exact Or.inl x
    · exact absurd y (none n hn)
    · exact Or.inr ⟨x, Or.inr y⟩
  · intro n hn
    rcases h2 n hn with x | x | x
    · exact Or.inl x
    · exact absurd x (none n hn)
    · exact Or.inr (Or.inr x)
  · intro n hn a b _
    exact h3 n hn a b (none n hn)
  · intro o' a b
    rcases h3' o' a b with x | x
    · exact Or.inl x
    · exact Or.inr ⟨x.1, x.2.1, x.2.2.1, x.2.2.2.1, fun y => y⟩
  · rw [ho] at h8
    have : hs_pw (-1 + 1) = 1 := by decide
    omega
/-- the root v with item i goes -/
theorem hs_BT_drop {K H T C X U NI NI' IN' d : Int → Int} {q i v : Int} (i0 : 0 ≤ i) (i1 : i < 24) (hi : H i = q) (hq : q ≠ -1)
    (h1 : hs_BO (hs_BD H NI q) d U C X (-1)) (h3 : hs_BR (hs_BD H NI q) (fun _ => False) T d U q (-1)) (h4 : hs_tv T q = hs_c H q)
    (hP : hs_PM NI' IN') (hv : NI' v = i) (hD : ∀ n, hs_BD H NI q n ↔ 0 ≤ n ∧ n < 24 ∧ H (NI' n) = q)
    (ho : ∀ n, hs_BD H NI q n → n ≠ v → U n ≠ -1 → U n ≠ v → K (NI' (U n)) < K (NI' n)) (hDv : hs_BD H NI q v) (uv : U v = -1) :
    hs_PL (hs_BD (hs_u H i (-1)) NI' q) (fun n => K (NI' n)) d U (hs_u T (q * 5 + d v) (-1)) C X U q v (C v) (d v - 1) (hs_c (hs_u H i (-1)) q) := by
  have hm : ∀ n, hs_BD H NI q n → n ≠ -1 := fun n c => by have := c.1; omega
  have hD' : ∀ n, hs_BD (hs_u H i (-1)) NI' q n ↔ hs_BD H NI q n ∧ n ≠ v := by
    intro n
    rw [hD n]
    constructor
    · intro c
      have hne : NI' n ≠ i := fun x => by have := c.2.2; rw [hs_ue x] at this; exact hq this.symm
      refine ⟨⟨c.1, c.2.1, by have := c.2.2; rw [hs_un hne] at this; exact this⟩, fun x => hne (by rw [x]; exact hv)⟩
    · intro c
      have hne : NI' n ≠ i := by
        intro x
        apply c.2
        have e1 := (hP n c.1.1 c.1.2.1).2.2.2.2.2
        have e2 := (hP v hDv.1 hDv.2.1).2.2.2.2.2
        rw [x] at e1
        rw [hv] at e2
        omega
      exact ⟨c.1.1, c.1.2.1, by rw [hs_un hne]; exact c.1.2.2⟩
  have rv := h1 v hDv
  have hTv : T (q * 5 + d v) = v := h3.1 v hDv uv (hm v hDv) (fun x => x)
  refine ⟨hs_BO_cut hm h1 hDv uv hD', ?_, ⟨?_, ?_⟩, fun _ _ => rfl, ⟨fun x => ((hD' v).mp x).2 rfl, hm v hDv⟩, ?_, ?_, ?_⟩
  · intro n hn
    obtain ⟨hn, hne⟩ := (hD' n).mp hn
    by_cases x : U n = -1
    · exact Or.inl x
    · by_cases y : U n = v
      · exact Or.inr (Or.inl y)
      · exact Or.inr (Or.inr (ho n hn hne x y))
  · intro n hn a b _
    obtain ⟨hn, hne⟩ := (hD' n).mp hn
    have w := h3.1 n hn a b (fun x => x)
    rw [hs_un]
    · exact w
    · intro x
      rw [x, hTv] at w
      exact hne w.symm
  · intro o a b
    by_cases x : o = d v
    · rw [x, hs_us]; exact Or.inl rfl
    · rw [hs_un (by omega)]
      rcases h3.2 o a b with y | y
      · exact Or.inl y
      · right
        refine ⟨(hD' _).mpr ⟨y.1, fun z => ?_⟩, y.2.1, y.2.2.1, y.2.2.2.1, fun z => ?_⟩
        · have := y.2.2.1
          rw [z] at this
          exact x this.symm
        · have := y.2.1
          rw [z] at this
          exact hm v hDv this
  · rcases rv.2.2.1 with x | x
    · left; exact ⟨by omega, x.1⟩
    · right
      have := (h1 _ x.1).1
      refine ⟨by omega, (hD' _).mpr ⟨x.1, fun z => ?_⟩, x.2.1, x.2.2⟩
      rw [z] at x; omega
  · intro n hn x
    obtain ⟨hn, hne⟩ := (hD' n).mp hn
    rcases (h1 n hn).2.2.2.2.1 with y | y
    · rw [x] at y; exact absurd y (hm v hDv)
    · rw [x] at y; omega
  · rw [hs_tv_u T q (-1) (d v) rv.1 rv.2.1, hTv, hs_c_upd H i0 i1, if_neg (fun x => hq x.symm), if_pos hi, h4]
    unfold hs_b1
    rw [if_pos rfl, if_neg (hm v hDv), show d v - 1 + 1 = d v by omega]
    omega
end HS10
