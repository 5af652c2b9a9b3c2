section HS06
/-! engine 5: a binomial heap, pure; d: orders, G: parents, e: a root that was taken away, whose children are still to be added -/
def hs_BO (D : Int → Prop) (d G C X : Int → Int) (e : Int) : Prop := ∀ n, D n →
  0 ≤ d n ∧ d n ≤ 4 ∧
  ((C n = -1 ∧ d n = 0) ∨ (D (C n) ∧ G (C n) = n ∧ d (C n) = d n - 1)) ∧
  (G n ≠ -1 → (X n = -1 ∧ d n = 0) ∨ (D (X n) ∧ G (X n) = G n ∧ d (X n) = d n - 1)) ∧
  (G n = -1 ∨ (d n < d (G n) ∧ (G n = e ∨ D (G n)))) ∧
  (∀ m, D m → G m = G n → G n ≠ -1 → d m = d n → m = n)
def hs_BK (D : Int → Prop) (k G : Int → Int) (e : Int) : Prop := ∀ n, D n → G n = -1 ∨ G n = e ∨ k (G n) < k n
theorem hs_BO_link {D : Int → Prop} {d G C X : Int → Int} {e a b : Int} (hm : ∀ n, D n → n ≠ -1) (h : hs_BO D d G C X e)
    (ha : D a) (hb : D b) (ga : G a = -1) (gb : G b = -1) (hab : a ≠ b) (hd : d a = d b) (h3 : d a ≤ 3) :
    hs_BO D (hs_u d a (d a + 1)) (hs_u G b a) (hs_u C a b) (hs_u X b (C a)) e := by
  have hba : b ≠ a := fun x => hab x.symm
  have hnc : ∀ x n, D x → D n → G x = n → x ≠ a ∧ x ≠ b := by
    intro x n hx hn y
    refine ⟨fun w => ?_, fun w => ?_⟩
    · rw [w, ga] at y; exact hm n hn y.symm
    · rw [w, gb] at y; exact hm n hn y.symm
  intro n hn
  obtain ⟨h0, h4, hc, hx, hg, hu⟩ := h n hn
  obtain ⟨a0, a4, ac, _, _, _⟩ := h a ha
  obtain ⟨b0, b4, _, _, _, _⟩ := h b hb
  have hgx : ∀ x, G x ≠ -1 → x ≠ a ∧ x ≠ b := by
    intro x y
    exact ⟨fun w => y (by rw [w]; exact ga), fun w => y (by rw [w]; exact gb)⟩
  refine ⟨?_, ?_, ?_, ?_, ?_, ?_⟩
  · by_cases c : n = a
    · rw [hs_ue c]; omega
    · rw [hs_un c]; exact h0
  · by_cases c : n = a
    · rw [hs_ue c]; omega
    · rw [hs_un c]; exact h4
  · by_cases c : n = a
    · rw [hs_ue c, hs_ue c]
      exact Or.inr ⟨hb, hs_us.trans c.symm, by rw [hs_un hba]; omega⟩
    · rw [hs_un c, hs_un c]
      rcases hc with f | f
      · exact Or.inl f
      · have w := hnc _ n f.1 hn f.2.1
        exact Or.inr ⟨f.1, by rw [hs_un w.2]; exact f.2.1, by rw [hs_un w.1]; exact f.2.2⟩
  · intro hg'
    by_cases c : n = b
    · rw [hs_ue c, hs_ue c, c, hs_un hba]
      rcases ac with f | f
      · left; exact ⟨f.1, by omega⟩
      · right
        have w := hnc _ a f.1 ha f.2.1
        exact ⟨f.1, by rw [hs_un w.2]; exact f.2.1, by rw [hs_un w.1]; omega⟩
    · rw [hs_un c] at hg' ⊢
      have w0 := hgx n hg'
      rw [hs_un c, hs_un w0.1]
      rcases hx hg' with f | f
      · exact Or.inl f
      · right
        have w := hgx (X n) (by rw [f.2.1]; exact hg')
        exact ⟨f.1, by rw [hs_un w.2]; exact f.2.1, by rw [hs_un w.1]; exact f.2.2⟩
  · by_cases c : n = b
    · rw [hs_ue c, c, hs_un hba, hs_us]
      right; exact ⟨by omega, Or.inr ha⟩
    · rw [hs_un c]
      rcases hg with f | f
      · exact Or.inl f
      · by_cases gn : G n = -1
        · exact Or.inl gn
        right
        have w0 := hgx n gn
        rw [hs_un w0.1]
        refine ⟨?_, f.2⟩
        by_cases cg : G n = a
        · rw [hs_ue cg]; rw [cg] at f; omega
        · rw [hs_un cg]; exact f.1
  · intro m hm' e1 e2 e3
    by_cases cn : n = b
    · by_cases cm : m = b
      · rw [cm, cn]
      · exfalso
        rw [hs_ue cn, hs_un cm] at e1
        have w := hgx m (by rw [e1]; exact hm a ha)
        rw [cn, hs_un w.1, hs_un hba] at e3
        rcases (h m hm').2.2.2.2.1 with f | f
        · rw [e1] at f; exact hm a ha f
        · rw [e1] at f; omega
    · by_cases cm : m = b
      · exfalso
        rw [hs_un cn, hs_ue cm] at e1
        rw [hs_un cn] at e2
        have w := hgx n e2
        rw [cm, hs_un w.1, hs_un hba] at e3
        rcases hg with f | f
        · exact e2 f
        · rw [← e1] at f; omega
      · rw [hs_un cn, hs_un cm] at e1
        rw [hs_un cn] at e2
        have w := hgx n e2
        have w2 := hgx m (by rw [e1]; exact e2)
        rw [hs_un w.1, hs_un w2.1] at e3
        exact hu m hm' e1 e2 e3
theorem hs_BK_link {D : Int → Prop} {k G : Int → Int} {e a b : Int} (h : hs_BK D k G e) (lt : k a < k b) : hs_BK D k (hs_u G b a) e := by
  intro n hn
  by_cases c : n = b
  · rw [hs_ue c, c]; exact Or.inr (Or.inr lt)
  · rw [hs_un c]; exact h n hn
/-- the root e goes, its children wait -/
theorem hs_BO_cut {D D' : Int → Prop} {d G C X : Int → Int} {e : Int} (hm : ∀ n, D n → n ≠ -1) (h : hs_BO D d G C X (-1)) (he : D e) (ge : G e = -1)
    (hD' : ∀ i, D' i ↔ D i ∧ i ≠ e) : hs_BO D' d G C X e := by
  intro n hn
  obtain ⟨hn, hne⟩ := (hD' n).mp hn
  obtain ⟨h0, h4, hc, hx, hg, hu⟩ := h n hn
  refine ⟨h0, h4, ?_, fun y => ?_, ?_, fun m hm' => hu m ((hD' m).mp hm').1⟩
  · rcases hc with f | f
    · exact Or.inl f
    · refine Or.inr ⟨(hD' _).mpr ⟨f.1, fun x => ?_⟩, f.2⟩
      rw [x, ge] at f; exact hm n hn f.2.1.symm
  · rcases hx y with f | f
    · exact Or.inl f
    · refine Or.inr ⟨(hD' _).mpr ⟨f.1, fun x => ?_⟩, f.2⟩
      rw [x, ge] at f; exact y f.2.1.symm
  · rcases hg with f | ⟨f1, f2⟩
    · exact Or.inl f
    · by_cases gn : G n = -1
      · exact Or.inl gn
      refine Or.inr ⟨f1, ?_⟩
      by_cases c : G n = e
      · exact Or.inl c
      · right
        rcases f2 with g | g
        · exact absurd g gn
        · exact (hD' _).mpr ⟨g, c⟩
/-- the child c of the root that went becomes a root -/
theorem hs_BO_float {D : Int → Prop} {d G C X : Int → Int} {e c : Int} (hm : ∀ n, D n → n ≠ -1) (h : hs_BO D d G C X e) (hc : D c) (gc : G c = e) (hne : ¬ D e)
    (hmax : ∀ n, D n → G n = e → d n ≤ d c) : hs_BO D d (hs_u G c (-1)) C X e := by
  intro n hn
  obtain ⟨h0, h4, h5, hx, hg, hu⟩ := h n hn
  refine ⟨h0, h4, ?_, fun y => ?_, ?_, ?_⟩
  · rcases h5 with f | f
    · exact Or.inl f
    · refine Or.inr ⟨f.1, ?_, f.2.2⟩
      rw [hs_un]
      · exact f.2.1
      · intro x; rw [x, gc] at f; exact hne (by rw [f.2.1]; exact hn)
  · have nc : n ≠ c := fun x => y (hs_ue x)
    rw [hs_un nc] at y ⊢
    rcases hx y with f | f
    · exact Or.inl f
    · refine Or.inr ⟨f.1, ?_, f.2.2⟩
      rw [hs_un]
      · exact f.2.1
      · intro x
        rw [x, gc] at f
        have := hmax n hn f.2.1.symm
        omega
  · by_cases x : n = c
    · exact Or.inl (hs_ue x)
    · rw [hs_un x]; exact hg
  · intro m hm' e1 e2 e3
    have nc : n ≠ c := fun x => e2 (hs_ue x)
    rw [hs_un nc] at e1 e2
    have mc : m ≠ c := by
      intro x
      rw [hs_ue x] at e1
      exact e2 e1.symm
    rw [hs_un mc] at e1
    exact hu m hm' e1 e2 e3
/-! the items' nodes -/
def hs_PM (NI IN : Int → Int) : Prop := ∀ i, 0 ≤ i → i < 24 → 0 ≤ NI i ∧ NI i < 24 ∧ 0 ≤ IN i ∧ IN i < 24 ∧ NI (IN i) = i ∧ IN (NI i) = i
theorem hs_PM_swap {NI IN NI1 IN1 : Int → Int} {v p x y : Int} (h : hs_PM NI IN) (v0 : 0 ≤ v) (v1 : v < 24) (p0 : 0 ≤ p) (p1 : p < 24) (hvp : v ≠ p)
    (ex : NI v = x) (ey : NI p = y) (e0 : NI1 v = y) (e1 : NI1 p = x) (eo : ∀ n, n ≠ v → n ≠ p → NI1 n = NI n)
    (fx : IN1 x = p) (fy : IN1 y = v) (fo : ∀ i, i ≠ x → i ≠ y → IN1 i = IN i) : hs_PM NI1 IN1 := by
  have av := h v v0 v1
  have ap := h p p0 p1
  rw [ex] at av
  rw [ey] at ap
  intro i h0 h1
  have ai := h i h0 h1
  have n1 : 0 ≤ NI1 i ∧ NI1 i < 24 ∧ IN1 (NI1 i) = i := by
    by_cases c : i = v
    · rw [c, e0]; exact ⟨ap.1, ap.2.1, fy⟩
    · by_cases c2 : i = p
      · rw [c2, e1]; exact ⟨av.1, av.2.1, fx⟩
      · rw [eo i c c2]
        refine ⟨ai.1, ai.2.1, ?_⟩
        rw [fo (NI i) (fun z => by rw [z] at ai; omega) (fun z => by rw [z] at ai; omega)]
        exact ai.2.2.2.2.2
  have n2 : 0 ≤ IN1 i ∧ IN1 i < 24 ∧ NI1 (IN1 i) = i := by
    by_cases c : i = x
    · rw [c, fx]; exact ⟨p0, p1, e1⟩
    · by_cases c2 : i = y
      · rw [c2, fy]; exact ⟨v0, v1, e0⟩
      · rw [fo i c c2]
        refine ⟨ai.2.2.1, ai.2.2.2.1, ?_⟩
        rw [eo (IN i) (fun z => c (by rw [← ex, ← z]; exact ai.2.2.2.2.1.symm)) (fun z => c2 (by rw [← ey, ← z]; exact ai.2.2.2.2.1.symm))]
        exact ai.2.2.2.2.1
  exact ⟨n1.1, n1.2.1, n2.1, n2.2.1, n2.2.2, n1.2.2⟩
/-- item x on its way up has left node v -/
def hs_RI (D : Int → Prop) (K H G NI IN : Int → Int) (q v x : Int) : Prop :=
  hs_PM (hs_u NI v x) (hs_u IN x v) ∧ (∀ n, D n ↔ 0 ≤ n ∧ n < 24 ∧ H (hs_u NI v x n) = q) ∧
  (∀ n, D n → n ≠ v → G n ≠ -1 → G n ≠ v → K (hs_u NI v x (G n)) < K (hs_u NI v x n)) ∧
  (G v ≠ -1 → ∀ n, D n → G n = v → K (hs_u NI v x (G v)) < K (hs_u NI v x n)) ∧ D v
theorem hs_RI_step {D : Int → Prop} {K H d G C X NI IN : Int → Int} {q v x : Int} (hO : hs_BO D d G C X (-1)) (h : hs_RI D K H G NI IN q v x) (hv : G v ≠ -1) :
    hs_RI D K H G (hs_u NI v (NI (G v))) (hs_u IN (NI (G v)) v) q (G v) x ∧ 0 ≤ NI (G v) ∧ NI (G v) < 24 ∧ d v < d (G v) ∧ D (G v) := by
  obtain ⟨hP, hD, h1, h2, hDv⟩ := h
  have hg : d v < d (G v) ∧ D (G v) := by
    rcases (hO v hDv).2.2.2.2.1 with c | ⟨c, c2⟩
    · exact absurd c hv
    · rcases c2 with c2 | c2
      · exact absurd c2 hv
      · exact ⟨c, c2⟩
  obtain ⟨hdlt, hDp⟩ := hg
  have hvp : v ≠ G v := fun z => by rw [← z] at hdlt; omega
  have rv := (hD v).mp hDv
  have rp := (hD (G v)).mp hDp
  have xr := hP v rv.1 rv.2.1
  rw [hs_us] at xr rv
  have yr := hP (G v) rp.1 rp.2.1
  rw [hs_un (fun z => hvp z.symm)] at yr rp
  have hyx : NI (G v) ≠ x := by
    intro z
    rw [z, hs_us] at yr
    exact hvp yr.2.2.2.2.2
  have E : ∀ n, hs_u (hs_u NI v (NI (G v))) (G v) x n = if n = G v then x else if n = v then NI (G v) else hs_u NI v x n := by
    intro n
    by_cases c : n = G v
    · rw [if_pos c, hs_ue c]
    · rw [if_neg c, hs_un c]
      by_cases c2 : n = v
      · rw [if_pos c2, hs_ue c2]
      · rw [if_neg c2, hs_un c2, hs_un c2]
  have Ep : hs_u (hs_u NI v (NI (G v))) (G v) x (G v) = x := hs_us
  have Ev : hs_u (hs_u NI v (NI (G v))) (G v) x v = NI (G v) := by rw [hs_un hvp, hs_us]
  have Eo : ∀ n, n ≠ v → n ≠ G v → hs_u (hs_u NI v (NI (G v))) (G v) x n = hs_u NI v x n := by
    intro n c c2
    rw [hs_un c2, hs_un c, hs_un c]
  have Oy : hs_u NI v x (G v) = NI (G v) := hs_un (fun z => hvp z.symm)
  refine ⟨⟨?_, ?_, ?_, ?_, hDp⟩, yr.1, yr.2.1, hdlt, hDp⟩
  · refine hs_PM_swap (v := v) (p := G v) (x := x) (y := NI (G v)) hP rv.1 rv.2.1 rp.1 rp.2.1 hvp hs_us Oy Ev Ep Eo hs_us ?_ ?_
    · rw [hs_un hyx, hs_us]
    · intro i c c2
      rw [hs_un c, hs_un c2, hs_un c]
  · intro n
    rw [hD n]
    by_cases c : n = G v
    · rw [c, Ep, Oy]
      exact ⟨fun z => ⟨z.1, z.2.1, rv.2.2⟩, fun z => ⟨z.1, z.2.1, rp.2.2⟩⟩
    · by_cases c2 : n = v
      · rw [c2, Ev, hs_us]
        exact ⟨fun z => ⟨z.1, z.2.1, rp.2.2⟩, fun z => ⟨z.1, z.2.1, rv.2.2⟩⟩
      · rw [Eo n c2 c]
  · intro n hn c1 c2 c3
    have c4 : n ≠ v := fun z => c3 (by rw [z])
    rw [Eo n c4 c1]
    by_cases c5 : G n = v
    · rw [c5, Ev, ← Oy]
      exact h2 hv n hn c5
    · rw [Eo _ c5 c3]
      exact h1 n hn c4 c2 c5
  · intro c n hn c2
    have hg2 : d (G v) < d (G (G v)) := by
      rcases (hO (G v) hDp).2.2.2.2.1 with f | f
      · exact absurd f c
      · exact f.1
    have g1 : G (G v) ≠ v := fun z => by rw [z] at hg2; omega
    have g2 : G (G v) ≠ G v := fun z => by rw [z] at hg2; omega
    rw [Eo _ g1 g2]
    have A := h1 (G v) hDp (fun z => hvp z.symm) c g1
    rw [Oy] at A
    by_cases c3 : n = v
    · rw [c3, Ev]; exact A
    · have n2 : n ≠ G v := fun z => by rw [z] at c2; exact g2 c2
      rw [Eo n c3 n2]
      have B := h1 n hn c3 (by rw [c2]; exact hv) (by rw [c2]; exact fun z => hvp z.symm)
      rw [c2, Oy] at B
      omega
/-! the trees of a queue, as the digits of its count -/
def hs_pw (o : Int) : Int := if o = 0 then 1 else if o = 1 then 2 else if o = 2 then 4 else if o = 3 then 8 else if o = 4 then 16 else 32
def hs_b1 (x w : Int) : Int := if x = -1 then 0 else w
def hs_tv (T : Int → Int) (q : Int) : Int := hs_b1 (T (q * 5)) 1 + hs_b1 (T (q * 5 + 1)) 2 + hs_b1 (T (q * 5 + 2)) 4 + hs_b1 (T (q * 5 + 3)) 8 + hs_b1 (T (q * 5 + 4)) 16
theorem hs_b1_r (x w : Int) (h : 0 ≤ w) : 0 ≤ hs_b1 x w ∧ hs_b1 x w ≤ w := by
  unfold hs_b1; split <;> omega
theorem hs_o5 {P : Int → Prop} (h0 : P 0) (h1 : P 1) (h2 : P 2) (h3 : P 3) (h4 : P 4) : ∀ o, 0 ≤ o → o ≤ 4 → P o := by
  intro o a b
  rcases (by omega : o = 0 ∨ o = 1 ∨ o = 2 ∨ o = 3 ∨ o = 4) with e | e | e | e | e <;> subst e <;> assumption
theorem hs_tv_u (T : Int → Int) (q v : Int) : ∀ o, 0 ≤ o → o ≤ 4 → hs_tv (hs_u T (q * 5 + o) v) q = hs_tv T q + (hs_b1 v (hs_pw o) - hs_b1 (T (q * 5 + o)) (hs_pw o)) := by
  refine hs_o5 ?_ ?_ ?_ ?_ ?_
  · unfold hs_tv
    rw [hs_ue (by omega : q * 5 = q * 5 + 0), hs_un (by omega), hs_un (by omega), hs_un (by omega), hs_un (by omega), Int.add_zero]
    show _ = _ + (hs_b1 v 1 - hs_b1 (T (q * 5)) 1)
    omega
  · unfold hs_tv
    rw [hs_un (by omega), hs_us, hs_un (by omega), hs_un (by omega), hs_un (by omega)]
    show _ = _ + (hs_b1 v 2 - hs_b1 (T (q * 5 + 1)) 2)
    omega
  · unfold hs_tv
    rw [hs_un (by omega), hs_un (by omega), hs_us, hs_un (by omega), hs_un (by omega)]
    show _ = _ + (hs_b1 v 4 - hs_b1 (T (q * 5 + 2)) 4)
    omega
  · unfold hs_tv
    rw [hs_un (by omega), hs_un (by omega), hs_un (by omega), hs_us, hs_un (by omega)]
    show _ = _ + (hs_b1 v 8 - hs_b1 (T (q * 5 + 3)) 8)
    omega
  · unfold hs_tv
    rw [hs_un (by omega), hs_un (by omega), hs_un (by omega), hs_un (by omega), hs_us]
    show _ = _ + (hs_b1 v 16 - hs_b1 (T (q * 5 + 4)) 16)
    omega
theorem hs_tv_r (T : Int → Int) (q : Int) : 0 ≤ hs_tv T q := by
  unfold hs_tv
  have h0 := hs_b1_r (T (q * 5)) 1 (by omega)
  have h1 := hs_b1_r (T (q * 5 + 1)) 2 (by omega)
  have h2 := hs_b1_r (T (q * 5 + 2)) 4 (by omega)
  have h3 := hs_b1_r (T (q * 5 + 3)) 8 (by omega)
  have h4 := hs_b1_r (T (q * 5 + 4)) 16 (by omega)
  omega
theorem hs_pw_s : ∀ o, 0 ≤ o → o ≤ 4 → hs_pw (o + 1) = hs_pw o + hs_pw o ∧ 1 ≤ hs_pw o :=
  hs_o5 (by decide) (by decide) (by decide) (by decide) (by decide)
end HS06
