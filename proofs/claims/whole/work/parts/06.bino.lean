section HS06
/-! engine 5: a binomial heap, pure; d: orders, G: parents, e: a root that was taken away, whose children are still to be added -/
def hs_BO (D : Int → Prop) (d G C X : Int → Int) (e : Int) : Prop := ∀ n, D n →
  0 ≤ d n ∧ d n ≤ 4 ∧
  ((C n = -1 ∧ d n = 0) ∨ (D (C n) ∧ G (C n) = n ∧ d (C n) = d n - 1)) ∧
  (G n ≠ -1 → (X n = -1 ∧ d n = 0) ∨ (D (X n) ∧ G (X n) = G n ∧ d (X n) = d n - 1)) ∧
  (G n = -1 ∨ (d n < d (G n) ∧ (G n = e ∨ D (G n)))) ∧
  (∀ m, D m → G m = G n → G n ≠ -1 → d m = d n → m = n)
def hs_BK (D : Int → Prop) (k G : Int → Int) (e : Int) : Prop := ∀ n, D n → G n = -1 ∨ G n = e ∨ k (G n) < k n
theorem hs_BO_link {D : Int → Prop} {d G C X : Int → Int} {e a b : Int} (hm : ∀ n, D n → n ≠ -1) (h : hs_BO D d G C X e)
    (ha : D a) (hb : D b) (ga : G a = -1) (gb : G b = -1) (hab : a ≠ b) (hd : d a = d b) (h3 : d a ≤ 3) :
    hs_BO D (hs_u d a (d a + 1)) (hs_u G b a) (hs_u C a b) (hs_u X b (C a)) e := by
  have hba : b ≠ a := fun x => hab x.symm
  have hnc : ∀ x n, D x → D n → G x = n → x ≠ a ∧ x ≠ b := by
    intro x n hx hn y
    refine ⟨fun w => ?_, fun w => ?_⟩
    · rw [w, ga] at y; exact hm n hn y.symm
    · rw [w, gb] at y; exact hm n hn y.symm
  intro n hn
  obtain ⟨h0, h4, hc, hx, hg, hu⟩ := h n hn
  obtain ⟨a0, a4, ac, _, _, _⟩ := h a ha
  obtain ⟨b0, b4, _, _, _, _⟩ := h b hb
  have hgx : ∀ x, G x ≠ -1 → x ≠ a ∧ x ≠ b := by
    intro x y
    exact ⟨fun w => y (by rw [w]; exact ga), fun w => y (by rw [w]; exact gb)⟩
  refine ⟨?_, ?_, ?_, ?_, ?_, ?_⟩
  · by_cases c : n = a
    · rw [hs_ue c]; omega
    · rw [hs_un c]; exact h0
  · by_cases c : n = a
    · rw [hs_ue c]; omega
    · rw [hs_un c]; exact h4
  · by_cases c : n = a
    · rw [hs_ue c, hs_ue c]
      exact Or.inr ⟨hb, hs_us.trans c.symm, by rw [hs_un hba]; omega⟩
    · rw [hs_un c, hs_un c]
      rcases hc with f | f
      · exact Or.inl f
      · have w := hnc _ n f.1 hn f.2.1
        exact Or.inr ⟨f.1, by rw [hs_un w.2]; exact f.2.1, by rw [hs_un w.1]; exact f.2.2⟩
  · intro hg'
    by_cases c : n = b
    · rw [hs_ue c, hs_ue c, c, hs_un hba]
      rcases ac with f | f
      · left; exact ⟨f.1, by omega⟩
      · right
        have w := hnc _ a f.1 ha f.2.1
        exact ⟨f.1, by rw [hs_un w.2]; exact f.2.1, by rw [hs_un w.1]; omega⟩
    · rw [hs_un c] at hg' ⊢
      have w0 := hgx n hg'
      rw [hs_un c, hs_un w0.1]
      rcases hx hg' with f | f
      · exact Or.inl f
      · right
        have w := hgx (X n) (by rw [f.2.1]; exact hg')
        exact ⟨f.1, by rw [hs_un w.2]; exact f.2.1, by rw [hs_un w.1]; exact f.2.2⟩
  · by_cases c : n = b
    · rw [hs_ue c, c, hs_un hba, hs_us]
      right; exact ⟨by omega, Or.inr ha⟩
    · rw [hs_un c]
      rcases hg with f | f
      · exact Or.inl f
      · right
        have gn : G n ≠ -1 := by
          intro x
          rw [x] at f
          rcases f.2 with g | g
          · have := (h n hn).2.2.2.2.1
            rcases this with t | t
            · sorry
            · sorry
          · exact hm _ g rfl
        have w0 := hgx n gn
        rw [hs_un w0.1]
        refine ⟨?_, f.2⟩
        by_cases cg : G n = a
        · rw [hs_ue cg]; rw [cg] at f; omega
        · rw [hs_un cg]; exact f.1
  · intro m hm' e1 e2 e3
    by_cases cn : n = b
    · by_cases cm : m = b
      · rw [cm, cn]
      · exfalso
        rw [hs_ue cn, hs_un cm] at e1
        have w := hgx m (by rw [e1]; exact hm a ha)
        rw [cn, hs_un w.1, hs_un hba] at e3
        rcases (h m hm').2.2.2.2.1 with f | f
        · rw [e1] at f; exact hm a ha f
        · rw [e1] at f; omega
    · by_cases cm : m = b
      · exfalso
        rw [hs_un cn, hs_ue cm] at e1
        rw [hs_un cn] at e2
        have w := hgx n e2
        rw [cm, hs_un w.1, hs_un hba] at e3
        rcases hg with f | f
        · exact e2 f
        · rw [← e1] at f; omega
      · rw [hs_un cn, hs_un cm] at e1
        rw [hs_un cn] at e2
        have w := hgx n e2
        have w2 := hgx m (by rw [e1]; exact e2)
        rw [hs_un w.1, hs_un w2.1] at e3
        exact hu m hm' e1 e2 e3
theorem hs_BK_link {D : Int → Prop} {k G : Int → Int} {e a b : Int} (h : hs_BK D k G e) (lt : k a < k b) : hs_BK D k (hs_u G b a) e := by
  intro n hn
  by_cases c : n = b
  · rw [hs_ue c, c]; exact Or.inr (Or.inr lt)
  · rw [hs_un c]; exact h n hn
/-- the root e goes, its children wait -/
theorem hs_BO_cut {D D' : Int → Prop} {d G C X : Int → Int} {e : Int} (hm : ∀ n, D n → n ≠ -1) (h : hs_BO D d G C X (-1)) (he : D e) (ge : G e = -1)
    (hD' : ∀ i, D' i ↔ D i ∧ i ≠ e) : hs_BO D' d G C X e := by
  intro n hn
  obtain ⟨hn, hne⟩ := (hD' n).mp hn
  obtain ⟨h0, h4, hc, hx, hg, hu⟩ := h n hn
  refine ⟨h0, h4, ?_, fun y => ?_, ?_, fun m hm' => hu m ((hD' m).mp hm').1⟩
  · rcases hc with f | f
    · exact Or.inl f
    · refine Or.inr ⟨(hD' _).mpr ⟨f.1, fun x => ?_⟩, f.2⟩
      rw [x, ge] at f; exact hm n hn f.2.1.symm
  · rcases hx y with f | f
    · exact Or.inl f
    · refine Or.inr ⟨(hD' _).mpr ⟨f.1, fun x => ?_⟩, f.2⟩
      rw [x, ge] at f; exact y f.2.1.symm
  · rcases hg with f | ⟨f1, f2⟩
    · exact Or.inl f
    · refine Or.inr ⟨f1, ?_⟩
      by_cases c : G n = e
      · exact Or.inl c
      · right
        rcases f2 with g | g
        · exact absurd rfl (by intro _; sorry)
        · exact (hD' _).mpr ⟨g, c⟩
/-- the child c of the root that went becomes a root -/
theorem hs_BO_float {D : Int → Prop} {d G C X : Int → Int} {e c : Int} (hm : ∀ n, D n → n ≠ -1) (h : hs_BO D d G C X e) (hc : D c) (gc : G c = e) (hne : ¬ D e)
    (hmax : ∀ n, D n → G n = e → d n ≤ d c) : hs_BO D d (hs_u G c (-1)) C X e := by
  intro n hn
  obtain ⟨h0, h4, h5, hx, hg, hu⟩ := h n hn
  refine ⟨h0, h4, ?_, fun y => ?_, ?_, ?_⟩
  · rcases h5 with f | f
    · exact Or.inl f
    · refine Or.inr ⟨f.1, ?_, f.2.2⟩
      rw [hs_un]
      · exact f.2.1
      · intro x; rw [x, gc] at f; exact hne (by rw [f.2.1]; exact hn)
  · have nc : n ≠ c := fun x => y (hs_ue x)
    rw [hs_un nc] at y ⊢
    rcases hx y with f | f
    · exact Or.inl f
    · refine Or.inr ⟨f.1, ?_, f.2.2⟩
      rw [hs_un]
      · exact f.2.1
      · intro x
        rw [x, gc] at f
        have := hmax n hn f.2.1.symm
        omega
  · by_cases x : n = c
    · exact Or.inl (hs_ue x)
    · rw [hs_un x]; exact hg
  · intro m hm' e1 e2 e3
    have nc : n ≠ c := fun x => e2 (hs_ue x)
    rw [hs_un nc] at e1 e2
    have mc : m ≠ c := by
      intro x
      rw [hs_ue x] at e1
      exact e2 e1.symm
    rw [hs_un mc] at e1
    exact hu m hm' e1 e2 e3
end HS06
