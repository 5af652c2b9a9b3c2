section HS02
/-! engines 0 and 1: heaps in arrays, pure -/
def hs_pa (w p : Int) : Int := if w = 0 then (p - 1) / 2 else (p - 1) / 4
theorem hs_pa_lt (w : Int) {p : Int} (h : 1 ≤ p) : 0 ≤ hs_pa w p ∧ hs_pa w p < p := by
  unfold hs_pa; split <;> omega
/-- slots and places are one another's inverse on queue q -/
def hs_AB (H S P : Int → Int) (q b pb f : Int) : Prop :=
  (∀ p, 0 ≤ p → p < f → 0 ≤ S (b + p) ∧ S (b + p) < 24 ∧ H (S (b + p)) = q ∧ P (pb + S (b + p)) = p) ∧
  (∀ i, 0 ≤ i → i < 24 → H i = q → 0 ≤ P (pb + i) ∧ P (pb + i) < f ∧ S (b + P (pb + i)) = i)
def hs_AO (K S : Int → Int) (w b f : Int) : Prop := ∀ p, 1 ≤ p → p < f → K (S (b + hs_pa w p)) < K (S (b + p))
def hs_AW (K S : Int → Int) (w b f p0 : Int) : Prop := ∀ p, 1 ≤ p → p < f → p ≠ p0 → hs_pa w p ≠ p0 → K (S (b + hs_pa w p)) < K (S (b + p))
def hs_AG (K S : Int → Int) (w b f p0 : Int) : Prop := 1 ≤ p0 → ∀ p, 1 ≤ p → p < f → hs_pa w p = p0 → K (S (b + hs_pa w p0)) < K (S (b + p))
def hs_AE (K S : Int → Int) (w b p0 : Int) : Prop := 1 ≤ p0 → K (S (b + hs_pa w p0)) < K (S (b + p0))
def hs_AD (K S : Int → Int) (w b f p0 : Int) : Prop := ∀ p, 1 ≤ p → p < f → hs_pa w p = p0 → K (S (b + p0)) < K (S (b + p))
theorem hs_AO_of {K S : Int → Int} {w b f p0 : Int} (hW : hs_AW K S w b f p0) (hE : hs_AE K S w b p0) (hD : hs_AD K S w b f p0) : hs_AO K S w b f := by
  intro p h1 hf
  by_cases c : p = p0
  · subst c; exact hE h1
  · by_cases d : hs_pa w p = p0
    · rw [d]; exact hD p h1 hf d
    · exact hW p h1 hf c d
theorem hs_AB_swap {H V VP V1 VP1 : Int → Int} {q b pb f p0 p1 x y : Int} (h : hs_AB H V VP q b pb f)
    (h0 : 0 ≤ p0) (h0' : p0 < f) (h1 : 0 ≤ p1) (h1' : p1 < f) (hne : p0 ≠ p1)
    (ex : V (b + p0) = x) (ey : V (b + p1) = y)
    (e0 : V1 (b + p0) = y) (e1 : V1 (b + p1) = x) (eo : ∀ p, p ≠ p0 → p ≠ p1 → V1 (b + p) = V (b + p))
    (fx : VP1 (pb + x) = p1) (fy : VP1 (pb + y) = p0) (fo : ∀ i, i ≠ x → i ≠ y → VP1 (pb + i) = VP (pb + i)) :
    hs_AB H V1 VP1 q b pb f := by
  obtain ⟨hA, hB⟩ := h
  have a0 := hA p0 h0 h0'
  have a1 := hA p1 h1 h1'
  rw [ex] at a0
  rw [ey] at a1
  constructor
  · intro p hp hp'
    by_cases c0 : p = p0
    · rw [c0, e0]; exact ⟨a1.1, a1.2.1, a1.2.2.1, fy⟩
    · by_cases c1 : p = p1
      · rw [c1, e1]; exact ⟨a0.1, a0.2.1, a0.2.2.1, fx⟩
      · rw [eo p c0 c1]
        have a := hA p hp hp'
        refine ⟨a.1, a.2.1, a.2.2.1, ?_⟩
        rw [fo (V (b + p)) (fun e => by rw [e] at a; omega) (fun e => by rw [e] at a; omega)]
        exact a.2.2.2
  · intro i hi hi' hq
    by_cases cx : i = x
    · rw [cx, fx]; exact ⟨h1, h1', e1⟩
    · by_cases cy : i = y
      · rw [cy, fy]; exact ⟨h0, h0', e0⟩
      · rw [fo i cx cy]
        have a := hB i hi hi' hq
        refine ⟨a.1, a.2.1, ?_⟩
        rw [eo (VP (pb + i)) (fun e => cx (by rw [← a.2.2, e, ex])) (fun e => cy (by rw [← a.2.2, e, ey]))]
        exact a.2.2
theorem hs_up_ord {K V V1 : Int → Int} {w b f p0 p1 x y : Int} (hW : hs_AW K V w b f p0) (hG : hs_AG K V w b f p0)
    (h0 : 1 ≤ p0) (h0' : p0 < f) (hp : p1 = hs_pa w p0) (lt : K x < K y)
    (ey : V (b + p1) = y)
    (e0 : V1 (b + p0) = y) (e1 : V1 (b + p1) = x) (eo : ∀ p, p ≠ p0 → p ≠ p1 → V1 (b + p) = V (b + p)) :
    hs_AW K V1 w b f p1 ∧ hs_AG K V1 w b f p1 ∧ hs_AD K V1 w b f p1 := by
  have l0 := hs_pa_lt w h0
  refine ⟨?_, ?_, ?_⟩
  · intro p hp1 hpf n1 n2
    have l := hs_pa_lt w hp1
    by_cases c : p = p0
    · rw [c] at n2; exact absurd hp.symm n2
    · rw [eo p c n1]
      by_cases d : hs_pa w p = p0
      · rw [d, e0, ← ey, hp]
        exact hG h0 p hp1 hpf d
      · rw [eo _ d n2]
        exact hW p hp1 hpf c d
  · intro g1 p hp1 hpf n2
    have l1 := hs_pa_lt w g1
    have l := hs_pa_lt w hp1
    rw [eo (hs_pa w p1) (by omega) (by omega)]
    have a := hW p1 g1 (by omega) (by omega) (by omega)
    rw [ey] at a
    by_cases c : p = p0
    · rw [c, e0]; exact a
    · rw [eo p c (by omega)]
      have a2 := hW p hp1 hpf c (by omega)
      rw [n2, ey] at a2
      omega
  · intro p hp1 hpf n2
    have l := hs_pa_lt w hp1
    rw [e1]
    by_cases c : p = p0
    · rw [c, e0]; exact lt
    · rw [eo p c (by omega)]
      have a2 := hW p hp1 hpf c (by omega)
      rw [n2, ey] at a2
      omega
theorem hs_dn_ord {K V V1 : Int → Int} {w b f p0 p1 x y : Int} (hW : hs_AW K V w b f p0) (hG : hs_AG K V w b f p0)
    (h0 : 0 ≤ p0) (h1 : 1 ≤ p1) (h1' : p1 < f) (hp : hs_pa w p1 = p0) (lt : K y < K x)
    (hm : ∀ p, 1 ≤ p → p < f → hs_pa w p = p0 → p ≠ p1 → K y < K (V (b + p)))
    (ey : V (b + p1) = y)
    (e0 : V1 (b + p0) = y) (e1 : V1 (b + p1) = x) (eo : ∀ p, p ≠ p0 → p ≠ p1 → V1 (b + p) = V (b + p)) :
    hs_AW K V1 w b f p1 ∧ hs_AG K V1 w b f p1 ∧ hs_AE K V1 w b p1 := by
  have l0 := hs_pa_lt w h1
  refine ⟨?_, ?_, ?_⟩
  · intro p hp1 hpf n1 n2
    have l := hs_pa_lt w hp1
    by_cases c : p = p0
    · subst c
      rw [e0, eo (hs_pa w p) (by omega) n2]
      have a := hG hp1 p1 h1 h1' hp
      rw [ey] at a
      exact a
    · rw [eo p c n1]
      by_cases d : hs_pa w p = p0
      · rw [d, e0]
        exact hm p hp1 hpf d n1
      · rw [eo _ d n2]
        exact hW p hp1 hpf c d
  · intro g1 p hp1 hpf n2
    have l := hs_pa_lt w hp1
    rw [hp, e0, eo p (by omega) (by omega)]
    have a := hW p hp1 hpf (by omega) (by omega)
    rw [n2, ey] at a
    exact a
  · intro _
    rw [hp, e0, e1]
    exact lt
theorem hs_AO_min {K S : Int → Int} {w b f : Int} (h : hs_AO K S w b f) : ∀ (n m : Nat), m ≤ n → (m : Int) < f → K (S b) ≤ K (S (b + m)) := by
  intro n
  induction n with
  | zero =>
    intro m hm _
    have : m = 0 := by omega
    subst this
    rw [show b + ((0 : Nat) : Int) = b by omega]
    exact Int.le_refl _
  | succ n ih =>
    intro m hm hf
    by_cases c : m = 0
    · subst c
      rw [show b + ((0 : Nat) : Int) = b by omega]
      exact Int.le_refl _
    · have l := hs_pa_lt w (p := (m : Int)) (by omega)
      have a := h (m : Int) (by omega) hf
      have a2 := ih (hs_pa w (m : Int)).toNat (by omega) (by omega)
      rw [Int.toNat_of_nonneg l.1] at a2
      omega
/-- one array heap as it must be -/
def hs_AH (K H S F P : Int → Int) (w q : Int) : Prop :=
  F (w * 4 + q) = hs_c H q ∧ hs_AB H S P q ((w * 4 + q) * 24) (w * 24) (F (w * 4 + q)) ∧ hs_AO K S w ((w * 4 + q) * 24) (F (w * 4 + q))
theorem hs_AH_congr {K K' H H' S S' F F' P P' : Int → Int} {w q : Int} (h : hs_AH K H S F P w q)
    (hH : ∀ i, 0 ≤ i → i < 24 → (H' i = q ↔ H i = q)) (hK : ∀ i, 0 ≤ i → i < 24 → H i = q → K' i = K i)
    (hS : ∀ p, 0 ≤ p → p < 24 → S' ((w * 4 + q) * 24 + p) = S ((w * 4 + q) * 24 + p)) (hF : F' (w * 4 + q) = F (w * 4 + q))
    (hP : ∀ i, 0 ≤ i → i < 24 → H i = q → P' (w * 24 + i) = P (w * 24 + i)) : hs_AH K' H' S' F' P' w q := by
  obtain ⟨hc, ⟨hA, hB⟩, hO⟩ := h
  have hr := hs_c_r H q
  unfold hs_AH
  rw [hF, hs_c_congr hH]
  refine ⟨hc, ⟨?_, ?_⟩, ?_⟩
  · intro p h0 h1
    have a := hA p h0 h1
    rw [hS p h0 (by omega)]
    refine ⟨a.1, a.2.1, (hH _ a.1 a.2.1).mpr a.2.2.1, ?_⟩
    rw [hP _ a.1 a.2.1 a.2.2.1]; exact a.2.2.2
  · intro i h0 h1 e
    have e' := (hH i h0 h1).mp e
    have a := hB i h0 h1 e'
    rw [hP i h0 h1 e', hS _ a.1 (by omega)]
    exact a
  · intro p h0 h1
    have l := hs_pa_lt w h0
    have a := hA p (by omega) h1
    have a2 := hA (hs_pa w p) l.1 (by omega)
    rw [hS p (by omega) (by omega), hS _ l.1 (by omega), hK _ a.1 a.2.1 a.2.2.1, hK _ a2.1 a2.2.1 a2.2.2.1]
    exact hO p h0 h1
theorem hs_AH_mn {K H S F P : Int → Int} {w q : Int} (h : hs_AH K H S F P w q) :
    hs_mn K H q (if F (w * 4 + q) = 0 then -1 else S ((w * 4 + q) * 24)) := by
  obtain ⟨hc, ⟨hA, hB⟩, hO⟩ := h
  have hr := hs_c_r H q
  by_cases c : F (w * 4 + q) = 0
  · rw [if_pos c]
    exact Or.inl ⟨rfl, fun i h0 h1 => hs_c_0 (by omega) h0 h1⟩
  · rw [if_neg c]
    have a := hA 0 (by omega) (by omega)
    rw [Int.add_zero] at a
    refine Or.inr ⟨a.1, a.2.1, a.2.2.1, fun i h0 h1 e => ?_⟩
    have a2 := hB i h0 h1 e
    have a3 := hs_AO_min hO _ (P (w * 24 + i)).toNat (Nat.le_refl _) (by omega)
    rw [Int.toNat_of_nonneg a2.1, a2.2.2] at a3
    exact a3
/-- what a change within one heap leaves alone -/
def hs_fS (S S' : Int → Int) (b : Int) : Prop := ∀ j, S' j = S j ∨ (b ≤ j ∧ j < b + 24 ∧ 0 ≤ S' j ∧ S' j < 24)
def hs_fP (H P P' : Int → Int) (q pb : Int) : Prop := ∀ j, P' j = P j ∨ ∃ i, 0 ≤ i ∧ i < 24 ∧ H i = q ∧ j = pb + i
theorem hs_fS_refl {S : Int → Int} {b : Int} : hs_fS S S b := fun _ => Or.inl rfl
theorem hs_fS_trans {S S' S'' : Int → Int} {b : Int} (h : hs_fS S S' b) (h' : hs_fS S' S'' b) : hs_fS S S'' b := by
  intro j
  rcases h' j with e | e
  · rcases h j with e2 | e2
    · exact Or.inl (e.trans e2)
    · rw [← e] at e2; exact Or.inr e2
  · exact Or.inr e
theorem hs_fS_u {S : Int → Int} {b p x : Int} (h0 : 0 ≤ p) (h1 : p < 24) (h2 : 0 ≤ x) (h3 : x < 24) : hs_fS S (hs_u S (b + p) x) b := by
  intro j
  by_cases e : j = b + p
  · rw [hs_ue e]; exact Or.inr ⟨by omega, by omega, h2, h3⟩
  · exact Or.inl (hs_un e)
theorem hs_fP_refl {H P : Int → Int} {q pb : Int} : hs_fP H P P q pb := fun _ => Or.inl rfl
theorem hs_fP_trans {H P P' P'' : Int → Int} {q pb : Int} (h : hs_fP H P P' q pb) (h' : hs_fP H P' P'' q pb) : hs_fP H P P'' q pb := by
  intro j
  rcases h' j with e | e
  · rcases h j with e2 | e2
    · exact Or.inl (e.trans e2)
    · exact Or.inr e2
  · exact Or.inr e
theorem hs_fP_u {H P : Int → Int} {q pb x v : Int} (h2 : 0 ≤ x) (h3 : x < 24) (h : H x = q) : hs_fP H P (hs_u P (pb + x) v) q pb := by
  intro j
  by_cases e : j = pb + x
  · exact Or.inr ⟨x, h2, h3, h, e⟩
  · exact Or.inl (hs_un e)
/-- the state of a sift: item x has left its slot p0 -/
def hs_SI (K H S P : Int → Int) (w q b pb f p0 x : Int) : Prop :=
  hs_AB H (hs_u S (b + p0) x) (hs_u P (pb + x) p0) q b pb f ∧ hs_AW K (hs_u S (b + p0) x) w b f p0 ∧ hs_AG K (hs_u S (b + p0) x) w b f p0 ∧ 0 ≤ p0 ∧ p0 < f
theorem hs_SI_facts {H S P : Int → Int} {q b pb f p0 p1 x : Int} (hB : hs_AB H (hs_u S (b + p0) x) (hs_u P (pb + x) p0) q b pb f)
    (h0 : 0 ≤ p0) (h0' : p0 < f) (h1 : 0 ≤ p1) (h1' : p1 < f) (hne : p1 ≠ p0) :
    0 ≤ x ∧ x < 24 ∧ H x = q ∧ 0 ≤ S (b + p1) ∧ S (b + p1) < 24 ∧ H (S (b + p1)) = q ∧ S (b + p1) ≠ x ∧ P (pb + S (b + p1)) = p1 := by
  have a := hB.1 p0 h0 h0'
  rw [hs_us, hs_us] at a
  have a1 := hB.1 p1 h1 h1'
  rw [hs_un (by omega : b + p1 ≠ b + p0)] at a1
  have hx : S (b + p1) ≠ x := by
    intro e
    rw [e, hs_us] at a1
    omega
  rw [hs_un (by omega : pb + S (b + p1) ≠ pb + x)] at a1
  exact ⟨a.1, a.2.1, a.2.2.1, a1.1, a1.2.1, a1.2.2.1, hx, a1.2.2.2⟩
theorem hs_SI_mv {H S P : Int → Int} {q b pb f p0 p1 x : Int} (hB : hs_AB H (hs_u S (b + p0) x) (hs_u P (pb + x) p0) q b pb f)
    (h0 : 0 ≤ p0) (h0' : p0 < f) (h1 : 0 ≤ p1) (h1' : p1 < f) (hne : p1 ≠ p0) :
    hs_AB H (hs_u (hs_u S (b + p0) (S (b + p1))) (b + p1) x) (hs_u (hs_u P (pb + S (b + p1)) p0) (pb + x) p1) q b pb f := by
  have a := hs_SI_facts hB h0 h0' h1 h1' hne
  refine hs_AB_swap (p0 := p0) (p1 := p1) (x := x) (y := S (b + p1)) hB h0 h0' h1 h1' (fun e => hne e.symm) hs_us (hs_un (by omega)) ?_ hs_us ?_ hs_us ?_ ?_
  · rw [hs_un (by omega), hs_us]
  · intro p c0 c1
    rw [hs_un (by omega), hs_un (by omega), hs_un (by omega)]
  · rw [hs_un (by omega), hs_us]
  · intro i c0 c1
    rw [hs_un (by omega), hs_un (by omega), hs_un (by omega)]
theorem hs_SI_up {K H S P : Int → Int} {w q b pb f p0 x : Int} (hI : hs_Inj K) (h : hs_SI K H S P w q b pb f p0 x) (h0 : 1 ≤ p0)
    (hc : ¬ K (S (b + hs_pa w p0)) < K x) :
    hs_SI K H (hs_u S (b + p0) (S (b + hs_pa w p0))) (hs_u P (pb + S (b + hs_pa w p0)) p0) w q b pb f (hs_pa w p0) x ∧
    hs_AD K (hs_u (hs_u S (b + p0) (S (b + hs_pa w p0))) (b + hs_pa w p0) x) w b f (hs_pa w p0) := by
  obtain ⟨hB, hW, hG, _, h0'⟩ := h
  have l := hs_pa_lt w h0
  have a := hs_SI_facts hB (by omega) h0' l.1 (by omega) (by omega)
  have lt : K x < K (S (b + hs_pa w p0)) := by
    have : K x ≠ K (S (b + hs_pa w p0)) := fun e => a.2.2.2.2.2.2.1 (hI _ _ a.1 a.2.1 a.2.2.2.1 a.2.2.2.2.1 e).symm
    omega
  have m := hs_up_ord (V1 := hs_u (hs_u S (b + p0) (S (b + hs_pa w p0))) (b + hs_pa w p0) x) hW hG h0 h0' rfl lt (hs_un (by omega)) (by rw [hs_un (by omega), hs_us]) hs_us (fun p c0 c1 => by rw [hs_un (by omega), hs_un (by omega), hs_un (by omega)])
  exact ⟨⟨hs_SI_mv hB (by omega) h0' l.1 (by omega) (by omega), m.1, m.2.1, l.1, by omega⟩, m.2.2⟩
theorem hs_SI_dn {K H S P : Int → Int} {w q b pb f p0 p1 x : Int} (h : hs_SI K H S P w q b pb f p0 x) (h1 : 1 ≤ p1) (h1' : p1 < f) (hp : hs_pa w p1 = p0)
    (lt : K (S (b + p1)) < K x) (hm : ∀ p, 1 ≤ p → p < f → hs_pa w p = p0 → p ≠ p1 → K (S (b + p1)) < K (S (b + p))) :
    hs_SI K H (hs_u S (b + p0) (S (b + p1))) (hs_u P (pb + S (b + p1)) p0) w q b pb f p1 x ∧
    hs_AE K (hs_u (hs_u S (b + p0) (S (b + p1))) (b + p1) x) w b p1 := by
  obtain ⟨hB, hW, hG, h0, h0'⟩ := h
  have l := hs_pa_lt w h1
  have m := hs_dn_ord (V1 := hs_u (hs_u S (b + p0) (S (b + p1))) (b + p1) x) hW hG h0 h1 h1' hp lt (fun p a1 a2 a3 a4 => by
    have l2 := hs_pa_lt w a1
    rw [hs_un (by omega)]
    exact hm p a1 a2 a3 a4) (hs_un (by omega)) (by rw [hs_un (by omega), hs_us]) hs_us (fun p c0 c1 => by rw [hs_un (by omega), hs_un (by omega), hs_un (by omega)])
  exact ⟨⟨hs_SI_mv hB h0 h0' (by omega) h1' (by omega), m.1, m.2.1, by omega, h1'⟩, m.2.2⟩
end HS02
