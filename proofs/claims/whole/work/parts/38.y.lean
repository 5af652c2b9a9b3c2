section HS38
/-! the reference -/
theorem hs_yQ {post : Int32 → Prop} {u : SY} {q : Int} (hq : -2147483648 ≤ q ∧ q < 2147483648) (ht : 0 ≤ q → q ≤ 3 → post 1) (hf : ¬ (0 ≤ q ∧ q ≤ 3) → post 0) : wpY_isQueue post u (hs_i q) := by
  unfold wpY_isQueue
  dsimp only
  exact hs_lt q 0 (fun c => hf (by omega)) (fun c => hs_lt 3 q (fun d => hf (by omega)) (fun d => ht c d))
theorem hs_yI {post : Int32 → Prop} {u : SY} {q : Int} (hq : -2147483648 ≤ q ∧ q < 2147483648) (ht : 0 ≤ q → q < 24 → post 1) (hf : ¬ (0 ≤ q ∧ q < 24) → post 0) : wpY_isItem post u (hs_i q) := by
  unfold wpY_isItem
  dsimp only
  exact hs_lt q 0 (fun c => hf (by omega)) (fun c => hs_lt 23 q (fun d => hf (by omega)) (fun d => ht c (by omega)))
theorem hs_yK {post : Int32 → Prop} {u : SY} {q : Int} (hq : -2147483648 ≤ q ∧ q < 2147483648) (ht : -999 ≤ q → q ≤ 999 → post 1) (hf : ¬ (-999 ≤ q ∧ q ≤ 999) → post 0) : wpY_isKey post u (hs_i q) := by
  unfold wpY_isKey
  dsimp only
  exact hs_lt q (-999) (fun c => hf (by omega)) (fun c => hs_lt 999 q (fun d => hf (by omega)) (fun d => ht c d))
/-- r is the first of queue q without item w, or z -/
def hs_mw (K h : Int → Int) (q w z r i : Int) : Prop := (r = z ∧ ∀ j, 0 ≤ j → j < i → h j = q → j = w) ∨ (0 ≤ r ∧ r < i ∧ h r = q ∧ r ≠ w ∧ ∀ j, 0 ≤ j → j < i → h j = q → j ≠ w → K r ≤ K j)
theorem hs_mw_uniq {K h : Int → Int} {q w w' z z' r r' : Int} (hK : hs_Inj K) (hw : ∀ j, 0 ≤ j → j < 24 → (j = w ↔ j = w')) (a : hs_mw K h q w z r 24) (b : hs_mw K h q w' z' r' 24) : (r = z ∧ r' = z') ∨ (0 ≤ r ∧ r < 24 ∧ r' = r) := by
  rcases a with ⟨a1, a2⟩ | ⟨a1, a2, a3, a4, a5⟩
  · rcases b with ⟨b1, b2⟩ | ⟨b1, b2, b3, b4, b5⟩
    · exact Or.inl ⟨a1, b1⟩
    · exact absurd ((hw r' b1 b2).mp (a2 r' b1 b2 b3)) b4
  · rcases b with ⟨b1, b2⟩ | ⟨b1, b2, b3, b4, b5⟩
    · exact absurd ((hw r a1 a2).mpr (b2 r a1 a2 a3)) a4
    · right
      refine ⟨a1, a2, hK r' r b1 b2 a1 a2 (Int.le_antisymm ?_ ?_)⟩
      · exact b5 r a1 a2 a3 (fun e => a4 ((hw r a1 a2).mpr e))
      · exact a5 r' b1 b2 b3 (fun e => b4 ((hw r' b1 b2).mp e))
theorem hs_mn_mw {K h : Int → Int} {q r w : Int} (hw : ¬ (0 ≤ w ∧ w < 24)) (m : hs_mn K h q r) : hs_mw K h q w (-1) r 24 := by
  rcases m with x | x
  · exact Or.inl ⟨x.1, fun j a b c => absurd c (x.2 j a b)⟩
  · exact Or.inr ⟨x.1, x.2.1, x.2.2.1, fun e => hw ⟨by omega, by omega⟩, fun j a b c _ => x.2.2.2 j a b c⟩
theorem hs_yL {post : Int32 → Prop} {k h Q : Int → Int} {q w : Int} (kr : hs_kr k) (hh : hs_rg h 24 (-1) 3) (hQ : ∀ i, 0 ≤ i → i < 24 → Q i = h i + 1) (hq : 0 ≤ q) (hq' : q ≤ 3) (hw : -2147483648 ≤ w ∧ w < 2147483648)
    (hK : ∀ r, hs_mw (hs_K k) h q w (-3000) r 24 → post (hs_i r)) : wpY_least post (hs_e Q, hs_e k) (hs_i q) (hs_i w) := by
  have loop : ∀ (n : Nat) (m i : Int), hs_mw (hs_K k) h q w (-3000) m i → 0 ≤ i → i ≤ 24 → 24 - i < n → wY_least_7 post (hs_i q) (hs_i w) (hs_e Q) (hs_e k) n (hs_i m) (hs_i i) := by
    intro n
    induction n with
    | zero => intro m i _ a b c; omega
    | succ n ih =>
      intro m i hm i0 i1 hn
      refine hs_le 24 i (fun z => hK m ?_) (fun z => ⟨hs_in i0 (by omega) (by decide), ?_⟩)
      · have e : i = 24 := by omega
        rw [e] at hm; exact hm
      · have r := hh i i0 z
        have ki := kr i i0 z
        have mb : -3000 ≤ m ∧ m < 24 := by
          rcases hm with x | x
          · omega
          · omega
        -- the item doesn't count
        have skip : (h i = q → i = w) → wY_least_37 post (wY_least_7 post (hs_i q) (hs_i w) (hs_e Q) (hs_e k) n) (hs_i q) (hs_i w) (hs_i m) (hs_i i) (hs_e Q) (hs_e k) := by
          intro hs
          unfold wY_least_37 wY_least_38
          refine br_t rfl (nm_r (hs_1 i) (ih m (i + 1) ?_ (by omega) (by omega) (by omega)))
          rcases hm with x | x
          · refine Or.inl ⟨x.1, fun j a b c => ?_⟩
            by_cases e : j = i
            · rw [e] at c ⊢; exact hs c
            · exact x.2 j a (by omega) c
          · refine Or.inr ⟨x.1, by omega, x.2.2.1, x.2.2.2.1, fun j a b c d => ?_⟩
            by_cases e : j = i
            · rw [e] at c d; exact absurd (hs c) d
            · exact x.2.2.2.2 j a (by omega) c d
        rw [hs_get (A := Q) i0 (by omega), hQ i i0 z, hs_1]
        refine hs_eq (h i + 1) (q + 1) (fun y => hs_eq i w (fun x => skip (fun _ => x)) (fun x => ?_)) (fun y => skip (fun x => absurd (by omega) y))
        have hi : h i = q := by omega
        unfold wY_least_38
        refine br_f (by decide) (hs_lt m 0 (fun t => nm_r (hs_1 i) (ih i (i + 1) ?_ (by omega) (by omega) (by omega))) (fun t => ⟨hs_in i0 (by omega) (by decide), hs_in t (by omega) (by decide), ?_⟩))
        · rcases hm with v | v
          · refine Or.inr ⟨i0, by omega, hi, x, fun j a b c d => ?_⟩
            by_cases e : j = i
            · rw [e]; exact Int.le_refl _
            · exact absurd (v.2 j a (by omega) c) d
          · omega
        · obtain ⟨m1, m2, m3, m4, m5⟩ := hm.resolve_left (fun v => by omega)
          have km := kr m m1 (by omega)
          rw [hs_get (A := k) (x := m) t (by omega), hs_get (A := k) (x := i) i0 (by omega)]
          refine hs_le (k m) (k i) (fun s => nm_r (hs_1 i) (ih m (i + 1) (Or.inr ⟨m1, by omega, m3, m4, fun j a b c d => ?_⟩) (by omega) (by omega) (by omega))) (fun s => nm_r (hs_1 i) (ih i (i + 1) (Or.inr ⟨i0, by omega, hi, x, fun j a b c d => ?_⟩) (by omega) (by omega) (by omega)))
          · by_cases e : j = i
            · rw [e]; unfold hs_K; omega
            · exact m5 j a (by omega) c d
          · by_cases e : j = i
            · rw [e]; exact Int.le_refl _
            · have := m5 j a (by omega) c d
              unfold hs_K at this ⊢
              omega
  unfold wpY_least
  dsimp only
  refine ⟨26, ?_⟩
  rw [← hs_l0, show (-3000 : Int32) = hs_i (-3000) from by decide]
  exact loop 26 (-3000) 0 (Or.inl ⟨rfl, fun j a b => by omega⟩) (by omega) (by omega) (by omega)
theorem hs_ySz {post : Int32 → Prop} {k h Q : Int → Int} {q : Int} (hh : hs_rg h 24 (-1) 3) (hQ : ∀ i, 0 ≤ i → i < 24 → Q i = h i + 1) (hq : 0 ≤ q) (hq' : q ≤ 3) (hp : post (hs_i (hs_c h q))) : wpY_size post (hs_e Q, hs_e k) (hs_i q) := by
  have loop : ∀ (n i : Nat), i ≤ 24 → 24 < n + i → wY_size_4 post (hs_i q) (hs_e Q) (hs_e k) n (hs_i (hs_sum (fun j => if h j = q then 1 else 0) i)) (hs_i (i : Int)) := by
    intro n
    induction n with
    | zero => intro i a b; omega
    | succ n ih =>
      intro i i1 hn
      refine hs_le 24 (i : Int) (fun z => ?_) (fun z => ⟨hs_in (by omega) (by omega) (by decide), ?_⟩)
      · have e : i = 24 := by omega
        subst e
        exact hs_yQ (by omega) (fun _ _ => br_f (by decide) hp) (fun y => absurd ⟨hq, hq'⟩ y)
      · have r := hh (i : Int) (by omega) (by omega)
        rw [hs_get (A := Q) (by omega) (by omega), hQ _ (by omega) z, hs_1]
        have nx : hs_sum (fun j => if h j = q then 1 else 0) (i + 1) = hs_sum (fun j => if h j = q then 1 else 0) i + (if h (i : Int) = q then 1 else 0) := rfl
        have ih' := ih (i + 1) (by omega) (by omega)
        rw [nx] at ih'
        refine hs_eq (h (i : Int) + 1) (q + 1) (fun y => nm_r (hs_1 _) (nm_r (hs_1 _) ?_)) (fun y => nm_r (hs_1 _) ?_)
        · rw [if_pos (by omega)] at ih'; exact ih'
        · rw [if_neg (by omega), Int.add_zero] at ih'; exact ih'
  unfold wpY_size
  dsimp only
  refine ⟨26, ?_⟩
  rw [← hs_l0]
  exact loop 26 0 (by omega) (by omega)
theorem hs_ySzB {post : Int32 → Prop} {k Q : Int → Int} {q : Int} (hq : -2147483648 ≤ q ∧ q < 2147483648) (hn : ¬ (0 ≤ q ∧ q ≤ 3)) (hp : post (-1000)) : wpY_size post (hs_e Q, hs_e k) (hs_i q) := by
  have loop : ∀ (n : Nat) (x : Int32) (i : Int), 0 ≤ i → i ≤ 24 → 24 - i < n → wY_size_4 post (hs_i q) (hs_e Q) (hs_e k) n x (hs_i i) := by
    intro n
    induction n with
    | zero => intro x i a b c; omega
    | succ n ih =>
      intro x i i0 i1 hn'
      refine hs_le 24 i (fun z => hs_yQ hq (fun a b => absurd ⟨a, b⟩ hn) (fun _ => br_t rfl hp)) (fun z => ⟨hs_in i0 (by omega) (by decide), br_c (fun _ y _ => nm_r (hs_1 i) (ih _ (i + 1) (by omega) (by omega) (by omega))) (fun _ => nm_r (hs_1 i) (ih _ (i + 1) (by omega) (by omega) (by omega)))⟩)
  unfold wpY_size
  dsimp only
  refine ⟨26, ?_⟩
  rw [← hs_l0]
  exact loop 26 _ 0 (by omega) (by omega) (by omega)
theorem hs_yJ {post : Int32 → SY → Prop} {k h : Int → Int} {a b : Int} (hh : hs_rg h 24 (-1) 3) (ha : 0 ≤ a) (ha' : a ≤ 3) (hb : 0 ≤ b) (hb' : b ≤ 3)
    (hK : ∀ Q' : Int → Int, (∀ i, 0 ≤ i → i < 24 → Q' i = (if h i = b then a else h i) + 1) → post (hs_i (hs_c (fun i => if h i = b then a else h i) a)) (hs_e Q', hs_e k)) :
    ∀ (n : Nat) (Q : Int → Int) (i : Int), (∀ j, 0 ≤ j → j < 24 → Q j = (if j < i ∧ h j = b then a else h j) + 1) → 0 ≤ i → i ≤ 24 → 24 - i < n → wY_join_27 post (hs_i a) (hs_i b) n (hs_i i) (hs_e Q) (hs_e k) := by
  intro n
  induction n with
  | zero => intro Q i _ x y z; omega
  | succ n ih =>
    intro Q i hQ i0 i1 hn
    refine hs_le 24 i (fun z => ?_) (fun z => ⟨hs_in i0 (by omega) (by decide), ?_⟩)
    · have hQ' : ∀ j, 0 ≤ j → j < 24 → Q j = (if h j = b then a else h j) + 1 := by
        intro j j0 j1
        rw [hQ j j0 j1]
        by_cases y : h j = b
        · rw [if_pos y, if_pos ⟨by omega, y⟩]
        · rw [if_neg y, if_neg (fun v => y v.2)]
      refine hs_ySz (h := fun i => if h i = b then a else h i) ?_ hQ' ha ha' (hK Q hQ')
      intro j j0 j1
      have := hh j j0 j1
      show -1 ≤ (if h j = b then a else h j) ∧ (if h j = b then a else h j) ≤ 3
      split <;> omega
    · have e : Q i = h i + 1 := by rw [hQ i i0 z, if_neg (fun v => by omega)]
      have r := hh i i0 z
      rw [hs_get (A := Q) i0 (by omega), e, hs_1]
      refine hs_eq (h i + 1) (b + 1) (fun y => ?_) (fun y => ⟨hs_in i0 (by omega) (by decide), ?_⟩)
      · refine hs_wr i (a + 1) rfl (hs_1 a) i0 (by omega) (by decide) (nm_r (hs_1 i) (ih _ (i + 1) (fun j j0 j1 => ?_) (by omega) (by omega) (by omega)))
        by_cases v : j = i
        · rw [hs_ue v, v, if_pos ⟨by omega, by omega⟩]
        · rw [hs_un v, hQ j j0 j1]
          by_cases u : j < i ∧ h j = b
          · rw [if_pos u, if_pos ⟨by omega, u.2⟩]
          · rw [if_neg u, if_neg (fun t => u ⟨by omega, t.2⟩)]
      · refine hs_wr i (h i + 1) rfl rfl i0 (by omega) (by decide) (nm_r (hs_1 i) (ih _ (i + 1) (fun j j0 j1 => ?_) (by omega) (by omega) (by omega)))
        by_cases v : j = i
        · rw [hs_ue v, v, if_neg (fun t => y (by omega))]
        · rw [hs_un v, hQ j j0 j1]
          by_cases u : j < i ∧ h j = b
          · rw [if_pos u, if_pos ⟨by omega, u.2⟩]
          · rw [if_neg u, if_neg (fun t => u ⟨by omega, t.2⟩)]
/-- how many takeUpTo takes -/
def hs_cl2 (k h : Int → Int) (q l : Int) : Nat → Int := hs_sum (fun j => if h j = q ∧ k j ≤ l then 1 else 0)
theorem hs_yT {post : Int32 → SY → Prop} {k h : Int → Int} {q l : Int} (kr : hs_kr k) (hh : hs_rg h 24 (-1) 3) (hq : 0 ≤ q) (hq' : q ≤ 3) (hl : -2147483648 ≤ l ∧ l < 2147483648)
    (hK : ∀ Q' : Int → Int, (∀ i, 0 ≤ i → i < 24 → Q' i = (if h i = q ∧ k i ≤ l then -1 else h i) + 1) → post (hs_i (hs_cl2 k h q l 24)) (hs_e Q', hs_e k)) :
    ∀ (n : Nat) (Q : Int → Int) (i : Nat), (∀ j, 0 ≤ j → j < 24 → Q j = (if j < i ∧ h j = q ∧ k j ≤ l then -1 else h j) + 1) → i ≤ 24 → 24 < n + i → wY_takeUpTo_5 post (hs_i q) (hs_i l) n (hs_i (hs_cl2 k h q l i)) (hs_i (i : Int)) (hs_e Q) (hs_e k) := by
  intro n
  induction n with
  | zero => intro Q i _ x y; omega
  | succ n ih =>
    intro Q i hQ i1 hn
    refine hs_le 24 (i : Int) (fun z => ?_) (fun z => hs_yQ (by omega) (fun _ _ => br_f (by decide) ⟨hs_in (by omega) (by omega) (by decide), ?_⟩) (fun y => absurd ⟨hq, hq'⟩ y))
    · have e : i = 24 := by omega
      subst e
      unfold wY_takeUpTo_61
      refine hs_yQ (by omega) (fun _ _ => br_f (by decide) (hK Q (fun j j0 j1 => ?_))) (fun y => absurd ⟨hq, hq'⟩ y)
      rw [hQ j j0 j1]
      by_cases u : h j = q ∧ k j ≤ l
      · rw [if_pos u, if_pos ⟨by omega, u⟩]
      · rw [if_neg u, if_neg (fun t => u t.2)]
    · have e : Q (i : Int) = h (i : Int) + 1 := by rw [hQ _ (by omega) z, if_neg (fun v => by omega)]
      have r := hh (i : Int) (by omega) z
      have kb := kr (i : Int) (by omega) z
      have nx : hs_cl2 k h q l (i + 1) = hs_cl2 k h q l i + (if h (i : Int) = q ∧ k (i : Int) ≤ l then 1 else 0) := rfl
      have keep : ¬ (h (i : Int) = q ∧ k (i : Int) ≤ l) → wY_takeUpTo_5 post (hs_i q) (hs_i l) n (hs_i (hs_cl2 k h q l i)) (hs_i ((i : Int) + 1)) (hs_e Q) (hs_e k) := by
        intro u
        have := ih Q (i + 1) (fun j j0 j1 => ?_) (by omega) (by omega)
        · rw [nx, if_neg u, Int.add_zero] at this; exact this
        · rw [hQ j j0 j1]
          by_cases v : j < i ∧ h j = q ∧ k j ≤ l
          · rw [if_pos v, if_pos ⟨by omega, v.2⟩]
          · rw [if_neg v, if_neg (fun t => ?_)]
            by_cases s : j = (i : Int)
            · rw [s] at t; exact u t.2
            · exact v ⟨by omega, t.2⟩
      rw [hs_get (A := Q) (by omega) (by omega), e, hs_1, hs_get (A := k) (by omega) (by omega)]
      refine hs_eq (h (i : Int) + 1) (q + 1) (fun y => ⟨hs_in (by omega) (by omega) (by decide), hs_lt l (k (i : Int)) (fun x => nm_r (hs_1 _) (keep (fun t => by omega))) (fun x => ?_)⟩) (fun y => nm_r (hs_1 _) (keep (fun t => y (by omega))))
      have u : h (i : Int) = q ∧ k (i : Int) ≤ l := ⟨by omega, x⟩
      refine hs_wr (i : Int) 0 rfl hs_l0.symm (by omega) (by omega) (by decide) (nm_r (hs_1 _) (nm_r (hs_1 _) ?_))
      have := ih (hs_u Q (i : Int) 0) (i + 1) (fun j j0 j1 => ?_) (by omega) (by omega)
      · rw [nx, if_pos u] at this; exact this
      · by_cases s : j = (i : Int)
        · rw [hs_ue s, s, if_pos ⟨by omega, u⟩]; rfl
        · rw [hs_un s, hQ j j0 j1]
          by_cases v : j < i ∧ h j = q ∧ k j ≤ l
          · rw [if_pos v, if_pos ⟨by omega, v.2⟩]
          · rw [if_neg v, if_neg (fun t => v ⟨by omega, t.2⟩)]
end HS38
