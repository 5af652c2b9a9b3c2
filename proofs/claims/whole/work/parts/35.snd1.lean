section HS35
/-! sound: the book and the array heaps -/
theorem hs_c_total {h : Int → Int} (hh : hs_rg h 24 (-1) 3) : hs_c h 0 + hs_c h 1 + hs_c h 2 + hs_c h 3 + hs_c h (-1) = 24 := by
  have main : ∀ n : Nat, n ≤ 24 → hs_sum (fun j => if h j = 0 then 1 else 0) n + hs_sum (fun j => if h j = 1 then 1 else 0) n + hs_sum (fun j => if h j = 2 then 1 else 0) n + hs_sum (fun j => if h j = 3 then 1 else 0) n + hs_sum (fun j => if h j = -1 then 1 else 0) n = n := by
    intro n
    induction n with
    | zero => intro _; rfl
    | succ n ih =>
      intro hn
      have i := ih (by omega)
      have r := hh (n : Int) (by omega) (by omega)
      show (hs_sum (fun j => if h j = 0 then 1 else 0) n + (if h (n : Int) = 0 then (1 : Int) else 0)) + (hs_sum (fun j => if h j = 1 then 1 else 0) n + (if h (n : Int) = 1 then (1 : Int) else 0)) + (hs_sum (fun j => if h j = 2 then 1 else 0) n + (if h (n : Int) = 2 then (1 : Int) else 0)) + (hs_sum (fun j => if h j = 3 then 1 else 0) n + (if h (n : Int) = 3 then (1 : Int) else 0)) + (hs_sum (fun j => if h j = -1 then 1 else 0) n + (if h (n : Int) = -1 then (1 : Int) else 0)) = _
      rcases (by omega : h (n : Int) = -1 ∨ h (n : Int) = 0 ∨ h (n : Int) = 1 ∨ h (n : Int) = 2 ∨ h (n : Int) = 3) with e | e | e | e | e <;> rw [e] <;> simp only [show ¬ (-1 : Int) = 0 by decide, show ¬ (-1 : Int) = 1 by decide, show ¬ (-1 : Int) = 2 by decide, show ¬ (-1 : Int) = 3 by decide, show ¬ (0 : Int) = -1 by decide, show ¬ (0 : Int) = 1 by decide, show ¬ (0 : Int) = 2 by decide, show ¬ (0 : Int) = 3 by decide, show ¬ (1 : Int) = -1 by decide, show ¬ (1 : Int) = 0 by decide, show ¬ (1 : Int) = 2 by decide, show ¬ (1 : Int) = 3 by decide, show ¬ (2 : Int) = -1 by decide, show ¬ (2 : Int) = 0 by decide, show ¬ (2 : Int) = 1 by decide, show ¬ (2 : Int) = 3 by decide, show ¬ (3 : Int) = -1 by decide, show ¬ (3 : Int) = 0 by decide, show ¬ (3 : Int) = 1 by decide, show ¬ (3 : Int) = 2 by decide, if_true, if_false] <;> omega
  exact main 24 (by omega)
theorem hs_psum_r (h : Int → Int) (q : Int) : ∀ n : Nat, 0 ≤ hs_sum (fun j => if h j = q then 1 else 0) n ∧ hs_sum (fun j => if h j = q then 1 else 0) n ≤ n := by
  intro n
  induction n with
  | zero => exact ⟨Int.le_refl _, Int.le_refl _⟩
  | succ n ih =>
    show 0 ≤ hs_sum (fun j => if h j = q then 1 else 0) n + (if h (n : Int) = q then (1 : Int) else 0) ∧ hs_sum (fun j => if h j = q then 1 else 0) n + (if h (n : Int) = q then (1 : Int) else 0) ≤ _
    split <;> omega
theorem hs_book {post : Int32 → Prop} {k h c S F P lr ll lR lu ln pr pc pn pb tr tc tn tu ni nn wi : Int → Int} (kr : hs_kr k) (hh : hs_rg h 24 (-1) 3) (hc : ∀ q, 0 ≤ q → q ≤ 3 → c q = hs_c h q) (hp : post 1) : wpX_bookHolds post (hs_e k, hs_e h, hs_e c, hs_e S, hs_e F, hs_e P, hs_e lr, hs_e ll, hs_e lR, hs_e lu, hs_e ln, hs_e pr, hs_e pc, hs_e pn, hs_e pb, hs_e tr, hs_e tc, hs_e tn, hs_e tu, hs_e ni, hs_e nn, hs_e wi) := by
  have b14 : ∀ (J : Int32 → Int32 → Prop) (m q : Int), 0 ≤ q → q ≤ 3 → J (hs_i (m + hs_c h q)) (hs_i (q + 1)) → ∀ (n i : Nat), i ≤ 24 → 24 < n + i → wX_bookHolds_14 post J (hs_i m) (hs_i q) (hs_e k) (hs_e h) (hs_e c) (hs_e S) (hs_e F) (hs_e P) (hs_e lr) (hs_e ll) (hs_e lR) (hs_e lu) (hs_e ln) (hs_e pr) (hs_e pc) (hs_e pn) (hs_e pb) (hs_e tr) (hs_e tc) (hs_e tn) (hs_e tu) (hs_e ni) (hs_e nn) (hs_e wi) n (hs_i (hs_sum (fun j => if h j = q then 1 else 0) i)) (hs_i (i : Int)) := by
    intro J m q q0 q1 hJ n
    induction n with
    | zero => intro i a b; omega
    | succ n ih =>
      intro i i1 hn
      have pr := hs_psum_r h q i
      refine hs_le 24 (i : Int) (fun z => ⟨hs_in q0 (by omega) (by decide), ?_⟩) (fun z => ⟨hs_in (by omega) (by omega) (by decide), ?_⟩)
      · have e : i = 24 := by omega
        subst e
        rw [hs_get (A := c) q0 (by omega), hc q q0 q1]
        refine br_t rfl (nm_r (hs_add _ _) (nm_r (hs_1 q) hJ))
      · have r := hh (i : Int) (by omega) (by omega)
        rw [hs_get (A := h) (by omega) (by omega)]
        have nx : hs_sum (fun j => if h j = q then 1 else 0) (i + 1) = hs_sum (fun j => if h j = q then 1 else 0) i + (if h (i : Int) = q then 1 else 0) := rfl
        have ih' := ih (i + 1) (by omega) (by omega)
        rw [nx] at ih'
        refine hs_eq (h (i : Int)) q (fun y => nm_r (hs_1 _) (nm_r (hs_1 _) ?_)) (fun y => nm_r (hs_1 _) ?_)
        · rw [if_pos y] at ih'; exact ih'
        · rw [if_neg y, Int.add_zero] at ih'; exact ih'
  have b65 : ∀ m : Int, m + hs_c h (-1) = 24 → ∀ (n i : Nat), i ≤ 24 → 24 < n + i → wX_bookHolds_65 post (hs_e k) (hs_e h) (hs_e c) (hs_e S) (hs_e F) (hs_e P) (hs_e lr) (hs_e ll) (hs_e lR) (hs_e lu) (hs_e ln) (hs_e pr) (hs_e pc) (hs_e pn) (hs_e pb) (hs_e tr) (hs_e tc) (hs_e tn) (hs_e tu) (hs_e ni) (hs_e nn) (hs_e wi) n (hs_i (m + hs_sum (fun j => if h j = -1 then 1 else 0) i)) (hs_i (i : Int)) := by
    intro m hm n
    induction n with
    | zero => intro i a b; omega
    | succ n ih =>
      intro i i1 hn
      refine hs_le 24 (i : Int) (fun z => ?_) (fun z => ⟨hs_in (by omega) (by omega) (by decide), ?_⟩)
      · have e : i = 24 := by omega
        subst e
        have : m + hs_sum (fun j => if h j = -1 then 1 else 0) 24 = 24 := hm
        rw [this]
        exact br_t (by decide) hp
      · have r := hh (i : Int) (by omega) (by omega)
        have r2 := kr (i : Int) (by omega) (by omega)
        rw [hs_get (A := k) (by omega) (by omega), hs_get (A := h) (by omega) (by omega)]
        have nx : hs_sum (fun j => if h j = -1 then 1 else 0) (i + 1) = hs_sum (fun j => if h j = -1 then 1 else 0) i + (if h (i : Int) = -1 then 1 else 0) := rfl
        have ih' := ih (i + 1) (by omega) (by omega)
        rw [nx] at ih'
        refine hs_isK (by omega) (fun _ _ => br_f (by decide) ⟨hs_in (by omega) (by omega) (by decide), ?_⟩) (fun z => absurd ⟨r2.1, r2.2⟩ z)
        refine hs_eq (h (i : Int)) (-1) (fun y => nm_r (hs_1 _) (nm_r (hs_1 _) ?_)) (fun y => nm_r (hs_1 _) ?_)
        · rw [if_pos y, ← Int.add_assoc] at ih'; exact ih'
        · rw [if_neg y, Int.add_zero] at ih'; exact ih'
  have tot := hs_c_total hh
  have step : ∀ (n : Nat) (m q : Int), 0 ≤ q → q ≤ 3 → wX_bookHolds_4 post (hs_e k) (hs_e h) (hs_e c) (hs_e S) (hs_e F) (hs_e P) (hs_e lr) (hs_e ll) (hs_e lR) (hs_e lu) (hs_e ln) (hs_e pr) (hs_e pc) (hs_e pn) (hs_e pb) (hs_e tr) (hs_e tc) (hs_e tn) (hs_e tu) (hs_e ni) (hs_e nn) (hs_e wi) n (hs_i (m + hs_c h q)) (hs_i (q + 1)) → wX_bookHolds_4 post (hs_e k) (hs_e h) (hs_e c) (hs_e S) (hs_e F) (hs_e P) (hs_e lr) (hs_e ll) (hs_e lR) (hs_e lu) (hs_e ln) (hs_e pr) (hs_e pc) (hs_e pn) (hs_e pb) (hs_e tr) (hs_e tc) (hs_e tn) (hs_e tu) (hs_e ni) (hs_e nn) (hs_e wi) (n + 1) (hs_i m) (hs_i q) := by
    intro n m q q0 q1 hJ
    refine hs_le 4 q (fun z => absurd z (by omega)) (fun _ => ⟨25, ?_⟩)
    exact b14 _ m q q0 q1 hJ 25 0 (by omega) (by omega)
  unfold wpX_bookHolds
  dsimp only
  refine ⟨5, ?_⟩
  rw [← hs_l0]
  refine step 4 0 0 (by omega) (by omega) (step 3 _ 1 (by omega) (by omega) (step 2 _ 2 (by omega) (by omega) (step 1 _ 3 (by omega) (by omega) ?_)))
  refine hs_le 4 (3 + 1) (fun _ => ⟨25, ?_⟩) (fun z => absurd z (by decide))
  have := b65 (0 + hs_c h 0 + hs_c h 1 + hs_c h 2 + hs_c h 3) (by omega) 25 0 (by omega) (by omega)
  have e0 : hs_sum (fun j => if h j = -1 then (1 : Int) else 0) 0 = 0 := rfl
  rw [e0, Int.add_zero] at this
  exact this
theorem hs_slotH {post : Int32 → Prop} {k h c S F P lr ll lR lu ln pr pc pn pb tr tc tn tu ni nn wi : Int → Int} {w q p : Int} (kr : hs_kr k) (hw : 0 ≤ w) (hw' : w ≤ 1) (hq : 0 ≤ q) (hq' : q ≤ 3) (hA : hs_AH (hs_K k) h S F P w q) (p0 : 0 ≤ p) (p1 : p < F (w * 4 + q)) (hp : post 1) :
    wpX_slotHolds post (hs_e k, hs_e h, hs_e c, hs_e S, hs_e F, hs_e P, hs_e lr, hs_e ll, hs_e lR, hs_e lu, hs_e ln, hs_e pr, hs_e pc, hs_e pn, hs_e pb, hs_e tr, hs_e tc, hs_e tn, hs_e tu, hs_e ni, hs_e nn, hs_e wi) (hs_i w) (hs_i q) (hs_i p) := by
  obtain ⟨a1, a2, a3⟩ := hA
  have cr := hs_c_r h q
  have x := a2.1 p p0 p1
  unfold wpX_slotHolds
  dsimp only
  refine nm_r (by rw [hs_x4, hs_m24]) (hs_rd ((w * 4 + q) * 24 + p) (hs_add _ _) (by omega) (by omega) (by decide) ⟨hs_in x.1 (by omega) (by decide), ?_⟩)
  generalize hx : S ((w * 4 + q) * 24 + p) = y at *
  rw [hs_get (A := h) x.1 (by omega), x.2.2.1]
  refine br_t rfl ?_
  rw [hs_x24]
  refine ⟨hs_in (by omega) (by omega) (by decide), ?_⟩
  rw [hs_get (A := P) (by omega) (by omega), x.2.2.2]
  refine br_t rfl (hs_eq p 0 (fun _ => hp) (fun z => ?_))
  refine hs_slotAbove hw hw' (by omega) (by omega) ?_
  have l := hs_pa_lt w (p := p) (by omega)
  have x2 := a2.1 (hs_pa w p) l.1 (by omega)
  have o := a3 p (by omega) p1
  try dsimp only
  rw [hs_add]
  refine ⟨hs_in (by omega) (by omega) (by decide), ?_⟩
  rw [hs_get (A := S) (by omega) (by omega)]
  refine hs_cb kr x2.1 x2.2.1 x.1 x.2.1 (fun _ => ⟨by decide, hp⟩) (fun g => ?_)
  rw [hx] at o
  exact absurd o g
theorem hs_arrH {post : Int32 → Prop} {k h c S F P lr ll lR lu ln pr pc pn pb tr tc tn tu ni nn wi : Int → Int} {w : Int} (kr : hs_kr k) (hw : 0 ≤ w) (hw' : w ≤ 1) (hA : hs_AA (hs_K k) h S F P w) (hc : ∀ q, 0 ≤ q → q ≤ 3 → c q = hs_c h q) (hp : post 1) :
    wpX_arrayHeapsHold post (hs_e k, hs_e h, hs_e c, hs_e S, hs_e F, hs_e P, hs_e lr, hs_e ll, hs_e lR, hs_e lu, hs_e ln, hs_e pr, hs_e pc, hs_e pn, hs_e pb, hs_e tr, hs_e tc, hs_e tn, hs_e tu, hs_e ni, hs_e nn, hs_e wi) (hs_i w) := by
  have inner : ∀ (J : Int32 → Prop) (q : Int), 0 ≤ q → q ≤ 3 → J (hs_i (q + 1)) → ∀ (n : Nat) (p : Int), 0 ≤ p → p ≤ hs_c h q → hs_c h q - p < n → wX_arrayHeapsHold_30 post J (hs_i w) (hs_i q) (hs_e k) (hs_e h) (hs_e c) (hs_e S) (hs_e F) (hs_e P) (hs_e lr) (hs_e ll) (hs_e lR) (hs_e lu) (hs_e ln) (hs_e pr) (hs_e pc) (hs_e pn) (hs_e pb) (hs_e tr) (hs_e tc) (hs_e tn) (hs_e tu) (hs_e ni) (hs_e nn) (hs_e wi) n (hs_i p) := by
    intro J q q0 q1 hJ n
    have cr := hs_c_r h q
    induction n with
    | zero => intro p a b c; omega
    | succ n ih =>
      intro p p0 p1 hn
      refine ⟨hs_in q0 (by omega) (by decide), ?_⟩
      rw [hs_get (A := c) q0 (by omega), hc q q0 q1]
      refine hs_le (hs_c h q) p (fun z => nm_r (hs_1 q) hJ) (fun z => hs_slotH kr hw hw' q0 q1 (hA q q0 q1) p0 (by rw [(hA q q0 q1).1]; omega) (br_f (by decide) (nm_r (hs_1 p) (ih (p + 1) (by omega) (by omega) (by omega)))))
  have outer : ∀ (n : Nat) (q : Int), 0 ≤ q → q ≤ 4 → 4 - q < n → wX_arrayHeapsHold_2 post (hs_i w) (hs_e k) (hs_e h) (hs_e c) (hs_e S) (hs_e F) (hs_e P) (hs_e lr) (hs_e ll) (hs_e lR) (hs_e lu) (hs_e ln) (hs_e pr) (hs_e pc) (hs_e pn) (hs_e pb) (hs_e tr) (hs_e tc) (hs_e tn) (hs_e tu) (hs_e ni) (hs_e nn) (hs_e wi) n (hs_i q) := by
    intro n
    induction n with
    | zero => intro q a b c; omega
    | succ n ih =>
      intro q q0 q1 hn
      refine hs_le 4 q (fun _ => hp) (fun z => ?_)
      have cr := hs_c_r h q
      rw [hs_x4]
      refine ⟨hs_in (by omega) (by omega) (by decide), hs_in q0 (by omega) (by decide), ?_⟩
      rw [hs_get (A := F) (by omega) (by omega), hs_get (A := c) q0 (by omega), hc q q0 (by omega), (hA q q0 (by omega)).1]
      refine br_t rfl ⟨25, ?_⟩
      rw [← hs_l0]
      exact inner _ q q0 (by omega) (ih (q + 1) (by omega) (by omega) (by omega)) 25 0 (by omega) (by omega) (by omega)
  unfold wpX_arrayHeapsHold
  dsimp only
  refine ⟨5, ?_⟩
  rw [← hs_l0]
  exact outer 5 0 (by omega) (by omega) (by omega)
end HS35
