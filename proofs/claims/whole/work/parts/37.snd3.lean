section HS37
/-! sound: binomial heap, tournaments, all -/
theorem hs_shl : ∀ o, 0 ≤ o → o ≤ 4 → (1 : Int32) <<< (hs_i o &&& 31) = hs_i (hs_pw o) :=
  hs_o5 (by decide) (by decide) (by decide) (by decide) (by decide)
/-- the trees below order o, as digits -/
def hs_tp (T : Int → Int) (q o : Int) : Int := (if 0 < o then hs_b1 (T (q * 5)) 1 else 0) + (if 1 < o then hs_b1 (T (q * 5 + 1)) 2 else 0) + (if 2 < o then hs_b1 (T (q * 5 + 2)) 4 else 0) + (if 3 < o then hs_b1 (T (q * 5 + 3)) 8 else 0) + (if 4 < o then hs_b1 (T (q * 5 + 4)) 16 else 0)
theorem hs_tp_s (T : Int → Int) (q : Int) : ∀ o, 0 ≤ o → o ≤ 4 → hs_tp T q (o + 1) = hs_tp T q o + hs_b1 (T (q * 5 + o)) (hs_pw o) := by
  refine hs_o5 ?_ ?_ ?_ ?_ ?_
  · unfold hs_tp
    simp only [show (0 : Int) < 0 + 1 by decide, show ¬ (1 : Int) < 0 + 1 by decide, show ¬ (2 : Int) < 0 + 1 by decide, show ¬ (3 : Int) < 0 + 1 by decide, show ¬ (4 : Int) < 0 + 1 by decide, show ¬ (0 : Int) < 0 by decide, show ¬ (1 : Int) < 0 by decide, show ¬ (2 : Int) < 0 by decide, show ¬ (3 : Int) < 0 by decide, show ¬ (4 : Int) < 0 by decide, if_true, if_false, Int.add_zero]
    show _ = _ + hs_b1 (T (q * 5)) 1
    omega
  · unfold hs_tp
    simp only [show (0 : Int) < 1 + 1 by decide, show (1 : Int) < 1 + 1 by decide, show ¬ (2 : Int) < 1 + 1 by decide, show ¬ (3 : Int) < 1 + 1 by decide, show ¬ (4 : Int) < 1 + 1 by decide, show (0 : Int) < 1 by decide, show ¬ (1 : Int) < 1 by decide, show ¬ (2 : Int) < 1 by decide, show ¬ (3 : Int) < 1 by decide, show ¬ (4 : Int) < 1 by decide, if_true, if_false]
    show _ = _ + hs_b1 (T (q * 5 + 1)) 2
    omega
  · unfold hs_tp
    simp only [show (0 : Int) < 2 + 1 by decide, show (1 : Int) < 2 + 1 by decide, show (2 : Int) < 2 + 1 by decide, show ¬ (3 : Int) < 2 + 1 by decide, show ¬ (4 : Int) < 2 + 1 by decide, show (0 : Int) < 2 by decide, show (1 : Int) < 2 by decide, show ¬ (2 : Int) < 2 by decide, show ¬ (3 : Int) < 2 by decide, show ¬ (4 : Int) < 2 by decide, if_true, if_false]
    show _ = _ + hs_b1 (T (q * 5 + 2)) 4
    omega
  · unfold hs_tp
    simp only [show (0 : Int) < 3 + 1 by decide, show (1 : Int) < 3 + 1 by decide, show (2 : Int) < 3 + 1 by decide, show (3 : Int) < 3 + 1 by decide, show ¬ (4 : Int) < 3 + 1 by decide, show (0 : Int) < 3 by decide, show (1 : Int) < 3 by decide, show (2 : Int) < 3 by decide, show ¬ (3 : Int) < 3 by decide, show ¬ (4 : Int) < 3 by decide, if_true, if_false]
    show _ = _ + hs_b1 (T (q * 5 + 3)) 8
    omega
  · unfold hs_tp
    simp only [show (0 : Int) < 4 + 1 by decide, show (1 : Int) < 4 + 1 by decide, show (2 : Int) < 4 + 1 by decide, show (3 : Int) < 4 + 1 by decide, show (4 : Int) < 4 + 1 by decide, show (0 : Int) < 4 by decide, show (1 : Int) < 4 by decide, show (2 : Int) < 4 by decide, show (3 : Int) < 4 by decide, show ¬ (4 : Int) < 4 by decide, if_true, if_false]
    show _ = _ + hs_b1 (T (q * 5 + 4)) 16
    omega
theorem hs_treesH {post : Int32 → Prop} {k h c S F P lr ll lR lu ln pr pc pn pb tr tc tn tu ni nn wi : Int → Int} {q : Int} (hq : 0 ≤ q) (hq' : q ≤ 3) (hB : hs_BT (hs_K k) h tr tc tn tu ni q) (hP : hs_PM ni nn) (hR : hs_BG tr tc tn tu) (hc : c q = hs_c h q) (hp : post 1) :
    wpX_treesHold post (hs_e k, hs_e h, hs_e c, hs_e S, hs_e F, hs_e P, hs_e lr, hs_e ll, hs_e lR, hs_e lu, hs_e ln, hs_e pr, hs_e pc, hs_e pn, hs_e pb, hs_e tr, hs_e tc, hs_e tn, hs_e tu, hs_e ni, hs_e nn, hs_e wi) (hs_i q) := by
  obtain ⟨d, t1, t2, t3, t4⟩ := hB
  have cr := hs_c_r h q
  have loop : ∀ (n : Nat) (o : Int), 0 ≤ o → o ≤ 5 → 5 - o < n → wX_treesHold_4 post (hs_i q) (hs_e k) (hs_e h) (hs_e c) (hs_e S) (hs_e F) (hs_e P) (hs_e lr) (hs_e ll) (hs_e lR) (hs_e lu) (hs_e ln) (hs_e pr) (hs_e pc) (hs_e pn) (hs_e pb) (hs_e tr) (hs_e tc) (hs_e tn) (hs_e tu) (hs_e ni) (hs_e nn) (hs_e wi) n (hs_i (hs_tp tr q o)) (hs_i o) := by
    intro n
    induction n with
    | zero => intro o a b c; omega
    | succ n ih =>
      intro o o0 o5 hn
      refine hs_le 5 o (fun z => ⟨hs_in hq (by omega) (by decide), ?_⟩) (fun z => ?_)
      · have e : o = 5 := by omega
        rw [e, hs_get (A := c) hq (by omega), hc, ← t4]
        exact br_t rfl hp
      · have s := hs_tp_s tr q o o0 (by omega)
        have nx := ih (o + 1) (by omega) (by omega) (by omega)
        rw [s] at nx
        have rt := t3.2 o o0 (by omega)
        have tb := hR.1 (q * 5 + o) (by omega) (by omega)
        refine hs_rd (q * 5 + o) (hs_x5 _ _) (by omega) (by omega) (by decide) (hs_eq (tr (q * 5 + o)) (-1) (fun y => nm_r (hs_1 o) ?_) (fun y => ?_))
        · unfold hs_b1 at nx
          rw [if_pos y, Int.add_zero] at nx
          exact nx
        · have rD := rt.resolve_left y
          have r1 := rD.1.1
          have r2 := rD.1.2.1
          have nr := hP _ r1 r2
          unfold hs_b1 at nx
          rw [if_neg y] at nx
          refine ⟨hs_in r1 (by omega) (by decide), ?_⟩
          rw [hs_get (A := ni) r1 (by omega)]
          refine ⟨hs_in nr.1 (by omega) (by decide), ?_⟩
          rw [hs_get (A := h) nr.1 (by omega), rD.1.2.2]
          refine br_t rfl ⟨hs_in r1 (by omega) (by decide), ?_⟩
          rw [hs_get (A := tu) r1 (by omega), rD.2.1]
          refine br_t hs_lm1 (hs_oo hs_BD_r t1 rD.1 ?_)
          rw [rD.2.2.1]
          refine br_t rfl (nm_r (by rw [hs_shl o o0 (by omega), hs_add]) (nm_r (hs_1 o) nx))
  unfold wpX_treesHold
  dsimp only
  refine ⟨6, ?_⟩
  rw [← hs_l0]
  exact loop 6 0 (by omega) (by omega) (by omega)
theorem hs_binI {post : Int32 → Prop} {k h c S F P lr ll lR lu ln pr pc pn pb tr tc tn tu ni nn wi : Int → Int} {q i : Int} (kr : hs_kr k) (hq : 0 ≤ q) (hq' : q ≤ 3) (i0 : 0 ≤ i) (i1 : i < 24) (hi : h i = q) (hB : hs_BT (hs_K k) h tr tc tn tu ni q) (hP : hs_PM ni nn) (hR : hs_BG tr tc tn tu) (hp : post 1) :
    wpX_binomialItemHolds post (hs_e k, hs_e h, hs_e c, hs_e S, hs_e F, hs_e P, hs_e lr, hs_e ll, hs_e lR, hs_e lu, hs_e ln, hs_e pr, hs_e pc, hs_e pn, hs_e pb, hs_e tr, hs_e tc, hs_e tn, hs_e tu, hs_e ni, hs_e nn, hs_e wi) (hs_i i) := by
  obtain ⟨d, t1, t2, t3, t4⟩ := hB
  have p := hP i i0 i1
  have hm := hs_BD_m (H := h) (NI := ni) (q := q)
  have vD : hs_BD h ni q (nn i) := ⟨p.2.2.1, p.2.2.2.1, by rw [p.2.2.2.2.1]; exact hi⟩
  have v0 := p.2.2.1
  have v1 := p.2.2.2.1
  have dv := t1 _ vD
  have fin : ∀ x : Int, x = -1 → wX_binomialItemHolds_144 post (hs_i x) (hs_e k) (hs_e h) (hs_e c) (hs_e S) (hs_e F) (hs_e P) (hs_e lr) (hs_e ll) (hs_e lR) (hs_e lu) (hs_e ln) (hs_e pr) (hs_e pc) (hs_e pn) (hs_e pb) (hs_e tr) (hs_e tc) (hs_e tn) (hs_e tu) (hs_e ni) (hs_e nn) (hs_e wi) := by
    intro x e
    unfold wX_binomialItemHolds_144
    rw [e]
    exact br_t hs_lm1 hp
  have loop : ∀ (n : Nat) (x o : Int), ((x = -1 ∧ o = -1) ∨ (hs_BD h ni q x ∧ tu x = nn i ∧ d x = o ∧ 0 ≤ o)) → -1 ≤ o → o ≤ 4 → o + 1 < n → wX_binomialItemHolds_57 post (hs_i i) (hs_i (nn i)) (hs_e k) (hs_e h) (hs_e c) (hs_e S) (hs_e F) (hs_e P) (hs_e lr) (hs_e ll) (hs_e lR) (hs_e lu) (hs_e ln) (hs_e pr) (hs_e pc) (hs_e pn) (hs_e pb) (hs_e tr) (hs_e tc) (hs_e tn) (hs_e tu) (hs_e ni) (hs_e nn) (hs_e wi) n (hs_i x) (hs_i o) := by
    intro n
    induction n with
    | zero => intro x o _ a b c; omega
    | succ n ih =>
      intro x o hx o0 o4 hn
      have xb : -1 ≤ x ∧ x < 24 := by
        rcases hx with y | y
        · omega
        · have := y.1.1; have := y.1.2.1; omega
      refine hs_lt o 0 (fun z => fin x ?_) (fun z => hs_eq x (-1) (fin x) (fun y => ?_))
      · rcases hx with y | y
        · exact y.1
        · omega
      · obtain ⟨x1, x2, x3, x4⟩ := hx.resolve_left (fun w => y w.1)
        have r1 := x1.1
        have r2 := x1.2.1
        have nr := hP x r1 r2
        have dx := t1 x x1
        refine hs_rd x rfl r1 (by omega) (by decide) ⟨hs_in r1 (by omega) (by decide), ?_⟩
        rw [hs_get (A := tu) r1 (by omega), x2]
        refine br_t rfl (hs_oo hs_BD_r t1 x1 ?_)
        rw [x3]
        refine br_t rfl ⟨hs_in nr.1 (by omega) (by decide), hs_in i0 (by omega) (by decide), ?_⟩
        rw [hs_get (A := h) (x := ni x) nr.1 (by omega), hs_get (A := h) (x := i) i0 (by omega), x1.2.2, hi]
        refine br_t rfl (hs_cb kr i0 i1 nr.1 nr.2.1 (fun _ => br_f (by decide) (hs_rd x rfl r1 (by omega) (by decide) (nm_r (hs_m1 o) (ih (tn x) (o - 1) ?_ (by omega) (by omega) (by omega))))) (fun g => ?_))
        · rcases dx.2.2.2.1 (by rw [x2]; exact hm _ vD) with w | w
          · left; exact ⟨w.1, by omega⟩
          · right
            have := (t1 _ w.1).1
            exact ⟨w.1, by rw [w.2.1]; exact x2, by omega, by omega⟩
        · rcases t2 x x1 with w | w | w
          · rw [x2] at w; exact absurd w (hm _ vD)
          · rw [x2] at w; exact absurd w (hm _ vD)
          · rw [x2] at w
            dsimp only at w
            rw [p.2.2.2.2.1] at w; exact absurd w g
  have kids : wX_binomialItemHolds_44 post (hs_i i) (hs_i (nn i)) (hs_i (d (nn i))) (hs_e k) (hs_e h) (hs_e c) (hs_e S) (hs_e F) (hs_e P) (hs_e lr) (hs_e ll) (hs_e lR) (hs_e lu) (hs_e ln) (hs_e pr) (hs_e pc) (hs_e pn) (hs_e pb) (hs_e tr) (hs_e tc) (hs_e tn) (hs_e tu) (hs_e ni) (hs_e nn) (hs_e wi) := by
    unfold wX_binomialItemHolds_44
    refine hs_rd (nn i) rfl v0 (by omega) (by decide) (nm_r (hs_s1 _) ⟨7, ?_⟩)
    refine loop 7 _ _ ?_ (by omega) (by omega) (by omega)
    rcases dv.2.2.1 with w | w
    · left; exact ⟨w.1, by omega⟩
    · right
      have := (t1 _ w.1).1
      exact ⟨w.1, w.2.1, by omega, by omega⟩
  have ub := hR.2.2.2 (nn i) v0 v1
  unfold wpX_binomialItemHolds
  dsimp only
  refine hs_rd i rfl i0 (by omega) (by decide) (hs_oo hs_BD_r t1 vD ⟨hs_in v0 (by omega) (by decide), ?_⟩)
  rw [hs_get (A := tu) v0 (by omega)]
  refine hs_eq (tu (nn i)) (-1) (fun z => ⟨hs_in i0 (by omega) (by decide), ?_⟩) (fun _ => kids)
  rw [hs_get (A := h) i0 (by omega), hi, hs_x5]
  refine ⟨hs_in (by omega) (by omega) (by decide), ?_⟩
  rw [hs_get (A := tr) (by omega) (by omega), t3.1 _ vD z (hm _ vD) (fun w => w)]
  exact br_t rfl kids
theorem hs_binH {post : Int32 → Prop} {k h c S F P lr ll lR lu ln pr pc pn pb tr tc tn tu ni nn wi : Int → Int} (kr : hs_kr k) (hh : hs_rg h 24 (-1) 3) (hB : hs_BA (hs_K k) h tr tc tn tu ni) (hP : hs_PM ni nn) (hR : hs_BG tr tc tn tu) (hc : ∀ q, 0 ≤ q → q ≤ 3 → c q = hs_c h q) (hp : post 1) :
    wpX_binomialHolds post (hs_e k, hs_e h, hs_e c, hs_e S, hs_e F, hs_e P, hs_e lr, hs_e ll, hs_e lR, hs_e lu, hs_e ln, hs_e pr, hs_e pc, hs_e pn, hs_e pb, hs_e tr, hs_e tc, hs_e tn, hs_e tu, hs_e ni, hs_e nn, hs_e wi) := by
  have items : ∀ (n : Nat) (i : Int), 0 ≤ i → i ≤ 24 → 24 - i < n → wX_binomialHolds_25 post (hs_e k) (hs_e h) (hs_e c) (hs_e S) (hs_e F) (hs_e P) (hs_e lr) (hs_e ll) (hs_e lR) (hs_e lu) (hs_e ln) (hs_e pr) (hs_e pc) (hs_e pn) (hs_e pb) (hs_e tr) (hs_e tc) (hs_e tn) (hs_e tu) (hs_e ni) (hs_e nn) (hs_e wi) n (hs_i i) := by
    intro n
    induction n with
    | zero => intro i a b c; omega
    | succ n ih =>
      intro i i0 i1 hn
      refine hs_le 24 i (fun _ => hp) (fun z => ⟨hs_in i0 (by omega) (by decide), ?_⟩)
      have r := hh i i0 z
      have p := hP i i0 z
      rw [hs_get (A := nn) i0 (by omega)]
      refine ⟨hs_in p.2.2.1 (by omega) (by decide), ?_⟩
      rw [hs_get (A := ni) p.2.2.1 (by omega), p.2.2.2.2.1]
      refine br_t rfl ⟨hs_in i0 (by omega) (by decide), ?_⟩
      rw [hs_get (A := h) i0 (by omega)]
      exact hs_eq (h i) (-1) (fun _ => nm_r (hs_1 i) (ih (i + 1) (by omega) (by omega) (by omega))) (fun y => hs_binI kr (by omega) r.2 i0 z rfl (hB (h i) (by omega) r.2) hP hR (br_f (by decide) (nm_r (hs_1 i) (ih (i + 1) (by omega) (by omega) (by omega)))))
  have outer : ∀ (n : Nat) (q : Int), 0 ≤ q → q ≤ 4 → 4 - q < n → wX_binomialHolds_2 post (hs_e k) (hs_e h) (hs_e c) (hs_e S) (hs_e F) (hs_e P) (hs_e lr) (hs_e ll) (hs_e lR) (hs_e lu) (hs_e ln) (hs_e pr) (hs_e pc) (hs_e pn) (hs_e pb) (hs_e tr) (hs_e tc) (hs_e tn) (hs_e tu) (hs_e ni) (hs_e nn) (hs_e wi) n (hs_i q) := by
    intro n
    induction n with
    | zero => intro q a b c; omega
    | succ n ih =>
      intro q q0 q1 hn
      refine hs_le 4 q (fun _ => ⟨25, ?_⟩) (fun z => hs_treesH q0 (by omega) (hB q q0 (by omega)) hP hR (hc q q0 (by omega)) (br_f (by decide) (nm_r (hs_1 q) (ih (q + 1) (by omega) (by omega) (by omega)))))
      rw [← hs_l0]; exact items 25 0 (by omega) (by omega) (by omega)
  unfold wpX_binomialHolds
  dsimp only
  refine ⟨5, ?_⟩
  rw [← hs_l0]
  exact outer 5 0 (by omega) (by omega) (by omega)
theorem hs_tourH {post : Int32 → Prop} {k h c S F P lr ll lR lu ln pr pc pn pb tr tc tn tu ni nn wi : Int → Int} (kr : hs_kr k) (hh : hs_rg h 24 (-1) 3) (hT : hs_TA (hs_K k) h wi) (hR : hs_rg wi 192 (-1) 23) (hp : post 1) :
    wpX_tournamentsHold post (hs_e k, hs_e h, hs_e c, hs_e S, hs_e F, hs_e P, hs_e lr, hs_e ll, hs_e lR, hs_e lu, hs_e ln, hs_e pr, hs_e pc, hs_e pn, hs_e pb, hs_e tr, hs_e tc, hs_e tn, hs_e tu, hs_e ni, hs_e nn, hs_e wi) := by
  have nodes : ∀ (J : Int32 → Prop) (q : Int), 0 ≤ q → q ≤ 3 → J (hs_i (q + 1)) → ∀ (n : Nat) (i : Int), 1 ≤ i → i ≤ 24 → 24 - i < n → wX_tournamentsHold_63 post J (hs_i q) (hs_i (q * 48)) (hs_e k) (hs_e h) (hs_e c) (hs_e S) (hs_e F) (hs_e P) (hs_e lr) (hs_e ll) (hs_e lR) (hs_e lu) (hs_e ln) (hs_e pr) (hs_e pc) (hs_e pn) (hs_e pb) (hs_e tr) (hs_e tc) (hs_e tn) (hs_e tu) (hs_e ni) (hs_e nn) (hs_e wi) n (hs_i i) := by
    intro J q q0 q1 hJ n
    induction n with
    | zero => intro i a b c; omega
    | succ n ih =>
      intro i i0 i1 hn
      refine hs_le 24 i (fun _ => nm_r (hs_1 q) hJ) (fun z => ?_)
      have r1 := hR (q * 48 + 2 * i) (by omega) (by omega)
      have r2 := hR (q * 48 + 2 * i + 1) (by omega) (by omega)
      have e := (hT q q0 q1).2 i i0 z
      unfold hs_eqn at e
      rw [hs_2m, hs_add, hs_1, hs_add]
      refine ⟨hs_in (by omega) (by omega) (by decide), hs_in (by omega) (by omega) (by decide), ?_⟩
      rw [hs_get (A := wi) (x := q * 48 + 2 * i) (by omega) (by omega), hs_get (A := wi) (x := q * 48 + 2 * i + 1) (by omega) (by omega), hs_get (A := wi) (x := q * 48 + i) (by omega) (by omega)]
      refine hs_bet kr r1.1 (by omega) r2.1 (by omega) ⟨hs_in (by omega) (by omega) (by decide), ?_⟩
      rw [e]
      exact br_t rfl (nm_r (hs_1 i) (ih (i + 1) (by omega) (by omega) (by omega)))
  have leaves : ∀ (J : Int32 → Prop) (q : Int), 0 ≤ q → q ≤ 3 → J (hs_i (q + 1)) → ∀ (n : Nat) (i : Int), 0 ≤ i → i ≤ 24 → 24 - i < n → wX_tournamentsHold_14 post J (hs_i q) (hs_i (q * 48)) (hs_e k) (hs_e h) (hs_e c) (hs_e S) (hs_e F) (hs_e P) (hs_e lr) (hs_e ll) (hs_e lR) (hs_e lu) (hs_e ln) (hs_e pr) (hs_e pc) (hs_e pn) (hs_e pb) (hs_e tr) (hs_e tc) (hs_e tn) (hs_e tu) (hs_e ni) (hs_e nn) (hs_e wi) n (hs_i i) := by
    intro J q q0 q1 hJ n
    induction n with
    | zero => intro i a b c; omega
    | succ n ih =>
      intro i i0 i1 hn
      refine hs_le 24 i (fun _ => ⟨25, ?_⟩) (fun z => ⟨hs_in i0 (by omega) (by decide), ?_⟩)
      · rw [← hs_l1]
        exact nodes J q q0 q1 hJ 25 1 (by omega) (by omega) (by omega)
      · have r := hh i i0 z
        have e := (hT q q0 q1).1 i i0 z
        have go : ∀ x : Int, wi (q * 48 + 24 + i) = x → wX_tournamentsHold_35 post J (wX_tournamentsHold_14 post J (hs_i q) (hs_i (q * 48)) (hs_e k) (hs_e h) (hs_e c) (hs_e S) (hs_e F) (hs_e P) (hs_e lr) (hs_e ll) (hs_e lR) (hs_e lu) (hs_e ln) (hs_e pr) (hs_e pc) (hs_e pn) (hs_e pb) (hs_e tr) (hs_e tc) (hs_e tn) (hs_e tu) (hs_e ni) (hs_e nn) (hs_e wi) n) (hs_i q) (hs_i (q * 48)) (hs_i i) (hs_i x) (hs_e k) (hs_e h) (hs_e c) (hs_e S) (hs_e F) (hs_e P) (hs_e lr) (hs_e ll) (hs_e lR) (hs_e lu) (hs_e ln) (hs_e pr) (hs_e pc) (hs_e pn) (hs_e pb) (hs_e tr) (hs_e tc) (hs_e tn) (hs_e tu) (hs_e ni) (hs_e nn) (hs_e wi) := by
          intro x hx
          unfold wX_tournamentsHold_35
          rw [show (24 : Int32) = hs_i 24 from by decide, hs_add, hs_add]
          refine ⟨hs_in (by omega) (by omega) (by decide), ?_⟩
          rw [hs_get (A := wi) (by omega) (by omega), hx]
          exact br_t rfl (nm_r (hs_1 i) (ih (i + 1) (by omega) (by omega) (by omega)))
        rw [hs_get (A := h) i0 (by omega)]
        refine hs_eq (h i) q (fun y => ?_) (fun y => ?_)
        · rw [if_pos y] at e; exact go i e
        · rw [if_neg y] at e; rw [← hs_lm1]; exact go (-1) e
  have outer : ∀ (n : Nat) (q : Int), 0 ≤ q → q ≤ 4 → 4 - q < n → wX_tournamentsHold_2 post (hs_e k) (hs_e h) (hs_e c) (hs_e S) (hs_e F) (hs_e P) (hs_e lr) (hs_e ll) (hs_e lR) (hs_e lu) (hs_e ln) (hs_e pr) (hs_e pc) (hs_e pn) (hs_e pb) (hs_e tr) (hs_e tc) (hs_e tn) (hs_e tu) (hs_e ni) (hs_e nn) (hs_e wi) n (hs_i q) := by
    intro n
    induction n with
    | zero => intro q a b c; omega
    | succ n ih =>
      intro q q0 q1 hn
      refine hs_le 4 q (fun _ => hp) (fun z => nm_r (hs_m48 q) ⟨25, ?_⟩)
      rw [← hs_l0]
      exact leaves _ q q0 (by omega) (ih (q + 1) (by omega) (by omega) (by omega)) 25 0 (by omega) (by omega) (by omega)
  unfold wpX_tournamentsHold
  dsimp only
  refine ⟨5, ?_⟩
  rw [← hs_l0]
  exact outer 5 0 (by omega) (by omega) (by omega)
theorem hs_sound {post : Int32 → Prop} {k h c S F P lr ll lR lu ln pr pc pn pb tr tc tn tu ni nn wi : Int → Int} (kr : hs_kr k) (hh : hs_rg h 24 (-1) 3) (hc : ∀ q, 0 ≤ q → q ≤ 3 → c q = hs_c h q) (E : hs_EN (hs_K k) h S F P lr ll lR lu ln pr pc pn pb tr tc tn tu ni nn wi) (hp : post 1) : wpX_sound post (hs_e k, hs_e h, hs_e c, hs_e S, hs_e F, hs_e P, hs_e lr, hs_e ll, hs_e lR, hs_e lu, hs_e ln, hs_e pr, hs_e pc, hs_e pn, hs_e pb, hs_e tr, hs_e tc, hs_e tn, hs_e tu, hs_e ni, hs_e nn, hs_e wi) := by
  have one : ¬ (1 : Int32) = 0 := by decide
  unfold wpX_sound
  dsimp only
  refine hs_links E hh (br_f one (hs_book kr hh hc (br_f one ⟨3, ?_⟩)))
  obtain ⟨⟨a0, a1, a2⟩, ⟨l0, l1, l2⟩, ⟨p0, p1⟩, ⟨b0, b1, b2⟩, ⟨t0, t1⟩⟩ := E
  rw [← hs_l0]
  refine hs_le 2 0 (fun z => absurd z (by decide)) (fun _ => hs_arrH kr (by omega) (by omega) a0 hc (br_f one (hs_leanH kr (by omega) (by omega) hh l0 l2 hc (br_f one (nm_r (e' := hs_i 1) (by decide) ?_)))))
  refine hs_le 2 1 (fun z => absurd z (by decide)) (fun _ => hs_arrH kr (by omega) (by omega) a1 hc (br_f one (hs_leanH kr (by omega) (by omega) hh l1 l2 hc (br_f one (nm_r (e' := hs_i 2) (by decide) ?_)))))
  exact hs_le 2 2 (fun _ => hs_pairH kr hh p0 p1 hc (br_f one (hs_binH kr hh b0 b1 b2 hc (br_f one (hs_tourH kr hh t0 t1 (br_f one hp)))))) (fun z => absurd z (by decide))
end HS37
