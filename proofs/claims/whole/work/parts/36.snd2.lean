section HS36
/-! sound: leaning trees and pairing heap -/
theorem hs_mn_c {K h : Int → Int} {q r : Int} (m : hs_mn K h q r) : (r = -1 ↔ hs_c h q = 0) := by
  have cr := hs_c_r h q
  constructor
  · intro e
    rcases m with x | x
    · apply Classical.byContradiction
      intro y
      obtain ⟨i, a, b, c⟩ := hs_c_ex (H := h) (q := q) (by omega)
      exact x.2 i a b c
    · omega
  · intro e
    rcases m with x | x
    · exact x.1
    · exact absurd x.2.2.1 (hs_c_0 e x.1 x.2.1)
theorem hs_leanC {post : Int32 → Prop} {k h c S F P lr ll lR lu ln pr pc pn pb tr tc tn tu ni nn wi : Int → Int} {w q i d : Int} (kr : hs_kr k) (hw : 0 ≤ w) (hw' : w ≤ 1) (hh : hs_rg h 24 (-1) 3) (i0 : 0 ≤ i) (i1 : i < 24) (hi : h i = q)
    (hd : d = -1 ∨ (hs_LD h w q d ∧ lu d = w * 24 + i ∧ hs_Lk (hs_K k) w (w * 24 + i) < hs_Lk (hs_K k) w d)) (hp : post 1) : wpX_leaningChildHolds post (hs_e k, hs_e h, hs_e c, hs_e S, hs_e F, hs_e P, hs_e lr, hs_e ll, hs_e lR, hs_e lu, hs_e ln, hs_e pr, hs_e pc, hs_e pn, hs_e pb, hs_e tr, hs_e tc, hs_e tn, hs_e tu, hs_e ni, hs_e nn, hs_e wi) (hs_i w) (hs_i i) (hs_i d) := by
  have db : -1 ≤ d ∧ d < 48 := by
    rcases hd with x | x
    · omega
    · have := x.1.1; have := x.1.2.1; omega
  unfold wpX_leaningChildHolds
  dsimp only
  refine hs_eq d (-1) (fun _ => hp) (fun z => ?_)
  obtain ⟨d1, d2, d3⟩ := hd.resolve_left z
  have r1 := d1.1
  have r2 := d1.2.1
  refine nm_r (hs_m24 w) (nm_r (hs_sub _ _) (hs_isI (by omega) (fun _ _ => br_f (by decide) ⟨hs_in (by omega) (by omega) (by decide), ?_⟩) (fun y => absurd ⟨by omega, by omega⟩ y)))
  rw [hs_get (A := lu) (by omega) (by omega), hs_add, d2]
  refine br_t rfl ⟨hs_in (by omega) (by omega) (by decide), hs_in i0 (by omega) (by decide), ?_⟩
  rw [hs_get (A := h) (x := d - w * 24) (by omega) (by omega), hs_get (A := h) (x := i) i0 (by omega), d1.2.2, hi]
  refine br_t rfl (hs_cb kr i0 i1 (by omega) (by omega) (fun _ => br_f (by decide) hp) (fun g => ?_))
  unfold hs_Lk at d3
  rw [show w * 24 + i - w * 24 = i by omega] at d3
  exact absurd d3 g
theorem hs_leanI {post : Int32 → Prop} {k h c S F P lr ll lR lu ln pr pc pn pb tr tc tn tu ni nn wi : Int → Int} {w q i : Int} (kr : hs_kr k) (hw : 0 ≤ w) (hw' : w ≤ 1) (hh : hs_rg h 24 (-1) 3) (hq : 0 ≤ q) (hq' : q ≤ 3) (i0 : 0 ≤ i) (i1 : i < 24) (hi : h i = q)
    (hT : hs_LT (hs_K k) h lr ll lR lu ln w q) (hp : post 1) : wpX_leaningItemHolds post (hs_e k, hs_e h, hs_e c, hs_e S, hs_e F, hs_e P, hs_e lr, hs_e ll, hs_e lR, hs_e lu, hs_e ln, hs_e pr, hs_e pc, hs_e pn, hs_e pb, hs_e tr, hs_e tc, hs_e tn, hs_e tu, hs_e ni, hs_e nn, hs_e wi) (hs_i w) (hs_i i) := by
  obtain ⟨t1, t2, t3, t4⟩ := hT
  have hm := hs_LD_m (H := h) (q := q) hw
  have hD : hs_LD h w q (w * 24 + i) := ⟨by omega, by omega, by rw [show w * 24 + i - w * 24 = i by omega]; exact hi⟩
  have kid : ∀ n, hs_LD h w q n → lu n = w * 24 + i → hs_Lk (hs_K k) w (w * 24 + i) < hs_Lk (hs_K k) w n := by
    intro n hn z
    rcases (t1 n hn).2 with v | v
    · rw [z] at v; exact absurd v (hm _ hD)
    · rw [z] at v; exact v.2.2.1
  obtain ⟨c1, c2, c3⟩ := (t1 _ hD).1 (hm _ hD)
  have up := (t1 _ hD).2
  unfold wpX_leaningItemHolds
  dsimp only
  refine nm_r (hs_m24 w) (nm_r (hs_add _ _) ?_)
  have tk := fun z => t4 z _ hD
  have t2' := t2 _ hD
  have e0 : w * 24 + i - w * 24 = i := by omega
  generalize hE : w * 24 + i = e at *
  have e1 := hD.1
  have e2 := hD.2.1
  have lb : -1 ≤ ll e ∧ ll e < 48 := by
    rcases c1 with x | x
    · omega
    · have := x.1.1; have := x.1.2.1; omega
  have rb : -1 ≤ lR e ∧ lR e < 48 := by
    rcases c2 with x | x
    · omega
    · have := x.1.1; have := x.1.2.1; omega
  have ub : -1 ≤ lu e ∧ lu e < 48 := by
    rcases up with x | x
    · omega
    · have := x.1.1; have := x.1.2.1; omega
  have lc : ll e = -1 ∨ (hs_LD h w q (ll e) ∧ lu (ll e) = w * 24 + i ∧ hs_Lk (hs_K k) w (w * 24 + i) < hs_Lk (hs_K k) w (ll e)) := by
    rcases c1 with x | x
    · exact Or.inl x
    · rw [hE]; exact Or.inr ⟨x.1, x.2, kid _ x.1 x.2⟩
  have rc : lR e = -1 ∨ (hs_LD h w q (lR e) ∧ lu (lR e) = w * 24 + i ∧ hs_Lk (hs_K k) w (w * 24 + i) < hs_Lk (hs_K k) w (lR e)) := by
    rcases c2 with x | x
    · exact Or.inl x
    · rw [hE]; exact Or.inr ⟨x.1, x.2, kid _ x.1 x.2⟩
  have last : wX_leaningItemHolds_106 post (hs_i w) (hs_i i) (hs_i e) (hs_e k) (hs_e h) (hs_e c) (hs_e S) (hs_e F) (hs_e P) (hs_e lr) (hs_e ll) (hs_e lR) (hs_e lu) (hs_e ln) (hs_e pr) (hs_e pc) (hs_e pn) (hs_e pb) (hs_e tr) (hs_e tc) (hs_e tn) (hs_e tu) (hs_e ni) (hs_e nn) (hs_e wi) := by
    unfold wX_leaningItemHolds_106
    refine hs_rd e rfl (by omega) (by omega) (by decide) (hs_eq (lu e) (-1) (fun z => ⟨hs_in i0 (by omega) (by decide), ?_⟩) (fun z => ⟨hs_in (by omega) (by omega) (by decide), ?_⟩))
    · rw [hs_get (A := h) i0 (by omega), hi, hs_x4]
      refine ⟨hs_in (by omega) (by omega) (by decide), ?_⟩
      rw [hs_get (A := lr) (by omega) (by omega), t2' z]
      exact br_t rfl hp
    · obtain ⟨u1, u2, u3, u4⟩ := up.resolve_left z
      have v1 := u1.1
      have v2 := u1.2.1
      have llb : -1 ≤ ll (lu e) ∧ ll (lu e) < 48 := by
        rcases (hs_LO_ch t1 u1 u2).1 with x | x
        · omega
        · have := x.1; have := x.2.1; omega
      have lRb : -1 ≤ lR (lu e) ∧ lR (lu e) < 48 := by
        rcases (hs_LO_ch t1 u1 u2).2 with x | x
        · omega
        · have := x.1; have := x.2.1; omega
      rw [hs_get (A := ll) (by omega) (by omega)]
      refine hs_eq (ll (lu e)) e (fun _ => hp) (fun y => ⟨hs_in (by omega) (by omega) (by decide), ?_⟩)
      rw [hs_get (A := lR) (by omega) (by omega)]
      exact hs_eq (lR (lu e)) e (fun _ => hp) (fun x => absurd (u4.resolve_left y) x)
  have mid : wX_leaningItemHolds_67 post (hs_i w) (hs_i i) (hs_i e) (hs_i (ll e)) (hs_i (lR e)) (hs_e k) (hs_e h) (hs_e c) (hs_e S) (hs_e F) (hs_e P) (hs_e lr) (hs_e ll) (hs_e lR) (hs_e lu) (hs_e ln) (hs_e pr) (hs_e pc) (hs_e pn) (hs_e pb) (hs_e tr) (hs_e tc) (hs_e tn) (hs_e tu) (hs_e ni) (hs_e nn) (hs_e wi) := by
    unfold wX_leaningItemHolds_67
    refine hs_eq w 0 (fun z => ?_) (fun _ => last)
    have K := tk z
    refine hs_rko (by omega) (hs_rko (by omega) (br_f K.1 ⟨hs_in (by omega) (by omega) (by decide), hs_rko (by omega) ?_⟩))
    rw [hs_get (A := ln) (by omega) (by omega), hs_1, K.2]
    exact br_t rfl last
  refine hs_rd e rfl (by omega) (by omega) (by decide) (hs_rd e rfl (by omega) (by omega) (by decide) ?_)
  refine hs_leanC (q := q) kr hw hw' hh i0 i1 hi lc (br_f (by decide) (hs_leanC (q := q) kr hw hw' hh i0 i1 hi rc (br_f (by decide) ?_)))
  exact hs_eq (ll e) (-1) (fun _ => mid) (fun z => hs_eq (ll e) (lR e) (fun y => absurd (c3 y) z) (fun _ => mid))
theorem hs_leanH {post : Int32 → Prop} {k h c S F P lr ll lR lu ln pr pc pn pb tr tc tn tu ni nn wi : Int → Int} {w : Int} (kr : hs_kr k) (hw : 0 ≤ w) (hw' : w ≤ 1) (hh : hs_rg h 24 (-1) 3) (hL : hs_LL (hs_K k) h lr ll lR lu ln w) (hR : hs_LR lr ll lR lu) (hc : ∀ q, 0 ≤ q → q ≤ 3 → c q = hs_c h q) (hp : post 1) :
    wpX_leaningHolds post (hs_e k, hs_e h, hs_e c, hs_e S, hs_e F, hs_e P, hs_e lr, hs_e ll, hs_e lR, hs_e lu, hs_e ln, hs_e pr, hs_e pc, hs_e pn, hs_e pb, hs_e tr, hs_e tc, hs_e tn, hs_e tu, hs_e ni, hs_e nn, hs_e wi) (hs_i w) := by
  have items : ∀ (n : Nat) (i : Int), 0 ≤ i → i ≤ 24 → 24 - i < n → wX_leaningHolds_53 post (hs_i w) (hs_e k) (hs_e h) (hs_e c) (hs_e S) (hs_e F) (hs_e P) (hs_e lr) (hs_e ll) (hs_e lR) (hs_e lu) (hs_e ln) (hs_e pr) (hs_e pc) (hs_e pn) (hs_e pb) (hs_e tr) (hs_e tc) (hs_e tn) (hs_e tu) (hs_e ni) (hs_e nn) (hs_e wi) n (hs_i i) := by
    intro n
    induction n with
    | zero => intro i a b c; omega
    | succ n ih =>
      intro i i0 i1 hn
      refine hs_le 24 i (fun _ => hp) (fun z => ⟨hs_in i0 (by omega) (by decide), ?_⟩)
      have r := hh i i0 z
      rw [hs_get (A := h) i0 (by omega)]
      exact hs_eq (h i) (-1) (fun _ => nm_r (hs_1 i) (ih (i + 1) (by omega) (by omega) (by omega))) (fun y => hs_leanI kr hw hw' hh (by omega) r.2 i0 z rfl (hL (h i) (by omega) r.2) (br_f (by decide) (nm_r (hs_1 i) (ih (i + 1) (by omega) (by omega) (by omega)))))
  have outer : ∀ (n : Nat) (q : Int), 0 ≤ q → q ≤ 4 → 4 - q < n → wX_leaningHolds_2 post (hs_i w) (hs_e k) (hs_e h) (hs_e c) (hs_e S) (hs_e F) (hs_e P) (hs_e lr) (hs_e ll) (hs_e lR) (hs_e lu) (hs_e ln) (hs_e pr) (hs_e pc) (hs_e pn) (hs_e pb) (hs_e tr) (hs_e tc) (hs_e tn) (hs_e tu) (hs_e ni) (hs_e nn) (hs_e wi) n (hs_i q) := by
    intro n
    induction n with
    | zero => intro q a b c; omega
    | succ n ih =>
      intro q q0 q1 hn
      refine hs_le 4 q (fun _ => ⟨25, ?_⟩) (fun z => ?_)
      · rw [← hs_l0]; exact items 25 0 (by omega) (by omega) (by omega)
      · have cr := hs_c_r h q
        have m := hs_mn_c (hs_LT_mn hw (hL q q0 (by omega)))
        have r := hR.1 (w * 4 + q) (by omega) (by omega)
        have nx := ih (q + 1) (by omega) (by omega) (by omega)
        have t3 := (hL q q0 (by omega)).2.2.1
        rw [hs_x4]
        refine ⟨hs_in (by omega) (by omega) (by decide), ?_⟩
        rw [hs_get (A := lr) (by omega) (by omega)]
        refine hs_eq (lr (w * 4 + q)) (-1) (fun y => ?_) (fun y => ?_)
        · rw [if_pos y] at m
          unfold wX_leaningHolds_26
          refine ⟨hs_in q0 (by omega) (by decide), ?_⟩
          rw [hs_get (A := c) q0 (by omega), hc q q0 (by omega)]
          refine hs_eq (hs_c h q) 0 (fun _ => ?_) (fun x => absurd (m.mp rfl) x)
          unfold wX_leaningHolds_40
          exact br_t rfl (nm_r (hs_1 q) nx)
        · rw [if_neg y] at m
          unfold wX_leaningHolds_26
          refine ⟨hs_in q0 (by omega) (by decide), ?_⟩
          rw [hs_get (A := c) q0 (by omega), hc q q0 (by omega)]
          refine hs_eq (hs_c h q) 0 (fun x => ?_) (fun x => ?_)
          · have := m.mpr x
            rcases t3 with u | u
            · exact absurd u y
            · have := u.1.1; omega
          · unfold wX_leaningHolds_40
            exact br_t rfl (nm_r (hs_1 q) nx)
  unfold wpX_leaningHolds
  dsimp only
  refine ⟨5, ?_⟩
  rw [← hs_l0]
  exact outer 5 0 (by omega) (by omega) (by omega)
theorem hs_pairL {post : Int32 → Prop} {k h c S F P lr ll lR lu ln pr pc pn pb tr tc tn tu ni nn wi : Int → Int} {q i d : Int} (i0 : 0 ≤ i) (i1 : i < 24) (hi : h i = q) (hd : d = -1 ∨ (hs_PD h q d ∧ pb d = i)) (hp : post 1) :
    wpX_pairingLinkHolds post (hs_e k, hs_e h, hs_e c, hs_e S, hs_e F, hs_e P, hs_e lr, hs_e ll, hs_e lR, hs_e lu, hs_e ln, hs_e pr, hs_e pc, hs_e pn, hs_e pb, hs_e tr, hs_e tc, hs_e tn, hs_e tu, hs_e ni, hs_e nn, hs_e wi) (hs_i i) (hs_i d) := by
  have db : -1 ≤ d ∧ d < 24 := by
    rcases hd with x | x
    · omega
    · have := x.1.1; have := x.1.2.1; omega
  unfold wpX_pairingLinkHolds
  dsimp only
  refine hs_eq d (-1) (fun _ => hp) (fun z => ?_)
  obtain ⟨d1, d2⟩ := hd.resolve_left z
  have r1 := d1.1
  have r2 := d1.2.1
  refine ⟨hs_in r1 (by omega) (by decide), ?_⟩
  rw [hs_get (A := pb) r1 (by omega), d2]
  refine br_t rfl ⟨hs_in r1 (by omega) (by decide), hs_in i0 (by omega) (by decide), ?_⟩
  rw [hs_get (A := h) (x := d) r1 (by omega), hs_get (A := h) (x := i) i0 (by omega), d1.2.2, hi]
  exact br_t rfl hp
theorem hs_pairP {post : Int32 → Prop} {k h c S F P lr ll lR lu ln pr pc pn pb tr tc tn tu ni nn wi G O : Int → Int} {q i : Int} (hO : hs_PO (hs_PD h q) (hs_K k) G O pc pn pb (-1) (-1)) (hi : hs_PD h q i) (gi : G i ≠ -1) (hp : post (hs_i (G i))) :
    wpX_pairParentOf post (hs_e k, hs_e h, hs_e c, hs_e S, hs_e F, hs_e P, hs_e lr, hs_e ll, hs_e lR, hs_e lu, hs_e ln, hs_e pr, hs_e pc, hs_e pn, hs_e pb, hs_e tr, hs_e tc, hs_e tn, hs_e tu, hs_e ni, hs_e nn, hs_e wi) (hs_i i) := by
  have hm := hs_PD_m (H := h) (q := q)
  have loop : ∀ (n : Nat) (j st : Int), hs_PD h q j → G j = G i → 0 ≤ st → st ≤ hs_rk O j → 24 - st < n → wX_pairParentOf_4 post (hs_e k) (hs_e h) (hs_e c) (hs_e S) (hs_e F) (hs_e P) (hs_e lr) (hs_e ll) (hs_e lR) (hs_e lu) (hs_e ln) (hs_e pr) (hs_e pc) (hs_e pn) (hs_e pb) (hs_e tr) (hs_e tc) (hs_e tn) (hs_e tu) (hs_e ni) (hs_e nn) (hs_e wi) n (hs_i j) (hs_i st) := by
    intro n
    induction n with
    | zero =>
      intro j st hj _ _ s1 hn
      have := hs_rk_r O (i := j) hj.1 hj.2.1
      omega
    | succ n ih =>
      intro j st hj gj s0 s1 hn
      have rk := hs_rk_r O (i := j) hj.1 hj.2.1
      have j0 := hj.1
      have j1 := hj.2.1
      refine hs_le 24 st (fun z => absurd z (by omega)) (fun _ => hs_rd j rfl j0 (by omega) (by decide) ?_)
      obtain ⟨g1, g2, g3⟩ := ((hO j hj).2.2).resolve_left (fun z => gi (gj.symm.trans z))
      have g3 := g3.resolve_left (hm j hj)
      have bD : hs_PD h q (pb j) := by
        rcases g3 with x | x
        · rw [x.1]; exact g1
        · exact x.1
      have b0 := bD.1
      have b1 := bD.2.1
      have cb : -1 ≤ pc (pb j) ∧ pc (pb j) < 24 := by
        rcases (hO _ bD).1 (hm _ bD) with x | x
        · omega
        · have := x.1.1; have := x.1.2.1; omega
      refine hs_eq (pb j) (-1) (fun z => absurd z (by omega)) (fun z => ⟨hs_in b0 (by omega) (by decide), ?_⟩)
      rw [hs_get (A := pc) b0 (by omega)]
      refine hs_eq (pc (pb j)) j (fun y => ?_) (fun y => ?_)
      · have e : pb j = G i := by
          rcases (hO _ bD).1 (hm _ bD) with x | x
          · rw [y] at x; omega
          · rw [y] at x; rw [← x.2.1]; exact gj
        rw [e]; exact hp
      · have x := g3.resolve_left (fun v => y (by rw [v.1]; exact v.2.2))
        refine nm_r (hs_1 st) (ih (pb j) (st + 1) bD (x.2.1.trans gj) (by omega) ?_ (by omega))
        have w := (hO _ bD).2.1 (by rw [x.2.1, gj]; exact gi)
        rw [x.2.2] at w
        have w := w.resolve_left (hm j hj)
        have := hs_rk_lt (f := O) (i := j) (j := pb j) j0 j1 w.2.2.2
        omega
  unfold wpX_pairParentOf
  dsimp only
  refine ⟨25, ?_⟩
  rw [← hs_l0]
  exact loop 25 i 0 hi rfl (by omega) (hs_rk_r O hi.1 hi.2.1).1 (by omega)
theorem hs_pairI {post : Int32 → Prop} {k h c S F P lr ll lR lu ln pr pc pn pb tr tc tn tu ni nn wi : Int → Int} {q i : Int} (kr : hs_kr k) (hq : 0 ≤ q) (hq' : q ≤ 3) (i0 : 0 ≤ i) (i1 : i < 24) (hi : h i = q) (hT : hs_PT (hs_K k) h pr pc pn pb q) (hp : post 1) :
    wpX_pairingItemHolds post (hs_e k, hs_e h, hs_e c, hs_e S, hs_e F, hs_e P, hs_e lr, hs_e ll, hs_e lR, hs_e lu, hs_e ln, hs_e pr, hs_e pc, hs_e pn, hs_e pb, hs_e tr, hs_e tc, hs_e tn, hs_e tu, hs_e ni, hs_e nn, hs_e wi) (hs_i i) := by
  obtain ⟨G, O, t1, t2, t3⟩ := hT
  have hm := hs_PD_m (H := h) (q := q)
  have iD : hs_PD h q i := ⟨i0, i1, hi⟩
  obtain ⟨c1, c2, c3⟩ := t1 i iD
  have c1 := c1 (hm i iD)
  -- next of a root is none
  have nx : pn i = -1 ∨ (hs_PD h q (pn i) ∧ pb (pn i) = i ∧ G (pn i) = G i ∧ G i ≠ -1) := by
    by_cases g : G i = -1
    · left
      have e := t2 i iD g
      rcases t3 with x | x
      · rw [e] at x; exact absurd x (hm i iD)
      · rw [e] at x; exact x.2.2.2
    · rcases c2 g with x | x
      · exact Or.inl x
      · exact Or.inr ⟨x.1, x.2.2.1, x.2.1, g⟩
  have cb : -1 ≤ pc i ∧ pc i < 24 := by
    rcases c1 with x | x
    · omega
    · have := x.1.1; have := x.1.2.1; omega
  have nb : -1 ≤ pn i ∧ pn i < 24 := by
    rcases nx with x | x
    · omega
    · have := x.1.1; have := x.1.2.1; omega
  have ne : pc i ≠ -1 → pc i ≠ pn i := by
    intro z y
    have x := c1.resolve_left z
    rw [y] at x z
    have v := nx.resolve_left z
    have e : G i = i := v.2.2.1.symm.trans x.2.1
    rcases c3 with u | u
    · exact v.2.2.2 u
    · rw [e] at u; omega
  have bk : (G i = -1 ∧ pb i = -1) ∨ (G i ≠ -1 ∧ hs_PD h q (pb i) ∧ (pc (pb i) = i ∨ pn (pb i) = i)) := by
    by_cases g : G i = -1
    · left
      refine ⟨g, ?_⟩
      have e := t2 i iD g
      rcases t3 with x | x
      · rw [e] at x; exact absurd x (hm i iD)
      · rw [e] at x; exact x.2.2.1
    · right
      obtain ⟨d1, d2, d3⟩ := c3.resolve_left g
      rcases d3.resolve_left (hm i iD) with x | x
      · exact ⟨g, by rw [x.1]; exact d1, Or.inl (by rw [x.1]; exact x.2.2)⟩
      · exact ⟨g, x.1, Or.inr x.2.2⟩
  have bb : -1 ≤ pb i ∧ pb i < 24 := by
    rcases bk with x | x
    · have := x.2; omega
    · have := x.2.1.1; have := x.2.1.2.1; omega
  have par : G i ≠ -1 → wX_pairingItemHolds_110 post (hs_i i) (hs_e k) (hs_e h) (hs_e c) (hs_e S) (hs_e F) (hs_e P) (hs_e lr) (hs_e ll) (hs_e lR) (hs_e lu) (hs_e ln) (hs_e pr) (hs_e pc) (hs_e pn) (hs_e pb) (hs_e tr) (hs_e tc) (hs_e tn) (hs_e tu) (hs_e ni) (hs_e nn) (hs_e wi) := by
    intro g
    obtain ⟨d1, d2, _⟩ := c3.resolve_left g
    unfold wX_pairingItemHolds_110
    refine hs_pairP t1 iD g ?_
    have r1 := d1.1
    have r2 := d1.2.1
    refine hs_eq (G i) (-1) (fun z => absurd z g) (fun _ => hs_cb kr r1 r2 i0 i1 (fun _ => br_f (by decide) hp) (fun z => absurd d2 z))
  have mid : wX_pairingItemHolds_46 post (hs_i i) (hs_i (pn i)) (hs_e k) (hs_e h) (hs_e c) (hs_e S) (hs_e F) (hs_e P) (hs_e lr) (hs_e ll) (hs_e lR) (hs_e lu) (hs_e ln) (hs_e pr) (hs_e pc) (hs_e pn) (hs_e pb) (hs_e tr) (hs_e tc) (hs_e tn) (hs_e tu) (hs_e ni) (hs_e nn) (hs_e wi) := by
    unfold wX_pairingItemHolds_46
    refine hs_rd i rfl i0 (by omega) (by decide) (hs_eq (pb i) (-1) (fun z => ⟨hs_in i0 (by omega) (by decide), ?_⟩) (fun z => ?_))
    · have g : G i = -1 := by
        rcases bk with x | x
        · exact x.1
        · exact absurd z (hm _ x.2.1)
      rw [hs_get (A := h) i0 (by omega), hi]
      refine ⟨hs_in hq (by omega) (by decide), ?_⟩
      rw [hs_get (A := pr) hq (by omega), t2 i iD g]
      refine br_t rfl (hs_eq (pn i) (-1) (fun _ => hp) (fun y => ?_))
      exact absurd g (nx.resolve_left y).2.2.2
    · obtain ⟨g, bD, bx⟩ := bk.resolve_left (fun x => z x.2)
      have b0 := bD.1
      have b1 := bD.2.1
      have cbb : -1 ≤ pc (pb i) ∧ pc (pb i) < 24 := by
        rcases (t1 _ bD).1 (hm _ bD) with x | x
        · omega
        · have := x.1.1; have := x.1.2.1; omega
      refine ⟨hs_in b0 (by omega) (by decide), ?_⟩
      rw [hs_get (A := pc) b0 (by omega)]
      refine hs_eq (pc (pb i)) i (fun _ => par g) (fun y => ⟨hs_in b0 (by omega) (by decide), ?_⟩)
      rw [hs_get (A := pn) b0 (by omega), bx.resolve_left y]
      exact br_t rfl (par g)
  unfold wpX_pairingItemHolds
  dsimp only
  refine hs_rd i rfl i0 (by omega) (by decide) (hs_rd i rfl i0 (by omega) (by decide) ?_)
  refine hs_pairL (q := q) i0 i1 hi ?_ (br_f (by decide) (hs_pairL (q := q) i0 i1 hi ?_ (br_f (by decide) ?_)))
  · rcases c1 with x | x
    · exact Or.inl x
    · exact Or.inr ⟨x.1, x.2.2⟩
  · rcases nx with x | x
    · exact Or.inl x
    · exact Or.inr ⟨x.1, x.2.1⟩
  · exact hs_eq (pc i) (-1) (fun _ => mid) (fun z => hs_eq (pc i) (pn i) (fun y => absurd y (ne z)) (fun _ => mid))
theorem hs_pairH {post : Int32 → Prop} {k h c S F P lr ll lR lu ln pr pc pn pb tr tc tn tu ni nn wi : Int → Int} (kr : hs_kr k) (hh : hs_rg h 24 (-1) 3) (hL : hs_PA (hs_K k) h pr pc pn pb) (hR : hs_PR pr pc pn pb) (hc : ∀ q, 0 ≤ q → q ≤ 3 → c q = hs_c h q) (hp : post 1) :
    wpX_pairingHolds post (hs_e k, hs_e h, hs_e c, hs_e S, hs_e F, hs_e P, hs_e lr, hs_e ll, hs_e lR, hs_e lu, hs_e ln, hs_e pr, hs_e pc, hs_e pn, hs_e pb, hs_e tr, hs_e tc, hs_e tn, hs_e tu, hs_e ni, hs_e nn, hs_e wi) := by
  have items : ∀ (n : Nat) (i : Int), 0 ≤ i → i ≤ 24 → 24 - i < n → wX_pairingHolds_49 post (hs_e k) (hs_e h) (hs_e c) (hs_e S) (hs_e F) (hs_e P) (hs_e lr) (hs_e ll) (hs_e lR) (hs_e lu) (hs_e ln) (hs_e pr) (hs_e pc) (hs_e pn) (hs_e pb) (hs_e tr) (hs_e tc) (hs_e tn) (hs_e tu) (hs_e ni) (hs_e nn) (hs_e wi) n (hs_i i) := by
    intro n
    induction n with
    | zero => intro i a b c; omega
    | succ n ih =>
      intro i i0 i1 hn
      refine hs_le 24 i (fun _ => hp) (fun z => ⟨hs_in i0 (by omega) (by decide), ?_⟩)
      have r := hh i i0 z
      rw [hs_get (A := h) i0 (by omega)]
      exact hs_eq (h i) (-1) (fun _ => nm_r (hs_1 i) (ih (i + 1) (by omega) (by omega) (by omega))) (fun y => hs_pairI kr (by omega) r.2 i0 z rfl (hL (h i) (by omega) r.2) (br_f (by decide) (nm_r (hs_1 i) (ih (i + 1) (by omega) (by omega) (by omega)))))
  have outer : ∀ (n : Nat) (q : Int), 0 ≤ q → q ≤ 4 → 4 - q < n → wX_pairingHolds_2 post (hs_e k) (hs_e h) (hs_e c) (hs_e S) (hs_e F) (hs_e P) (hs_e lr) (hs_e ll) (hs_e lR) (hs_e lu) (hs_e ln) (hs_e pr) (hs_e pc) (hs_e pn) (hs_e pb) (hs_e tr) (hs_e tc) (hs_e tn) (hs_e tu) (hs_e ni) (hs_e nn) (hs_e wi) n (hs_i q) := by
    intro n
    induction n with
    | zero => intro q a b c; omega
    | succ n ih =>
      intro q q0 q1 hn
      refine hs_le 4 q (fun _ => ⟨25, ?_⟩) (fun z => ?_)
      · rw [← hs_l0]; exact items 25 0 (by omega) (by omega) (by omega)
      · have cr := hs_c_r h q
        have m := hs_mn_c (hs_PT_mn (hL q q0 (by omega)))
        have r := hR.1 q q0 (by omega)
        have nx := ih (q + 1) (by omega) (by omega) (by omega)
        refine ⟨hs_in q0 (by omega) (by decide), ?_⟩
        rw [hs_get (A := pr) q0 (by omega)]
        refine hs_eq (pr q) (-1) (fun y => ?_) (fun y => ?_)
        · unfold wX_pairingHolds_22
          refine ⟨hs_in q0 (by omega) (by decide), ?_⟩
          rw [hs_get (A := c) q0 (by omega), hc q q0 (by omega)]
          refine hs_eq (hs_c h q) 0 (fun _ => ?_) (fun x => absurd (m.mp y) x)
          unfold wX_pairingHolds_36
          exact br_t rfl (nm_r (hs_1 q) nx)
        · unfold wX_pairingHolds_22
          refine ⟨hs_in q0 (by omega) (by decide), ?_⟩
          rw [hs_get (A := c) q0 (by omega), hc q q0 (by omega)]
          refine hs_eq (hs_c h q) 0 (fun x => absurd (m.mpr x) y) (fun x => ?_)
          unfold wX_pairingHolds_36
          exact br_t rfl (nm_r (hs_1 q) nx)
  unfold wpX_pairingHolds
  dsimp only
  refine ⟨5, ?_⟩
  rw [← hs_l0]
  exact outer 5 0 (by omega) (by omega) (by omega)
end HS36
