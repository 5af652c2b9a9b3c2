section HS30
variable {gv1 gv2 gv3 gv4 gv5 gv6 gv7 gv8 gv9 gv10 gv11 gv12 gv13 gv14 gv15 gv16 gv17 gv18 gv19 gv20 gv21 gv22 : Nat → Int32}
def hs_rg (A : Int → Int) (n lo hi : Int) : Prop := ∀ j, 0 ≤ j → j < n → lo ≤ A j ∧ A j ≤ hi
/-! engine 6: the walks -/
def hs_TA (K H W : Int → Int) : Prop := ∀ q, 0 ≤ q → q ≤ 3 → hs_TN K H W q
def hs_fW (W W' : Int → Int) (q : Int) : Prop := ∀ j, W' j = W j ∨ (q * 48 ≤ j ∧ j < q * 48 + 48 ∧ -1 ≤ W' j ∧ W' j ≤ 23)
theorem hs_fW_trans {W W1 W2 : Int → Int} {q : Int} (h : hs_fW W W1 q) (h' : hs_fW W1 W2 q) : hs_fW W W2 q := by
  intro j
  rcases h' j with e | e
  · rcases h j with f | f
    · exact Or.inl (e.trans f)
    · rw [← e] at f; exact Or.inr f
  · exact Or.inr e
theorem hs_fW_u {W : Int → Int} {q p v : Int} (p0 : 0 ≤ p) (p1 : p < 48) (v0 : -1 ≤ v) (v1 : v ≤ 23) : hs_fW W (hs_u W (q * 48 + p) v) q := by
  intro j
  by_cases e : j = q * 48 + p
  · rw [hs_ue e]; exact Or.inr ⟨by omega, by omega, v0, v1⟩
  · exact Or.inl (hs_un e)
theorem hs_fW_rg {W W' : Int → Int} {q : Int} (h : hs_rg W 192 (-1) 23) (hF : hs_fW W W' q) : hs_rg W' 192 (-1) 23 := by
  intro j a b
  rcases hF j with e | e
  · rw [e]; exact h j a b
  · exact e.2.2
theorem hs_TN_keep {K H H' W W' : Int → Int} {q q' : Int} (h : hs_TN K H W q') (hne : q' ≠ q) (hH : ∀ i, 0 ≤ i → i < 24 → (H' i = q' ↔ H i = q')) (hF : hs_fW W W' q) : hs_TN K H' W' q' := by
  refine hs_TN_congr h hH (fun _ _ _ _ => rfl) ?_
  intro n a b
  rcases hF (q' * 48 + n) with e | e
  · exact e
  · omega
theorem hs_seatl {post : SX → Prop} {kk H : Int → Int} {q : Int} (kr : hs_kr kk) (hq : 0 ≤ q) (hq' : q ≤ 3) :
    ∀ (n : Nat) (W : Int → Int) (p st : Int), hs_TS (hs_K kk) H W q p → hs_rg W 192 (-1) 23 → 1 ≤ p → 0 ≤ st → ((st = 0 ∧ p ≤ 47) ∨ (1 ≤ st ∧ p + st ≤ 24)) → 24 - st < n →
    (∀ W' : Int → Int, hs_TN (hs_K kk) H W' q → hs_fW W W' q → post (hs_e kk, gv2, gv3, gv4, gv5, gv6, gv7, gv8, gv9, gv10, gv11, gv12, gv13, gv14, gv15, gv16, gv17, gv18, gv19, gv20, gv21, hs_e W')) →
    wX_seat_26 post (hs_i (q * 48)) n (hs_i p) (hs_i st) (hs_e kk) gv2 gv3 gv4 gv5 gv6 gv7 gv8 gv9 gv10 gv11 gv12 gv13 gv14 gv15 gv16 gv17 gv18 gv19 gv20 gv21 (hs_e W) := by
  intro n
  induction n with
  | zero => intro W p st _ _ p1 s0 hs hn; omega
  | succ n ih =>
    intro W p st hT hR p1 s0 hs hn hK
    refine hs_le 24 st (fun c => absurd c (by omega)) (fun c => hs_le p 1 (fun d => hK W (hs_TS_end hT (by omega) (by omega)) (fun _ => Or.inl rfl)) (fun d => ⟨by decide, nm_r (hs_div2 (by omega) (by omega)) ?_⟩))
    have r1 := hR (q * 48 + 2 * (p / 2)) (by omega) (by omega)
    have r2 := hR (q * 48 + 2 * (p / 2) + 1) (by omega) (by omega)
    rw [hs_2m, hs_add, hs_1, hs_add]
    refine ⟨hs_in (by omega) (by omega) (by decide), hs_in (by omega) (by omega) (by decide), ?_⟩
    rw [hs_get (x := q * 48 + 2 * (p / 2)) (by omega) (by omega), hs_get (x := q * 48 + 2 * (p / 2) + 1) (by omega) (by omega)]
    refine hs_bet kr r1.1 (by omega) r2.1 (by omega) ?_
    refine hs_wr (q * 48 + p / 2) _ rfl rfl (by omega) (by omega) (by decide) (nm_r (hs_1 st) ?_)
    have br : -1 ≤ hs_bt (hs_K kk) (W (q * 48 + 2 * (p / 2))) (W (q * 48 + 2 * (p / 2) + 1)) ∧ hs_bt (hs_K kk) (W (q * 48 + 2 * (p / 2))) (W (q * 48 + 2 * (p / 2) + 1)) ≤ 23 := by
      rcases hs_bt_r (K := hs_K kk) (x := W (q * 48 + 2 * (p / 2))) (y := W (q * 48 + 2 * (p / 2) + 1)) with e | e
      · rw [e]; exact r1
      · rw [e]; exact r2
    have fw := hs_fW_u (W := W) (q := q) (p := p / 2) (by omega) (by omega) br.1 br.2
    refine ih _ (p / 2) (st + 1) (hs_TS_step hT (by omega) (by omega)) (hs_fW_rg hR fw) (by omega) (by omega) (by omega) (by omega) ?_
    intro W' a1 a2
    exact hK W' a1 (hs_fW_trans fw a2)
theorem hs_seat {post : SX → Prop} {kk H H' W : Int → Int} {q x s : Int} (kr : hs_kr kk) (hq : 0 ≤ q) (hq' : q ≤ 3) (x0 : 0 ≤ x) (x1 : x < 24) (h : hs_TN (hs_K kk) H W q) (hR : hs_rg W 192 (-1) 23)
    (hH : ∀ i, 0 ≤ i → i < 24 → i ≠ x → (H' i = q ↔ H i = q)) (hs : s = if H' x = q then x else -1)
    (hK : ∀ W' : Int → Int, hs_TN (hs_K kk) H' W' q → hs_fW W W' q → post (hs_e kk, gv2, gv3, gv4, gv5, gv6, gv7, gv8, gv9, gv10, gv11, gv12, gv13, gv14, gv15, gv16, gv17, gv18, gv19, gv20, gv21, hs_e W')) :
    wpX_seat post (hs_e kk, gv2, gv3, gv4, gv5, gv6, gv7, gv8, gv9, gv10, gv11, gv12, gv13, gv14, gv15, gv16, gv17, gv18, gv19, gv20, gv21, hs_e W) (hs_i q) (hs_i x) (hs_i s) := by
  have sr : -1 ≤ s ∧ s ≤ 23 := by rw [hs]; split <;> omega
  unfold wpX_seat
  dsimp only
  refine nm_r (hs_m48 q) (nm_r (hs_p24 x) (hs_wr (q * 48 + (24 + x)) s (hs_add _ _) rfl (by omega) (by omega) (by decide) ⟨25, ?_⟩))
  rw [← hs_l0]
  have fw := hs_fW_u (W := W) (q := q) (p := 24 + x) (by omega) (by omega) sr.1 sr.2
  refine hs_seatl kr hq hq' 25 _ (24 + x) 0 (hs_TS_start h x0 x1 hH hs) (hs_fW_rg hR fw) (by omega) (by omega) (by omega) (by omega) ?_
  intro W' a1 a2
  exact hK W' a1 (hs_fW_trans fw a2)
theorem hs_jtl {post : SX → Prop} {kk H : Int → Int} {a b : Int} (kr : hs_kr kk) (ha : 0 ≤ a) (ha' : a ≤ 3) (hb : 0 ≤ b) (hb' : b ≤ 3) (hab : a ≠ b) :
    ∀ (n : Nat) (W : Int → Int) (i : Int), hs_TA (hs_K kk) (fun j => if j < i ∧ H j = b then a else H j) W → hs_rg W 192 (-1) 23 → 0 ≤ i → i ≤ 24 → 24 - i < n →
    (∀ W' : Int → Int, hs_TA (hs_K kk) (fun j => if H j = b then a else H j) W' → hs_rg W' 192 (-1) 23 → post (hs_e kk, gv2, gv3, gv4, gv5, gv6, gv7, gv8, gv9, gv10, gv11, gv12, gv13, gv14, gv15, gv16, gv17, gv18, gv19, gv20, gv21, hs_e W')) →
    wX_joinTournaments_2 post (hs_i a) (hs_i b) n (hs_i i) (hs_e kk) gv2 gv3 gv4 gv5 gv6 gv7 gv8 gv9 gv10 gv11 gv12 gv13 gv14 gv15 gv16 gv17 gv18 gv19 gv20 gv21 (hs_e W) := by
  intro n
  induction n with
  | zero => intro W i _ _ a b c; omega
  | succ n ih =>
    intro W i hT hR i0 i1 hn hK
    refine hs_le 24 i (fun c => ?_) (fun c => ?_)
    · refine hK W (fun q q0 q1 => hs_TN_congr (hT q q0 q1) (fun j j0 j1 => ?_) (fun _ _ _ _ => rfl) (fun _ _ _ => rfl)) hR
      by_cases z : H j = b
      · rw [if_pos z, if_pos ⟨by omega, z⟩]
      · rw [if_neg z, if_neg (fun y => z y.2)]
    · have lf := (hT b hb hb').1 i i0 (by omega)
      have Hi : (fun j => if j < i ∧ H j = b then a else H j) i = H i := if_neg (fun y => by omega)
      rw [show (fun j => if j < i ∧ H j = b then a else H j) i = H i from Hi] at lf
      have wr := hR (b * 48 + 24 + i) (by omega) (by omega)
      rw [hs_m48, show (24 : Int32) = hs_i 24 from by decide, hs_add, hs_add]
      refine ⟨hs_in (by omega) (by omega) (by decide), ?_⟩
      rw [hs_get (x := b * 48 + 24 + i) (by omega) (by omega)]
      refine hs_eq (W (b * 48 + 24 + i)) (-1) (fun d => nm_r (hs_1 i) (ih W (i + 1) ?_ hR (by omega) (by omega) (by omega) hK)) (fun d => ?_)
      · intro q q0 q1
        refine hs_TN_congr (hT q q0 q1) (fun j j0 j1 => ?_) (fun _ _ _ _ => rfl) (fun _ _ _ => rfl)
        have hib : H i ≠ b := by
          intro z
          rw [if_pos z] at lf
          omega
        by_cases z : H j = b
        · by_cases y : j < i
          · rw [if_pos ⟨by omega, z⟩, if_pos ⟨y, z⟩]
          · have : j ≠ i := fun e => hib (by rw [← e]; exact z)
            rw [if_neg (fun v => by omega), if_neg (fun v => y v.1)]
        · rw [if_neg (fun v => z v.2), if_neg (fun v => z v.2)]
      · have hib : H i = b := by
          apply Classical.byContradiction
          intro z
          rw [if_neg z] at lf
          exact d lf
        have nxt : ∀ j, 0 ≤ j → j < 24 → ∀ q, ((fun j => if j < i + 1 ∧ H j = b then a else H j) j = q ↔ hs_u (fun j => if j < i ∧ H j = b then a else H j) i a j = q) := by
          intro j j0 j1 q
          by_cases e : j = i
          · rw [hs_ue e]
            have w : (fun j => if j < i + 1 ∧ H j = b then a else H j) j = a := if_pos ⟨by omega, by rw [e]; exact hib⟩
            rw [w]
          · rw [hs_un e]
            by_cases y : j < i
            · by_cases z : H j = b
              · have w1 : (fun j => if j < i + 1 ∧ H j = b then a else H j) j = a := if_pos ⟨by omega, z⟩
                have w2 : (fun j => if j < i ∧ H j = b then a else H j) j = a := if_pos ⟨y, z⟩
                rw [w1]; dsimp only at w2; rw [w2]
              · have w1 : (fun j => if j < i + 1 ∧ H j = b then a else H j) j = H j := if_neg (fun v => z v.2)
                have w2 : (fun j => if j < i ∧ H j = b then a else H j) j = H j := if_neg (fun v => z v.2)
                rw [w1]; dsimp only at w2; rw [w2]
            · have w1 : (fun j => if j < i + 1 ∧ H j = b then a else H j) j = H j := if_neg (fun v => by omega)
              have w2 : (fun j => if j < i ∧ H j = b then a else H j) j = H j := if_neg (fun v => y v.1)
              rw [w1]; dsimp only at w2; rw [w2]
        generalize hHi : (fun j => if j < i ∧ H j = b then a else H j) = Hc at *
        refine hs_seat (H' := hs_u Hc i a) kr ha ha' i0 (by omega) (hT a ha ha') hR (fun j _ _ e => by rw [hs_un e]) (by rw [hs_us, if_pos rfl]) ?_
        intro W1 e1 e2
        have hR1 := hs_fW_rg hR e2
        have tb : hs_TN (hs_K kk) Hc W1 b := hs_TN_keep (hT b hb hb') (fun z => hab z.symm) (fun _ _ _ => Iff.rfl) e2
        show wpX_seat _ _ _ _ (-1)
        rw [← hs_lm1]
        refine hs_seat (H' := hs_u Hc i a) kr hb hb' i0 (by omega) tb hR1 (fun j _ _ e => by rw [hs_un e]) (by rw [hs_us, if_neg hab]) ?_
        intro W2 f1 f2
        refine nm_r (hs_1 i) (ih W2 (i + 1) ?_ (hs_fW_rg hR1 f2) (by omega) (by omega) (by omega) hK)
        intro q q0 q1
        refine hs_TN_congr (H := hs_u Hc i a) ?_ (fun j j0 j1 => nxt j j0 j1 q) (fun _ _ _ _ => rfl) (fun _ _ _ => rfl)
        by_cases z : q = b
        · rw [z]; exact f1
        · refine hs_TN_keep (H := hs_u Hc i a) (W := W1) ?_ z (fun _ _ _ => Iff.rfl) f2
          by_cases y : q = a
          · rw [y]; exact e1
          · refine hs_TN_keep (hT q q0 q1) y ?_ e2
            intro j j0 j1
            by_cases e : j = i
            · rw [hs_ue e, e, Hi, hib]
              exact ⟨fun v => absurd v.symm y, fun v => absurd v.symm z⟩
            · rw [hs_un e]
theorem hs_joinT {post : SX → Prop} {kk H W : Int → Int} {a b : Int} (kr : hs_kr kk) (ha : 0 ≤ a) (ha' : a ≤ 3) (hb : 0 ≤ b) (hb' : b ≤ 3) (hab : a ≠ b) (hT : hs_TA (hs_K kk) H W) (hR : hs_rg W 192 (-1) 23)
    (hK : ∀ W' : Int → Int, hs_TA (hs_K kk) (fun j => if H j = b then a else H j) W' → hs_rg W' 192 (-1) 23 → post (hs_e kk, gv2, gv3, gv4, gv5, gv6, gv7, gv8, gv9, gv10, gv11, gv12, gv13, gv14, gv15, gv16, gv17, gv18, gv19, gv20, gv21, hs_e W')) :
    wpX_joinTournaments post (hs_e kk, gv2, gv3, gv4, gv5, gv6, gv7, gv8, gv9, gv10, gv11, gv12, gv13, gv14, gv15, gv16, gv17, gv18, gv19, gv20, gv21, hs_e W) (hs_i a) (hs_i b) := by
  unfold wpX_joinTournaments
  dsimp only
  refine ⟨26, ?_⟩
  rw [← hs_l0]
  refine hs_jtl (H := H) kr ha ha' hb hb' hab 26 W 0 ?_ hR (by omega) (by omega) (by omega) hK
  intro q q0 q1
  refine hs_TN_congr (hT q q0 q1) (fun j j0 j1 => ?_) (fun _ _ _ _ => rfl) (fun _ _ _ => rfl)
  rw [if_neg (fun v => by omega)]
end HS30
