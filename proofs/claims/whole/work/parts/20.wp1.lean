section HS20
variable {gv1 gv2 gv3 gv4 gv5 gv6 gv7 gv8 gv9 gv10 gv11 gv12 gv13 gv14 gv15 gv16 gv17 gv18 gv19 gv20 gv21 gv22 : Nat → Int32}
/-! the walks of the small methods, by integers -/
theorem hs_l0 : hs_i 0 = 0 := by decide
theorem hs_l1 : hs_i 1 = 1 := by decide
theorem hs_lm1 : hs_i (-1) = -1 := by decide
theorem hs_1 (a : Int) : hs_i a + 1 = hs_i (a + 1) := by rw [← hs_l1]; exact hs_add a 1
theorem hs_s1 (a : Int) : hs_i a - 1 = hs_i (a - 1) := by rw [← hs_l1]; exact hs_sub a 1
theorem hs_m1 (a : Int) : hs_i a + (-1) = hs_i (a - 1) := by rw [← hs_lm1]; exact hs_add a (-1)
theorem hs_x4 (a b : Int) : hs_i a * 4 + hs_i b = hs_i (a * 4 + b) := by
  rw [show (4 : Int32) = hs_i 4 from by decide, hs_mul, hs_add]
theorem hs_x5 (a b : Int) : hs_i a * 5 + hs_i b = hs_i (a * 5 + b) := by
  rw [show (5 : Int32) = hs_i 5 from by decide, hs_mul, hs_add]
theorem hs_m24 (a : Int) : hs_i a * 24 = hs_i (a * 24) := by
  rw [show (24 : Int32) = hs_i 24 from by decide, hs_mul]
theorem hs_m48 (a : Int) : hs_i a * 48 = hs_i (a * 48) := by
  rw [show (48 : Int32) = hs_i 48 from by decide, hs_mul]
theorem hs_2m (a : Int) : 2 * hs_i a = hs_i (2 * a) := by
  rw [show (2 : Int32) = hs_i 2 from by decide, hs_mul]
theorem hs_p24 (a : Int) : 24 + hs_i a = hs_i (24 + a) := by
  rw [show (24 : Int32) = hs_i 24 from by decide, hs_add]
theorem hs_x24 (a b : Int) : hs_i a * 24 + hs_i b = hs_i (a * 24 + b) := by
  rw [hs_m24, hs_add]
theorem hs_rd {A : Int → Int} {x : Int32} {N : Nat} {P : Int32 → Prop} (n : Int) (hx : x = hs_i n) (h0 : 0 ≤ n) (h1 : n < N) (hN : N < 2147483648) (h : P (hs_i (A n))) :
    vp_in x N ∧ ∀ y, y = hs_e A x.toNatClampNeg → P y := by
  subst hx
  exact ⟨hs_in h0 h1 hN, nm_r (hs_get h0 (by omega)) h⟩
theorem hs_wr {A : Int → Int} {x c : Int32} {N : Nat} {P : (Nat → Int32) → Prop} (n v : Int) (hx : x = hs_i n) (hc : c = hs_i v) (h0 : 0 ≤ n) (h1 : n < N) (hN : N < 2147483648) (h : P (hs_e (hs_u A n v))) :
    vp_in x N ∧ ∀ y, y = upd (hs_e A) x.toNatClampNeg c → P y := by
  subst hx hc
  exact ⟨hs_in h0 h1 hN, nm_r (hs_put h0 (by omega)) h⟩
/-- all keys are in range -/
def hs_kr (k : Int → Int) : Prop := ∀ i, 0 ≤ i → i < 24 → -999 ≤ k i ∧ k i ≤ 999
theorem hs_cb {post : Int32 → Prop} {k : Int → Int} {i j : Int} (kr : hs_kr k) (i0 : 0 ≤ i) (i1 : i < 24) (j0 : 0 ≤ j) (j1 : j < 24)
    (ht : hs_K k i < hs_K k j → post 1) (hf : ¬ hs_K k i < hs_K k j → post 0) : wpX_comesBefore post (hs_e k, gv2, gv3, gv4, gv5, gv6, gv7, gv8, gv9, gv10, gv11, gv12, gv13, gv14, gv15, gv16, gv17, gv18, gv19, gv20, gv21, gv22) (hs_i i) (hs_i j) := by
  have a := kr i i0 i1
  have b := kr j j0 j1
  have e := hs_bef (k := k) i0 i1 j0 j1
  have vi : vp_in (hs_i i) 24 := hs_in i0 (by omega) (by decide)
  have vj : vp_in (hs_i j) 24 := hs_in j0 (by omega) (by decide)
  unfold wpX_comesBefore
  dsimp only
  rw [hs_get i0 (by omega), hs_get j0 (by omega)]
  refine ⟨vi, vj, hs_lt (k i) (k j) (fun c => ht (e.mp (Or.inl c))) (fun c => ⟨vi, vj, hs_eq (k i) (k j) (fun d => hs_le j i (fun g => hf (fun z => ?_)) (fun g => ht (e.mp (Or.inr ⟨d, g⟩)))) (fun d => hf (fun z => ?_))⟩)⟩
  · have := e.mpr z; omega
  · have := e.mpr z; omega
theorem hs_bet {post : Int32 → Prop} {k : Int → Int} {i j : Int} (kr : hs_kr k) (i0 : -1 ≤ i) (i1 : i < 24) (j0 : -1 ≤ j) (j1 : j < 24)
    (h : post (hs_i (hs_bt (hs_K k) i j))) : wpX_better post (hs_e k, gv2, gv3, gv4, gv5, gv6, gv7, gv8, gv9, gv10, gv11, gv12, gv13, gv14, gv15, gv16, gv17, gv18, gv19, gv20, gv21, gv22) (hs_i i) (hs_i j) := by
  unfold wpX_better
  dsimp only
  unfold hs_bt at h
  refine hs_eq i (-1) (fun c => ?_) (fun c => hs_eq j (-1) (fun d => ?_) (fun d => hs_cb kr (by omega) i1 (by omega) j1 (fun g => ?_) (fun g => ?_)))
  · rw [if_pos c] at h; exact h
  · rw [if_neg c, if_pos d] at h; exact h
  · rw [if_neg c, if_neg d, if_pos g] at h; exact br_f (by decide) h
  · rw [if_neg c, if_neg d, if_neg g] at h; exact br_t rfl h
theorem hs_isQ {post : Int32 → Prop} {q : Int} (hq : -2147483648 ≤ q ∧ q < 2147483648) (ht : 0 ≤ q → q ≤ 3 → post 1) (hf : ¬ (0 ≤ q ∧ q ≤ 3) → post 0) : wpX_isQueue post (hs_i q) := by
  unfold wpX_isQueue
  exact hs_lt q 0 (fun c => hf (by omega)) (fun c => hs_le 4 q (fun d => hf (by omega)) (fun d => ht c (by omega)))
theorem hs_isI {post : Int32 → Prop} {q : Int} (hq : -2147483648 ≤ q ∧ q < 2147483648) (ht : 0 ≤ q → q < 24 → post 1) (hf : ¬ (0 ≤ q ∧ q < 24) → post 0) : wpX_isItem post (hs_i q) := by
  unfold wpX_isItem
  exact hs_lt q 0 (fun c => hf (by omega)) (fun c => hs_le 24 q (fun d => hf (by omega)) (fun d => ht c (by omega)))
theorem hs_isE {post : Int32 → Prop} {q : Int} (hq : -2147483648 ≤ q ∧ q < 2147483648) (ht : 0 ≤ q → q ≤ 6 → post 1) (hf : ¬ (0 ≤ q ∧ q ≤ 6) → post 0) : wpX_isEngine post (hs_i q) := by
  unfold wpX_isEngine
  exact hs_lt q 0 (fun c => hf (by omega)) (fun c => hs_le 7 q (fun d => hf (by omega)) (fun d => ht c (by omega)))
theorem hs_isK {post : Int32 → Prop} {q : Int} (hq : -2147483648 ≤ q ∧ q < 2147483648) (ht : -999 ≤ q → q ≤ 999 → post 1) (hf : ¬ (-999 ≤ q ∧ q ≤ 999) → post 0) : wpX_isKey post (hs_i q) := by
  unfold wpX_isKey
  exact hs_lt q (-999) (fun c => hf (by omega)) (fun c => hs_lt 999 q (fun d => hf (by omega)) (fun d => ht c d))
/-! engines 0 and 1 -/
theorem hs_setSlot {post : SX → Prop} {S P : Int → Int} {w q p x : Int} (hw : 0 ≤ w) (hw' : w ≤ 1) (hq : 0 ≤ q) (hq' : q ≤ 3) (hp : 0 ≤ p) (hp' : p < 24) (hx : 0 ≤ x) (hx' : x < 24)
    (h : post (gv1, gv2, gv3, hs_e (hs_u S ((w * 4 + q) * 24 + p) x), gv5, hs_e (hs_u P (w * 24 + x) p), gv7, gv8, gv9, gv10, gv11, gv12, gv13, gv14, gv15, gv16, gv17, gv18, gv19, gv20, gv21, gv22)) : wpX_setSlot post (gv1, gv2, gv3, hs_e S, gv5, hs_e P, gv7, gv8, gv9, gv10, gv11, gv12, gv13, gv14, gv15, gv16, gv17, gv18, gv19, gv20, gv21, gv22) (hs_i w) (hs_i q) (hs_i p) (hs_i x) := by
  unfold wpX_setSlot
  dsimp only
  exact hs_wr ((w * 4 + q) * 24 + p) x (by rw [hs_x4, hs_x24]) rfl (by omega) (by omega) (by decide) (hs_wr (w * 24 + x) p (by rw [hs_x24]) rfl (by omega) (by omega) (by decide) h)
theorem hs_slotAbove {post : Int32 → Prop} {w p : Int} (hw : 0 ≤ w) (hw' : w ≤ 1) (hp : 1 ≤ p) (hp' : p < 24) (h : post (hs_i (hs_pa w p))) : wpX_slotAbove post (hs_i w) (hs_i p) := by
  unfold wpX_slotAbove
  unfold hs_pa at h
  refine hs_eq w 0 (fun c => ⟨by decide, ?_⟩) (fun c => ⟨by decide, ?_⟩)
  · rw [if_pos c] at h; rw [hs_s1, hs_div2 (by omega) (by omega)]; exact h
  · rw [if_neg c] at h; rw [hs_s1, hs_div4 (by omega) (by omega)]; exact h
theorem hs_su {post : SX → Prop} {k H : Int → Int} {w q f x : Int} (kr : hs_kr k) (hw : 0 ≤ w) (hw' : w ≤ 1) (hq : 0 ≤ q) (hq' : q ≤ 3) (hf : f ≤ 24) :
    ∀ (n : Nat) (p st : Int) (S P : Int → Int), hs_SI (hs_K k) H S P w q ((w * 4 + q) * 24) (w * 24) f p x → 0 ≤ st → st + p ≤ 23 → 24 - st < n →
    (∀ (S' P' : Int → Int) (p' : Int), hs_SI (hs_K k) H S' P' w q ((w * 4 + q) * 24) (w * 24) f p' x → hs_AE (hs_K k) (hs_u S' ((w * 4 + q) * 24 + p') x) w ((w * 4 + q) * 24) p' →
      (hs_AD (hs_K k) (hs_u S ((w * 4 + q) * 24 + p) x) w ((w * 4 + q) * 24) f p → hs_AD (hs_K k) (hs_u S' ((w * 4 + q) * 24 + p') x) w ((w * 4 + q) * 24) f p') →
      hs_fS S S' ((w * 4 + q) * 24) → hs_fP H P P' q (w * 24) → post (hs_e k, gv2, gv3, hs_e (hs_u S' ((w * 4 + q) * 24 + p') x), gv5, hs_e (hs_u P' (w * 24 + x) p'), gv7, gv8, gv9, gv10, gv11, gv12, gv13, gv14, gv15, gv16, gv17, gv18, gv19, gv20, gv21, gv22)) →
    wX_siftUp_26 post (hs_i w) (hs_i q) (hs_i x) (hs_i ((w * 4 + q) * 24)) n (hs_i p) (hs_i st) (hs_e k) gv2 gv3 (hs_e S) gv5 (hs_e P) gv7 gv8 gv9 gv10 gv11 gv12 gv13 gv14 gv15 gv16 gv17 gv18 gv19 gv20 gv21 gv22 := by
  intro n
  induction n with
  | zero => intro p st S P hI h0 h1 h2; have := hI.2.2.2.1; omega
  | succ n ih =>
    intro p st S P hI h0 h1 h2 hK
    have p0 := hI.2.2.2.1
    have pf := hI.2.2.2.2
    have ax := hI.1.1 p p0 pf
    rw [hs_us, hs_us] at ax
    have ex : hs_AE (hs_K k) (hs_u S ((w * 4 + q) * 24 + p) x) w ((w * 4 + q) * 24) p → wX_siftUp_91 post (hs_i w) (hs_i q) (hs_i x) (hs_i p) (hs_e k) gv2 gv3 (hs_e S) gv5 (hs_e P) gv7 gv8 gv9 gv10 gv11 gv12 gv13 gv14 gv15 gv16 gv17 gv18 gv19 gv20 gv21 gv22 := by
      intro hE
      unfold wX_siftUp_91
      exact hs_setSlot hw hw' hq hq' p0 (by omega) ax.1 ax.2.1 (hK S P p hI hE (fun z => z) hs_fS_refl hs_fP_refl)
    refine hs_le 24 st (fun c => absurd c (by omega)) (fun _ => ?_)
    refine hs_le p 0 (fun c => ex (fun z => absurd z (by omega))) (fun c => ?_)
    have l := hs_pa_lt w (p := p) (by omega)
    have fa := hs_SI_facts hI.1 p0 pf l.1 (by omega) (by omega)
    refine hs_slotAbove hw hw' (by omega) (by omega) ?_
    refine hs_rd ((w * 4 + q) * 24 + hs_pa w p) (hs_add _ _) (by omega) (by omega) (by decide) ?_
    refine hs_cb kr fa.2.2.2.1 fa.2.2.2.2.1 ax.1 ax.2.1 (fun d => br_f (by decide) (ex (fun _ => ?_))) (fun d => br_t rfl ?_)
    · rw [hs_un (by omega), hs_us]; exact d
    · have up := hs_SI_up (hs_K_inj k) hI (by omega) d
      refine hs_setSlot hw hw' hq hq' p0 (by omega) fa.2.2.2.1 fa.2.2.2.2.1 (nm_r (hs_1 st) (ih (hs_pa w p) (st + 1) _ _ up.1 (by omega) (by omega) (by omega) ?_))
      intro S' P' p' a1 a2 a3 a4 a5
      refine hK S' P' p' a1 a2 (fun _ => a3 up.2) (hs_fS_trans (hs_fS_u p0 (by omega) fa.2.2.2.1 fa.2.2.2.2.1) a4) (hs_fP_trans (hs_fP_u fa.2.2.2.1 fa.2.2.2.2.1 fa.2.2.2.2.2.1) a5)
end HS20
