section HS21
variable {gv1 gv2 gv3 gv4 gv5 gv6 gv7 gv8 gv9 gv10 gv11 gv12 gv13 gv14 gv15 gv16 gv17 gv18 gv19 gv20 gv21 gv22 : Nat → Int32}
theorem hs_pa_ch {w c p : Int} (hw : 0 ≤ w) (hw' : w ≤ 1) (hc : 1 ≤ c) (hp : 0 ≤ p) : hs_pa w c = p ↔ (p * (if w = 0 then 2 else 4) + 1 ≤ c ∧ c < p * (if w = 0 then 2 else 4) + 1 + (if w = 0 then 2 else 4)) := by
  unfold hs_pa
  by_cases e : w = 0
  · simp only [if_pos e]; omega
  · simp only [if_neg e]; omega
/-- what leastBelow has found among the slots s .. c - 1 -/
def hs_LB (K S : Int → Int) (b s c r : Int) : Prop := (r = -1 ∧ c = s) ∨ (∃ c0, s ≤ c0 ∧ c0 < c ∧ r = S (b + c0) ∧ ∀ c', s ≤ c' → c' < c → c' ≠ c0 → K r < K (S (b + c')))
theorem hs_lbl {post : Int32 → Prop} {k S F : Int → Int} {w q f s d : Int} (kr : hs_kr k) (hw : 0 ≤ w) (hw' : w ≤ 1) (hq : 0 ≤ q) (hq' : q ≤ 3) (hF : F (w * 4 + q) = f) (f0 : 0 ≤ f) (f1 : f ≤ 24)
    (s0 : 1 ≤ s) (s1 : s ≤ 200) (d0 : 1 ≤ d) (d1 : d ≤ 4) (hS : ∀ p, s ≤ p → p < f → 0 ≤ S ((w * 4 + q) * 24 + p) ∧ S ((w * 4 + q) * 24 + p) < 24)
    (hi : ∀ p p', s ≤ p → p < f → s ≤ p' → p' < f → S ((w * 4 + q) * 24 + p) = S ((w * 4 + q) * 24 + p') → p = p')
    (hK : ∀ r c, hs_LB (hs_K k) S ((w * 4 + q) * 24) s c r → s ≤ c → (c = s ∨ c ≤ f) → (s + d ≤ c ∨ f ≤ c) → c ≤ s + d → post (hs_i r)) :
    ∀ (n : Nat) (m c : Int), hs_LB (hs_K k) S ((w * 4 + q) * 24) s c m → s ≤ c → (c = s ∨ c ≤ f) → c ≤ s + d → s + d - c < n →
    wX_leastBelow_28 post (hs_i (w * 4 + q)) (hs_i d) (hs_i s) (hs_e k) gv2 gv3 (hs_e S) (hs_e F) gv6 gv7 gv8 gv9 gv10 gv11 gv12 gv13 gv14 gv15 gv16 gv17 gv18 gv19 gv20 gv21 gv22 n (hs_i m) (hs_i c) := by
  intro n
  induction n with
  | zero => intro m c _ _ _ _ h; omega
  | succ n ih =>
    intro m c hL hc hcf hcd hn
    refine hs_le (s + d) c (fun x => hK m c hL hc hcf (Or.inl x) hcd) (fun x => ⟨hs_in (by omega) (by omega) (by decide), ?_⟩) (hs_add _ _)
    rw [hs_get (by omega) (by omega), hF]
    refine hs_le f c (fun y => hK m c hL hc hcf (Or.inr y) hcd) (fun y => ?_)
    refine hs_rd ((w * 4 + q) * 24 + c) (by rw [hs_x24]) (by omega) (by omega) (by decide) ?_
    have yr := hS c hc y
    have hm : m = -1 ∨ (0 ≤ m ∧ m < 24) := by
      rcases hL with z | ⟨c0, a1, a2, a3, _⟩
      · exact Or.inl z.1
      · rw [a3]; exact Or.inr (hS c0 a1 (by omega))
    refine hs_eq m (-1) (fun z => nm_r (hs_1 c) (ih _ _ ?_ (by omega) (by omega) (by omega) (by omega))) (fun z => ?_)
    · rcases hL with g | ⟨c0, a1, a2, a3, _⟩
      · exact Or.inr ⟨c, by omega, by omega, rfl, fun c' b1 b2 b3 => by omega⟩
      · have := hS c0 a1 (by omega); omega
    · rcases hL with g | ⟨c0, a1, a2, a3, a4⟩
      · exact absurd g.1 z
      · have mr : 0 ≤ m ∧ m < 24 := by rcases hm with g | g; exact absurd g z; exact g
        refine hs_cb kr yr.1 yr.2 mr.1 mr.2 (fun g => br_f (by decide) (nm_r (hs_1 c) (ih _ _ ?_ (by omega) (by omega) (by omega) (by omega)))) (fun g => br_t rfl (nm_r (hs_1 c) (ih _ _ ?_ (by omega) (by omega) (by omega) (by omega))))
        · refine Or.inr ⟨c, by omega, by omega, rfl, fun c' b1 b2 b3 => ?_⟩
          by_cases e : c' = c0
          · rw [e, ← a3]; exact g
          · have := a4 c' b1 (by omega) e; omega
        · refine Or.inr ⟨c0, a1, by omega, a3, fun c' b1 b2 b3 => ?_⟩
          by_cases e : c' = c
          · rw [e]
            have ne : hs_K k m ≠ hs_K k (S ((w * 4 + q) * 24 + c)) := by
              intro t
              have := hs_K_inj k _ _ mr.1 mr.2 yr.1 yr.2 t
              rw [a3] at this
              have := hi c0 c a1 (by omega) hc y this
              omega
            omega
          · exact a4 c' b1 (by omega) b3
theorem hs_lb {post : Int32 → Prop} {k S F : Int → Int} {w q f p : Int} (kr : hs_kr k) (hw : 0 ≤ w) (hw' : w ≤ 1) (hq : 0 ≤ q) (hq' : q ≤ 3) (hF : F (w * 4 + q) = f) (f0 : 0 ≤ f) (f1 : f ≤ 24)
    (p0 : 0 ≤ p) (p1 : p < 24) (hS : ∀ c, p < c → c < f → 0 ≤ S ((w * 4 + q) * 24 + c) ∧ S ((w * 4 + q) * 24 + c) < 24)
    (hi : ∀ c c', p < c → c < f → p < c' → c' < f → S ((w * 4 + q) * 24 + c) = S ((w * 4 + q) * 24 + c') → c = c')
    (hn : (∀ c, 1 ≤ c → c < f → hs_pa w c ≠ p) → post (hs_i (-1)))
    (hs : ∀ c, 1 ≤ c → c < f → hs_pa w c = p → (∀ c', 1 ≤ c' → c' < f → hs_pa w c' = p → c' ≠ c → hs_K k (S ((w * 4 + q) * 24 + c)) < hs_K k (S ((w * 4 + q) * 24 + c'))) → post (hs_i (S ((w * 4 + q) * 24 + c)))) :
    wpX_leastBelow post (hs_e k, gv2, gv3, hs_e S, hs_e F, gv6, gv7, gv8, gv9, gv10, gv11, gv12, gv13, gv14, gv15, gv16, gv17, gv18, gv19, gv20, gv21, gv22) (hs_i w) (hs_i q) (hs_i p) := by
  have key : ∀ d, d = (if w = 0 then (2 : Int) else 4) → ∃ n, wX_leastBelow_28 post (hs_i (w * 4 + q)) (hs_i d) (hs_i (p * d + 1)) (hs_e k) gv2 gv3 (hs_e S) (hs_e F) gv6 gv7 gv8 gv9 gv10 gv11 gv12 gv13 gv14 gv15 gv16 gv17 gv18 gv19 gv20 gv21 gv22 n (-1) (hs_i (p * d + 1)) := by
    intro d hd
    have hd1 : d = 2 ∨ d = 4 := by rw [hd]; split <;> omega
    have bnd : p * d + 1 ≤ 200 ∧ p + 1 ≤ p * d + 1 := by rcases hd1 with e | e <;> rw [e] <;> omega
    refine ⟨6, ?_⟩
    refine hs_lbl (f := f) kr hw hw' hq hq' hF f0 f1 (by omega) (by omega) (by omega) (by omega) (fun c a b => hS c (by omega) b) (fun c c' a b a' b' => hi c c' (by omega) b (by omega) b') ?_ 6 (-1) (p * d + 1) (Or.inl ⟨rfl, rfl⟩) (by omega) (Or.inl rfl) (by omega) (by omega)
    intro r c hL h1 h2 h3 h4
    have ch : ∀ c', 1 ≤ c' → (hs_pa w c' = p ↔ p * d + 1 ≤ c' ∧ c' < p * d + 1 + d) := by
      intro c' a
      rw [hd]; exact hs_pa_ch hw hw' a p0
    rcases hL with ⟨e, e2⟩ | ⟨c0, a1, a2, a3, a4⟩
    · rw [e]
      refine hn (fun c' a b e3 => ?_)
      have := (ch c' a).mp e3
      omega
    · rw [a3]
      refine hs c0 (by omega) (by omega) ((ch c0 (by omega)).mpr ⟨a1, by omega⟩) (fun c' a b e3 e4 => ?_)
      have := (ch c' a).mp e3
      rw [← a3]
      exact a4 c' this.1 (by omega) e4
  unfold wpX_leastBelow
  dsimp only
  refine nm_r (hs_x4 w q) ?_
  unfold wpX_widthOf
  refine hs_eq w 0 (fun e => ?_) (fun e => ?_)
  · refine nm_r (e' := hs_i (p * 2 + 1)) (by rw [show (2 : Int32) = hs_i 2 from by decide, hs_mul, hs_1]) ?_
    exact key 2 (if_pos e).symm
  · refine nm_r (e' := hs_i (p * 4 + 1)) (by rw [show (4 : Int32) = hs_i 4 from by decide, hs_mul, hs_1]) ?_
    exact key 4 (if_neg e).symm
theorem hs_sd {post : SX → Prop} {k H F : Int → Int} {w q f x : Int} (kr : hs_kr k) (hw : 0 ≤ w) (hw' : w ≤ 1) (hq : 0 ≤ q) (hq' : q ≤ 3) (hF : F (w * 4 + q) = f) (hf : f ≤ 24) :
    ∀ (n : Nat) (p st : Int) (S P : Int → Int), hs_SI (hs_K k) H S P w q ((w * 4 + q) * 24) (w * 24) f p x → hs_AE (hs_K k) (hs_u S ((w * 4 + q) * 24 + p) x) w ((w * 4 + q) * 24) p → 0 ≤ st → st ≤ p → 24 - st < n →
    (∀ (S' P' : Int → Int) (p' : Int), hs_SI (hs_K k) H S' P' w q ((w * 4 + q) * 24) (w * 24) f p' x → hs_AE (hs_K k) (hs_u S' ((w * 4 + q) * 24 + p') x) w ((w * 4 + q) * 24) p' →
      hs_AD (hs_K k) (hs_u S' ((w * 4 + q) * 24 + p') x) w ((w * 4 + q) * 24) f p' →
      hs_fS S S' ((w * 4 + q) * 24) → hs_fP H P P' q (w * 24) → post (hs_e k, gv2, gv3, hs_e (hs_u S' ((w * 4 + q) * 24 + p') x), hs_e F, hs_e (hs_u P' (w * 24 + x) p'), gv7, gv8, gv9, gv10, gv11, gv12, gv13, gv14, gv15, gv16, gv17, gv18, gv19, gv20, gv21, gv22)) →
    wX_siftDown_16 post (hs_i w) (hs_i q) (hs_i x) n (hs_i p) (hs_i st) (hs_e k) gv2 gv3 (hs_e S) (hs_e F) (hs_e P) gv7 gv8 gv9 gv10 gv11 gv12 gv13 gv14 gv15 gv16 gv17 gv18 gv19 gv20 gv21 gv22 := by
  intro n
  induction n with
  | zero => intro p st S P hI _ h0 h1 h2; have := hI.2.2.2.2; omega
  | succ n ih =>
    intro p st S P hI hE h0 h1 h2 hK
    have p0 := hI.2.2.2.1
    have pf := hI.2.2.2.2
    have ax := hI.1.1 p p0 pf
    rw [hs_us, hs_us] at ax
    have ex : hs_AD (hs_K k) (hs_u S ((w * 4 + q) * 24 + p) x) w ((w * 4 + q) * 24) f p → wX_siftDown_86 post (hs_i w) (hs_i q) (hs_i x) (hs_i p) (hs_e k) gv2 gv3 (hs_e S) (hs_e F) (hs_e P) gv7 gv8 gv9 gv10 gv11 gv12 gv13 gv14 gv15 gv16 gv17 gv18 gv19 gv20 gv21 gv22 := by
      intro hD
      unfold wX_siftDown_86
      exact hs_setSlot hw hw' hq hq' p0 (by omega) ax.1 ax.2.1 (hK S P p hI hE hD hs_fS_refl hs_fP_refl)
    have fa : ∀ c, p < c → c < f → _ := fun c a b => hs_SI_facts hI.1 p0 pf (by omega : 0 ≤ c) b (by omega : c ≠ p)
    refine hs_le 24 st (fun c => absurd c (by omega)) (fun _ => ?_)
    refine hs_lb (f := f) kr hw hw' hq hq' hF (by omega) hf p0 (by omega) (fun c a b => ⟨(fa c a b).2.2.2.1, (fa c a b).2.2.2.2.1⟩) (fun c c' a b a' b' e => ?_) (fun hn => ?_) (fun c a b e hm => ?_)
    · have e1 := (fa c a b).2.2.2.2.2.2.2
      have e2 := (fa c' a' b').2.2.2.2.2.2.2
      rw [e] at e1
      omega
    · exact br_t (by decide) (ex (fun c a b e => absurd e (hn c a b)))
    · have l := hs_pa_lt w a
      have fc := fa c (by omega) b
      have hne : ¬ hs_i (S ((w * 4 + q) * 24 + c)) = -1 := by
        rw [← hs_lm1, hs_eqI (by omega) (by omega)]; omega
      refine br_f hne (hs_cb kr ax.1 ax.2.1 fc.2.2.2.1 fc.2.2.2.2.1 (fun g => br_f (by decide) (ex ?_)) (fun g => br_t rfl ?_))
      · intro c' a' b' e'
        have l' := hs_pa_lt w a'
        rw [hs_us, hs_un (by omega)]
        by_cases z : c' = c
        · rw [z]; exact g
        · have := hm c' a' b' e' z; omega
      · have lt : hs_K k (S ((w * 4 + q) * 24 + c)) < hs_K k x := by
          have : hs_K k x ≠ hs_K k (S ((w * 4 + q) * 24 + c)) := fun z => fc.2.2.2.2.2.2.1 (hs_K_inj k _ _ ax.1 ax.2.1 fc.2.2.2.1 fc.2.2.2.2.1 z).symm
          omega
        have dn := hs_SI_dn hI a b e lt hm
        refine hs_rd (w * 24 + S ((w * 4 + q) * 24 + c)) (hs_x24 _ _) (by omega) (by omega) (by decide) ?_
        rw [fc.2.2.2.2.2.2.2]
        refine hs_setSlot hw hw' hq hq' p0 (by omega) fc.2.2.2.1 fc.2.2.2.2.1 (nm_r (hs_1 st) (ih c (st + 1) _ _ dn.1 dn.2 (by omega) (by omega) (by omega) ?_))
        intro S' P' p' a1 a2 a3 a4 a5
        exact hK S' P' p' a1 a2 a3 (hs_fS_trans (hs_fS_u p0 (by omega) fc.2.2.2.1 fc.2.2.2.2.1) a4) (hs_fP_trans (hs_fP_u fc.2.2.2.1 fc.2.2.2.2.1 fc.2.2.2.2.2.1) a5)
end HS21
