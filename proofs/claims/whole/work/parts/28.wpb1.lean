section HS28
variable {gv1 gv2 gv3 gv4 gv5 gv6 gv7 gv8 gv9 gv10 gv11 gv12 gv13 gv14 gv15 gv16 gv17 gv18 gv19 gv20 gv21 gv22 : Nat → Int32}
/-! engine 5: the walks -/
theorem hs_lk {post : Int32 → SX → Prop} {kk NI C X U : Int → Int} {a b : Int} (kr : hs_kr kk) (a0 : 0 ≤ a) (a1 : a < 24) (b0 : 0 ≤ b) (b1 : b < 24) (na0 : 0 ≤ NI a) (na1 : NI a < 24) (nb0 : 0 ≤ NI b) (nb1 : NI b < 24) (ne : NI a ≠ NI b)
    (hK : ∀ t f, ((t = a ∧ f = b) ∨ (t = b ∧ f = a)) → hs_K kk (NI t) < hs_K kk (NI f) → post (hs_i t) (hs_e kk, gv2, gv3, gv4, gv5, gv6, gv7, gv8, gv9, gv10, gv11, gv12, gv13, gv14, gv15, gv16, hs_e (hs_u C t f), hs_e (hs_u X f (C t)), hs_e (hs_u U f t), hs_e NI, gv21, gv22)) :
    wpX_linkTrees post (hs_e kk, gv2, gv3, gv4, gv5, gv6, gv7, gv8, gv9, gv10, gv11, gv12, gv13, gv14, gv15, gv16, hs_e C, hs_e X, hs_e U, hs_e NI, gv21, gv22) (hs_i a) (hs_i b) := by
  have go : ∀ t f, 0 ≤ t → t < 24 → 0 ≤ f → f < 24 → ((t = a ∧ f = b) ∨ (t = b ∧ f = a)) → hs_K kk (NI t) < hs_K kk (NI f) → wX_linkTrees_37 post (hs_i t) (hs_i f) (hs_e kk) gv2 gv3 gv4 gv5 gv6 gv7 gv8 gv9 gv10 gv11 gv12 gv13 gv14 gv15 gv16 (hs_e C) (hs_e X) (hs_e U) (hs_e NI) gv21 gv22 := by
    intro t f t0 t1 f0 f1 h lt
    unfold wX_linkTrees_37
    refine hs_wr f t rfl rfl f0 (by omega) (by decide) ⟨hs_in t0 (by omega) (by decide), ?_⟩
    rw [hs_get (A := C) t0 (by omega)]
    exact hs_wr f (C t) rfl rfl f0 (by omega) (by decide) (hs_wr t f rfl rfl t0 (by omega) (by decide) (hK t f h lt))
  unfold wpX_linkTrees
  dsimp only
  refine ⟨hs_in a0 (by omega) (by decide), hs_in b0 (by omega) (by decide), ?_⟩
  rw [hs_get (A := NI) (x := a) a0 (by omega), hs_get (A := NI) (x := b) b0 (by omega)]
  refine hs_cb kr na0 na1 nb0 nb1 (fun g => br_f (by decide) ?_) (fun g => br_t rfl ?_)
  · unfold wX_linkTrees_26
    exact br_f (by decide) (go a b a0 a1 b0 b1 (Or.inl ⟨rfl, rfl⟩) g)
  · unfold wX_linkTrees_26
    have lt : hs_K kk (NI b) < hs_K kk (NI a) := by
      have : hs_K kk (NI a) ≠ hs_K kk (NI b) := fun z => ne (hs_K_inj kk _ _ na0 na1 nb0 nb1 z)
      omega
    exact br_t rfl (go b a b0 b1 a0 a1 (Or.inr ⟨rfl, rfl⟩) lt)
def hs_BF (D : Int → Prop) (q : Int) (T C X U T' C' X' U' : Int → Int) : Prop := hs_fr D C C' ∧ hs_fr D X X' ∧ hs_fr D U U' ∧ (∀ j, T' j = T j ∨ (q * 5 ≤ j ∧ j < q * 5 + 5 ∧ (T' j = -1 ∨ D (T' j))))
theorem hs_BF_trans {D : Int → Prop} {q : Int} {T C X U T1 C1 X1 U1 T2 C2 X2 U2 : Int → Int} (h : hs_BF D q T C X U T1 C1 X1 U1) (h' : hs_BF D q T1 C1 X1 U1 T2 C2 X2 U2) : hs_BF D q T C X U T2 C2 X2 U2 := by
  refine ⟨hs_fr_trans h.1 h'.1, hs_fr_trans h.2.1 h'.2.1, hs_fr_trans h.2.2.1 h'.2.2.1, fun j => ?_⟩
  rcases h'.2.2.2 j with e | e
  · rcases h.2.2.2 j with f | f
    · exact Or.inl (e.trans f)
    · rw [← e] at f; exact Or.inr f
  · exact Or.inr e
theorem hs_at {post : SX → Prop} {D P : Int → Prop} {kk NI : Int → Int} {q e tot : Int} (kr : hs_kr kk) (hq : 0 ≤ q) (hq' : q ≤ 3) (hD : ∀ n, D n → 0 ≤ n ∧ n < 24) (hN : ∀ n, D n → 0 ≤ NI n ∧ NI n < 24) (hI : ∀ n m, D n → D m → NI n = NI m → n = m) (htot : tot ≤ 24) (he : e = -1 ∨ ¬ D e) :
    ∀ (n : Nat) (d G T C X U : Int → Int) (c o : Int), hs_AT D P (fun n => hs_K kk (NI n)) d G T C X U q e c o tot → 5 - o < n →
    (∀ d' G' T' C' X' U' : Int → Int, hs_BO D d' G' C' X' e → hs_BK D (fun n => hs_K kk (NI n)) G' e → hs_BR D P T' d' G' q (-1) → (∀ n, D n → U' n = G' n) → hs_tv T' q = tot →
      (∀ n, P n → G' n = G n ∧ d' n = d n ∧ X' n = X n) → (∀ n, D n → G' n = e → G n = e) → hs_BF D q T C X U T' C' X' U' → post (hs_e kk, gv2, gv3, gv4, gv5, gv6, gv7, gv8, gv9, gv10, gv11, gv12, gv13, gv14, gv15, hs_e T', hs_e C', hs_e X', hs_e U', hs_e NI, gv21, gv22)) →
    wX_addTree_6 post (hs_i q) n (hs_i c) (hs_i o) (hs_e kk) gv2 gv3 gv4 gv5 gv6 gv7 gv8 gv9 gv10 gv11 gv12 gv13 gv14 gv15 (hs_e T) (hs_e C) (hs_e X) (hs_e U) (hs_e NI) gv21 gv22 := by
  have hm : ∀ n, D n → n ≠ -1 := fun n hn => by have := hD n hn; omega
  intro n
  induction n with
  | zero =>
    intro d G T C X U c o hA hn
    have := hs_AT_o hA
    omega
  | succ n ih =>
    intro d G T C X U c o hA hn hK
    have ho := hs_AT_o hA
    have cD := hA.2.2.2.1
    have cr := hD c cD
    have tr := hA.2.2.1.2 o ho.1 ho.2
    have tb : -2147483648 ≤ T (q * 5 + o) ∧ T (q * 5 + o) < 2147483648 := by
      rcases tr with x | x
      · omega
      · have := hD _ x.1; omega
    refine hs_le 5 o (fun z => absurd z (by omega)) (fun _ => hs_rd (q * 5 + o) (hs_x5 _ _) (by omega) (by omega) (by decide) ?_)
    refine hs_eq (T (q * 5 + o)) (-1) (fun z => ?_) (fun z => ?_)
    · have en := hs_AT_end hm hA z
      refine hs_wr (q * 5 + o) c (hs_x5 _ _) rfl (by omega) (by omega) (by decide) (hs_wr c (-1) rfl hs_lm1.symm cr.1 (by omega) (by decide) (hs_wr c (-1) rfl hs_lm1.symm cr.1 (by omega) (by decide) ?_))
      refine hK d G _ C _ _ en.1 hA.2.1 en.2.1 en.2.2.1 en.2.2.2 ?_ (fun _ _ x => x) ⟨hs_fr_refl, hs_fr_u cD (Or.inl rfl), hs_fr_u cD (Or.inl rfl), fun j => ?_⟩
      · intro m hm'
        refine ⟨rfl, rfl, hs_un (fun x => ?_)⟩
        rw [x] at hm'
        exact hA.2.2.2.2.2.2.1 hm'
      · by_cases x : j = q * 5 + o
        · rw [hs_ue x]
          exact Or.inr ⟨by omega, by omega, Or.inr cD⟩
        · exact Or.inl (hs_un x)
    · have tD := tr.resolve_left z
      have tg := hD _ tD.1
      refine hs_wr (q * 5 + o) (-1) (hs_x5 _ _) hs_lm1.symm (by omega) (by omega) (by decide) ?_
      refine hs_lk kr tg.1 tg.2 cr.1 cr.2 (hN _ tD.1).1 (hN _ tD.1).2 (hN _ cD).1 (hN _ cD).2 (fun x => tD.2.2.2.1 (hI _ _ tD.1 cD x)) ?_
      intro t f htf lt
      obtain ⟨s1, s2, s3, s4, s5, s6, s7, s8, s9⟩ := hs_AT_step hm hA htot z htf lt he
      refine nm_r (hs_1 o) (ih _ _ _ _ _ _ t (o + 1) s1 (by omega) ?_)
      intro d' G' T' C' X' U' a1 a2 a3 a4 a5 a6 a7 a8
      refine hK d' G' T' C' X' U' a1 a2 a3 a4 a5 ?_ ?_ (hs_BF_trans ⟨hs_fr_u s2 (Or.inr s3), hs_fr_u s3 s4, hs_fr_u s3 (Or.inr s2), fun j => ?_⟩ a8)
      · intro m hm'
        have y := a6 m hm'
        have n1 : m ≠ t := fun x => s5 (by rw [← x]; exact hm')
        have n2 : m ≠ f := fun x => s6 (by rw [← x]; exact hm')
        rw [hs_un n2, hs_un n1, hs_un n2] at y
        exact y
      · intro m hm' x
        have y := a7 m hm' x
        by_cases w : m = f
        · rw [hs_ue w] at y
          rcases he with v | v
          · exact absurd (y.trans v) (hm t s2)
          · rw [← y] at v; exact absurd s2 v
        · rw [hs_un w] at y; exact y
      · by_cases x : j = q * 5 + o
        · rw [hs_ue x]
          exact Or.inr ⟨by omega, by omega, Or.inl rfl⟩
        · exact Or.inl (hs_un x)
theorem hs_oo {post : Int32 → Prop} {D : Int → Prop} {d G C X : Int → Int} {e v : Int} (hD : ∀ n, D n → 0 ≤ n ∧ n < 24) (h : hs_BO D d G C X e) (hv : D v) (hp : post (hs_i (d v))) :
    wpX_orderOf post (gv1, gv2, gv3, gv4, gv5, gv6, gv7, gv8, gv9, gv10, gv11, gv12, gv13, gv14, gv15, gv16, hs_e C, hs_e X, gv19, gv20, gv21, gv22) (hs_i v) := by
  have hm : ∀ n, D n → n ≠ -1 := fun n hn => by have := hD n hn; omega
  have vr := hD v hv
  have hv' := h v hv
  have loop : ∀ (n : Nat) (c o : Int), ((c = -1 ∧ o = d v) ∨ (D c ∧ G c = v ∧ o + d c + 1 = d v)) → 0 ≤ o → o ≤ 4 → 4 - o < n → wX_orderOf_12 post gv1 gv2 gv3 gv4 gv5 gv6 gv7 gv8 gv9 gv10 gv11 gv12 gv13 gv14 gv15 gv16 (hs_e C) (hs_e X) gv19 gv20 gv21 gv22 n (hs_i o) (hs_i c) (hs_i o) := by
    intro n
    induction n with
    | zero => intro c o _ a b c2; omega
    | succ n ih =>
      intro c o hc o0 o4 hn
      have fin : c = -1 → post (hs_i o) := by
        intro z
        rcases hc with x | x
        · rw [x.2]; exact hp
        · exact absurd z (hm c x.1)
      have cb : -2147483648 ≤ c ∧ c < 2147483648 := by
        rcases hc with x | x
        · omega
        · have := hD c x.1; omega
      refine hs_le 4 o (fun z => fin ?_) (fun z => hs_eq c (-1) fin (fun y => ?_))
      · rcases hc with x | x
        · exact x.1
        · have := (h c x.1).1; omega
      · obtain ⟨c1, c2, c3⟩ := hc.resolve_left (fun x => y x.1)
        have cr := hD c c1
        refine nm_r (hs_1 o) (hs_rd c rfl cr.1 (by omega) (by decide) (nm_r (hs_1 o) (ih (X c) (o + 1) ?_ (by omega) (by omega) (by omega))))
        rcases (h c c1).2.2.2.1 (by rw [c2]; exact hm v hv) with x | x
        · left; exact ⟨x.1, by omega⟩
        · right; exact ⟨x.1, by rw [x.2.1]; exact c2, by omega⟩
  unfold wpX_orderOf
  dsimp only
  refine hs_rd v rfl vr.1 (by omega) (by decide) ⟨6, ?_⟩
  rw [← hs_l0]
  refine loop 6 (C v) 0 ?_ (by omega) (by omega) (by omega)
  rcases hv'.2.2.1 with x | x
  · left; exact ⟨x.1, by omega⟩
  · right; exact ⟨x.1, x.2.1, by omega⟩
def hs_BA (K H T C X U NI : Int → Int) : Prop := ∀ q, 0 ≤ q → q ≤ 3 → hs_BT K H T C X U NI q
theorem hs_BT_keep {D : Int → Prop} {K H H' T T' C C' X X' U U' NI NI' : Int → Int} {q q' : Int} (h : hs_BT K H T C X U NI q') (hne : q' ≠ q) (hH : ∀ i, 0 ≤ i → i < 24 → (H' i = q' ↔ H i = q'))
    (hD : ∀ n, hs_BD H' NI' q' n ↔ hs_BD H NI q' n) (hN : ∀ n, hs_BD H NI q' n → NI' n = NI n) (hF : hs_BF D q T C X U T' C' X' U') (hd : ∀ n, hs_BD H NI q' n → ¬ D n) : hs_BT K H' T' C' X' U' NI' q' := by
  refine hs_BT_congr h hD hH (fun n hn => by rw [hN n hn]) ?_ ?_ ?_ ?_
  · intro o a b
    rcases hF.2.2.2 (q' * 5 + o) with e | e
    · exact e
    · omega
  · intro n hn
    rcases hF.1 n with e | e
    · exact e
    · exact absurd e.1 (hd n hn)
  · intro n hn
    rcases hF.2.1 n with e | e
    · exact e
    · exact absurd e.1 (hd n hn)
  · intro n hn
    rcases hF.2.2.1 n with e | e
    · exact e
    · exact absurd e.1 (hd n hn)
theorem hs_BD_r {H NI : Int → Int} {q : Int} : ∀ n, hs_BD H NI q n → 0 ≤ n ∧ n < 24 := fun _ h => ⟨h.1, h.2.1⟩
theorem hs_BD_m {H NI : Int → Int} {q : Int} : ∀ n, hs_BD H NI q n → n ≠ -1 := fun n h => by have := h.1; omega
theorem hs_PM_inj {NI IN : Int → Int} (hP : hs_PM NI IN) {n m : Int} (n0 : 0 ≤ n) (n1 : n < 24) (m0 : 0 ≤ m) (m1 : m < 24) (h : NI n = NI m) : n = m := by
  have a := (hP n n0 n1).2.2.2.2.2
  have b := (hP m m0 m1).2.2.2.2.2
  rw [h] at a
  omega
theorem hs_addB {post : SX → Prop} {kk H T C X U NI IN : Int → Int} {q x : Int} (kr : hs_kr kk) (hq : 0 ≤ q) (hq' : q ≤ 3) (x0 : 0 ≤ x) (x1 : x < 24) (hx : ¬ (0 ≤ H x)) (hP : hs_PM NI IN)
    (h : hs_BA (hs_K kk) H T C X U NI)
    (hK : ∀ T' C' X' U' : Int → Int, hs_BA (hs_K kk) (hs_u H x q) T' C' X' U' NI → hs_BF (hs_BD (hs_u H x q) NI q) q T C X U T' C' X' U' → post (hs_e kk, gv2, gv3, gv4, gv5, gv6, gv7, gv8, gv9, gv10, gv11, gv12, gv13, gv14, gv15, hs_e T', hs_e C', hs_e X', hs_e U', hs_e NI, hs_e IN, gv22)) :
    wpX_addToBinomial post (hs_e kk, gv2, gv3, gv4, gv5, gv6, gv7, gv8, gv9, gv10, gv11, gv12, gv13, gv14, gv15, hs_e T, hs_e C, hs_e X, hs_e U, hs_e NI, hs_e IN, gv22) (hs_i q) (hs_i x) := by
  have p := hP x x0 x1
  obtain ⟨d, hA⟩ := hs_BT_add hP (h q hq hq') x0 x1 (by omega)
  have cr := hs_c_r (hs_u H x q) q
  have nD := hA.2.2.2.1
  unfold wpX_addToBinomial
  dsimp only
  refine hs_rd x rfl x0 (by omega) (by decide) (hs_wr (IN x) (-1) rfl hs_lm1.symm p.2.2.1 (by omega) (by decide) ?_)
  unfold wpX_addTree
  dsimp only
  refine ⟨6, ?_⟩
  rw [← hs_l0]
  refine hs_at kr hq hq' hs_BD_r (fun n hn => ⟨(hP n hn.1 hn.2.1).1, (hP n hn.1 hn.2.1).2.1⟩) (fun n m hn hm e => hs_PM_inj hP hn.1 hn.2.1 hm.1 hm.2.1 e) (by omega) (Or.inl rfl) 6 _ _ _ _ _ _ (IN x) 0 hA (by omega) ?_
  intro d' G' T' C' X' U' a1 a2 a3 a4 a5 a6 a7 a8
  have hF : hs_BF (hs_BD (hs_u H x q) NI q) q T C X U T' C' X' U' := hs_BF_trans ⟨hs_fr_u nD (Or.inl rfl), hs_fr_refl, hs_fr_refl, fun _ => Or.inl rfl⟩ a8
  refine hK _ _ _ _ ?_ hF
  intro q' b0 b1
  by_cases e : q' = q
  · rw [e]
    exact hs_BT_of a1 a2 a3 a4 a5
  · have hH : ∀ i, 0 ≤ i → i < 24 → (hs_u H x q i = q' ↔ H i = q') := by
      intro i c0 c1
      by_cases z : i = x
      · rw [hs_ue z, z]
        exact ⟨fun y => absurd y.symm e, fun y => by omega⟩
      · rw [hs_un z]
    refine hs_BT_keep (h q' b0 b1) e hH ?_ (fun _ _ => rfl) hF ?_
    · intro n
      constructor
      · intro c; exact ⟨c.1, c.2.1, (hH _ (hP n c.1 c.2.1).1 (hP n c.1 c.2.1).2.1).mp c.2.2⟩
      · intro c; exact ⟨c.1, c.2.1, (hH _ (hP n c.1 c.2.1).1 (hP n c.1 c.2.1).2.1).mpr c.2.2⟩
    · intro n hn y
      have a := hn.2.2
      have b := y.2.2
      by_cases z : NI n = x
      · rw [z] at a; omega
      · rw [hs_un z] at b; omega
end HS28
