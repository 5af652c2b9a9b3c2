section HS40
variable {gv1 gv2 gv3 gv4 gv5 gv6 gv7 gv8 gv9 gv10 gv11 gv12 gv13 gv14 gv15 gv16 gv17 gv18 gv19 gv20 gv21 gv22 : Nat → Int32}
/-! the constructor -/
theorem hs_in279 {post : SX → Prop} (hK : ∀ W : Int → Int, (∀ j, 0 ≤ j → j < 192 → W j = -1) → post (gv1, gv2, gv3, gv4, gv5, gv6, gv7, gv8, gv9, gv10, gv11, gv12, gv13, gv14, gv15, gv16, gv17, gv18, gv19, gv20, gv21, hs_e W)) :
    ∀ (n : Nat) (W : Int → Int) (i : Int), (∀ j, 0 ≤ j → j < i → W j = -1) → 0 ≤ i → i ≤ 192 → 192 - i < n → wX_init_279 post n (hs_i i) gv1 gv2 gv3 gv4 gv5 gv6 gv7 gv8 gv9 gv10 gv11 gv12 gv13 gv14 gv15 gv16 gv17 gv18 gv19 gv20 gv21 (hs_e W) := by
  intro n
  induction n with
  | zero => intro W i _ a b c; omega
  | succ n ih =>
    intro W i hW i0 i1 hn
    refine hs_le 192 i (fun z => hK W (fun j a b => hW j a (by omega))) (fun z => hs_wr i (-1) rfl hs_lm1.symm i0 (by omega) (by decide) (nm_r (hs_1 i) (ih _ (i + 1) (fun j a b => ?_) (by omega) (by omega) (by omega))))
    by_cases e : j = i
    · exact hs_ue e
    · rw [hs_un e]; exact hW j a (by omega)
theorem hs_in258 {post : SX → Prop} {W0 : Int → Int} (hK : ∀ T W : Int → Int, (∀ j, 0 ≤ j → j < 20 → T j = -1) → (∀ j, 0 ≤ j → j < 192 → W j = -1) → post (gv1, gv2, gv3, gv4, gv5, gv6, gv7, gv8, gv9, gv10, gv11, gv12, gv13, gv14, gv15, hs_e T, gv17, gv18, gv19, gv20, gv21, hs_e W)) :
    ∀ (n : Nat) (T : Int → Int) (i : Int), (∀ j, 0 ≤ j → j < i → T j = -1) → 0 ≤ i → i ≤ 20 → 20 - i < n → wX_init_258 post n (hs_i i) gv1 gv2 gv3 gv4 gv5 gv6 gv7 gv8 gv9 gv10 gv11 gv12 gv13 gv14 gv15 (hs_e T) gv17 gv18 gv19 gv20 gv21 (hs_e W0) := by
  intro n
  induction n with
  | zero => intro W i _ a b c; omega
  | succ n ih =>
    intro T i hT i0 i1 hn
    refine hs_le 20 i (fun z => ⟨194, ?_⟩) (fun z => hs_wr i (-1) rfl hs_lm1.symm i0 (by omega) (by decide) (nm_r (hs_1 i) (ih _ (i + 1) (fun j a b => ?_) (by omega) (by omega) (by omega))))
    · rw [← hs_l0]
      exact hs_in279 (fun W hW => hK T W (fun j a b => hT j a (by omega)) hW) 194 W0 0 (fun j a b => by omega) (by omega) (by omega) (by omega)
    · by_cases e : j = i
      · exact hs_ue e
      · rw [hs_un e]; exact hT j a (by omega)
theorem hs_in238 {post : SX → Prop} {T0 W0 : Int → Int} (hK : ∀ R T W : Int → Int, (∀ j, 0 ≤ j → j < 4 → R j = -1) → (∀ j, 0 ≤ j → j < 20 → T j = -1) → (∀ j, 0 ≤ j → j < 192 → W j = -1) → post (gv1, gv2, gv3, gv4, gv5, gv6, gv7, gv8, gv9, gv10, gv11, hs_e R, gv13, gv14, gv15, hs_e T, gv17, gv18, gv19, gv20, gv21, hs_e W)) :
    ∀ (n : Nat) (R : Int → Int) (i : Int), (∀ j, 0 ≤ j → j < i → R j = -1) → 0 ≤ i → i ≤ 4 → 4 - i < n → wX_init_238 post n (hs_i i) gv1 gv2 gv3 gv4 gv5 gv6 gv7 gv8 gv9 gv10 gv11 (hs_e R) gv13 gv14 gv15 (hs_e T0) gv17 gv18 gv19 gv20 gv21 (hs_e W0) := by
  intro n
  induction n with
  | zero => intro W i _ a b c; omega
  | succ n ih =>
    intro T i hT i0 i1 hn
    refine hs_le 4 i (fun z => ⟨22, ?_⟩) (fun z => hs_wr i (-1) rfl hs_lm1.symm i0 (by omega) (by decide) (nm_r (hs_1 i) (ih _ (i + 1) (fun j a b => ?_) (by omega) (by omega) (by omega))))
    · rw [← hs_l0]
      exact hs_in258 (fun T2 W h1 h2 => hK T T2 W (fun j a b => hT j a (by omega)) h1 h2) 22 T0 0 (fun j a b => by omega) (by omega) (by omega) (by omega)
    · by_cases e : j = i
      · exact hs_ue e
      · rw [hs_un e]; exact hT j a (by omega)
theorem hs_in217 {post : SX → Prop} {R0 T0 W0 : Int → Int} (hK : ∀ L R T W : Int → Int, (∀ j, 0 ≤ j → j < 8 → L j = -1) → (∀ j, 0 ≤ j → j < 4 → R j = -1) → (∀ j, 0 ≤ j → j < 20 → T j = -1) → (∀ j, 0 ≤ j → j < 192 → W j = -1) → post (gv1, gv2, gv3, gv4, gv5, gv6, hs_e L, gv8, gv9, gv10, gv11, hs_e R, gv13, gv14, gv15, hs_e T, gv17, gv18, gv19, gv20, gv21, hs_e W)) :
    ∀ (n : Nat) (L : Int → Int) (i : Int), (∀ j, 0 ≤ j → j < i → L j = -1) → 0 ≤ i → i ≤ 8 → 8 - i < n → wX_init_217 post n (hs_i i) gv1 gv2 gv3 gv4 gv5 gv6 (hs_e L) gv8 gv9 gv10 gv11 (hs_e R0) gv13 gv14 gv15 (hs_e T0) gv17 gv18 gv19 gv20 gv21 (hs_e W0) := by
  intro n
  induction n with
  | zero => intro W i _ a b c; omega
  | succ n ih =>
    intro T i hT i0 i1 hn
    refine hs_le 8 i (fun z => ⟨6, ?_⟩) (fun z => hs_wr i (-1) rfl hs_lm1.symm i0 (by omega) (by decide) (nm_r (hs_1 i) (ih _ (i + 1) (fun j a b => ?_) (by omega) (by omega) (by omega))))
    · rw [← hs_l0]
      exact hs_in238 (fun R T2 W h0 h1 h2 => hK T R T2 W (fun j a b => hT j a (by omega)) h0 h1 h2) 6 R0 0 (fun j a b => by omega) (by omega) (by omega) (by omega)
    · by_cases e : j = i
      · exact hs_ue e
      · rw [hs_un e]; exact hT j a (by omega)
theorem hs_in182 {post : SX → Prop} {L0 R0 T0 W0 : Int → Int} (hK : ∀ h ni nn L R T W : Int → Int, (∀ j, 0 ≤ j → j < 24 → h j = -1 ∧ ni j = j ∧ nn j = j) → (∀ j, 0 ≤ j → j < 8 → L j = -1) → (∀ j, 0 ≤ j → j < 4 → R j = -1) → (∀ j, 0 ≤ j → j < 20 → T j = -1) → (∀ j, 0 ≤ j → j < 192 → W j = -1) → post (gv1, hs_e h, gv3, gv4, gv5, gv6, hs_e L, gv8, gv9, gv10, gv11, hs_e R, gv13, gv14, gv15, hs_e T, gv17, gv18, gv19, hs_e ni, hs_e nn, hs_e W)) :
    ∀ (n : Nat) (h ni nn : Int → Int) (i : Int), (∀ j, 0 ≤ j → j < i → h j = -1 ∧ ni j = j ∧ nn j = j) → 0 ≤ i → i ≤ 24 → 24 - i < n → wX_init_182 post n (hs_i i) gv1 (hs_e h) gv3 gv4 gv5 gv6 (hs_e L0) gv8 gv9 gv10 gv11 (hs_e R0) gv13 gv14 gv15 (hs_e T0) gv17 gv18 gv19 (hs_e ni) (hs_e nn) (hs_e W0) := by
  intro n
  induction n with
  | zero => intro h ni nn i _ a b c; omega
  | succ n ih =>
    intro h ni nn i hT i0 i1 hn
    refine hs_le 24 i (fun z => ⟨10, ?_⟩) (fun z => hs_wr i (-1) rfl hs_lm1.symm i0 (by omega) (by decide) (hs_wr i i rfl rfl i0 (by omega) (by decide) (hs_wr i i rfl rfl i0 (by omega) (by decide) (nm_r (hs_1 i) (ih _ _ _ (i + 1) (fun j a b => ?_) (by omega) (by omega) (by omega))))))
    · rw [← hs_l0]
      exact hs_in217 (fun L R T W h0 h1 h2 h3 => hK h ni nn L R T W (fun j a b => hT j a (by omega)) h0 h1 h2 h3) 10 L0 0 (fun j a b => by omega) (by omega) (by omega) (by omega)
    · by_cases e : j = i
      · rw [hs_ue e, hs_ue e, hs_ue e]; exact ⟨rfl, e.symm, e.symm⟩
      · rw [hs_un e, hs_un e, hs_un e]; exact hT j a (by omega)
theorem hs_zero : (fun _ : Nat => (0 : Int32)) = hs_e (fun _ => 0) := by
  funext _
  exact hs_l0.symm
theorem hs_EN0 {h ni nn L R T W K : Int → Int} (a : ∀ j, 0 ≤ j → j < 24 → h j = -1 ∧ ni j = j ∧ nn j = j) (b : ∀ j, 0 ≤ j → j < 8 → L j = -1) (c : ∀ j, 0 ≤ j → j < 4 → R j = -1) (d : ∀ j, 0 ≤ j → j < 20 → T j = -1) (e : ∀ j, 0 ≤ j → j < 192 → W j = -1) :
    hs_EN K h (fun _ => 0) (fun _ => 0) (fun _ => 0) L (fun _ => 0) (fun _ => 0) (fun _ => 0) (fun _ => 0) R (fun _ => 0) (fun _ => 0) (fun _ => 0) T (fun _ => 0) (fun _ => 0) (fun _ => 0) ni nn W ∧ (∀ q, 0 ≤ q → q ≤ 3 → 0 = hs_c h q) := by
  have hq : ∀ i q, 0 ≤ i → i < 24 → 0 ≤ q → h i ≠ q := by
    intro i q i0 i1 q0
    rw [(a i i0 i1).1]; omega
  have c0 : ∀ q, 0 ≤ q → q ≤ 3 → 0 = hs_c h q := by
    intro q q0 q1
    have cr := hs_c_r h q
    apply Classical.byContradiction
    intro x
    obtain ⟨i, i0, i1, i2⟩ := hs_c_ex (H := h) (q := q) (by omega)
    exact hq i q i0 i1 q0 i2
  have rg0 : ∀ n : Int, hs_rg (fun _ => 0) n (-1) 47 := fun n j _ _ => by dsimp only; omega
  have rg1 : ∀ n : Int, hs_rg (fun _ => 0) n (-1) 23 := fun n j _ _ => by dsimp only; omega
  have ah : ∀ w, hs_AA K h (fun _ => 0) (fun _ => 0) (fun _ => 0) w := by
    intro w q q0 q1
    exact ⟨c0 q q0 q1, ⟨fun p x y => absurd y (by dsimp only; omega), fun i x y z => absurd z (hq i q x y q0)⟩, fun p x y => absurd y (by dsimp only; omega)⟩
  have nl : ∀ w q n, 0 ≤ q → ¬ hs_LD h w q n := by
    intro w q n q0 x
    exact hq (n - w * 24) q (by have := x.1; omega) (by have := x.2.1; omega) q0 x.2.2
  have lt : ∀ w, 0 ≤ w → w ≤ 1 → hs_LL K h L (fun _ => 0) (fun _ => 0) (fun _ => 0) (fun _ => 0) w := by
    intro w w0 w1 q q0 q1
    exact ⟨fun n x => absurd x (nl w q n q0), fun n x => absurd x (nl w q n q0), Or.inl (b _ (by omega) (by omega)), fun _ n x => absurd x (nl w q n q0)⟩
  have np : ∀ q n, 0 ≤ q → ¬ hs_PD h q n := fun q n q0 x => hq n q x.1 x.2.1 q0 x.2.2
  have nb : ∀ q n, 0 ≤ q → ¬ hs_BD h ni q n := by
    intro q n q0 x
    have y := x.2.2
    rw [(a n x.1 x.2.1).2.1] at y
    exact hq n q x.1 x.2.1 q0 y
  refine ⟨⟨⟨ah 0, ah 1, fun j _ _ => by dsimp only; omega⟩, ⟨lt 0 (by omega) (by omega), lt 1 (by omega) (by omega), fun j x y => by rw [b j x y]; omega, rg0 _, rg0 _, rg0 _⟩, ⟨?_, fun j x y => by rw [c j x y]; omega, rg1 _, rg1 _, rg1 _⟩, ⟨?_, ?_, fun j x y => by rw [d j x y]; omega, rg1 _, rg1 _, rg1 _⟩, ⟨?_, fun j x y => by rw [e j x y]; omega⟩⟩, c0⟩
  · intro q q0 q1
    exact ⟨fun _ => 0, fun _ => 0, fun n x => absurd x (np q n q0), fun n x => absurd x (np q n q0), Or.inl (c q q0 (by omega))⟩
  · intro q q0 q1
    refine ⟨fun _ => 0, fun n x => absurd x (nb q n q0), fun n x => absurd x (nb q n q0), ⟨fun n x => absurd x (nb q n q0), fun o x y => Or.inl (d _ (by omega) (by omega))⟩, ?_⟩
    rw [← c0 q q0 q1]
    unfold hs_tv hs_b1
    rw [if_pos (d _ (by omega) (by omega)), if_pos (d _ (by omega) (by omega)), if_pos (d _ (by omega) (by omega)), if_pos (d _ (by omega) (by omega)), if_pos (d _ (by omega) (by omega))]
    rfl
  · intro i i0 i1
    have x := a i i0 i1
    exact ⟨by rw [x.2.1]; exact i0, by rw [x.2.1]; exact i1, by rw [x.2.2]; exact i0, by rw [x.2.2]; exact i1, by rw [x.2.2]; exact x.2.1, by rw [x.2.1]; exact x.2.2⟩
  · intro q q0 q1
    refine ⟨fun i i0 i1 => ?_, fun n n0 n1 => ?_⟩
    · rw [if_neg (hq i q i0 i1 q0)]; exact e _ (by omega) (by omega)
    · unfold hs_eqn hs_bt
      rw [e (q * 48 + n) (by omega) (by omega), e (q * 48 + 2 * n) (by omega) (by omega), e (q * 48 + 2 * n + 1) (by omega) (by omega)]
      rfl
end HS40
