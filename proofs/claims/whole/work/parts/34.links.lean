section HS34
variable {gv1 gv2 gv3 gv4 gv5 gv6 gv7 gv8 gv9 gv10 gv11 gv12 gv13 gv14 gv15 gv16 gv17 gv18 gv19 gv20 gv21 gv22 : Nat → Int32}
/-! sound: every link is within (written by a small program, one a print) -/
theorem hs_wi_home {post : Int32 → Prop} {A : Int → Int} (lo hi : Int) (l0 : -1 ≤ lo) (h0 : hi ≤ 47) (h : hs_rg A 24 lo hi) (hp : post 1) : wpX_within__home post (gv1, hs_e A, gv3, gv4, gv5, gv6, gv7, gv8, gv9, gv10, gv11, gv12, gv13, gv14, gv15, gv16, gv17, gv18, gv19, gv20, gv21, gv22) (hs_i lo) (hs_i hi) := by
  have r0 := h 0 (by omega) (by omega)
  have loop : ∀ (n : Nat) (i : Int), 0 ≤ i → i ≤ 24 → 24 - i < n → wX_within__home_2 post (hs_i lo) (hs_i hi) gv1 (hs_e A) gv3 gv4 gv5 gv6 gv7 gv8 gv9 gv10 gv11 gv12 gv13 gv14 gv15 gv16 gv17 gv18 gv19 gv20 gv21 gv22 n (hs_i i) := by
    intro n
    induction n with
    | zero => intro i a b c; omega
    | succ n ih =>
      intro i i0 i1 hn
      refine hs_le 24 i (fun _ => hp) (fun c => ⟨hs_in i0 (by omega) (by decide), ?_⟩) (by decide)
      rw [hs_get (A := A) i0 (by omega)]
      have r := h i i0 (by omega)
      exact hs_lt (A i) lo (fun z => absurd z (by omega)) (fun _ => ⟨hs_in i0 (by omega) (by decide), hs_le (A i) hi (fun _ => nm_r (hs_1 i) (ih (i + 1) (by omega) (by omega) (by omega))) (fun z => absurd z (by omega))⟩)
  unfold wpX_within__home
  dsimp only
  refine ⟨25, ?_⟩
  rw [← hs_l0]
  exact loop 25 0 (by omega) (by omega) (by omega)
theorem hs_wi_slot {post : Int32 → Prop} {A : Int → Int} (lo hi : Int) (l0 : -1 ≤ lo) (h0 : hi ≤ 47) (h : hs_rg A 192 lo hi) (hp : post 1) : wpX_within__slot post (gv1, gv2, gv3, hs_e A, gv5, gv6, gv7, gv8, gv9, gv10, gv11, gv12, gv13, gv14, gv15, gv16, gv17, gv18, gv19, gv20, gv21, gv22) (hs_i lo) (hs_i hi) := by
  have r0 := h 0 (by omega) (by omega)
  have loop : ∀ (n : Nat) (i : Int), 0 ≤ i → i ≤ 192 → 192 - i < n → wX_within__slot_2 post (hs_i lo) (hs_i hi) gv1 gv2 gv3 (hs_e A) gv5 gv6 gv7 gv8 gv9 gv10 gv11 gv12 gv13 gv14 gv15 gv16 gv17 gv18 gv19 gv20 gv21 gv22 n (hs_i i) := by
    intro n
    induction n with
    | zero => intro i a b c; omega
    | succ n ih =>
      intro i i0 i1 hn
      refine hs_le 192 i (fun _ => hp) (fun c => ⟨hs_in i0 (by omega) (by decide), ?_⟩) (by decide)
      rw [hs_get (A := A) i0 (by omega)]
      have r := h i i0 (by omega)
      exact hs_lt (A i) lo (fun z => absurd z (by omega)) (fun _ => ⟨hs_in i0 (by omega) (by decide), hs_le (A i) hi (fun _ => nm_r (hs_1 i) (ih (i + 1) (by omega) (by omega) (by omega))) (fun z => absurd z (by omega))⟩)
  unfold wpX_within__slot
  dsimp only
  refine ⟨193, ?_⟩
  rw [← hs_l0]
  exact loop 193 0 (by omega) (by omega) (by omega)
theorem hs_wi_leanRoot {post : Int32 → Prop} {A : Int → Int} (lo hi : Int) (l0 : -1 ≤ lo) (h0 : hi ≤ 47) (h : hs_rg A 8 lo hi) (hp : post 1) : wpX_within__leanRoot post (gv1, gv2, gv3, gv4, gv5, gv6, hs_e A, gv8, gv9, gv10, gv11, gv12, gv13, gv14, gv15, gv16, gv17, gv18, gv19, gv20, gv21, gv22) (hs_i lo) (hs_i hi) := by
  have r0 := h 0 (by omega) (by omega)
  have loop : ∀ (n : Nat) (i : Int), 0 ≤ i → i ≤ 8 → 8 - i < n → wX_within__leanRoot_2 post (hs_i lo) (hs_i hi) gv1 gv2 gv3 gv4 gv5 gv6 (hs_e A) gv8 gv9 gv10 gv11 gv12 gv13 gv14 gv15 gv16 gv17 gv18 gv19 gv20 gv21 gv22 n (hs_i i) := by
    intro n
    induction n with
    | zero => intro i a b c; omega
    | succ n ih =>
      intro i i0 i1 hn
      refine hs_le 8 i (fun _ => hp) (fun c => ⟨hs_in i0 (by omega) (by decide), ?_⟩) (by decide)
      rw [hs_get (A := A) i0 (by omega)]
      have r := h i i0 (by omega)
      exact hs_lt (A i) lo (fun z => absurd z (by omega)) (fun _ => ⟨hs_in i0 (by omega) (by decide), hs_le (A i) hi (fun _ => nm_r (hs_1 i) (ih (i + 1) (by omega) (by omega) (by omega))) (fun z => absurd z (by omega))⟩)
  unfold wpX_within__leanRoot
  dsimp only
  refine ⟨9, ?_⟩
  rw [← hs_l0]
  exact loop 9 0 (by omega) (by omega) (by omega)
theorem hs_wi_leanLeft {post : Int32 → Prop} {A : Int → Int} (lo hi : Int) (l0 : -1 ≤ lo) (h0 : hi ≤ 47) (h : hs_rg A 48 lo hi) (hp : post 1) : wpX_within__leanLeft post (gv1, gv2, gv3, gv4, gv5, gv6, gv7, hs_e A, gv9, gv10, gv11, gv12, gv13, gv14, gv15, gv16, gv17, gv18, gv19, gv20, gv21, gv22) (hs_i lo) (hs_i hi) := by
  have r0 := h 0 (by omega) (by omega)
  have loop : ∀ (n : Nat) (i : Int), 0 ≤ i → i ≤ 48 → 48 - i < n → wX_within__leanLeft_2 post (hs_i lo) (hs_i hi) gv1 gv2 gv3 gv4 gv5 gv6 gv7 (hs_e A) gv9 gv10 gv11 gv12 gv13 gv14 gv15 gv16 gv17 gv18 gv19 gv20 gv21 gv22 n (hs_i i) := by
    intro n
    induction n with
    | zero => intro i a b c; omega
    | succ n ih =>
      intro i i0 i1 hn
      refine hs_le 48 i (fun _ => hp) (fun c => ⟨hs_in i0 (by omega) (by decide), ?_⟩) (by decide)
      rw [hs_get (A := A) i0 (by omega)]
      have r := h i i0 (by omega)
      exact hs_lt (A i) lo (fun z => absurd z (by omega)) (fun _ => ⟨hs_in i0 (by omega) (by decide), hs_le (A i) hi (fun _ => nm_r (hs_1 i) (ih (i + 1) (by omega) (by omega) (by omega))) (fun z => absurd z (by omega))⟩)
  unfold wpX_within__leanLeft
  dsimp only
  refine ⟨49, ?_⟩
  rw [← hs_l0]
  exact loop 49 0 (by omega) (by omega) (by omega)
theorem hs_wi_leanRight {post : Int32 → Prop} {A : Int → Int} (lo hi : Int) (l0 : -1 ≤ lo) (h0 : hi ≤ 47) (h : hs_rg A 48 lo hi) (hp : post 1) : wpX_within__leanRight post (gv1, gv2, gv3, gv4, gv5, gv6, gv7, gv8, hs_e A, gv10, gv11, gv12, gv13, gv14, gv15, gv16, gv17, gv18, gv19, gv20, gv21, gv22) (hs_i lo) (hs_i hi) := by
  have r0 := h 0 (by omega) (by omega)
  have loop : ∀ (n : Nat) (i : Int), 0 ≤ i → i ≤ 48 → 48 - i < n → wX_within__leanRight_2 post (hs_i lo) (hs_i hi) gv1 gv2 gv3 gv4 gv5 gv6 gv7 gv8 (hs_e A) gv10 gv11 gv12 gv13 gv14 gv15 gv16 gv17 gv18 gv19 gv20 gv21 gv22 n (hs_i i) := by
    intro n
    induction n with
    | zero => intro i a b c; omega
    | succ n ih =>
      intro i i0 i1 hn
      refine hs_le 48 i (fun _ => hp) (fun c => ⟨hs_in i0 (by omega) (by decide), ?_⟩) (by decide)
      rw [hs_get (A := A) i0 (by omega)]
      have r := h i i0 (by omega)
      exact hs_lt (A i) lo (fun z => absurd z (by omega)) (fun _ => ⟨hs_in i0 (by omega) (by decide), hs_le (A i) hi (fun _ => nm_r (hs_1 i) (ih (i + 1) (by omega) (by omega) (by omega))) (fun z => absurd z (by omega))⟩)
  unfold wpX_within__leanRight
  dsimp only
  refine ⟨49, ?_⟩
  rw [← hs_l0]
  exact loop 49 0 (by omega) (by omega) (by omega)
theorem hs_wi_leanUp {post : Int32 → Prop} {A : Int → Int} (lo hi : Int) (l0 : -1 ≤ lo) (h0 : hi ≤ 47) (h : hs_rg A 48 lo hi) (hp : post 1) : wpX_within__leanUp post (gv1, gv2, gv3, gv4, gv5, gv6, gv7, gv8, gv9, hs_e A, gv11, gv12, gv13, gv14, gv15, gv16, gv17, gv18, gv19, gv20, gv21, gv22) (hs_i lo) (hs_i hi) := by
  have r0 := h 0 (by omega) (by omega)
  have loop : ∀ (n : Nat) (i : Int), 0 ≤ i → i ≤ 48 → 48 - i < n → wX_within__leanUp_2 post (hs_i lo) (hs_i hi) gv1 gv2 gv3 gv4 gv5 gv6 gv7 gv8 gv9 (hs_e A) gv11 gv12 gv13 gv14 gv15 gv16 gv17 gv18 gv19 gv20 gv21 gv22 n (hs_i i) := by
    intro n
    induction n with
    | zero => intro i a b c; omega
    | succ n ih =>
      intro i i0 i1 hn
      refine hs_le 48 i (fun _ => hp) (fun c => ⟨hs_in i0 (by omega) (by decide), ?_⟩) (by decide)
      rw [hs_get (A := A) i0 (by omega)]
      have r := h i i0 (by omega)
      exact hs_lt (A i) lo (fun z => absurd z (by omega)) (fun _ => ⟨hs_in i0 (by omega) (by decide), hs_le (A i) hi (fun _ => nm_r (hs_1 i) (ih (i + 1) (by omega) (by omega) (by omega))) (fun z => absurd z (by omega))⟩)
  unfold wpX_within__leanUp
  dsimp only
  refine ⟨49, ?_⟩
  rw [← hs_l0]
  exact loop 49 0 (by omega) (by omega) (by omega)
theorem hs_wi_pairRoot {post : Int32 → Prop} {A : Int → Int} (lo hi : Int) (l0 : -1 ≤ lo) (h0 : hi ≤ 47) (h : hs_rg A 4 lo hi) (hp : post 1) : wpX_within__pairRoot post (gv1, gv2, gv3, gv4, gv5, gv6, gv7, gv8, gv9, gv10, gv11, hs_e A, gv13, gv14, gv15, gv16, gv17, gv18, gv19, gv20, gv21, gv22) (hs_i lo) (hs_i hi) := by
  have r0 := h 0 (by omega) (by omega)
  have loop : ∀ (n : Nat) (i : Int), 0 ≤ i → i ≤ 4 → 4 - i < n → wX_within__pairRoot_2 post (hs_i lo) (hs_i hi) gv1 gv2 gv3 gv4 gv5 gv6 gv7 gv8 gv9 gv10 gv11 (hs_e A) gv13 gv14 gv15 gv16 gv17 gv18 gv19 gv20 gv21 gv22 n (hs_i i) := by
    intro n
    induction n with
    | zero => intro i a b c; omega
    | succ n ih =>
      intro i i0 i1 hn
      refine hs_le 4 i (fun _ => hp) (fun c => ⟨hs_in i0 (by omega) (by decide), ?_⟩) (by decide)
      rw [hs_get (A := A) i0 (by omega)]
      have r := h i i0 (by omega)
      exact hs_lt (A i) lo (fun z => absurd z (by omega)) (fun _ => ⟨hs_in i0 (by omega) (by decide), hs_le (A i) hi (fun _ => nm_r (hs_1 i) (ih (i + 1) (by omega) (by omega) (by omega))) (fun z => absurd z (by omega))⟩)
  unfold wpX_within__pairRoot
  dsimp only
  refine ⟨5, ?_⟩
  rw [← hs_l0]
  exact loop 5 0 (by omega) (by omega) (by omega)
theorem hs_wi_pairChild {post : Int32 → Prop} {A : Int → Int} (lo hi : Int) (l0 : -1 ≤ lo) (h0 : hi ≤ 47) (h : hs_rg A 24 lo hi) (hp : post 1) : wpX_within__pairChild post (gv1, gv2, gv3, gv4, gv5, gv6, gv7, gv8, gv9, gv10, gv11, gv12, hs_e A, gv14, gv15, gv16, gv17, gv18, gv19, gv20, gv21, gv22) (hs_i lo) (hs_i hi) := by
  have r0 := h 0 (by omega) (by omega)
  have loop : ∀ (n : Nat) (i : Int), 0 ≤ i → i ≤ 24 → 24 - i < n → wX_within__pairChild_2 post (hs_i lo) (hs_i hi) gv1 gv2 gv3 gv4 gv5 gv6 gv7 gv8 gv9 gv10 gv11 gv12 (hs_e A) gv14 gv15 gv16 gv17 gv18 gv19 gv20 gv21 gv22 n (hs_i i) := by
    intro n
    induction n with
    | zero => intro i a b c; omega
    | succ n ih =>
      intro i i0 i1 hn
      refine hs_le 24 i (fun _ => hp) (fun c => ⟨hs_in i0 (by omega) (by decide), ?_⟩) (by decide)
      rw [hs_get (A := A) i0 (by omega)]
      have r := h i i0 (by omega)
      exact hs_lt (A i) lo (fun z => absurd z (by omega)) (fun _ => ⟨hs_in i0 (by omega) (by decide), hs_le (A i) hi (fun _ => nm_r (hs_1 i) (ih (i + 1) (by omega) (by omega) (by omega))) (fun z => absurd z (by omega))⟩)
  unfold wpX_within__pairChild
  dsimp only
  refine ⟨25, ?_⟩
  rw [← hs_l0]
  exact loop 25 0 (by omega) (by omega) (by omega)
theorem hs_wi_pairNext {post : Int32 → Prop} {A : Int → Int} (lo hi : Int) (l0 : -1 ≤ lo) (h0 : hi ≤ 47) (h : hs_rg A 24 lo hi) (hp : post 1) : wpX_within__pairNext post (gv1, gv2, gv3, gv4, gv5, gv6, gv7, gv8, gv9, gv10, gv11, gv12, gv13, hs_e A, gv15, gv16, gv17, gv18, gv19, gv20, gv21, gv22) (hs_i lo) (hs_i hi) := by
  have r0 := h 0 (by omega) (by omega)
  have loop : ∀ (n : Nat) (i : Int), 0 ≤ i → i ≤ 24 → 24 - i < n → wX_within__pairNext_2 post (hs_i lo) (hs_i hi) gv1 gv2 gv3 gv4 gv5 gv6 gv7 gv8 gv9 gv10 gv11 gv12 gv13 (hs_e A) gv15 gv16 gv17 gv18 gv19 gv20 gv21 gv22 n (hs_i i) := by
    intro n
    induction n with
    | zero => intro i a b c; omega
    | succ n ih =>
      intro i i0 i1 hn
      refine hs_le 24 i (fun _ => hp) (fun c => ⟨hs_in i0 (by omega) (by decide), ?_⟩) (by decide)
      rw [hs_get (A := A) i0 (by omega)]
      have r := h i i0 (by omega)
      exact hs_lt (A i) lo (fun z => absurd z (by omega)) (fun _ => ⟨hs_in i0 (by omega) (by decide), hs_le (A i) hi (fun _ => nm_r (hs_1 i) (ih (i + 1) (by omega) (by omega) (by omega))) (fun z => absurd z (by omega))⟩)
  unfold wpX_within__pairNext
  dsimp only
  refine ⟨25, ?_⟩
  rw [← hs_l0]
  exact loop 25 0 (by omega) (by omega) (by omega)
theorem hs_wi_pairBack {post : Int32 → Prop} {A : Int → Int} (lo hi : Int) (l0 : -1 ≤ lo) (h0 : hi ≤ 47) (h : hs_rg A 24 lo hi) (hp : post 1) : wpX_within__pairBack post (gv1, gv2, gv3, gv4, gv5, gv6, gv7, gv8, gv9, gv10, gv11, gv12, gv13, gv14, hs_e A, gv16, gv17, gv18, gv19, gv20, gv21, gv22) (hs_i lo) (hs_i hi) := by
  have r0 := h 0 (by omega) (by omega)
  have loop : ∀ (n : Nat) (i : Int), 0 ≤ i → i ≤ 24 → 24 - i < n → wX_within__pairBack_2 post (hs_i lo) (hs_i hi) gv1 gv2 gv3 gv4 gv5 gv6 gv7 gv8 gv9 gv10 gv11 gv12 gv13 gv14 (hs_e A) gv16 gv17 gv18 gv19 gv20 gv21 gv22 n (hs_i i) := by
    intro n
    induction n with
    | zero => intro i a b c; omega
    | succ n ih =>
      intro i i0 i1 hn
      refine hs_le 24 i (fun _ => hp) (fun c => ⟨hs_in i0 (by omega) (by decide), ?_⟩) (by decide)
      rw [hs_get (A := A) i0 (by omega)]
      have r := h i i0 (by omega)
      exact hs_lt (A i) lo (fun z => absurd z (by omega)) (fun _ => ⟨hs_in i0 (by omega) (by decide), hs_le (A i) hi (fun _ => nm_r (hs_1 i) (ih (i + 1) (by omega) (by omega) (by omega))) (fun z => absurd z (by omega))⟩)
  unfold wpX_within__pairBack
  dsimp only
  refine ⟨25, ?_⟩
  rw [← hs_l0]
  exact loop 25 0 (by omega) (by omega) (by omega)
theorem hs_wi_tree {post : Int32 → Prop} {A : Int → Int} (lo hi : Int) (l0 : -1 ≤ lo) (h0 : hi ≤ 47) (h : hs_rg A 20 lo hi) (hp : post 1) : wpX_within__tree post (gv1, gv2, gv3, gv4, gv5, gv6, gv7, gv8, gv9, gv10, gv11, gv12, gv13, gv14, gv15, hs_e A, gv17, gv18, gv19, gv20, gv21, gv22) (hs_i lo) (hs_i hi) := by
  have r0 := h 0 (by omega) (by omega)
  have loop : ∀ (n : Nat) (i : Int), 0 ≤ i → i ≤ 20 → 20 - i < n → wX_within__tree_2 post (hs_i lo) (hs_i hi) gv1 gv2 gv3 gv4 gv5 gv6 gv7 gv8 gv9 gv10 gv11 gv12 gv13 gv14 gv15 (hs_e A) gv17 gv18 gv19 gv20 gv21 gv22 n (hs_i i) := by
    intro n
    induction n with
    | zero => intro i a b c; omega
    | succ n ih =>
      intro i i0 i1 hn
      refine hs_le 20 i (fun _ => hp) (fun c => ⟨hs_in i0 (by omega) (by decide), ?_⟩) (by decide)
      rw [hs_get (A := A) i0 (by omega)]
      have r := h i i0 (by omega)
      exact hs_lt (A i) lo (fun z => absurd z (by omega)) (fun _ => ⟨hs_in i0 (by omega) (by decide), hs_le (A i) hi (fun _ => nm_r (hs_1 i) (ih (i + 1) (by omega) (by omega) (by omega))) (fun z => absurd z (by omega))⟩)
  unfold wpX_within__tree
  dsimp only
  refine ⟨21, ?_⟩
  rw [← hs_l0]
  exact loop 21 0 (by omega) (by omega) (by omega)
theorem hs_wi_treeChild {post : Int32 → Prop} {A : Int → Int} (lo hi : Int) (l0 : -1 ≤ lo) (h0 : hi ≤ 47) (h : hs_rg A 24 lo hi) (hp : post 1) : wpX_within__treeChild post (gv1, gv2, gv3, gv4, gv5, gv6, gv7, gv8, gv9, gv10, gv11, gv12, gv13, gv14, gv15, gv16, hs_e A, gv18, gv19, gv20, gv21, gv22) (hs_i lo) (hs_i hi) := by
  have r0 := h 0 (by omega) (by omega)
  have loop : ∀ (n : Nat) (i : Int), 0 ≤ i → i ≤ 24 → 24 - i < n → wX_within__treeChild_2 post (hs_i lo) (hs_i hi) gv1 gv2 gv3 gv4 gv5 gv6 gv7 gv8 gv9 gv10 gv11 gv12 gv13 gv14 gv15 gv16 (hs_e A) gv18 gv19 gv20 gv21 gv22 n (hs_i i) := by
    intro n
    induction n with
    | zero => intro i a b c; omega
    | succ n ih =>
      intro i i0 i1 hn
      refine hs_le 24 i (fun _ => hp) (fun c => ⟨hs_in i0 (by omega) (by decide), ?_⟩) (by decide)
      rw [hs_get (A := A) i0 (by omega)]
      have r := h i i0 (by omega)
      exact hs_lt (A i) lo (fun z => absurd z (by omega)) (fun _ => ⟨hs_in i0 (by omega) (by decide), hs_le (A i) hi (fun _ => nm_r (hs_1 i) (ih (i + 1) (by omega) (by omega) (by omega))) (fun z => absurd z (by omega))⟩)
  unfold wpX_within__treeChild
  dsimp only
  refine ⟨25, ?_⟩
  rw [← hs_l0]
  exact loop 25 0 (by omega) (by omega) (by omega)
theorem hs_wi_treeNext {post : Int32 → Prop} {A : Int → Int} (lo hi : Int) (l0 : -1 ≤ lo) (h0 : hi ≤ 47) (h : hs_rg A 24 lo hi) (hp : post 1) : wpX_within__treeNext post (gv1, gv2, gv3, gv4, gv5, gv6, gv7, gv8, gv9, gv10, gv11, gv12, gv13, gv14, gv15, gv16, gv17, hs_e A, gv19, gv20, gv21, gv22) (hs_i lo) (hs_i hi) := by
  have r0 := h 0 (by omega) (by omega)
  have loop : ∀ (n : Nat) (i : Int), 0 ≤ i → i ≤ 24 → 24 - i < n → wX_within__treeNext_2 post (hs_i lo) (hs_i hi) gv1 gv2 gv3 gv4 gv5 gv6 gv7 gv8 gv9 gv10 gv11 gv12 gv13 gv14 gv15 gv16 gv17 (hs_e A) gv19 gv20 gv21 gv22 n (hs_i i) := by
    intro n
    induction n with
    | zero => intro i a b c; omega
    | succ n ih =>
      intro i i0 i1 hn
      refine hs_le 24 i (fun _ => hp) (fun c => ⟨hs_in i0 (by omega) (by decide), ?_⟩) (by decide)
      rw [hs_get (A := A) i0 (by omega)]
      have r := h i i0 (by omega)
      exact hs_lt (A i) lo (fun z => absurd z (by omega)) (fun _ => ⟨hs_in i0 (by omega) (by decide), hs_le (A i) hi (fun _ => nm_r (hs_1 i) (ih (i + 1) (by omega) (by omega) (by omega))) (fun z => absurd z (by omega))⟩)
  unfold wpX_within__treeNext
  dsimp only
  refine ⟨25, ?_⟩
  rw [← hs_l0]
  exact loop 25 0 (by omega) (by omega) (by omega)
theorem hs_wi_treeUp {post : Int32 → Prop} {A : Int → Int} (lo hi : Int) (l0 : -1 ≤ lo) (h0 : hi ≤ 47) (h : hs_rg A 24 lo hi) (hp : post 1) : wpX_within__treeUp post (gv1, gv2, gv3, gv4, gv5, gv6, gv7, gv8, gv9, gv10, gv11, gv12, gv13, gv14, gv15, gv16, gv17, gv18, hs_e A, gv20, gv21, gv22) (hs_i lo) (hs_i hi) := by
  have r0 := h 0 (by omega) (by omega)
  have loop : ∀ (n : Nat) (i : Int), 0 ≤ i → i ≤ 24 → 24 - i < n → wX_within__treeUp_2 post (hs_i lo) (hs_i hi) gv1 gv2 gv3 gv4 gv5 gv6 gv7 gv8 gv9 gv10 gv11 gv12 gv13 gv14 gv15 gv16 gv17 gv18 (hs_e A) gv20 gv21 gv22 n (hs_i i) := by
    intro n
    induction n with
    | zero => intro i a b c; omega
    | succ n ih =>
      intro i i0 i1 hn
      refine hs_le 24 i (fun _ => hp) (fun c => ⟨hs_in i0 (by omega) (by decide), ?_⟩) (by decide)
      rw [hs_get (A := A) i0 (by omega)]
      have r := h i i0 (by omega)
      exact hs_lt (A i) lo (fun z => absurd z (by omega)) (fun _ => ⟨hs_in i0 (by omega) (by decide), hs_le (A i) hi (fun _ => nm_r (hs_1 i) (ih (i + 1) (by omega) (by omega) (by omega))) (fun z => absurd z (by omega))⟩)
  unfold wpX_within__treeUp
  dsimp only
  refine ⟨25, ?_⟩
  rw [← hs_l0]
  exact loop 25 0 (by omega) (by omega) (by omega)
theorem hs_wi_nodeItem {post : Int32 → Prop} {A : Int → Int} (lo hi : Int) (l0 : -1 ≤ lo) (h0 : hi ≤ 47) (h : hs_rg A 24 lo hi) (hp : post 1) : wpX_within__nodeItem post (gv1, gv2, gv3, gv4, gv5, gv6, gv7, gv8, gv9, gv10, gv11, gv12, gv13, gv14, gv15, gv16, gv17, gv18, gv19, hs_e A, gv21, gv22) (hs_i lo) (hs_i hi) := by
  have r0 := h 0 (by omega) (by omega)
  have loop : ∀ (n : Nat) (i : Int), 0 ≤ i → i ≤ 24 → 24 - i < n → wX_within__nodeItem_2 post (hs_i lo) (hs_i hi) gv1 gv2 gv3 gv4 gv5 gv6 gv7 gv8 gv9 gv10 gv11 gv12 gv13 gv14 gv15 gv16 gv17 gv18 gv19 (hs_e A) gv21 gv22 n (hs_i i) := by
    intro n
    induction n with
    | zero => intro i a b c; omega
    | succ n ih =>
      intro i i0 i1 hn
      refine hs_le 24 i (fun _ => hp) (fun c => ⟨hs_in i0 (by omega) (by decide), ?_⟩) (by decide)
      rw [hs_get (A := A) i0 (by omega)]
      have r := h i i0 (by omega)
      exact hs_lt (A i) lo (fun z => absurd z (by omega)) (fun _ => ⟨hs_in i0 (by omega) (by decide), hs_le (A i) hi (fun _ => nm_r (hs_1 i) (ih (i + 1) (by omega) (by omega) (by omega))) (fun z => absurd z (by omega))⟩)
  unfold wpX_within__nodeItem
  dsimp only
  refine ⟨25, ?_⟩
  rw [← hs_l0]
  exact loop 25 0 (by omega) (by omega) (by omega)
theorem hs_wi_itemNode {post : Int32 → Prop} {A : Int → Int} (lo hi : Int) (l0 : -1 ≤ lo) (h0 : hi ≤ 47) (h : hs_rg A 24 lo hi) (hp : post 1) : wpX_within__itemNode post (gv1, gv2, gv3, gv4, gv5, gv6, gv7, gv8, gv9, gv10, gv11, gv12, gv13, gv14, gv15, gv16, gv17, gv18, gv19, gv20, hs_e A, gv22) (hs_i lo) (hs_i hi) := by
  have r0 := h 0 (by omega) (by omega)
  have loop : ∀ (n : Nat) (i : Int), 0 ≤ i → i ≤ 24 → 24 - i < n → wX_within__itemNode_2 post (hs_i lo) (hs_i hi) gv1 gv2 gv3 gv4 gv5 gv6 gv7 gv8 gv9 gv10 gv11 gv12 gv13 gv14 gv15 gv16 gv17 gv18 gv19 gv20 (hs_e A) gv22 n (hs_i i) := by
    intro n
    induction n with
    | zero => intro i a b c; omega
    | succ n ih =>
      intro i i0 i1 hn
      refine hs_le 24 i (fun _ => hp) (fun c => ⟨hs_in i0 (by omega) (by decide), ?_⟩) (by decide)
      rw [hs_get (A := A) i0 (by omega)]
      have r := h i i0 (by omega)
      exact hs_lt (A i) lo (fun z => absurd z (by omega)) (fun _ => ⟨hs_in i0 (by omega) (by decide), hs_le (A i) hi (fun _ => nm_r (hs_1 i) (ih (i + 1) (by omega) (by omega) (by omega))) (fun z => absurd z (by omega))⟩)
  unfold wpX_within__itemNode
  dsimp only
  refine ⟨25, ?_⟩
  rw [← hs_l0]
  exact loop 25 0 (by omega) (by omega) (by omega)
theorem hs_wi_winner {post : Int32 → Prop} {A : Int → Int} (lo hi : Int) (l0 : -1 ≤ lo) (h0 : hi ≤ 47) (h : hs_rg A 192 lo hi) (hp : post 1) : wpX_within__winner post (gv1, gv2, gv3, gv4, gv5, gv6, gv7, gv8, gv9, gv10, gv11, gv12, gv13, gv14, gv15, gv16, gv17, gv18, gv19, gv20, gv21, hs_e A) (hs_i lo) (hs_i hi) := by
  have r0 := h 0 (by omega) (by omega)
  have loop : ∀ (n : Nat) (i : Int), 0 ≤ i → i ≤ 192 → 192 - i < n → wX_within__winner_2 post (hs_i lo) (hs_i hi) gv1 gv2 gv3 gv4 gv5 gv6 gv7 gv8 gv9 gv10 gv11 gv12 gv13 gv14 gv15 gv16 gv17 gv18 gv19 gv20 gv21 (hs_e A) n (hs_i i) := by
    intro n
    induction n with
    | zero => intro i a b c; omega
    | succ n ih =>
      intro i i0 i1 hn
      refine hs_le 192 i (fun _ => hp) (fun c => ⟨hs_in i0 (by omega) (by decide), ?_⟩) (by decide)
      rw [hs_get (A := A) i0 (by omega)]
      have r := h i i0 (by omega)
      exact hs_lt (A i) lo (fun z => absurd z (by omega)) (fun _ => ⟨hs_in i0 (by omega) (by decide), hs_le (A i) hi (fun _ => nm_r (hs_1 i) (ih (i + 1) (by omega) (by omega) (by omega))) (fun z => absurd z (by omega))⟩)
  unfold wpX_within__winner
  dsimp only
  refine ⟨193, ?_⟩
  rw [← hs_l0]
  exact loop 193 0 (by omega) (by omega) (by omega)
theorem hs_links {post : Int32 → Prop} {k h c S F P lr ll lR lu ln pr pc pn pb tr tc tn tu ni nn wi : Int → Int} (E : hs_EN (hs_K k) h S F P lr ll lR lu ln pr pc pn pb tr tc tn tu ni nn wi) (hh : hs_rg h 24 (-1) 3) (hp : post 1) : wpX_linksStayInside post (hs_e k, hs_e h, hs_e c, hs_e S, hs_e F, hs_e P, hs_e lr, hs_e ll, hs_e lR, hs_e lu, hs_e ln, hs_e pr, hs_e pc, hs_e pn, hs_e pb, hs_e tr, hs_e tc, hs_e tn, hs_e tu, hs_e ni, hs_e nn, hs_e wi) := by
  unfold wpX_linksStayInside
  dsimp only
  refine hs_wi_home (-1) 3 (by omega) (by omega) hh (br_f (by decide) ?_)
  refine hs_wi_slot (0) 23 (by omega) (by omega) E.1.2.2 (br_f (by decide) ?_)
  refine hs_wi_leanRoot (-1) 47 (by omega) (by omega) E.2.1.2.2.1 (br_f (by decide) ?_)
  refine hs_wi_leanLeft (-1) 47 (by omega) (by omega) E.2.1.2.2.2.1 (br_f (by decide) ?_)
  refine hs_wi_leanRight (-1) 47 (by omega) (by omega) E.2.1.2.2.2.2.1 (br_f (by decide) ?_)
  refine hs_wi_leanUp (-1) 47 (by omega) (by omega) E.2.1.2.2.2.2.2 (br_f (by decide) ?_)
  refine hs_wi_pairRoot (-1) 23 (by omega) (by omega) E.2.2.1.2.1 (br_f (by decide) ?_)
  refine hs_wi_pairChild (-1) 23 (by omega) (by omega) E.2.2.1.2.2.1 (br_f (by decide) ?_)
  refine hs_wi_pairNext (-1) 23 (by omega) (by omega) E.2.2.1.2.2.2.1 (br_f (by decide) ?_)
  refine hs_wi_pairBack (-1) 23 (by omega) (by omega) E.2.2.1.2.2.2.2 (br_f (by decide) ?_)
  refine hs_wi_tree (-1) 23 (by omega) (by omega) E.2.2.2.1.2.2.1 (br_f (by decide) ?_)
  refine hs_wi_treeChild (-1) 23 (by omega) (by omega) E.2.2.2.1.2.2.2.1 (br_f (by decide) ?_)
  refine hs_wi_treeNext (-1) 23 (by omega) (by omega) E.2.2.2.1.2.2.2.2.1 (br_f (by decide) ?_)
  refine hs_wi_treeUp (-1) 23 (by omega) (by omega) E.2.2.2.1.2.2.2.2.2 (br_f (by decide) ?_)
  refine hs_wi_nodeItem (0) 23 (by omega) (by omega) (fun j a b => ⟨(E.2.2.2.1.2.1 j a b).1, by have := (E.2.2.2.1.2.1 j a b).2.1; omega⟩) (br_f (by decide) ?_)
  refine hs_wi_itemNode (0) 23 (by omega) (by omega) (fun j a b => ⟨(E.2.2.2.1.2.1 j a b).2.2.1, by have := (E.2.2.2.1.2.1 j a b).2.2.2.1; omega⟩) (br_f (by decide) ?_)
  refine hs_wi_winner (-1) 23 (by omega) (by omega) E.2.2.2.2.2 (br_f (by decide) ?_)
  exact hp
end HS34
