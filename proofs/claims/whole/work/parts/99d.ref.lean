/-! ===== LEVEL 3: the reference, telling: the shape of parts ===== -/
def zps (T : List aK4) (i e : Nat) : Prop := ∀ j, i ≤ j → j < e → (uK T j = 3 ∨ uK T j = 20 ∨ uK T j = 21 ∨ uK T j = 22 ∨ uK T j = 23 ∨ uK T j = 35) ∧ (uK T j = 3 → uK T (j + 1) = 35 ∧ uK T (j + 2) = 20 ∧ j + 2 < e) ∧ (uK T j = 20 → i + 2 ≤ j ∧ uK T (j - 1) = 35 ∧ uK T (j - 2) = 3)
theorem zps_tr {T : List aK4} {i a e : Nat} (h1 : zps T i a) (h2 : zps T a e) (p : i ≤ a) (q : a ≤ e) : zps T i e := fun j a1 a2 => by
  by_cases c : j < a
  · obtain ⟨x1, x2, x3⟩ := h1 j a1 c
    exact ⟨x1, fun z => ⟨(x2 z).1, (x2 z).2.1, by have := (x2 z).2.2; omega⟩, x3⟩
  · obtain ⟨x1, x2, x3⟩ := h2 j (by omega) a2
    exact ⟨x1, x2, fun z => ⟨by have := (x3 z).1; omega, (x3 z).2⟩⟩
theorem zps_1 {T : List aK4} {i : Nat} (h : uK T i = 21 ∨ uK T i = 22 ∨ uK T i = 23 ∨ uK T i = 35) : zps T i (i + 1) := fun j a1 a2 => by
  have e : j = i := by omega
  rw [e]
  exact ⟨by omega, fun z => by omega, fun z => by omega⟩
theorem zps_3 {T : List aK4} {i : Nat} (h1 : uK T i = 3) (h2 : uK T (i + 1) = 35) (h3 : uK T (i + 2) = 20) : zps T i (i + 3) := fun j a1 a2 => by
  rcases (by omega : j = i ∨ j = i + 1 ∨ j = i + 2) with rfl | rfl | rfl
  · exact ⟨Or.inl h1, fun _ => ⟨h2, h3, by omega⟩, fun z => by omega⟩
  · exact ⟨by omega, fun z => by omega, fun z => by omega⟩
  · exact ⟨by omega, fun z => by omega, fun _ => ⟨Nat.le_refl _, h2, h1⟩⟩
theorem zps_sc {T : List aK4} {own : Nat} {one : Nat → uR} (ho : ∀ i, (one i).1 = true → i ≤ (one i).2.1 ∧ zps T i (one i).2.1) : ∀ f n i, (uSc T own one f n i).1 = true → i ≤ (uSc T own one f n i).2.1 ∧ zps T i (uSc T own one f n i).2.1
  | 0, n, i, h => by
    unfold uSc at h ⊢
    obtain ⟨h1, h2, h3⟩ := ub_s h
    rw [h3]
    obtain ⟨h4, h5⟩ := ut_s h2
    have h4' : uK T i = 23 := h4
    rw [h5]
    exact ⟨Nat.le_succ i, zps_1 (by omega)⟩
  | f + 1, n, i, h => by
    unfold uSc at h ⊢
    by_cases c : n < 2 ∨ uK T i ≠ 23
    · rw [if_pos c] at h ⊢
      obtain ⟨h1, h2, h3⟩ := ub_s h
      rw [h3]
      have a1 := ho i h1
      have a2 := zps_sc ho f (n + 1) _ h2
      exact ⟨Nat.le_trans a1.1 a2.1, zps_tr a1.2 a2.2 a1.1 a2.1⟩
    · rw [if_neg c] at h ⊢
      obtain ⟨h1, h2, h3⟩ := ub_s h
      rw [h3]
      obtain ⟨h4, h5⟩ := ut_s h2
      have h4' : uK T i = 23 := h4
      rw [h5]
      exact ⟨Nat.le_succ i, zps_1 (by omega)⟩
theorem zps_n {T : List aK4} {i : Nat} (h : (ut T 35 i).1 = true) : i ≤ (ut T 35 i).2.1 ∧ zps T i (ut T 35 i).2.1 := by
  obtain ⟨h1, h2⟩ := ut_s h
  rw [h2]
  exact ⟨Nat.le_succ i, zps_1 (by omega)⟩
theorem zps_part {T : List aK4} : ∀ q i, (uPart T q i).1 = true → i ≤ (uPart T q i).2.1 ∧ zps T i (uPart T q i).2.1
  | 0, i, h => by
    unfold uPart at h ⊢
    by_cases c : uK T i = 22
    · rw [if_pos c] at h
      cases h
    by_cases c3 : uK T i = 3
    · rw [if_neg c, if_pos c3] at h
      obtain ⟨h1, h2, h3⟩ := ub_s h
      cases h2
    rw [if_neg c, if_neg c3] at h ⊢
    exact zps_n h
  | q + 1, i, h => by
    unfold uPart at h ⊢
    by_cases c : uK T i = 22
    · rw [if_pos c] at h ⊢
      have a := zps_sc (zps_part q) 400 0 (i + 1) h
      exact ⟨by have := a.1; omega, zps_tr (zps_1 (by omega)) a.2 (Nat.le_succ i) a.1⟩
    by_cases c3 : uK T i = 3
    · rw [if_neg c, if_pos c3] at h ⊢
      obtain ⟨h1, h2, h3⟩ := ub_s h
      rw [h3]
      obtain ⟨k1, e1⟩ := ut_s h1
      rw [e1] at h2 ⊢
      obtain ⟨h4, h5, h6⟩ := ub_s h2
      rw [h6]
      obtain ⟨k2, e2⟩ := ut_s h4
      rw [e2] at h5 ⊢
      obtain ⟨h7, h8, h9⟩ := ub_s h5
      rw [h9]
      obtain ⟨k3, e3⟩ := ut_s h8
      rw [e3]
      have k1' : uK T (i + 1) = 35 := k1
      have k2' : uK T (i + 2) = 20 := k2
      have p := zps_part q _ h7
      have p1 : i + 3 ≤ (uPart T q (i + 3)).2.1 := p.1
      have p2 : zps T (i + 3) (uPart T q (i + 3)).2.1 := p.2
      have k3' : uK T (uPart T q (i + 3)).2.1 = 21 := k3
      refine ⟨?_, ?_⟩
      · show i ≤ (uPart T q (i + 3)).2.1 + 1
        omega
      · show zps T i ((uPart T q (i + 3)).2.1 + 1)
        exact zps_tr (zps_tr (zps_3 c3 k1' k2') p2 (by omega) p1) (zps_1 (by omega)) (by omega) (Nat.le_succ _)
    rw [if_neg c, if_neg c3] at h ⊢
    exact zps_n h
/-- the masks of a part hang together -/
theorem zch_part {T : List aK4} {i e : Nat} (hp : zps T i e) (he : e ≤ T.length) (h0 : zmk T i = []) (hl : ∀ j, i ≤ j → j < e → uK T (zls T j) = 1) : ∀ p, i ≤ p → p ≤ e → zch T (zmk T p) ∧ ∀ t ∈ zmk T p, i ≤ t ∧ t < p := by
  intro p
  induction p with
  | zero =>
    intro a1 a2
    have : i = 0 := by omega
    subst this
    rw [h0]
    exact ⟨trivial, fun t ht => by cases ht⟩
  | succ p ih =>
    intro a1 a2
    by_cases c : i = p + 1
    · rw [← c, h0]
      exact ⟨trivial, fun t ht => by cases ht⟩
    obtain ⟨y1, y2⟩ := ih (by omega) (by omega)
    obtain ⟨x1, x2, x3⟩ := hp p (by omega) (by omega)
    by_cases c20 : uK T p = 20
    · obtain ⟨z1, z2, z3⟩ := x3 c20
      rw [zmk_20 c20]
      have ez : zmk T p = zmk T (p - 1) := by
        have : p = (p - 1) + 1 := by omega
        rw [this]
        exact zmk_s (j := p - 1) (by omega)
      refine ⟨⟨z2, by omega, ez.symm, hl _ (by omega) (by omega), y1⟩, fun t ht => ?_⟩
      rcases List.mem_cons.mp ht with rfl | ht
      · omega
      · have := y2 t ht
        omega
    · by_cases c21 : uK T p = 21
      · rw [zmk_21 c21]
        cases hz : zmk T p with
        | nil => exact ⟨trivial, fun t ht => by cases ht⟩
        | cons t l =>
          rw [hz] at y1 y2
          exact ⟨y1.2.2.2.2, fun u hu => by have := y2 u (List.mem_cons_of_mem _ hu); omega⟩
      · rw [zmk_s (by omega)]
        exact ⟨y1, fun t ht => by have := y2 t ht; omega⟩
