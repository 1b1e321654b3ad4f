/-! ===== LEVEL 3: the reference, parts of plays ===== -/
theorem ub_s {R : uR} {f : Nat → uR} (h : (ub R f).1 = true) : R.1 = true ∧ (f R.2.1).1 = true ∧ (ub R f).2.1 = (f R.2.1).2.1 := by
  by_cases c : R.1 = true
  · rw [ub_T c] at h ⊢
    exact ⟨c, h, rfl⟩
  · rw [ub_F c] at h
    exact absurd h c
theorem ut_s {T : List aK4} {k i : Nat} (h : (ut T k i).1 = true) : uK T i = k ∧ ut T k i = ug (i + 1) := by
  by_cases c : uK T i = k
  · exact ⟨c, if_pos c⟩
  · rw [show ut T k i = uf i from if_neg c] at h
    cases h
/-- the masks that are open in front of a token of a play -/
def zmk (T : List aK4) : Nat → List Nat
  | 0 => []
  | j + 1 => if uK T j = 1 then [] else if uK T j = 20 then (j - 1) :: zmk T j else if uK T j = 21 then (zmk T j).tail else zmk T j
theorem zmk_s {T : List aK4} {j : Nat} (h : uK T j ≠ 1 ∧ uK T j ≠ 20 ∧ uK T j ≠ 21) : zmk T (j + 1) = zmk T j := by
  show (if _ then _ else _) = _
  rw [if_neg h.1, if_neg h.2.1, if_neg h.2.2]
theorem zmk_1 {T : List aK4} {j : Nat} (h : uK T j = 1) : zmk T (j + 1) = [] := if_pos h
theorem zmk_20 {T : List aK4} {j : Nat} (h : uK T j = 20) : zmk T (j + 1) = (j - 1) :: zmk T j := by
  show (if _ then _ else _) = _
  rw [if_neg (by omega), if_pos h]
theorem zmk_21 {T : List aK4} {j : Nat} (h : uK T j = 21) : zmk T (j + 1) = (zmk T j).tail := by
  show (if _ then _ else _) = _
  rw [if_neg (by omega), if_neg (by omega), if_pos h]
def zhd : List Nat → Int
  | [] => -1
  | x :: _ => x
/-- how a part ends -/
def zpe (T : List aK4) (i e : Nat) : Prop := zmk T e = zmk T i ∧ uK T (e - 1) ≠ 3 ∧ i < e
theorem zpe_n {T : List aK4} {i : Nat} (h : (ut T 35 i).1 = true) : zpe T i (ut T 35 i).2.1 := by
  obtain ⟨h1, h2⟩ := ut_s h
  rw [h2]
  refine ⟨zmk_s (by omega), ?_, Nat.lt_succ_self i⟩
  show uK T (i + 1 - 1) ≠ 3
  rw [Nat.add_sub_cancel]
  omega
theorem zpe_sc {T : List aK4} {own : Nat} {one : Nat → uR} (ho : ∀ i, (one i).1 = true → zpe T i (one i).2.1) : ∀ f n i, (uSc T own one f n i).1 = true → zpe T i (uSc T own one f n i).2.1
  | 0, n, i, h => by
    unfold uSc at h ⊢
    obtain ⟨h1, h2, h3⟩ := ub_s h
    rw [h3]
    obtain ⟨h4, h5⟩ := ut_s h2
    have h4' : uK T i = 23 := h4
    rw [h5]
    refine ⟨zmk_s (by show uK T i ≠ 1 ∧ uK T i ≠ 20 ∧ uK T i ≠ 21; omega), ?_, Nat.lt_succ_self i⟩
    show uK T (i + 1 - 1) ≠ 3
    rw [Nat.add_sub_cancel]
    omega
  | f + 1, n, i, h => by
    unfold uSc at h ⊢
    by_cases c : n < 2 ∨ uK T i ≠ 23
    · rw [if_pos c] at h ⊢
      obtain ⟨h1, h2, h3⟩ := ub_s h
      rw [h3]
      have a1 := ho i h1
      have a2 := zpe_sc ho f (n + 1) _ h2
      exact ⟨a2.1.trans a1.1, a2.2.1, Nat.lt_trans a1.2.2 a2.2.2⟩
    · rw [if_neg c] at h ⊢
      obtain ⟨h1, h2, h3⟩ := ub_s h
      rw [h3]
      obtain ⟨h4, h5⟩ := ut_s h2
      have h4' : uK T i = 23 := h4
      rw [h5]
      refine ⟨zmk_s (by show uK T i ≠ 1 ∧ uK T i ≠ 20 ∧ uK T i ≠ 21; omega), ?_, Nat.lt_succ_self i⟩
      show uK T (i + 1 - 1) ≠ 3
      rw [Nat.add_sub_cancel]
      omega
theorem zpe_part {T : List aK4} : ∀ q i, (uPart T q i).1 = true → zpe T i (uPart T q i).2.1
  | 0, i, h => by
    unfold uPart at h ⊢
    by_cases c : uK T i = 22
    · rw [if_pos c] at h
      cases h
    by_cases c3 : uK T i = 3
    · rw [if_neg c, if_pos c3] at h
      obtain ⟨h1, h2, h3⟩ := ub_s h
      cases h2
    rw [if_neg c, if_neg c3] at h ⊢
    exact zpe_n h
  | q + 1, i, h => by
    unfold uPart at h ⊢
    by_cases c : uK T i = 22
    · rw [if_pos c] at h ⊢
      have := zpe_sc (zpe_part q) 400 0 (i + 1) h
      exact ⟨this.1.trans (zmk_s (by omega)), this.2.1, Nat.lt_trans (Nat.lt_succ_self i) this.2.2⟩
    by_cases c3 : uK T i = 3
    · rw [if_neg c, if_pos c3] at h ⊢
      obtain ⟨h1, h2, h3⟩ := ub_s h
      rw [h3]
      obtain ⟨k1, e1⟩ := ut_s h1
      rw [e1] at h2 ⊢
      obtain ⟨h4, h5, h6⟩ := ub_s h2
      rw [h6]
      obtain ⟨k2, e2⟩ := ut_s h4
      rw [e2] at h5 ⊢
      obtain ⟨h7, h8, h9⟩ := ub_s h5
      rw [h9]
      obtain ⟨k3, e3⟩ := ut_s h8
      rw [e3]
      have p := zpe_part q _ h7
      obtain ⟨p1, p2, p3⟩ := p
      have k2' : uK T (i + 1 + 1) = 20 := k2
      have p1' : zmk T (uPart T q (i + 1 + 1 + 1)).2.1 = zmk T (i + 1 + 1 + 1) := p1
      have p3' : i + 1 + 1 + 1 < (uPart T q (i + 1 + 1 + 1)).2.1 := p3
      refine ⟨?_, ?_, ?_⟩
      · show zmk T ((uPart T q (i + 1 + 1 + 1)).2.1 + 1) = zmk T i
        rw [zmk_21 (show uK T (uPart T q (i + 1 + 1 + 1)).2.1 = 21 from k3)]
        show (zmk T (uPart T q (i + 1 + 1 + 1)).2.1).tail = _
        rw [p1', zmk_20 k2']
        show zmk T (i + 1 + 1) = zmk T i
        rw [zmk_s (by omega), zmk_s (by omega)]
      · show uK T ((uPart T q (i + 1 + 1 + 1)).2.1 + 1 - 1) ≠ 3
        rw [Nat.add_sub_cancel]
        have k3' : uK T (uPart T q (i + 1 + 1 + 1)).2.1 = 21 := k3
        omega
      · show i < (uPart T q (i + 1 + 1 + 1)).2.1 + 1
        omega
    rw [if_neg c, if_neg c3] at h ⊢
    exact zpe_n h
