/-! ===== LEVEL 3: rows ===== -/
def ry_x (x : Int) (k : Nat) : Nat := if x = 0 then k + 2 else if x < 0 then k + 1 else k
def ry_o : Nat → List Int → Option Nat
  | k, [] => some k
  | 0, _ :: _ => none
  | k + 1, x :: l => ry_o (ry_x x k) l
def ry_e : Nat → List Int → Nat
  | 0, _ => 0
  | _ + 1, [] => 0
  | k + 1, x :: l => ry_e (ry_x x k) l + 1
theorem ry_x_add {x : Int} {k m : Nat} : ry_x x (k + m) = ry_x x k + m := by
  unfold ry_x; split
  · omega
  · split <;> omega
theorem ry_o_app {a b : List Int} : ∀ {k : Nat}, ry_o k (a ++ b) = (ry_o k a).bind (fun j => ry_o j b) := by
  induction a with
  | nil => intro k; cases k <;> rfl
  | cons x a ih =>
    intro k
    cases k with
    | zero => rfl
    | succ k => exact ih
theorem ry_o_up {l : List Int} : ∀ {k j m : Nat}, ry_o k l = some j → ry_o (k + m) l = some (j + m) := by
  induction l with
  | nil => intro k j m h; cases k <;> (cases h; cases m <;> rfl)
  | cons x a ih =>
    intro k j m h
    cases k with
    | zero => cases h
    | succ k =>
      have e : k + 1 + m = (k + m) + 1 := by omega
      rw [e]
      show ry_o (ry_x x (k + m)) a = _
      rw [ry_x_add]
      exact ih h
theorem ry_e_le {l : List Int} : ∀ {k : Nat}, ry_e k l ≤ l.length := by
  induction l with
  | nil => intro k; cases k <;> exact Nat.le_refl _
  | cons x a ih =>
    intro k
    cases k with
    | zero => exact Nat.zero_le _
    | succ k => exact Nat.succ_le_succ ih
theorem ry_split {l : List Int} : ∀ {a b : Nat}, ry_o (a + b) l = some 0 → ry_o a (l.take (ry_e a l)) = some 0 ∧ ry_o b (l.drop (ry_e a l)) = some 0 := by
  induction l with
  | nil =>
    intro a b h
    have h' : (some (a + b) : Option Nat) = some 0 := by
      revert h; cases (a + b) <;> exact id
    have : a + b = 0 := Option.some.inj h'
    have ha : a = 0 := by omega
    have hb : b = 0 := by omega
    subst ha hb
    exact ⟨rfl, rfl⟩
  | cons x l ih =>
    intro a b h
    cases a with
    | zero =>
      rw [Nat.zero_add] at h
      exact ⟨rfl, h⟩
    | succ a =>
      have e : a + 1 + b = (a + b) + 1 := by omega
      rw [e] at h
      have h1 : ry_o (ry_x x (a + b)) l = some 0 := h
      rw [ry_x_add] at h1
      exact ih h1
theorem ry_e_app {u v : List Int} : ∀ {a b : Nat}, ry_o (a + b) u = some 0 → ry_e a (u ++ v) = ry_e a u := by
  induction u with
  | nil =>
    intro a b h
    have h' : (some (a + b) : Option Nat) = some 0 := by
      revert h; cases (a + b) <;> exact id
    have : a + b = 0 := Option.some.inj h'
    have ha : a = 0 := by omega
    subst ha
    cases v <;> rfl
  | cons x l ih =>
    intro a b h
    cases a with
    | zero => rfl
    | succ a =>
      have e : a + 1 + b = (a + b) + 1 := by omega
      rw [e] at h
      have h1 : ry_o (ry_x x (a + b)) l = some 0 := h
      rw [ry_x_add] at h1
      exact congrArg (· + 1) (ih h1)
theorem ry_e_all {l : List Int} : ∀ {k : Nat}, ry_o k l = some 0 → ry_e k l = l.length := by
  induction l with
  | nil => intro k h; cases k <;> rfl
  | cons x l ih =>
    intro k h
    cases k with
    | zero => cases h
    | succ k => exact congrArg (· + 1) (ih h)
theorem ry_e_add {l : List Int} : ∀ {a b : Nat}, ry_e (a + b) l = ry_e a l + ry_e b (l.drop (ry_e a l)) := by
  induction l with
  | nil =>
    intro a b
    have z : ∀ k, ry_e k [] = 0 := fun k => by cases k <;> rfl
    simp [z]
  | cons x l ih =>
    intro a b
    cases a with
    | zero => simp [ry_e]
    | succ a =>
      have e : a + 1 + b = (a + b) + 1 := by omega
      rw [e]
      show ry_e (ry_x x (a + b)) l + 1 = ry_e (ry_x x a) l + 1 + ry_e b (List.drop (ry_e (ry_x x a) l + 1) (x :: l))
      rw [ry_x_add, ih, List.drop_succ_cons]
      omega
/-- one whole part -/
def ry_P (l : List Int) : Prop := ry_o 1 l = some 0
/-- behind which place the part at a place ends -/
def ry_n (l : List Int) (i : Nat) : Nat := i + ry_e 1 (l.drop i)
theorem ry_mid {l : List Int} {i : Nat} (h : ry_P l) (hi : i < l.length) : ∃ k, ry_o 1 (l.take i) = some (k + 1) ∧ ry_o (k + 1) (l.drop i) = some 0 := by
  have h1 : ry_o 1 (l.take i ++ l.drop i) = some 0 := by rw [List.take_append_drop]; exact h
  rw [ry_o_app] at h1
  cases hj : ry_o 1 (l.take i) with
  | none => rw [hj] at h1; cases h1
  | some j =>
    rw [hj] at h1
    cases j with
    | zero =>
      rw [List.drop_eq_getElem_cons hi] at h1
      cases h1
    | succ k => exact ⟨k, rfl, h1⟩
theorem ry_drop_cons {l : List Int} {i : Nat} (hi : i < l.length) : l.drop i = l.getD i 0 :: l.drop (i + 1) := by
  rw [List.drop_eq_getElem_cons hi, List.getD_eq_getElem?_getD, List.getElem?_eq_getElem hi]
  rfl
theorem ry_pos {l : List Int} (h : ry_P l) : 0 < l.length := by
  cases l with
  | nil => cases h
  | cons x l => exact Nat.succ_pos _
theorem ry_n0 {l : List Int} (h : ry_P l) : ry_n l 0 = l.length := by
  unfold ry_n
  rw [List.drop_zero, Nat.zero_add]
  exact ry_e_all h
theorem ry_n_le {l : List Int} {i : Nat} (hi : i ≤ l.length) : ry_n l i ≤ l.length := by
  unfold ry_n
  have := ry_e_le (l := l.drop i) (k := 1)
  rw [List.length_drop] at this
  omega
theorem ry_n_lt {l : List Int} {i : Nat} (hi : i < l.length) : i < ry_n l i := by
  unfold ry_n
  rw [ry_drop_cons hi]
  show i < i + (_ + 1)
  omega
theorem ry_n_name {l : List Int} {i : Nat} (hi : i < l.length) (hx : 0 < l.getD i 0) : ry_n l i = i + 1 := by
  unfold ry_n
  rw [ry_drop_cons hi]
  show i + (ry_e (ry_x _ 0) _ + 1) = i + 1
  have : ry_x (l.getD i 0) 0 = 0 := by unfold ry_x; rw [if_neg (by omega), if_neg (by omega)]
  rw [this]
  cases l.drop (i + 1) <;> rfl
theorem ry_next {l : List Int} {i : Nat} (h : ry_P l) (hi : i < l.length) (hx : ¬ 0 < l.getD i 0) : i + 1 < l.length := by
  obtain ⟨k, -, h2⟩ := ry_mid h hi
  rw [ry_drop_cons hi] at h2
  have h3 : ry_o (ry_x (l.getD i 0) k) (l.drop (i + 1)) = some 0 := h2
  have h4 : 0 < ry_x (l.getD i 0) k := by
    unfold ry_x
    split
    · omega
    · split <;> omega
  by_cases hl : i + 1 < l.length
  · exact hl
  · rw [List.drop_eq_nil_of_le (by omega)] at h3
    have : ry_o (ry_x (l.getD i 0) k) [] = some (ry_x (l.getD i 0) k) := by cases ry_x (l.getD i 0) k <;> rfl
    rw [this] at h3
    have := Option.some.inj h3
    omega
theorem ry_n_mask {l : List Int} {i : Nat} (hi : i < l.length) (hx : l.getD i 0 < 0) : ry_n l i = ry_n l (i + 1) := by
  unfold ry_n
  rw [ry_drop_cons hi]
  show i + (ry_e (ry_x _ 0) _ + 1) = _
  have : ry_x (l.getD i 0) 0 = 1 := by unfold ry_x; rw [if_neg (by omega), if_pos (by omega)]
  rw [this]
  omega
theorem ry_n_scene {l : List Int} {i : Nat} (hi : i < l.length) (hx : l.getD i 0 = 0) : ry_n l i = ry_n l (ry_n l (i + 1)) := by
  have e : ry_n l i = i + (ry_e (1 + 1) (l.drop (i + 1)) + 1) := by
    unfold ry_n
    rw [ry_drop_cons hi]
    show i + (ry_e (ry_x _ 0) _ + 1) = _
    have : ry_x (l.getD i 0) 0 = 2 := by unfold ry_x; rw [if_pos hx]
    rw [this]
  rw [e, ry_e_add, List.drop_drop]
  unfold ry_n
  omega
theorem ry_second {l : List Int} {i : Nat} (h : ry_P l) (hi : i < l.length) (hx : l.getD i 0 = 0) : ry_n l (i + 1) < l.length := by
  obtain ⟨k, -, h2⟩ := ry_mid h hi
  rw [ry_drop_cons hi] at h2
  have h3 : ry_o (ry_x (l.getD i 0) k) (l.drop (i + 1)) = some 0 := h2
  have : ry_x (l.getD i 0) k = 1 + (k + 1) := by unfold ry_x; rw [if_pos hx]; omega
  rw [this] at h3
  obtain ⟨-, h5⟩ := ry_split h3
  rw [List.drop_drop] at h5
  have e : i + 1 + ry_e 1 (l.drop (i + 1)) = ry_n l (i + 1) := rfl
  rw [e] at h5
  by_cases hl : ry_n l (i + 1) < l.length
  · exact hl
  · rw [List.drop_eq_nil_of_le (by omega)] at h5
    cases h5
theorem ry_sub {l : List Int} {i : Nat} (h : ry_P l) (hi : i < l.length) : ry_P ((l.drop i).take (ry_n l i - i)) := by
  obtain ⟨k, -, h2⟩ := ry_mid h hi
  rw [Nat.add_comm] at h2
  have := (ry_split h2).1
  have e : ry_n l i - i = ry_e 1 (l.drop i) := by unfold ry_n; omega
  rw [e]
  exact this
theorem ry_nest {l : List Int} {i j : Nat} (h : ry_P l) (hi : i < l.length) (hij : i < j) (hj : j < ry_n l i) : ry_n l j ≤ ry_n l i := by
  have hs := ry_sub h hi
  have hle := ry_n_le (l := l) (i := i) (by omega)
  have hlen : ((l.drop i).take (ry_n l i - i)).length = ry_n l i - i := by
    rw [List.length_take, List.length_drop]; omega
  obtain ⟨k, -, h2⟩ := ry_mid (i := j - i) hs (by omega)
  have e1 : l.drop j = ((l.drop i).take (ry_n l i - i)).drop (j - i) ++ l.drop (ry_n l i) := by
    have : l.drop i = (l.drop i).take (ry_n l i - i) ++ l.drop (ry_n l i) := by
      have := (List.take_append_drop (ry_n l i - i) (l.drop i)).symm
      rw [List.drop_drop] at this
      have e : i + (ry_n l i - i) = ry_n l i := by omega
      rw [e] at this
      exact this
    have e2 : l.drop j = (l.drop i).drop (j - i) := by
      rw [List.drop_drop]; congr 1; omega
    rw [e2]
    conv => lhs; rw [this]
    rw [List.drop_append_of_le_length (by omega)]
  rw [Nat.add_comm] at h2
  have e3 := ry_e_app (v := l.drop (ry_n l i)) h2
  rw [← e1] at e3
  have := ry_e_le (l := ((l.drop i).take (ry_n l i - i)).drop (j - i)) (k := 1)
  rw [List.length_drop, hlen] at this
  show j + ry_e 1 (l.drop j) ≤ _
  omega
/-! ===== LEVEL 3: masks around ===== -/
def ry_u (l : List Int) (i : Nat) : Nat → Int
  | 0 => -1
  | b + 1 => if l.getD b 0 < 0 ∧ i < ry_n l b then (b : Int) else ry_u l i b
def ry_w (l : List Int) (i : Nat) : Nat → Int
  | 0 => -1
  | b + 1 => if l.getD b 0 = - l.getD i 0 ∧ i < ry_n l b then (b : Int) else ry_w l i b
def ry_c (l : List Int) (i : Nat) : Nat → Nat
  | 0 => 0
  | b + 1 => if l.getD b 0 < 0 ∧ i < ry_n l b then ry_c l i b + 1 else ry_c l i b
theorem ry_u_lt {l : List Int} {i : Nat} : ∀ b : Nat, -1 ≤ ry_u l i b ∧ ry_u l i b < b
  | 0 => ⟨Int.le_refl _, by show (-1 : Int) < 0; omega⟩
  | b + 1 => by
    have := ry_u_lt (l := l) (i := i) b
    unfold ry_u
    split <;> omega
theorem ry_w_lt {l : List Int} {i : Nat} : ∀ b : Nat, -1 ≤ ry_w l i b ∧ ry_w l i b < b
  | 0 => ⟨Int.le_refl _, by show (-1 : Int) < 0; omega⟩
  | b + 1 => by
    have := ry_w_lt (l := l) (i := i) b
    unfold ry_w
    split <;> omega
theorem ry_u_at {l : List Int} {i m : Nat} : ∀ {b : Nat}, ry_u l i b = m → l.getD m 0 < 0 ∧ i < ry_n l m ∧ m < b ∧ ∀ k, m < k → k < b → ¬ (l.getD k 0 < 0 ∧ i < ry_n l k)
  | 0, h => by
    have h' : (-1 : Int) = m := h
    omega
  | b + 1, h => by
    unfold ry_u at h
    split at h
    · rename_i q
      have : b = m := by omega
      subst this
      exact ⟨q.1, q.2, by omega, fun k h1 h2 => by omega⟩
    · rename_i q
      obtain ⟨a1, a2, a3, a4⟩ := ry_u_at h
      refine ⟨a1, a2, by omega, fun k h1 h2 => ?_⟩
      by_cases hk : k = b
      · subst hk; exact q
      · exact a4 k h1 (by omega)
theorem ry_u_none {l : List Int} {i : Nat} : ∀ {b : Nat}, ry_u l i b < 0 → ∀ k, k < b → ¬ (l.getD k 0 < 0 ∧ i < ry_n l k)
  | 0, _ => fun k h => by omega
  | b + 1, h => by
    unfold ry_u at h
    split at h
    · omega
    · rename_i q
      intro k hk
      by_cases e : k = b
      · subst e; exact q
      · exact ry_u_none h k (by omega)
theorem ry_u_eq {l : List Int} {i m : Nat} {b : Nat} (h1 : l.getD m 0 < 0) (h2 : i < ry_n l m) (h3 : m < b) (h4 : ∀ k, m < k → k < b → ¬ (l.getD k 0 < 0 ∧ i < ry_n l k)) : ry_u l i b = m := by
  induction b with
  | zero => omega
  | succ b ih =>
    unfold ry_u
    by_cases e : m = b
    · subst e
      rw [if_pos ⟨h1, h2⟩]
    · rw [if_neg (h4 b (by omega) (by omega))]
      exact ih (by omega) fun k q1 q2 => h4 k q1 (by omega)
theorem ry_u_congr {l : List Int} {i j : Nat} : ∀ {b : Nat}, (∀ k, k < b → l.getD k 0 < 0 → (i < ry_n l k ↔ j < ry_n l k)) → ry_u l i b = ry_u l j b
  | 0, _ => rfl
  | b + 1, h => by
    unfold ry_u
    rw [ry_u_congr (i := i) (j := j) fun k q => h k (by omega)]
    by_cases q : l.getD b 0 < 0
    · have := h b (by omega) q
      by_cases q2 : i < ry_n l b
      · rw [if_pos ⟨q, q2⟩, if_pos ⟨q, this.mp q2⟩]
      · rw [if_neg (fun z => q2 z.2), if_neg (fun z => q2 (this.mpr z.2))]
    · rw [if_neg (fun z => q z.1), if_neg (fun z => q z.1)]
theorem ry_u_skip {l : List Int} {i a : Nat} : ∀ {b : Nat}, a ≤ b → (∀ k, a ≤ k → k < b → ¬ (l.getD k 0 < 0 ∧ i < ry_n l k)) → ry_u l i b = ry_u l i a
  | 0, h, _ => by
    have : a = 0 := by omega
    subst this; rfl
  | b + 1, h, hk => by
    by_cases e : a = b + 1
    · subst e; rfl
    · have h1 : ry_u l i (b + 1) = ry_u l i b := by
        conv => lhs; unfold ry_u
        rw [if_neg (hk b (by omega) (by omega))]
      rw [h1]
      exact ry_u_skip (by omega) fun k q1 q2 => hk k q1 (by omega)
/-- the next mask around, of a mask around -/
theorem ry_u_next {l : List Int} {i b m : Nat} (h : ry_P l) (hi : i < l.length) (hb : b ≤ i) (hm : ry_u l i b = m) : ry_u l m m = ry_u l i m := by
  obtain ⟨a1, a2, a3, a4⟩ := ry_u_at hm
  refine ry_u_congr fun k hk hx => ?_
  constructor
  · intro q
    have := ry_nest h (i := k) (j := m) (by omega) hk q
    omega
  · intro q
    omega
theorem ry_w_step {l : List Int} {i : Nat} (hx : 0 < l.getD i 0) : ∀ b : Nat, ry_w l i b = if ry_u l i b < 0 then -1 else if l.getD (ry_u l i b).toNat 0 = - l.getD i 0 then ry_u l i b else ry_w l i (ry_u l i b).toNat
  | 0 => rfl
  | b + 1 => by
    by_cases q : l.getD b 0 < 0 ∧ i < ry_n l b
    · have e : ry_u l i (b + 1) = (b : Int) := by unfold ry_u; rw [if_pos q]
      rw [e, if_neg (by omega)]
      by_cases q2 : l.getD b 0 = - l.getD i 0
      · rw [Int.toNat_natCast, if_pos q2]
        unfold ry_w
        rw [if_pos ⟨q2, q.2⟩]
      · rw [Int.toNat_natCast, if_neg q2]
        conv => lhs; unfold ry_w
        rw [if_neg (fun z => q2 z.1)]
    · have e : ry_u l i (b + 1) = ry_u l i b := by conv => lhs; unfold ry_u
                                                   rw [if_neg q]
      rw [e]
      have e2 : ry_w l i (b + 1) = ry_w l i b := by
        conv => lhs; unfold ry_w
        rw [if_neg (fun z => q ⟨by omega, z.2⟩)]
      rw [e2]
      exact ry_w_step hx b
theorem ry_c_step {l : List Int} {i : Nat} : ∀ b : Nat, ry_c l i b = if ry_u l i b < 0 then 0 else ry_c l i (ry_u l i b).toNat + 1
  | 0 => rfl
  | b + 1 => by
    by_cases q : l.getD b 0 < 0 ∧ i < ry_n l b
    · have e : ry_u l i (b + 1) = (b : Int) := by unfold ry_u; rw [if_pos q]
      rw [e, if_neg (by omega), Int.toNat_natCast]
      conv => lhs; unfold ry_c
      rw [if_pos q]
    · have e : ry_u l i (b + 1) = ry_u l i b := by conv => lhs; unfold ry_u
                                                   rw [if_neg q]
      rw [e]
      have e2 : ry_c l i (b + 1) = ry_c l i b := by
        conv => lhs; unfold ry_c
        rw [if_neg q]
      rw [e2]
      exact ry_c_step b
theorem ry_c_le {l : List Int} {i : Nat} : ∀ b : Nat, ry_c l i b ≤ b
  | 0 => Nat.le_refl _
  | b + 1 => by
    have := ry_c_le (l := l) (i := i) b
    unfold ry_c
    split <;> omega
/-- below what a place lies next -/
def ry_p (l : List Int) (k j : Nat) : Prop := (l.getD k 0 < 0 ∧ j = k + 1) ∨ (l.getD k 0 = 0 ∧ (j = k + 1 ∨ j = ry_n l (k + 1)))
theorem ry_par {l : List Int} (h : ry_P l) : ∀ (b j : Nat), j ≤ b → 0 < j → j < l.length → ∃ k, k < j ∧ ry_p l k j
  | 0, j, h1, h2, _ => by omega
  | b + 1, j, h1, h2, h3 => by
    by_cases q : 0 < l.getD (j - 1) 0
    · have e : ry_n l (j - 1) = j := by rw [ry_n_name (by omega) q]; omega
      -- the smallest place whose part ends here
      have hex : ∃ i, i < j ∧ ry_n l i = j ∧ ∀ k, k < i → ry_n l k ≠ j := by
        have : ∀ n : Nat, ∀ i, i ≤ n → i < j → ry_n l i = j → ∃ i, i < j ∧ ry_n l i = j ∧ ∀ k, k < i → ry_n l k ≠ j := by
          intro n
          induction n with
          | zero =>
            intro i hi h5 h6
            exact ⟨i, h5, h6, fun k hk => by omega⟩
          | succ n ih =>
            intro i hi h5 h6
            by_cases hz : ∃ k, k < i ∧ ry_n l k = j
            · obtain ⟨k, k1, k2⟩ := hz
              exact ih k (by omega) (by omega) k2
            · exact ⟨i, h5, h6, fun k hk hk2 => hz ⟨k, hk, hk2⟩⟩
        exact this (j - 1) (j - 1) (Nat.le_refl _) (by omega) e
      obtain ⟨i, i1, i2, i3⟩ := hex
      have i0 : 0 < i := by
        rcases Nat.eq_zero_or_pos i with z | z
        · subst z; rw [ry_n0 h] at i2; omega
        · exact z
      obtain ⟨k, k1, k2⟩ := ry_par h b i (by omega) i0 (by omega)
      rcases k2 with ⟨k2, k3⟩ | ⟨k2, k3 | k3⟩
      · refine absurd ?_ (i3 k k1)
        rw [ry_n_mask (by omega) k2, ← k3]; exact i2
      · refine ⟨k, by omega, Or.inr ⟨k2, Or.inr ?_⟩⟩
        rw [← k3]; exact i2.symm
      · refine absurd ?_ (i3 k k1)
        rw [ry_n_scene (by omega) k2, ← k3]; exact i2
    · refine ⟨j - 1, by omega, ?_⟩
      by_cases q2 : l.getD (j - 1) 0 = 0
      · exact Or.inr ⟨q2, Or.inl (by omega)⟩
      · exact Or.inl ⟨by omega, by omega⟩
theorem ry_p_lt {l : List Int} {k j : Nat} (h : ry_P l) (hk : k < l.length) (hp : ry_p l k j) : k < j ∧ j < l.length ∧ j < ry_n l k := by
  rcases hp with ⟨a, rfl⟩ | ⟨a, rfl | rfl⟩
  · have := ry_next h hk (by omega)
    have h2 := ry_n_lt (l := l) (i := k + 1) this
    rw [ry_n_mask hk a]
    omega
  · have := ry_next h hk (by omega)
    have h1 := ry_n_lt (l := l) (i := k + 1) this
    have h3 := ry_second h hk a
    have h2 := ry_n_lt (l := l) (i := ry_n l (k + 1)) h3
    rw [ry_n_scene hk a]
    omega
  · have := ry_next h hk (by omega)
    have h1 := ry_n_lt (l := l) (i := k + 1) this
    have h3 := ry_second h hk a
    have h2 := ry_n_lt (l := l) (i := ry_n l (k + 1)) h3
    rw [ry_n_scene hk a]
    omega
theorem ry_u_par {l : List Int} {k j : Nat} (h : ry_P l) (hk : k < l.length) (hp : ry_p l k j) : ry_u l j j = if l.getD k 0 < 0 then (k : Int) else ry_u l k k := by
  obtain ⟨a1, a2, a3⟩ := ry_p_lt h hk hp
  have up : ∀ m, m < k → l.getD m 0 < 0 → (j < ry_n l m ↔ k < ry_n l m) := by
    intro m hm hx
    constructor
    · intro q; omega
    · intro q
      have := ry_nest h (i := m) (j := k) (by omega) hm q
      omega
  rcases hp with ⟨a, e⟩ | ⟨a, e | e⟩
  · rw [if_pos a]
    exact ry_u_eq a a3 a1 fun m q1 q2 => by omega
  · rw [if_neg (by omega), ← ry_u_congr up]
    refine ry_u_skip (by omega) fun m q1 q2 => ?_
    have : m = k := by omega
    subst this
    exact fun z => by omega
  · rw [if_neg (by omega), ← ry_u_congr up]
    refine ry_u_skip (by omega) fun m q1 q2 => ?_
    by_cases q3 : m = k
    · subst q3
      exact fun z => by omega
    · have h1 := ry_next h hk (by omega)
      by_cases q4 : m = k + 1
      · subst q4; exact fun z => by omega
      · have := ry_nest h (i := k + 1) (j := m) h1 (by omega) (by omega)
        exact fun z => by omega
/-! ===== LEVEL 3: rows of the same kinds; sameness; the next scene ===== -/
theorem ry_x_sign {x : Int} {k : Nat} : ry_x x.sign k = ry_x x k := by
  unfold ry_x
  by_cases h0 : x = 0
  · subst h0; rfl
  · have h1 : ¬ x.sign = 0 := fun h => h0 (Int.sign_eq_zero_iff_zero.mp h)
    rw [if_neg h0, if_neg h1]
    by_cases h2 : x < 0
    · rw [if_pos h2, if_pos (by rw [Int.sign_eq_neg_one_of_neg h2]; omega)]
    · rw [if_neg h2, if_neg (by rw [Int.sign_eq_one_of_pos (by omega)]; omega)]
theorem ry_e_sign {l : List Int} : ∀ {k : Nat}, ry_e k (l.map Int.sign) = ry_e k l := by
  induction l with
  | nil => intro k; cases k <;> rfl
  | cons x l ih =>
    intro k
    cases k with
    | zero => rfl
    | succ k =>
      show ry_e (ry_x x.sign k) (l.map Int.sign) + 1 = ry_e (ry_x x k) l + 1
      rw [ry_x_sign, ih]
theorem ry_o_sign {l : List Int} : ∀ {k : Nat}, ry_o k (l.map Int.sign) = ry_o k l := by
  induction l with
  | nil => intro k; cases k <;> rfl
  | cons x l ih =>
    intro k
    cases k with
    | zero => rfl
    | succ k =>
      show ry_o (ry_x x.sign k) (l.map Int.sign) = ry_o (ry_x x k) l
      rw [ry_x_sign, ih]
theorem ry_gd {l : List Int} {i : Nat} (h : l.length ≤ i) : l.getD i 0 = 0 := by
  rw [List.getD_eq_getElem?_getD, List.getElem?_eq_none h]
  rfl
/-- the same kinds -/
def ry_s (a b : List Int) : Prop := a.length = b.length ∧ ∀ i, i < a.length → (a.getD i 0).sign = (b.getD i 0).sign
theorem ry_s_map {a b : List Int} (h : ry_s a b) : a.map Int.sign = b.map Int.sign := by
  refine List.ext_getElem (by simp [h.1]) fun i h1 h2 => ?_
  have h1' : i < a.length := by simpa using h1
  have h2' : i < b.length := by simpa using h2
  have := h.2 i h1'
  rw [List.getD_eq_getElem?_getD, List.getD_eq_getElem?_getD, List.getElem?_eq_getElem h1', List.getElem?_eq_getElem h2'] at this
  simpa using this
theorem ry_s_n {a b : List Int} (h : ry_s a b) (i : Nat) : ry_n a i = ry_n b i := by
  unfold ry_n
  rw [← ry_e_sign (l := a.drop i), ← ry_e_sign (l := b.drop i), List.map_drop, List.map_drop, ry_s_map h]
theorem ry_s_P {a b : List Int} (h : ry_s a b) : ry_P a ↔ ry_P b := by
  unfold ry_P
  rw [← ry_o_sign (l := a), ← ry_o_sign (l := b), ry_s_map h]
theorem ry_s_sy {a b : List Int} (h : ry_s a b) : ry_s b a := ⟨h.1.symm, fun i hi => (h.2 i (by have := h.1; omega)).symm⟩
theorem ry_s_rf {a : List Int} : ry_s a a := ⟨rfl, fun _ _ => rfl⟩
theorem ry_s_tr {a b c : List Int} (h : ry_s a b) (g : ry_s b c) : ry_s a c := ⟨h.1.trans g.1, fun i hi => (h.2 i hi).trans (g.2 i (by have := h.1; omega))⟩
theorem ry_sg_neg {x : Int} : x.sign = -1 ↔ x < 0 := Int.sign_eq_neg_one_iff_neg
theorem ry_s_neg {a b : List Int} (h : ry_s a b) (i : Nat) : a.getD i 0 < 0 ↔ b.getD i 0 < 0 := by
  by_cases hi : i < a.length
  · rw [← ry_sg_neg, ← ry_sg_neg, h.2 i hi]
  · have h1 := h.1
    rw [ry_gd (by omega), ry_gd (by omega)]
theorem ry_s_pos {a b : List Int} (h : ry_s a b) (i : Nat) : 0 < a.getD i 0 ↔ 0 < b.getD i 0 := by
  by_cases hi : i < a.length
  · rw [← Int.sign_eq_one_iff_pos, ← Int.sign_eq_one_iff_pos, h.2 i hi]
  · have h1 := h.1
    rw [ry_gd (by omega), ry_gd (by omega)]
theorem ry_s_zero {a b : List Int} (h : ry_s a b) (i : Nat) : a.getD i 0 = 0 ↔ b.getD i 0 = 0 := by
  have h1 := ry_s_neg h i
  have h2 := ry_s_pos h i
  omega
theorem ry_s_u {a b : List Int} (h : ry_s a b) (i : Nat) : ∀ k, ry_u a i k = ry_u b i k
  | 0 => rfl
  | k + 1 => by
    unfold ry_u
    rw [ry_s_u h i k, ry_s_n h]
    have := ry_s_neg h k
    by_cases q : a.getD k 0 < 0
    · simp only [q, this.mp q, true_and]
    · simp only [q, mt this.mpr q, false_and, if_false]
/-- the owner of a use is the same in rows that have the same kinds and the same masks -/
theorem ry_w_congr {a b : List Int} (h : ry_s a b) {i : Nat} (hi : a.getD i 0 = b.getD i 0) (hx : 0 < a.getD i 0) : ∀ {k : Nat}, (∀ j, j < k → a.getD j 0 < 0 → a.getD j 0 = b.getD j 0) → ry_w a i k = ry_w b i k
  | 0, _ => rfl
  | k + 1, hk => by
    unfold ry_w
    rw [ry_w_congr h hi hx (fun j q => hk j (by omega)), ry_s_n h, hi]
    have hb := ry_s_neg h k
    by_cases q : a.getD k 0 < 0
    · rw [hk k (by omega) q]
    · rw [if_neg (fun z => q (by omega)), if_neg (fun z => q (hb.mpr (by omega)))]
/-- as the program looks at it -/
def ry_b (a b : List Int) (i : Nat) : Nat → Prop
  | 0 => a.getD i 0 = b.getD i 0
  | k + 1 => if a.getD k 0 < 0 ∧ i < ry_n a k then (if a.getD k 0 = - a.getD i 0 ∨ b.getD k 0 = - b.getD i 0 then (a.getD k 0 = - a.getD i 0 ∧ b.getD k 0 = - b.getD i 0) else ry_b a b i k) else ry_b a b i k
theorem ry_b_step {a b : List Int} {i : Nat} : ∀ k : Nat, ry_b a b i k = if ry_u a i k < 0 then a.getD i 0 = b.getD i 0 else if a.getD (ry_u a i k).toNat 0 = - a.getD i 0 ∨ b.getD (ry_u a i k).toNat 0 = - b.getD i 0 then (a.getD (ry_u a i k).toNat 0 = - a.getD i 0 ∧ b.getD (ry_u a i k).toNat 0 = - b.getD i 0) else ry_b a b i (ry_u a i k).toNat
  | 0 => rfl
  | k + 1 => by
    by_cases q : a.getD k 0 < 0 ∧ i < ry_n a k
    · have e : ry_u a i (k + 1) = (k : Int) := by unfold ry_u; rw [if_pos q]
      rw [e, if_neg (by omega), Int.toNat_natCast]
      conv => lhs; unfold ry_b
      rw [if_pos q]
    · have e : ry_u a i (k + 1) = ry_u a i k := by conv => lhs; unfold ry_u
                                                   rw [if_neg q]
      rw [e, ← ry_b_step k]
      conv => lhs; unfold ry_b
      rw [if_neg q]
theorem ry_b_iff {a b : List Int} (h : ry_s a b) {i : Nat} (hx : 0 < a.getD i 0) : ∀ k : Nat, ry_b a b i k ↔ (ry_w a i k = ry_w b i k ∧ (ry_w a i k = -1 → a.getD i 0 = b.getD i 0))
  | 0 => by
    show a.getD i 0 = b.getD i 0 ↔ _
    exact ⟨fun z => ⟨rfl, fun _ => z⟩, fun z => z.2 rfl⟩
  | k + 1 => by
    have ih := ry_b_iff h hx k
    have hb := ry_s_neg h k
    have hp := ry_s_pos h i
    have l1 := ry_w_lt (l := a) (i := i) k
    have l2 := ry_w_lt (l := b) (i := i) k
    unfold ry_b ry_w
    rw [← ry_s_n h]
    grind
/-- whether two rows are the same but for the names of masks -/
def ry_like (a b : List Int) : Prop := ry_s a b ∧ ∀ i, i < a.length → 0 < a.getD i 0 → ry_w a i i = ry_w b i i ∧ (ry_w a i i = -1 → a.getD i 0 = b.getD i 0)
theorem ry_like_sy {a b : List Int} (h : ry_like a b) : ry_like b a :=
  ⟨ry_s_sy h.1, fun i hi hx => by
    obtain ⟨q1, q2⟩ := h.2 i (by have := h.1.1; omega) ((ry_s_pos h.1 i).mpr hx)
    exact ⟨q1.symm, fun z => (q2 (by omega)).symm⟩⟩
/-- the next scene, from a place -/
def ry_ri (l : List Int) : Nat → Nat → Option Nat
  | 0, _ => none
  | f + 1, k => if l.getD k 0 = 0 ∧ l.getD (k + 1) 0 < 0 then some k else ry_ri l f (k + 1)
def ry_r (l : List Int) : Option Nat := ry_ri l l.length 0
theorem ry_ri_at {l : List Int} : ∀ {f k s : Nat}, ry_ri l f k = some s → l.getD s 0 = 0 ∧ l.getD (s + 1) 0 < 0 ∧ k ≤ s ∧ s < k + f
  | 0, _, _, h => by cases h
  | f + 1, k, s, h => by
    unfold ry_ri at h
    split at h
    · rename_i q
      cases h
      exact ⟨q.1, q.2, Nat.le_refl _, by omega⟩
    · obtain ⟨a1, a2, a3, a4⟩ := ry_ri_at h
      exact ⟨a1, a2, by omega, by omega⟩
theorem ry_r_at {l : List Int} {s : Nat} (h : ry_r l = some s) : l.getD s 0 = 0 ∧ l.getD (s + 1) 0 < 0 ∧ s + 1 < l.length := by
  obtain ⟨a1, a2, -, a4⟩ := ry_ri_at h
  refine ⟨a1, a2, ?_⟩
  by_cases q : s + 1 < l.length
  · exact q
  · rw [ry_gd (by omega)] at a2
    omega
/-! ===== LEVEL 3: steps of rows ===== -/
def ry_tg (l : List Int) (m a i : Nat) : Bool := decide (m < i ∧ i < a ∧ l.getD i 0 = - l.getD m 0 ∧ ry_w l i i = (m : Int))
def ry_t (l : List Int) (m a : Nat) : Nat → Nat
  | 0 => 0
  | j + 1 => ry_t l m a j + if ry_tg l m a j = true then 1 else 0
/-- the size behind a step at a scene -/
def ry_sz (l : List Int) (s : Nat) : Int := (l.length : Int) - 2 - ((ry_n l s - ry_n l (s + 1) : Nat) : Int) - (ry_t l (s + 1) (ry_n l (s + 1)) (ry_n l (s + 1)) : Int) + (ry_t l (s + 1) (ry_n l (s + 1)) (ry_n l (s + 1)) : Int) * ((ry_n l s - ry_n l (s + 1) : Nat) : Int)
/-- a name that belongs to nothing within -/
def ry_on (l : List Int) (a b : Nat) (x : Int) : Bool := (List.range b).any fun j => decide (a ≤ j ∧ l.getD j 0 = x ∧ ry_w l j j < (a : Int))
def ry_nm (l : List Int) (x : Int) (f t : Nat) : Bool := (List.range t).any fun j => decide (f ≤ j ∧ (l.getD j 0 = x ∨ l.getD j 0 = -x))
def ry_ht (tg : Nat → Bool) (f t : Nat) : Bool := (List.range t).any fun j => decide (f ≤ j) && tg j
theorem ry_on_iff {l : List Int} {a b : Nat} {x : Int} : ry_on l a b x = true ↔ ∃ j, a ≤ j ∧ j < b ∧ l.getD j 0 = x ∧ ry_w l j j < (a : Int) := by
  unfold ry_on
  rw [List.any_eq_true]
  constructor
  · rintro ⟨j, h1, h2⟩
    have := of_decide_eq_true h2
    exact ⟨j, this.1, List.mem_range.mp h1, this.2⟩
  · rintro ⟨j, h1, h2, h3⟩
    exact ⟨j, List.mem_range.mpr h2, decide_eq_true ⟨h1, h3⟩⟩
theorem ry_nm_iff {l : List Int} {x : Int} {f t : Nat} : ry_nm l x f t = true ↔ ∃ j, f ≤ j ∧ j < t ∧ (l.getD j 0 = x ∨ l.getD j 0 = -x) := by
  unfold ry_nm
  rw [List.any_eq_true]
  constructor
  · rintro ⟨j, h1, h2⟩
    have := of_decide_eq_true h2
    exact ⟨j, this.1, List.mem_range.mp h1, this.2⟩
  · rintro ⟨j, h1, h2, h3⟩
    exact ⟨j, List.mem_range.mpr h2, decide_eq_true ⟨h1, h3⟩⟩
theorem ry_ht_iff {tg : Nat → Bool} {f t : Nat} : ry_ht tg f t = true ↔ ∃ j, f ≤ j ∧ j < t ∧ tg j = true := by
  unfold ry_ht
  rw [List.any_eq_true]
  constructor
  · rintro ⟨j, h1, h2⟩
    rw [Bool.and_eq_true] at h2
    exact ⟨j, of_decide_eq_true h2.1, List.mem_range.mp h1, h2.2⟩
  · rintro ⟨j, h1, h2, h3⟩
    exact ⟨j, List.mem_range.mpr h2, by rw [Bool.and_eq_true]; exact ⟨decide_eq_true h1, h3⟩⟩
/-- z and a number -/
def ry_z (n : Nat) : Nat := if n < 10 then 26 * 37 + 27 + n else if n < 100 then (26 * 37 + 27 + n / 10) * 37 + 27 + n % 10 else ((26 * 37 + 27 + n / 100) * 37 + 27 + n / 10 % 10) * 37 + 27 + n % 10
theorem ry_z_inj {x y : Nat} (hx : x < 151) (hy : y < 151) (h : ry_z x = ry_z y) : x = y := by
  unfold ry_z at h
  grind
theorem ry_z_pos {x : Nat} : 0 < ry_z x := by
  unfold ry_z; split
  · omega
  · split <;> omega
def ry_fi (bad : Nat → Bool) : Nat → Nat → Nat
  | 0, n => n
  | f + 1, n => if bad n = true then ry_fi bad f (n + 1) else n
theorem ry_fi_at {bad : Nat → Bool} : ∀ {f n : Nat}, (∃ z, n ≤ z ∧ z < n + f ∧ bad z = false) → bad (ry_fi bad f n) = false ∧ n ≤ ry_fi bad f n ∧ ry_fi bad f n < n + f ∧ ∀ z, n ≤ z → z < ry_fi bad f n → bad z = true
  | 0, n, h => by obtain ⟨z, h1, h2, -⟩ := h; omega
  | f + 1, n, h => by
    unfold ry_fi
    by_cases q : bad n = true
    · rw [if_pos q]
      obtain ⟨z, h1, h2, h3⟩ := h
      have : n ≠ z := fun e => by rw [e, h3] at q; cases q
      obtain ⟨a1, a2, a3, a4⟩ := ry_fi_at (f := f) (n := n + 1) ⟨z, by omega, by omega, h3⟩
      refine ⟨a1, by omega, by omega, fun y h4 h5 => ?_⟩
      by_cases e : y = n
      · subst e; exact q
      · exact a4 y (by omega) h5
    · rw [if_neg q]
      exact ⟨by simpa using q, Nat.le_refl _, by omega, fun z h1 h2 => by omega⟩
theorem ry_pigeon : ∀ (n : Nat) (g : Nat → Nat), (∀ z, z ≤ n → g z < n) → ∃ x y, x < y ∧ y ≤ n ∧ g x = g y
  | 0, g, h => by have := h 0 (Nat.le_refl _); omega
  | n + 1, g, h => by
    by_cases hz : ∃ z, z ≤ n ∧ g z = g (n + 1)
    · obtain ⟨z, h1, h2⟩ := hz
      exact ⟨z, n + 1, by omega, Nat.le_refl _, h2⟩
    · have hv := h (n + 1) (Nat.le_refl _)
      obtain ⟨x, y, h1, h2, h3⟩ := ry_pigeon n (fun z => if g z = n then g (n + 1) else g z) (fun z hzn => by
        have h4 := h z (by omega)
        show (if g z = n then g (n + 1) else g z) < n
        split
        · rename_i q
          by_cases e : g (n + 1) = n
          · exact absurd ⟨z, hzn, by omega⟩ hz
          · omega
        · omega)
      refine ⟨x, y, h1, by omega, ?_⟩
      by_cases c1 : g x = n
      · by_cases c2 : g y = n
        · omega
        · simp only [c1, c2, if_true, if_false] at h3
          exact absurd ⟨y, h2, h3.symm⟩ hz
      · by_cases c2 : g y = n
        · simp only [c1, c2, if_true, if_false] at h3
          exact absurd ⟨x, by omega, h3⟩ hz
        · simpa only [c1, c2, if_false] using h3
/-- the number of the new name of a mask -/
def ry_fz (l : List Int) (k a b : Nat) : Nat := ry_fi (fun n => ry_nm l (ry_z n : Int) (k + 1) (ry_n l k) || ry_on l a b (ry_z n : Int)) 151 0
theorem ry_fz_ex {l : List Int} {k a b : Nat} (hl : l.length ≤ 150) : ∃ z, 0 ≤ z ∧ z < 0 + 151 ∧ (ry_nm l (ry_z z : Int) (k + 1) (ry_n l k) || ry_on l a b (ry_z z : Int)) = false := by
  apply Classical.byContradiction
  intro hn
  have hb : ∀ z, ∃ j, z ≤ 150 → j < 150 ∧ (l.getD j 0).natAbs = ry_z z := by
    intro z
    by_cases hz : z ≤ 150
    · have h1 : (ry_nm l (ry_z z : Int) (k + 1) (ry_n l k) || ry_on l a b (ry_z z : Int)) = true := by
        cases q : (ry_nm l (ry_z z : Int) (k + 1) (ry_n l k) || ry_on l a b (ry_z z : Int)) with
        | true => rfl
        | false => exact absurd ⟨z, Nat.zero_le _, by omega, q⟩ hn
      have hp := ry_z_pos (x := z)
      have h2 : ∃ j, l.getD j 0 = (ry_z z : Int) ∨ l.getD j 0 = -(ry_z z : Int) := by
        rw [Bool.or_eq_true] at h1
        rcases h1 with h1 | h1
        · obtain ⟨j, -, -, h2⟩ := ry_nm_iff.mp h1
          exact ⟨j, h2⟩
        · obtain ⟨j, -, -, h2, -⟩ := ry_on_iff.mp h1
          exact ⟨j, Or.inl h2⟩
      obtain ⟨j, h2⟩ := h2
      refine ⟨j, fun _ => ⟨?_, by omega⟩⟩
      by_cases q : j < 150
      · exact q
      · rw [ry_gd (by omega)] at h2
        omega
    · exact ⟨0, fun q => absurd q hz⟩
  obtain ⟨g, hg⟩ := Classical.axiomOfChoice hb
  obtain ⟨x, y, h1, h2, h3⟩ := ry_pigeon 150 g (fun z hz => (hg z hz).1)
  have e1 := (hg x (by omega)).2
  have e2 := (hg y h2).2
  rw [h3] at e1
  have := ry_z_inj (x := x) (y := y) (by omega) (by omega) (by rw [← e1, ← e2])
  omega
theorem ry_fz_at {l : List Int} {k a b : Nat} (hl : l.length ≤ 150) : ry_nm l (ry_z (ry_fz l k a b) : Int) (k + 1) (ry_n l k) = false ∧ ry_on l a b (ry_z (ry_fz l k a b) : Int) = false ∧ ry_fz l k a b < 151 ∧ ∀ z, z < ry_fz l k a b → (ry_nm l (ry_z z : Int) (k + 1) (ry_n l k) || ry_on l a b (ry_z z : Int)) = true := by
  obtain ⟨a1, -, a3, a4⟩ := ry_fi_at (ry_fz_ex (k := k) (a := a) (b := b) hl)
  rw [Bool.or_eq_false_iff] at a1
  exact ⟨a1.1, a1.2, by unfold ry_fz; omega, fun z hz => a4 z (Nat.zero_le _) hz⟩
/-- the uses of a mask in some places by another name -/
def ry_rs (l : List Int) (k z : Nat) (p : Nat → Bool) : List Int := (List.range l.length).map fun i => if k < i ∧ i < ry_n l k ∧ l.getD i 0 = - l.getD k 0 ∧ ry_w l i i = (k : Int) ∧ p i = true then (z : Int) else l.getD i 0
def ry_rn (l : List Int) (k z : Nat) : List Int := (ry_rs l k z (fun _ => true)).set k (-(z : Int))
theorem ry_rs_len {l : List Int} {k z : Nat} {p : Nat → Bool} : (ry_rs l k z p).length = l.length := by simp [ry_rs]
theorem ry_rn_len {l : List Int} {k z : Nat} : (ry_rn l k z).length = l.length := by simp [ry_rn, ry_rs_len]
theorem ry_rs_at {l : List Int} {k z i : Nat} {p : Nat → Bool} : (ry_rs l k z p).getD i 0 = if i < l.length ∧ k < i ∧ i < ry_n l k ∧ l.getD i 0 = - l.getD k 0 ∧ ry_w l i i = (k : Int) ∧ p i = true then (z : Int) else l.getD i 0 := by
  by_cases hi : i < l.length
  · rw [List.getD_eq_getElem?_getD, List.getElem?_eq_getElem (by rw [ry_rs_len]; exact hi)]
    simp [ry_rs, hi]
  · rw [ry_gd (by rw [ry_rs_len]; omega), if_neg (fun z => hi z.1), ry_gd (by omega)]
theorem ry_set_at {l : List Int} {k i : Nat} {x : Int} : (l.set k x).getD i 0 = if k = i ∧ i < l.length then x else l.getD i 0 := by
  simp only [List.getD_eq_getElem?_getD, List.getElem?_set]
  by_cases h1 : k = i
  · subst h1
    by_cases h2 : k < l.length
    · simp [h2]
    · simp [h2]
  · simp [h1]
theorem ry_rs_s {l : List Int} {k z : Nat} {p : Nat → Bool} (hz : 0 < z) (hk : l.getD k 0 < 0) : ry_s l (ry_rs l k z p) := by
  refine ⟨ry_rs_len.symm, fun i hi => ?_⟩
  rw [ry_rs_at]
  split
  · rename_i q
    rw [Int.sign_eq_one_of_pos (by omega), Int.sign_eq_one_of_pos (by omega)]
  · rfl
theorem ry_rn_at {l : List Int} {k z i : Nat} (hk : k < l.length) : (ry_rn l k z).getD i 0 = if i = k then -(z : Int) else if i < l.length ∧ k < i ∧ i < ry_n l k ∧ l.getD i 0 = - l.getD k 0 ∧ ry_w l i i = (k : Int) then (z : Int) else l.getD i 0 := by
  unfold ry_rn
  rw [ry_set_at, ry_rs_len, ry_rs_at]
  by_cases h1 : i = k
  · subst h1; rw [if_pos ⟨rfl, hk⟩, if_pos rfl]
  · rw [if_neg (fun z => h1 z.1.symm), if_neg h1]
    simp
theorem ry_rn_s {l : List Int} {k z : Nat} (hz : 0 < z) (hl : k < l.length) (hk : l.getD k 0 < 0) : ry_s l (ry_rn l k z) := by
  refine ⟨ry_rn_len.symm, fun i hi => ?_⟩
  rw [ry_rn_at hl]
  split
  · rename_i q
    subst q
    rw [Int.sign_eq_neg_one_of_neg hk, Int.sign_eq_neg_one_of_neg (by omega)]
  · split
    · rename_i q
      rw [Int.sign_eq_one_of_pos (by omega), Int.sign_eq_one_of_pos (by omega)]
    · rfl
theorem ry_rs_w {l : List Int} {k z i : Nat} {p : Nat → Bool} (hz : 0 < z) (hk : l.getD k 0 < 0) (hx : 0 < l.getD i 0) (hp : p i = false) : ry_w (ry_rs l k z p) i i = ry_w l i i := by
  refine (ry_w_congr (ry_rs_s hz hk) ?_ hx fun j hj hm => ?_).symm
  · rw [ry_rs_at, if_neg (fun q => by rw [hp] at q; cases q.2.2.2.2.2)]
  · rw [ry_rs_at, if_neg (fun q => by omega)]
/-- the row and the count when all masks below a place are through -/
def ry_ra (l : List Int) (tg : Nat → Bool) (s a b : Nat) : Nat → List Int × Nat
  | 0 => (l, 0)
  | j + 1 => if s + 2 ≤ j ∧ j < a ∧ (ry_ra l tg s a b j).1.getD j 0 < 0 ∧ ry_ht tg (j + 1) (ry_n l j) = true ∧ ry_on l a b (-(ry_ra l tg s a b j).1.getD j 0) = true then
      (ry_rn (ry_ra l tg s a b j).1 j (ry_z (ry_fz (ry_ra l tg s a b j).1 j a b)), (ry_ra l tg s a b j).2 + 1)
    else ry_ra l tg s a b j
/-! ===== LEVEL 3: steps of rows, what holds of them ===== -/
/-- the state of renaming -/
theorem ry_ra_s {l : List Int} {tg : Nat → Bool} {s a b : Nat} (ha : a ≤ l.length) : ∀ j, ry_s l (ry_ra l tg s a b j).1
  | 0 => ry_s_rf
  | j + 1 => by
    have ih := ry_ra_s (tg := tg) (s := s) (b := b) ha j
    unfold ry_ra
    split
    · rename_i q
      refine ry_s_tr ih (ry_rn_s ry_z_pos ?_ q.2.2.1)
      rw [← ih.1]; omega
    · exact ih
theorem ry_ra_hi {l : List Int} {tg : Nat → Bool} {s a b i : Nat} (hP : ry_P l) (ha : a ≤ l.length) (hs : s + 2 < l.length) (hn : ry_n l (s + 2) = a) (hi : a ≤ i ∨ i < s + 2) : ∀ j, (ry_ra l tg s a b j).1.getD i 0 = l.getD i 0
  | 0 => rfl
  | j + 1 => by
    have ih := ry_ra_hi (tg := tg) (b := b) hP ha hs hn hi j
    have hsg := ry_ra_s (tg := tg) (s := s) (b := b) ha j
    unfold ry_ra
    split
    · rename_i q
      have hj : j < (ry_ra l tg s a b j).1.length := by rw [← hsg.1]; omega
      rw [ry_rn_at hj, if_neg (by omega), if_neg ?_]
      · exact ih
      · intro z
        rw [← ry_s_n hsg] at z
        have hle : ry_n l j ≤ a := by
          by_cases e : j = s + 2
          · subst e; omega
          · rw [← hn]
            exact ry_nest hP hs (by omega) (by omega)
        omega
    · exact ih
theorem ry_w_hi {a b : List Int} (h : ry_s a b) {f i : Nat} (hx : 0 < a.getD i 0) (he : ∀ j, f ≤ j → a.getD j 0 = b.getD j 0) (hi : f ≤ i) : ∀ {k : Nat}, f ≤ k → (ry_w a i k < (f : Int) ↔ ry_w b i k < (f : Int))
  | 0, hk => by
    have e : ∀ l : List Int, ry_w l i 0 = -1 := fun _ => rfl
    rw [e, e]
  | k + 1, hk => by
    unfold ry_w
    by_cases q : f = k + 1
    · have h1 := ry_w_lt (l := a) (i := i) k
      have h2 := ry_w_lt (l := b) (i := i) k
      constructor
      · intro _; split <;> omega
      · intro _; split <;> omega
    · have ih := ry_w_hi h hx he hi (k := k) (by omega)
      rw [ry_s_n h, he i hi, he k (by omega)]
      split
      · exact Iff.rfl
      · exact ih
theorem ry_on_hi {u v : List Int} (h : ry_s u v) {a b : Nat} {x : Int} (hx : 0 < x) (he : ∀ j, a ≤ j → u.getD j 0 = v.getD j 0) : ry_on u a b x = ry_on v a b x := by
  rw [Bool.eq_iff_iff, ry_on_iff, ry_on_iff]
  constructor
  · rintro ⟨j, h1, h2, h3, h4⟩
    exact ⟨j, h1, h2, (he j h1) ▸ h3, (ry_w_hi h (by omega) he h1 h1).mp h4⟩
  · rintro ⟨j, h1, h2, h3, h4⟩
    have h5 : u.getD j 0 = x := (he j h1).trans h3
    exact ⟨j, h1, h2, h5, (ry_w_hi h (by omega) he h1 h1).mpr h4⟩
/-- names of letters -/
def vW (n : Nat) : Prop := n < 4808584372417849 ∧ ∀ k, 37 ^ k ≤ n → n / 37 ^ k % 37 ≠ 0
def gW (l : List Int) : Prop := ∀ i, vW (l.getD i 0).natAbs
theorem vW_0 : vW 0 := ⟨by decide, fun k h => by have := Nat.pow_pos (n := k) (show 0 < 37 by omega); omega⟩
theorem gW_mem {l : List Int} : gW l ↔ ∀ x ∈ l, vW x.natAbs := by
  constructor
  · intro h x hx
    obtain ⟨i, hi, rfl⟩ := List.getElem_of_mem hx
    have := h i
    rw [List.getD_eq_getElem?_getD, List.getElem?_eq_getElem hi] at this
    exact this
  · intro h i
    by_cases hi : i < l.length
    · rw [List.getD_eq_getElem?_getD, List.getElem?_eq_getElem hi]
      exact h _ (List.getElem_mem hi)
    · rw [ry_gd (by omega)]
      exact vW_0
theorem vW_s {n d : Nat} (hn : vW n) (h : 37 * n + d < 4808584372417849) (hd : d < 37) (h0 : d ≠ 0) : vW (37 * n + d) := by
  refine ⟨h, fun k hk => ?_⟩
  cases k with
  | zero =>
    rw [Nat.pow_zero, Nat.div_one]
    omega
  | succ k =>
    have e : (37 * n + d) / 37 ^ (k + 1) = n / 37 ^ k := by
      rw [Nat.pow_succ, Nat.mul_comm (37 ^ k) 37, ← Nat.div_div_eq_div_mul]
      congr 1
      omega
    rw [e]
    refine hn.2 k ?_
    rw [Nat.pow_succ] at hk
    have h2 : 37 ^ k * 37 ≤ 37 * n + d := hk
    by_cases q : 37 ^ k ≤ n
    · exact q
    · have : n + 1 ≤ 37 ^ k := by omega
      have := Nat.mul_le_mul_right 37 this
      omega
theorem vW_1 {d : Nat} (hd : d < 37) (h0 : d ≠ 0) : vW d := by
  have := vW_s (n := 0) vW_0 (d := d) (by omega) hd h0
  simpa using this
theorem vW_z {z : Nat} (hz : z < 151) : vW (ry_z z) := by
  have h1 : vW 26 := vW_1 (by omega) (by omega)
  have h2 : ∀ d, d < 10 → vW (26 * 37 + 27 + d) := fun d hd => by
    have := vW_s (d := 27 + d) h1 (by omega) (by omega) (by omega)
    have e : 26 * 37 + 27 + d = 37 * 26 + (27 + d) := by omega
    rw [e]; exact this
  unfold ry_z
  split
  · exact h2 z (by omega)
  · split
    · have := vW_s (d := 27 + z % 10) (h2 (z / 10) (by omega)) (by omega) (by omega) (by omega)
      have e : (26 * 37 + 27 + z / 10) * 37 + 27 + z % 10 = 37 * (26 * 37 + 27 + z / 10) + (27 + z % 10) := by omega
      rw [e]; exact this
    · have h3 := vW_s (d := 27 + z / 10 % 10) (h2 (z / 100) (by omega)) (by omega) (by omega) (by omega)
      have := vW_s (d := 27 + z % 10) h3 (by omega) (by omega) (by omega)
      have e : ((26 * 37 + 27 + z / 100) * 37 + 27 + z / 10 % 10) * 37 + 27 + z % 10 = 37 * (37 * (26 * 37 + 27 + z / 100) + (27 + z / 10 % 10)) + (27 + z % 10) := by omega
      rw [e]; exact this
theorem ry_rn_gW {l : List Int} {k z : Nat} (hk : k < l.length) (hg : gW l) (hz : vW z) : gW (ry_rn l k z) := by
  intro i
  rw [ry_rn_at hk]
  split
  · simpa using hz
  · split
    · simpa using hz
    · exact hg i
theorem ry_ra_gW {l : List Int} {tg : Nat → Bool} {s a b : Nat} (hg : gW l) (hl : l.length ≤ 150) (ha : a ≤ l.length) : ∀ j, gW (ry_ra l tg s a b j).1
  | 0 => hg
  | j + 1 => by
    have ih := ry_ra_gW (tg := tg) (s := s) (b := b) hg hl ha j
    have hs := ry_ra_s (tg := tg) (s := s) (b := b) ha j
    unfold ry_ra
    split
    · rename_i q
      refine ry_rn_gW (by rw [← hs.1]; omega) ih (vW_z (ry_fz_at ?_).2.2.1)
      rw [← hs.1]; exact hl
    · exact ih
/-- what comes in the place of a place -/
def ry_pc (l : List Int) (tg : Nat → Bool) (s a b i : Nat) : List Int := if tg i = true then (l.drop a).take (b - a) else if i = s ∨ i = s + 1 ∨ (a ≤ i ∧ i < b) then [] else [l.getD i 0]
def ry_bu (l : List Int) (tg : Nat → Bool) (s a b : Nat) : Nat → List Int
  | 0 => []
  | j + 1 => ry_bu l tg s a b j ++ ry_pc l tg s a b j
/-- the row with the new names, ahead of the step -/
def ry_sr (l : List Int) (s : Nat) : List Int := (ry_ra l (ry_tg l (s + 1) (ry_n l (s + 1))) s (ry_n l (s + 1)) (ry_n l s) (ry_n l (s + 1))).1
/-- how many masks are renamed -/
def ry_sc (l : List Int) (s : Nat) : Nat := (ry_ra l (ry_tg l (s + 1) (ry_n l (s + 1))) s (ry_n l (s + 1)) (ry_n l s) (ry_n l (s + 1))).2
/-- the row behind a step -/
def ry_st (l : List Int) (s : Nat) : List Int := ry_bu (ry_sr l s) (ry_tg l (s + 1) (ry_n l (s + 1))) s (ry_n l (s + 1)) (ry_n l s) l.length
/-- a row with a scene that is ready -/
def ry_Q (l : List Int) (s : Nat) : Prop := ry_P l ∧ s + 1 < l.length ∧ l.getD s 0 = 0 ∧ l.getD (s + 1) 0 < 0
theorem ry_Q_geo {l : List Int} {s : Nat} (h : ry_Q l s) : s + 2 < ry_n l (s + 1) ∧ ry_n l (s + 2) = ry_n l (s + 1) ∧ s + 2 < l.length ∧ ry_n l (s + 1) < ry_n l s ∧ ry_n l s ≤ l.length ∧ ry_n l s = ry_n l (ry_n l (s + 1)) := by
  obtain ⟨hP, h1, h2, h3⟩ := h
  have a1 := ry_next hP h1 (by omega)
  have a2 := ry_n_mask h1 h3
  have a3 := ry_n_lt (l := l) (i := s + 1 + 1) a1
  have a4 := ry_second hP (show s < l.length by omega) h2
  have a5 := ry_n_scene (show s < l.length by omega) h2
  have a6 := ry_n_lt a4
  have a7 := ry_n_le (l := l) (i := s) (by omega)
  exact ⟨by omega, a2.symm, by omega, by omega, a7, a5⟩
theorem ry_tg_at {l : List Int} {m a i : Nat} (h : ry_tg l m a i = true) : m < i ∧ i < a ∧ l.getD i 0 = - l.getD m 0 ∧ ry_w l i i = (m : Int) := of_decide_eq_true h
theorem ry_pc_len {l : List Int} {tg : Nat → Bool} {s a b i : Nat} (hb : b ≤ l.length) (htg : tg i = true → ¬ (i = s ∨ i = s + 1 ∨ (a ≤ i ∧ i < b))) : (ry_pc l tg s a b i).length + (if i = s ∨ i = s + 1 ∨ (a ≤ i ∧ i < b) then 1 else 0) + (if tg i = true then 1 else 0) = 1 + (if tg i = true then 1 else 0) * (b - a) := by
  unfold ry_pc
  by_cases q : tg i = true
  · rw [if_pos q, if_neg (htg q), if_pos q]
    rw [List.length_take, List.length_drop]
    omega
  · rw [if_neg q, if_neg q]
    split <;> simp
theorem ry_bu_len {l : List Int} {m s a b n : Nat} {l' : List Int} (hb : b ≤ l'.length) (hm : m = s + 1) : ∀ j, (ry_bu l' (ry_tg l m a) s a b j).length + (j - (if j ≤ s then j else if j ≤ s + 1 then j - 1 else if j ≤ a then j - 2 else if j ≤ b then a - 2 else j - 2 - (b - a))) + ry_t l m a j = j + ry_t l m a j * (b - a) ∨ ¬ (s + 2 ≤ a ∧ a ≤ b)
  | 0 => by
    by_cases q : s + 2 ≤ a ∧ a ≤ b
    · left
      simp [ry_bu, ry_t]
    · exact Or.inr q
  | j + 1 => by
    rcases ry_bu_len (l := l) (n := n) hb hm j with ih | ih
    · by_cases q : s + 2 ≤ a ∧ a ≤ b
      · left
        have hp := ry_pc_len (l := l') (tg := ry_tg l m a) (s := s) (a := a) (b := b) (i := j) hb (fun z => by
          have := ry_tg_at z
          omega)
        have e1 : (ry_bu l' (ry_tg l m a) s a b (j + 1)).length = (ry_bu l' (ry_tg l m a) s a b j).length + (ry_pc l' (ry_tg l m a) s a b j).length := List.length_append
        have e2 : ry_t l m a (j + 1) = ry_t l m a j + if ry_tg l m a j = true then 1 else 0 := rfl
        rw [e1, e2, Nat.add_mul]
        generalize (ry_bu l' (ry_tg l m a) s a b j).length = x at ih ⊢
        generalize (ry_pc l' (ry_tg l m a) s a b j).length = y at hp ⊢
        generalize ry_t l m a j * (b - a) = u at ih ⊢
        generalize (if ry_tg l m a j = true then 1 else 0) * (b - a) = v at hp ⊢
        generalize (if ry_tg l m a j = true then 1 else 0) = w at hp ⊢
        generalize ry_t l m a j = t at ih ⊢
        clear e1 e2
        grind
      · exact Or.inr q
    · exact Or.inr ih
theorem ry_t_stop {l : List Int} {m a : Nat} : ∀ j, a ≤ j → ry_t l m a j = ry_t l m a a
  | 0, h => by
    have : a = 0 := by omega
    subst this; rfl
  | j + 1, h => by
    by_cases e : a = j + 1
    · rw [e]
    · have e2 : ry_t l m a (j + 1) = ry_t l m a j + if ry_tg l m a j = true then 1 else 0 := rfl
      rw [e2, if_neg (fun z => by have := ry_tg_at z; omega), ry_t_stop j (by omega), Nat.add_zero]
theorem ry_sr_len {l : List Int} {s : Nat} (h : ry_Q l s) : (ry_sr l s).length = l.length := ((ry_ra_s (by have := ry_Q_geo h; omega) _).1).symm
theorem ry_st_len {l : List Int} {s : Nat} (h : ry_Q l s) : ((ry_st l s).length : Int) = ry_sz l s := by
  obtain ⟨g1, g2, g3, g4, g5, g6⟩ := ry_Q_geo h
  rcases ry_bu_len (l := l) (n := 0) (l' := ry_sr l s) (m := s + 1) (s := s) (a := ry_n l (s + 1)) (b := ry_n l s) (by rw [ry_sr_len h]; omega) rfl l.length with q | q
  · rw [ry_t_stop l.length (by omega)] at q
    unfold ry_st ry_sz
    rw [if_neg (by omega), if_neg (by omega), if_neg (by omega)] at q
    have e : ((ry_t l (s + 1) (ry_n l (s + 1)) (ry_n l (s + 1)) * (ry_n l s - ry_n l (s + 1)) : Nat) : Int) = (ry_t l (s + 1) (ry_n l (s + 1)) (ry_n l (s + 1)) : Int) * ((ry_n l s - ry_n l (s + 1) : Nat) : Int) := Int.natCast_mul _ _
    rw [← e]
    generalize (ry_bu (ry_sr l s) (ry_tg l (s + 1) (ry_n l (s + 1))) s (ry_n l (s + 1)) (ry_n l s) l.length).length = x at q ⊢
    generalize ry_t l (s + 1) (ry_n l (s + 1)) (ry_n l (s + 1)) * (ry_n l s - ry_n l (s + 1)) = y at q ⊢
    split at q <;> omega
  · exact absurd ⟨by omega, by omega⟩ q
theorem ry_bu_mono {l : List Int} {tg : Nat → Bool} {s a b : Nat} : ∀ {i j : Nat}, i ≤ j → (ry_bu l tg s a b i).length ≤ (ry_bu l tg s a b j).length
  | i, 0, h => by
    have : i = 0 := by omega
    subst this; exact Nat.le_refl _
  | i, j + 1, h => by
    by_cases e : i = j + 1
    · subst e; exact Nat.le_refl _
    · have := ry_bu_mono (l := l) (tg := tg) (s := s) (a := a) (b := b) (i := i) (j := j) (by omega)
      have e1 : (ry_bu l tg s a b (j + 1)).length = (ry_bu l tg s a b j).length + (ry_pc l tg s a b j).length := List.length_append
      omega
/-! ===== LEVEL 3: the row behind a step is one part again ===== -/
theorem ry_take_s {l : List Int} {j : Nat} (hj : j < l.length) : l.take (j + 1) = l.take j ++ [l.getD j 0] := by
  rw [List.take_add_one, List.getD_eq_getElem?_getD, List.getElem?_eq_getElem hj]
  rfl
theorem ry_o_1 {k : Nat} {x : Int} : ry_o (k + 1) [x] = some (ry_x x k) := by
  show ry_o (ry_x x k) [] = _
  cases ry_x x k <;> rfl
theorem ry_o_nil {k : Nat} : ry_o k [] = some k := by cases k <;> rfl
/-- within a part at a place, something is still to come -/
theorem ry_within {l : List Int} {i c j : Nat} (h : ry_P l) (hi : i < l.length) (hc : ry_o 1 (l.take i) = some (c + 1)) (hij : i ≤ j) (hj : j < ry_n l i) : ∃ y, ry_o 1 (l.take j) = some (y + 1) ∧ c ≤ y := by
  have hs := ry_sub h hi
  have hle := ry_n_le (l := l) (i := i) (by omega)
  have hlen : ((l.drop i).take (ry_n l i - i)).length = ry_n l i - i := by
    rw [List.length_take, List.length_drop]; omega
  obtain ⟨k, h1, -⟩ := ry_mid (i := j - i) hs (by omega)
  rw [List.take_take, Nat.min_eq_left (by omega)] at h1
  have e : l.take j = l.take i ++ (l.drop i).take (j - i) := by
    rw [show j = i + (j - i) by omega, List.take_add]
    congr 2
    omega
  rw [e, ry_o_app, hc]
  refine ⟨k + c, ?_, by omega⟩
  show ry_o (c + 1) _ = _
  rw [Nat.add_comm c 1, ry_o_up h1]
  congr 1
  omega
theorem ry_behind {l : List Int} {i c : Nat} (h : ry_P l) (hi : i < l.length) (hc : ry_o 1 (l.take i) = some (c + 1)) : ry_o 1 (l.take (ry_n l i)) = some c := by
  have hs := ry_sub h hi
  have hlt := ry_n_lt hi
  have e : l.take (ry_n l i) = l.take i ++ (l.drop i).take (ry_n l i - i) := by
    have := List.take_add (l := l) (i := i) (j := ry_n l i - i)
    rw [show i + (ry_n l i - i) = ry_n l i by omega] at this
    exact this
  rw [e, ry_o_app, hc]
  show ry_o (c + 1) _ = _
  rw [Nat.add_comm c 1, ry_o_up (m := c) hs]
  congr 1
  omega
theorem ry_P_take {l : List Int} (h : ry_P l) : ry_o 1 (l.take l.length) = some 0 := by
  rw [List.take_length]; exact h
theorem ry_bu_pre {l : List Int} {tg : Nat → Bool} {s a b : Nat} (ht : ∀ i, tg i = true → s + 1 < i) (ha : s + 1 < a) : ∀ j, j ≤ s → s < l.length → ry_bu l tg s a b j = l.take j
  | 0, _, _ => by simp [ry_bu]
  | j + 1, h, hl => by
    have ih := ry_bu_pre (b := b) ht ha j (by omega) hl
    show ry_bu l tg s a b j ++ ry_pc l tg s a b j = _
    rw [ih, ry_take_s (by omega)]
    unfold ry_pc
    rw [if_neg (fun z => by have := ht j z; omega), if_neg (by omega)]
theorem ry_bu_2 {l : List Int} {tg : Nat → Bool} {s a b : Nat} (ht : ∀ i, tg i = true → s + 1 < i) (ha : s + 1 < a) (hl : s < l.length) : ry_bu l tg s a b (s + 2) = l.take s := by
  show (ry_bu l tg s a b s ++ ry_pc l tg s a b s) ++ ry_pc l tg s a b (s + 1) = _
  rw [ry_bu_pre ht ha s (Nat.le_refl _) hl]
  unfold ry_pc
  rw [if_neg (fun z => by have := ht _ z; omega), if_pos (Or.inl rfl), if_neg (fun z => by have := ht _ z; omega), if_pos (Or.inr (Or.inl rfl))]
  simp
/-- behind the second part the rest stays -/
theorem ry_bu_post {l : List Int} {tg : Nat → Bool} {s a b : Nat} (ht : ∀ i, tg i = true → i < a) (hs : s + 1 < a) (hab : a ≤ b) : ∀ j, a ≤ j → j ≤ l.length → ry_bu l tg s a b j = ry_bu l tg s a b a ++ (l.take j).drop b
  | 0, h, _ => by omega
  | j + 1, h, hl => by
    by_cases e : a = j + 1
    · rw [← e, List.drop_eq_nil_of_le (by rw [List.length_take]; omega), List.append_nil]
    · have ih := ry_bu_post (l := l) (s := s) ht hs hab j (by omega) (by omega)
      show ry_bu l tg s a b j ++ ry_pc l tg s a b j = _
      rw [ih, List.append_assoc]
      congr 1
      unfold ry_pc
      rw [if_neg (fun z => by have := ht _ z; omega)]
      by_cases q : j < b
      · rw [if_pos (Or.inr (Or.inr ⟨by omega, q⟩)), List.append_nil, List.drop_eq_nil_of_le (as := l.take j) (by rw [List.length_take]; omega), List.drop_eq_nil_of_le (as := l.take (j + 1)) (by rw [List.length_take]; omega)]
      · rw [if_neg (by omega), ry_take_s (l := l) (j := j) (by omega), List.drop_append_of_le_length (show b ≤ (l.take j).length by rw [List.length_take]; omega)]
theorem ry_bu_all {l : List Int} {tg : Nat → Bool} {s a b : Nat} (ht : ∀ i, tg i = true → i < a) (hs : s + 1 < a) (hab : a ≤ b) (ha : a ≤ l.length) : ry_bu l tg s a b l.length = ry_bu l tg s a b a ++ l.drop b := by
  rw [ry_bu_post ht hs hab l.length ha (Nat.le_refl _), List.take_length]
section RB
variable {l l' : List Int} {s : Nat}
theorem ry_Q_s (h : ry_Q l s) (hs : ry_s l l') : ry_Q l' s := ⟨(ry_s_P hs).mp h.1, by rw [← hs.1]; exact h.2.1, (ry_s_zero hs s).mp h.2.2.1, (ry_s_neg hs (s + 1)).mp h.2.2.2⟩
/-- what the targets are: uses within -/
def ry_T (l' : List Int) (s : Nat) (tg : Nat → Bool) : Prop := ∀ i, tg i = true → s + 1 < i ∧ i < ry_n l' (s + 1) ∧ 0 < l'.getD i 0
theorem ry_bu_o {tg : Nat → Bool} (h : ry_Q l' s) (ht : ry_T l' s tg) {c : Nat} (hc : ry_o 1 (l'.take s) = some (c + 1)) : ∀ j, s + 2 ≤ j → j ≤ ry_n l' (s + 1) → ∃ y, ry_o 1 (l'.take j) = some (y + 1) ∧ ry_o 1 (ry_bu l' tg s (ry_n l' (s + 1)) (ry_n l' s) j) = some y ∧ (j < ry_n l' (s + 1) → c + 1 ≤ y)
  | 0, h1, _ => by omega
  | j + 1, h1, h2 => by
    obtain ⟨g1, g2, g3, g4, g5, g6⟩ := ry_Q_geo h
    have hP := h.1
    have c2 : ry_o 1 (l'.take (s + 2)) = some (c + 2) := by
      rw [ry_take_s (by omega), ry_take_s (by omega), ry_o_app, ry_o_app, hc]
      show ((ry_o (c + 1) [l'.getD s 0]).bind _) = _
      rw [ry_o_1]
      have e1 : ry_x (l'.getD s 0) c = c + 2 := by unfold ry_x; rw [if_pos h.2.2.1]
      rw [e1]
      show ry_o (c + 1 + 1) [l'.getD (s + 1) 0] = _
      rw [ry_o_1]
      have h5 := h.2.2.2
      have e2 : ry_x (l'.getD (s + 1) 0) (c + 1) = c + 2 := by unfold ry_x; rw [if_neg (by omega), if_pos h5]
      rw [e2]
    by_cases e : j = s + 1
    · subst e
      refine ⟨c + 1, c2, ?_, fun _ => Nat.le_refl _⟩
      rw [show s + 1 + 1 = s + 2 from rfl, ry_bu_2 (fun i z => (ht i z).1) (by omega) (by omega)]
      exact hc
    · obtain ⟨y, y1, y2, y3⟩ := ry_bu_o h ht hc j (by omega) (by omega)
      have y4 := y3 (by omega)
      obtain ⟨y, rfl⟩ : ∃ z, y = z + 1 := ⟨y - 1, by omega⟩
      have e1 : ry_o 1 (l'.take (j + 1)) = some (ry_x (l'.getD j 0) (y + 1)) := by
        rw [ry_take_s (by omega), ry_o_app, y1]
        exact ry_o_1
      have e2 : ry_o 1 (ry_bu l' tg s (ry_n l' (s + 1)) (ry_n l' s) (j + 1)) = some (ry_x (l'.getD j 0) y) := by
        show ry_o 1 (ry_bu l' tg s _ _ j ++ ry_pc l' tg s _ _ j) = _
        rw [ry_o_app, y2]
        show ry_o (y + 1) _ = _
        unfold ry_pc
        by_cases q : tg j = true
        · rw [if_pos q]
          have hx := (ht j q).2.2
          have e3 : ry_x (l'.getD j 0) y = y := by unfold ry_x; rw [if_neg (by omega), if_neg (by omega)]
          rw [e3]
          have hs := ry_sub hP (show ry_n l' (s + 1) < l'.length by omega)
          rw [← g6] at hs
          rw [Nat.add_comm y 1, ry_o_up (m := y) hs]
          congr 1
          omega
        · rw [if_neg q, if_neg (by omega)]
          exact ry_o_1
      have e4 : ry_x (l'.getD j 0) (y + 1) = ry_x (l'.getD j 0) y + 1 := ry_x_add
      rw [e4] at e1
      refine ⟨_, e1, e2, fun h6 => ?_⟩
      obtain ⟨z, z1, z2⟩ := ry_within hP g3 c2 (show s + 2 ≤ j + 1 by omega) (by omega)
      rw [e1] at z1
      have := Option.some.inj z1
      omega
theorem ry_bu_P {tg : Nat → Bool} (h : ry_Q l' s) (ht : ry_T l' s tg) : ry_P (ry_bu l' tg s (ry_n l' (s + 1)) (ry_n l' s) l'.length) := by
  obtain ⟨g1, g2, g3, g4, g5, g6⟩ := ry_Q_geo h
  have hP := h.1
  obtain ⟨c, hc, hc2⟩ := ry_mid hP (show s < l'.length by omega)
  rw [ry_bu_all (fun i z => (ht i z).2.1) (by omega) (by omega) (by omega)]
  obtain ⟨y, y1, y2, -⟩ := ry_bu_o h ht hc (ry_n l' (s + 1)) (by omega) (Nat.le_refl _)
  have hb := ry_behind hP (show s < l'.length by omega) hc
  -- ahead of the second part
  obtain ⟨y', z1⟩ : ∃ y', ry_o 1 (l'.take (ry_n l' (s + 1))) = some (y' + 1) := ⟨y, y1⟩
  have hb2 := ry_behind hP (show ry_n l' (s + 1) < l'.length by omega) y1
  rw [← g6, hb] at hb2
  have e : c = y := Option.some.inj hb2
  unfold ry_P
  rw [ry_o_app, y2]
  show ry_o y _ = _
  rw [← e]
  have h3 : ry_o 1 (l'.take (ry_n l' s) ++ l'.drop (ry_n l' s)) = some 0 := by rw [List.take_append_drop]; exact hP
  rw [ry_o_app, hb] at h3
  exact h3
theorem ry_tg_T (h : ry_Q l s) (hs : ry_s l l') : ry_T l' s (ry_tg l (s + 1) (ry_n l (s + 1))) := by
  intro i z
  obtain ⟨a1, a2, a3, a4⟩ := ry_tg_at z
  have := h.2.2.2
  refine ⟨a1, by rw [← ry_s_n hs]; exact a2, (ry_s_pos hs i).mp (by omega)⟩
theorem ry_sr_s (h : ry_Q l s) : ry_s l (ry_sr l s) := ry_ra_s (by have := ry_Q_geo h; omega) _
theorem ry_st_P (h : ry_Q l s) : ry_P (ry_st l s) := by
  have hs := ry_sr_s h
  have := ry_bu_P (ry_Q_s h hs) (ry_tg_T h hs)
  rw [← ry_s_n hs, ← ry_s_n hs, ← hs.1] at this
  exact this
theorem ry_pc_gW {tg : Nat → Bool} {a b i : Nat} (hg : gW l) : ∀ x ∈ ry_pc l tg s a b i, vW x.natAbs := by
  intro x hx
  unfold ry_pc at hx
  split at hx
  · exact gW_mem.mp hg x (List.mem_of_mem_drop (List.mem_of_mem_take hx))
  · split at hx
    · cases hx
    · rw [List.mem_singleton] at hx
      subst hx
      exact hg i
theorem ry_bu_gW {tg : Nat → Bool} {a b : Nat} (hg : gW l) : ∀ j, ∀ x ∈ ry_bu l tg s a b j, vW x.natAbs
  | 0 => fun x hx => by cases hx
  | j + 1 => fun x hx => by
    rcases List.mem_append.mp hx with h | h
    · exact ry_bu_gW hg j x h
    · exact ry_pc_gW hg x h
theorem ry_st_gW (h : ry_Q l s) (hg : gW l) (hl : l.length ≤ 150) : gW (ry_st l s) :=
  gW_mem.mpr (ry_bu_gW (ry_ra_gW hg hl (by have := ry_Q_geo h; omega) _) _)
end RB
/-! ===== LEVEL 3: the text of a row ===== -/
def ltr (c : Nat) : Nat := if c < 27 then 96 + c else 21 + c
/-- the letters of a name -/
def lets (n : Nat) : List Nat := if _h : n = 0 then [] else lets (n / 37) ++ [ltr (n % 37)]
termination_by n
decreasing_by omega
theorem lets_0 : lets 0 = [] := by unfold lets; rfl
theorem lets_s {n : Nat} (h : n ≠ 0) : lets n = lets (n / 37) ++ [ltr (n % 37)] := by
  conv => lhs; unfold lets
  rw [dif_neg h]
theorem lets_len : ∀ (k n : Nat), n < 37 ^ k → (lets n).length ≤ k
  | 0, n, h => by
    have : n = 0 := by simpa using h
    subst this
    rw [lets_0]
    exact Nat.le_refl _
  | k + 1, n, h => by
    by_cases q : n = 0
    · subst q; rw [lets_0]; exact Nat.zero_le _
    · rw [lets_s q, List.length_append]
      have := lets_len k (n / 37) (by rw [Nat.pow_succ] at h; exact Nat.div_lt_of_lt_mul (by omega))
      simp
      exact this
theorem lets_lt (k : Nat) : ∀ n : Nat, n ≤ k → ∀ b ∈ lets n, b < 128 := by
  induction k with
  | zero =>
    intro n hn b hb
    have : n = 0 := by omega
    subst this
    rw [lets_0] at hb
    cases hb
  | succ k ih =>
    intro n hn b hb
    by_cases q : n = 0
    · subst q; rw [lets_0] at hb; cases hb
    · rw [lets_s q] at hb
      rcases List.mem_append.mp hb with h | h
      · exact ih (n / 37) (by omega) b h
      · rw [List.mem_singleton] at h
        subst h
        unfold ltr
        split <;> omega
/-- what comes behind a name: out of what is pending, up to a blank -/
def tp : List Nat → List Nat × List Nat
  | [] => ([], [])
  | c :: st => if c = 32 then ([32], st) else (c :: (tp st).1, (tp st).2)
/-- one place -/
def tel (x : Int) (q : List Nat × List Nat) : List Nat × List Nat :=
  if x = 0 then (q.1 ++ [91], 32 :: 93 :: q.2)
  else if x < 0 then (q.1 ++ [109, 97, 115, 107, 32] ++ lets x.natAbs ++ [40], 41 :: q.2)
  else (q.1 ++ lets x.natAbs ++ (tp q.2).1, (tp q.2).2)
/-- the text and what is pending, ahead of a place -/
def tx (l : List Int) : Nat → List Nat × List Nat
  | 0 => ([], [])
  | j + 1 => tel (l.getD j 0) (tx l j)
/-- how many signs a place brings in all -/
def twt (x : Int) : Nat := if x = 0 then 3 else if x < 0 then 7 + (lets x.natAbs).length else (lets x.natAbs).length
def txs (l : List Int) : Nat → Nat
  | 0 => 0
  | j + 1 => txs l j + twt (l.getD j 0)
theorem tp_len : ∀ st : List Nat, (tp st).1.length + (tp st).2.length = st.length
  | [] => rfl
  | c :: st => by
    unfold tp
    split
    · simp; omega
    · have := tp_len st
      simp; omega
theorem tx_len {l : List Int} : ∀ j, (tx l j).1.length + (tx l j).2.length = txs l j
  | 0 => rfl
  | j + 1 => by
    have ih := tx_len (l := l) j
    show (tel (l.getD j 0) (tx l j)).1.length + (tel (l.getD j 0) (tx l j)).2.length = txs l j + twt (l.getD j 0)
    rw [← ih]
    unfold tel twt
    split
    · simp; omega
    · split
      · simp; omega
      · have := tp_len (tx l j).2
        simp only [List.length_append]
        omega
theorem tp_mem (st : List Nat) : (∀ c ∈ (tp st).1, c ∈ st) ∧ ∀ c ∈ (tp st).2, c ∈ st := by
  induction st with
  | nil => exact ⟨fun c h => (by cases h), fun c h => (by cases h)⟩
  | cons c st ih =>
    unfold tp
    split
    · rename_i q
      refine ⟨fun b h => ?_, fun b h => List.mem_cons_of_mem _ h⟩
      rw [List.mem_singleton] at h
      rw [h, q]
      exact List.mem_cons_self
    · refine ⟨fun b h => ?_, fun b h => List.mem_cons_of_mem _ (ih.2 b h)⟩
      rcases List.mem_cons.mp h with h | h
      · rw [h]; exact List.mem_cons_self
      · exact List.mem_cons_of_mem _ (ih.1 b h)
theorem tx_lt {l : List Int} : ∀ j, (∀ c ∈ (tx l j).1, c < 128) ∧ ∀ c ∈ (tx l j).2, c = 32 ∨ c = 93 ∨ c = 41
  | 0 => ⟨fun c h => (by cases h), fun c h => (by cases h)⟩
  | j + 1 => by
    obtain ⟨i1, i2⟩ := tx_lt (l := l) j
    show (∀ c ∈ (tel (l.getD j 0) (tx l j)).1, c < 128) ∧ ∀ c ∈ (tel (l.getD j 0) (tx l j)).2, c = 32 ∨ c = 93 ∨ c = 41
    have hl := lets_lt (l.getD j 0).natAbs (l.getD j 0).natAbs (Nat.le_refl _)
    obtain ⟨t1, t2⟩ := tp_mem (tx l j).2
    unfold tel
    split
    · refine ⟨fun c h => ?_, fun c h => ?_⟩
      · rcases List.mem_append.mp h with h | h
        · exact i1 c h
        · rw [List.mem_singleton] at h; omega
      · rcases List.mem_cons.mp h with h | h
        · omega
        · rcases List.mem_cons.mp h with h | h
          · omega
          · exact i2 c h
    · split
      · refine ⟨fun c h => ?_, fun c h => ?_⟩
        · rcases List.mem_append.mp h with h | h
          · rcases List.mem_append.mp h with h | h
            · rcases List.mem_append.mp h with h | h
              · exact i1 c h
              · simp at h; omega
            · exact hl c h
          · rw [List.mem_singleton] at h; omega
        · rcases List.mem_cons.mp h with h | h
          · omega
          · exact i2 c h
      · refine ⟨fun c h => ?_, fun c h => i2 c (t2 c h)⟩
        rcases List.mem_append.mp h with h | h
        · rcases List.mem_append.mp h with h | h
          · exact i1 c h
          · exact hl c h
        · have := i2 c (t1 c h); omega
theorem tp_count (st : List Nat) : (tp st).2.count 32 = st.count 32 - 1 := by
  induction st with
  | nil => rfl
  | cons c st ih =>
    unfold tp
    split
    · rename_i q; subst q; simp
    · rename_i q
      rw [List.count_cons_of_ne (fun z => q z)]
      exact ih
theorem tp_none (st : List Nat) (h : st.count 32 = 0) : (tp st).2 = [] := by
  induction st with
  | nil => rfl
  | cons c st ih =>
    unfold tp
    have hc : c ≠ 32 := fun z => by subst z; simp at h
    rw [if_neg hc]
    rw [List.count_cons_of_ne hc] at h
    exact ih h
theorem tx_open {l : List Int} : ∀ {j k : Nat}, j ≤ l.length → ry_o 1 (l.take j) = some k → (0 < k → (tx l j).2.count 32 = k - 1) ∧ (k = 0 → (tx l j).2 = [])
  | 0, k, _, h => by
    have : k = 1 := by
      rw [List.take_zero] at h
      exact (Option.some.inj h).symm
    subst this
    exact ⟨fun _ => rfl, fun _ => rfl⟩
  | j + 1, k, hj, h => by
    rw [ry_take_s (by omega), ry_o_app] at h
    cases e : ry_o 1 (l.take j) with
    | none => rw [e] at h; cases h
    | some k' =>
      rw [e] at h
      obtain ⟨i1, i2⟩ := tx_open (j := j) (by omega) e
      cases k' with
      | zero => cases h
      | succ k' =>
        have h2 : ry_o (k' + 1) [l.getD j 0] = some k := h
        rw [ry_o_1] at h2
        have h3 := Option.some.inj h2
        have i3 := i1 (Nat.succ_pos _)
        rw [← h3]
        show (0 < ry_x (l.getD j 0) k' → (tel (l.getD j 0) (tx l j)).2.count 32 = ry_x (l.getD j 0) k' - 1) ∧ (ry_x (l.getD j 0) k' = 0 → (tel (l.getD j 0) (tx l j)).2 = [])
        unfold tel ry_x
        split
        · refine ⟨fun _ => ?_, fun z => by omega⟩
          simp
          omega
        · split
          · refine ⟨fun _ => ?_, fun z => by omega⟩
            simp
            omega
          · refine ⟨fun z => ?_, fun z => ?_⟩
            · show (tp (tx l j).2).2.count 32 = _
              rw [tp_count]; omega
            · exact tp_none _ (by omega)
theorem tx_all {l : List Int} (h : ry_P l) : (tx l l.length).1.length = txs l l.length := by
  have h1 := (tx_open (Nat.le_refl _) (ry_P_take h)).2 rfl
  have h2 := tx_len (l := l) l.length
  rw [h1] at h2
  exact h2
theorem twt_le {x : Int} (h : x.natAbs < 4808584372417849) : twt x ≤ 17 := by
  have e : 4808584372417849 = 37 ^ 10 := by decide
  rw [e] at h
  have := lets_len 10 x.natAbs h
  unfold twt
  split
  · omega
  · split <;> omega
theorem txs_le {l : List Int} (hg : gW l) : ∀ j, txs l j ≤ 17 * j
  | 0 => Nat.le_refl _
  | j + 1 => by
    have := txs_le hg j
    have h2 := twt_le (hg j).1
    show txs l j + twt (l.getD j 0) ≤ _
    omega
theorem tp_le (st : List Nat) : (tp st).2.length ≤ st.length := by
  have := tp_len st
  omega
theorem tx_st_le {l : List Int} : ∀ j, (tx l j).2.length ≤ 2 * j
  | 0 => Nat.le_refl _
  | j + 1 => by
    have ih := tx_st_le (l := l) j
    show (tel (l.getD j 0) (tx l j)).2.length ≤ _
    have := tp_le (tx l j).2
    unfold tel
    split
    · simp; omega
    · split
      · simp; omega
      · simp only []; omega
