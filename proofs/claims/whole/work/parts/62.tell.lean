/-! ===== LEVEL 3: what the lines of a playbook tell ===== -/
theorem ub_ok {R : uR} {f : Nat → uR} (h : (ub R f).1 = true) : R.1 = true ∧ (f R.2.1).1 = true ∧ (ub R f).2.1 = (f R.2.1).2.1 ∧ (ub R f).2.2.1 = R.2.2.1 ++ (f R.2.1).2.2.1 ∧ (ub R f).2.2.2 = R.2.2.2 ++ (f R.2.1).2.2.2 := by
  by_cases c : R.1 = true
  · rw [ub_T c] at h ⊢
    exact ⟨c, h, rfl, rfl, rfl⟩
  · rw [ub_F c] at h
    exact absurd h c
theorem ut_ok {T : List aK4} {k i : Nat} (h : (ut T k i).1 = true) : uK T i = k ∧ ut T k i = ug (i + 1) := by
  by_cases c : uK T i = k
  · exact ⟨c, if_pos c⟩
  · have e : ut T k i = uf i := if_neg c
    rw [e] at h
    cases h
/-- names of masks around, the row so far, the token -/
abbrev aQ : Type := List Nat × List Int × Nat
/-- an error and its token -/
abbrev aX : Type := (Nat × Nat) ⊕ aQ
abbrev qkn (as ps : List Nat) (w : Nat) : Prop := 0 ≤ fd as w ∨ 0 ≤ fd ps w
/-- one token of a part -/
def qOn (T : List aK4) (M : Nat → Nat) (as ps : List Nat) (W : Nat → List Int) (s : aQ) : aX :=
  if uK T s.2.2 = 3 then (if qkn as ps (uW T (s.2.2 + 1)) then .inl (2, s.2.2 + 1) else .inr (uW T (s.2.2 + 1) :: s.1, s.2.1 ++ [-(uW T (s.2.2 + 1) : Int)], s.2.2 + 2))
  else if uK T s.2.2 = 21 then .inr (s.1.tail, s.2.1, s.2.2 + 1)
  else if uK T s.2.2 = 22 then .inr (s.1, s.2.1 ++ List.replicate (M s.2.2 - 1) 0, s.2.2 + 1)
  else if uK T s.2.2 = 35 then (if uW T s.2.2 ∈ s.1 ∨ 0 ≤ fd as (uW T s.2.2) then .inr (s.1, s.2.1 ++ [(uW T s.2.2 : Int)], s.2.2 + 1) else if 0 ≤ fd ps (uW T s.2.2) then .inr (s.1, s.2.1 ++ W (fd ps (uW T s.2.2)).toNat, s.2.2 + 1) else .inl (3, s.2.2))
  else .inr (s.1, s.2.1, s.2.2 + 1)
/-- what holds where it goes on -/
def qGd (T : List aK4) (s : aQ) : Prop := uK T s.2.2 ≠ 24 ∧ (uK T s.2.2 = 3 → s.1.length < 8 ∧ uK T (s.2.2 + 1) = 35) ∧ (uK T s.2.2 = 21 → s.1 ≠ [])
def qS (T : List aK4) (M : Nat → Nat) (as ps : List Nat) (W : Nat → List Int) : Nat → aQ → aX → Prop
  | 0, s, r => r = .inr s
  | n + 1, s, r => qGd T s ∧ match qOn T M as ps W s with
    | .inl e => r = .inl e
    | .inr s' => qS T M as ps W n s' r
section QS
variable {T : List aK4} {M : Nat → Nat} {as ps : List Nat} {W : Nat → List Int}
theorem qS_app : ∀ {n m : Nat} {s s' : aQ} {r : aX}, qS T M as ps W n s (.inr s') → qS T M as ps W m s' r → qS T M as ps W (n + m) s r
  | 0, m, s, s', r, h1, h2 => by
    cases h1
    rw [Nat.zero_add]; exact h2
  | n + 1, m, s, s', r, h1, h2 => by
    rw [show n + 1 + m = (n + m) + 1 by omega]
    obtain ⟨g, h1⟩ := h1
    refine ⟨g, ?_⟩
    cases hq : qOn T M as ps W s with
    | inl e => rw [hq] at h1; cases h1
    | inr t => rw [hq] at h1; exact qS_app (n := n) h1 h2
theorem qS_one {s s' : aQ} (g : qGd T s) (h : qOn T M as ps W s = .inr s') : qS T M as ps W 1 s (.inr s') := by
  refine ⟨g, ?_⟩
  rw [h]; rfl
theorem qS_err {s : aQ} {e : Nat × Nat} (g : qGd T s) (h : qOn T M as ps W s = .inl e) : qS T M as ps W 1 s (.inl e) := by
  refine ⟨g, ?_⟩
  rw [h]
/-- from one place to another, or an error -/
def qY (T : List aK4) (M : Nat → Nat) (as ps : List Nat) (W : Nat → List Int) (P : List Int → Prop) (b : Nat) (s : aQ) (st : List Nat) : Prop :=
  ∃ n, n + s.2.2 ≤ b ∧ ((∃ r, P r ∧ qS T M as ps W n s (.inr (st, s.2.1 ++ r, b))) ∨ ∃ e, qS T M as ps W n s (.inl e))
theorem qY_one {P : List Int → Prop} {b : Nat} {s : aQ} {st : List Nat} {r : List Int} (g : qGd T s) (hP : P r) (hb : s.2.2 + 1 ≤ b) (h : qOn T M as ps W s = .inr (st, s.2.1 ++ r, b)) : qY T M as ps W P b s st := ⟨1, by omega, Or.inl ⟨r, hP, qS_one g h⟩⟩
theorem qY_err {P : List Int → Prop} {b : Nat} {s : aQ} {st : List Nat} {e : Nat × Nat} (g : qGd T s) (hb : s.2.2 + 1 ≤ b) (h : qOn T M as ps W s = .inl e) : qY T M as ps W P b s st := ⟨1, by omega, Or.inr ⟨e, qS_err g h⟩⟩
theorem qY_app {P Q R : List Int → Prop} {b c : Nat} {s : aQ} {st st' : List Nat} (h1 : qY T M as ps W P b s st) (h2 : ∀ r, P r → qY T M as ps W Q c (st, s.2.1 ++ r, b) st') (hR : ∀ r1 r2, P r1 → Q r2 → R (r1 ++ r2)) (hc : b ≤ c) : qY T M as ps W R c s st' := by
  obtain ⟨n, hn, ⟨r, hr, h1⟩ | ⟨e, h1⟩⟩ := h1
  · obtain ⟨m, hm, ⟨r2, hr2, h3⟩ | ⟨e, h3⟩⟩ := h2 r hr
    · refine ⟨n + m, ?_, Or.inl ⟨r ++ r2, hR r r2 hr hr2, ?_⟩⟩
      · have : m + b ≤ c := hm
        omega
      · have := qS_app h1 h3
        rw [show s.2.1 ++ (r ++ r2) = s.2.1 ++ r ++ r2 from (List.append_assoc _ _ _).symm]
        exact this
    · refine ⟨n + m, ?_, Or.inr ⟨e, qS_app h1 h3⟩⟩
      have : m + b ≤ c := hm
      omega
  · exact ⟨n, by omega, Or.inr ⟨e, h1⟩⟩
/-- so many parts -/
def qN (k : Nat) (r : List Int) : Prop := ry_o k r = some 0 ∧ gW r
theorem gW_app {a b : List Int} (ha : gW a) (hb : gW b) : gW (a ++ b) := gW_mem.mpr fun x hx => (List.mem_append.mp hx).elim (gW_mem.mp ha x) (gW_mem.mp hb x)
theorem gW_nil : gW [] := gW_mem.mpr fun x hx => by cases hx
theorem gW_one {x : Int} (h : vW x.natAbs) : gW [x] := gW_mem.mpr fun y hy => by
  rw [List.mem_singleton.mp hy]; exact h
theorem qN_app {a b : Nat} {r1 r2 : List Int} (h1 : qN a r1) (h2 : qN b r2) : qN (a + b) (r1 ++ r2) := by
  refine ⟨?_, gW_app h1.2 h2.2⟩
  rw [ry_o_app, ry_o_up h1.1]
  show ry_o (0 + b) r2 = some 0
  rw [Nat.zero_add]
  exact h2.1
theorem qN_0 : qN 0 [] := ⟨rfl, gW_nil⟩
theorem qN_name {w : Nat} (h : vW w ∧ 0 < w) : qN 1 [(w : Int)] := by
  refine ⟨?_, gW_one (by exact h.1)⟩
  show ry_o (ry_x (w : Int) 0) [] = some 0
  unfold ry_x
  rw [if_neg (by omega), if_neg (by omega)]
  rfl
theorem qN_mask {w : Nat} {r : List Int} (h : vW w ∧ 0 < w) (hr : qN 1 r) : qN 1 ([-(w : Int)] ++ r) := by
  refine ⟨?_, gW_app (gW_one (by rw [Int.natAbs_neg]; exact h.1)) hr.2⟩
  show ry_o (ry_x (-(w : Int)) 0) r = some 0
  unfold ry_x
  rw [if_neg (by omega), if_pos (by omega)]
  exact hr.1
theorem ry_o_rep : ∀ {k j : Nat} {r : List Int}, ry_o (j + 1) (List.replicate k 0 ++ r) = ry_o (j + 1 + k) r
  | 0, j, r => rfl
  | k + 1, j, r => by
    rw [List.replicate_succ]
    show ry_o (ry_x 0 j) (List.replicate k 0 ++ r) = _
    unfold ry_x
    rw [if_pos rfl, ry_o_rep, show j + 1 + 1 + k = j + 1 + (k + 1) by omega]
theorem qN_scene {k : Nat} {r : List Int} (hk : 0 < k) (hr : qN k r) : qN 1 (List.replicate (k - 1) 0 ++ r) := by
  refine ⟨?_, gW_app (gW_mem.mpr fun x hx => by rw [(List.mem_replicate.mp hx).2]; exact vW_0) hr.2⟩
  rw [show 1 = 0 + 1 from rfl, ry_o_rep, show 0 + 1 + (k - 1) = k by omega]
  exact hr.1
/-- names are words -/
def gTn (T : List aK4) : Prop := ∀ i, uK T i = 35 → vW (uW T i) ∧ 0 < uW T i
theorem q_scenes {own q : Nat} {P : Nat → uR} (hT : gT T) (gP : ∀ a, a ≤ 400 → gp 0 a (P a)) (hq : ∀ i, i ≤ 400 → (P i).1 = true → (∀ m ∈ (P i).2.2.2, M m.1 = m.2) → ∀ st row, st.length + q ≤ 8 → qY T M as ps W (qN 1) (P i).2.1 (st, row, i) st) :
    ∀ (f n i : Nat), i ≤ 400 → (uSc T own P f n i).1 = true → (∀ m ∈ (uSc T own P f n i).2.2.2, M m.1 = m.2) → n ≤ M own ∧ (n + f < 2 ∨ 2 ≤ M own) ∧ ∀ st row, st.length + q ≤ 8 → qY T M as ps W (qN (M own - n)) (uSc T own P f n i).2.1 (st, row, i) st := by
  have last : ∀ (n i : Nat), i ≤ 400 → (ub (true, i, [], [(own, n)]) (ut T 23)).1 = true → (∀ m ∈ (ub (true, i, [], [(own, n)]) (ut T 23)).2.2.2, M m.1 = m.2) → M own = n ∧ ∀ st row, st.length + q ≤ 8 → qY T M as ps W (qN (M own - n)) (ub (true, i, [], [(own, n)]) (ut T 23)).2.1 (st, row, i) st := by
    intro n i hi h hm
    obtain ⟨-, h2, h3, -, h5⟩ := ub_ok h
    obtain ⟨k1, k2⟩ := ut_ok h2
    have k1' : uK T i = 23 := k1
    have hM : M own = n := hm (own, n) (by rw [h5]; exact List.mem_append_left _ (List.mem_singleton.mpr rfl))
    refine ⟨hM, fun st row _ => ?_⟩
    rw [hM, Nat.sub_self, h3, k2]
    refine qY_one (r := []) ⟨?_, ?_, ?_⟩ qN_0 (Nat.le_refl _) ?_
    · show uK T i ≠ 24; omega
    · show uK T i = 3 → _; omega
    · show uK T i = 21 → _; omega
    · unfold qOn
      rw [if_neg (show ¬ uK T i = 3 by omega), if_neg (show ¬ uK T i = 21 by omega), if_neg (show ¬ uK T i = 22 by omega), if_neg (show ¬ uK T i = 35 by omega), List.append_nil]
      rfl
  intro f
  induction f with
  | zero =>
    intro n i hi h hm
    obtain ⟨h1, h2⟩ := last n i hi h hm
    exact ⟨by omega, by omega, h2⟩
  | succ f ih =>
    intro n i hi h hm
    unfold uSc at h hm ⊢
    by_cases c : n < 2 ∨ uK T i ≠ 23
    · rw [if_pos c] at h hm ⊢
      obtain ⟨h1, h2, h3, -, h5⟩ := ub_ok h
      have g := gP i hi
      obtain ⟨a1, a2, a3⟩ := ih (n + 1) (P i).2.1 g.2.1 h2 (fun m hm' => hm m (by rw [h5]; exact List.mem_append_right _ hm'))
      refine ⟨by omega, by omega, fun st row hst => ?_⟩
      rw [h3]
      refine qY_app (hq i hi h1 (fun m hm' => hm m (by rw [h5]; exact List.mem_append_left _ hm')) st row hst) (fun r _ => a3 st _ hst) (fun r1 r2 q1 q2 => ?_) ?_
      · have := qN_app q1 q2
        rw [show 1 + (M own - (n + 1)) = M own - n by omega] at this
        exact this
      · exact (gp_sc hT gP f (n + 1) _ g.2.1).1
    · rw [if_neg c] at h hm ⊢
      obtain ⟨h1, h2⟩ := last n i hi h hm
      exact ⟨by omega, by omega, h2⟩
theorem q_name {i : Nat} (hN : gTn T) (hW : ∀ p, p < ps.length → qN 1 (W p)) (hi : uK T i = 35) : ∀ st row, qY T M as ps W (qN 1) (i + 1) (st, row, i) st := by
  intro st row
  have g : qGd T (st, row, i) := ⟨by show uK T i ≠ 24; omega, by show uK T i = 3 → _; omega, by show uK T i = 21 → _; omega⟩
  have e : qOn T M as ps W (st, row, i) = (if uW T i ∈ st ∨ 0 ≤ fd as (uW T i) then .inr (st, row ++ [(uW T i : Int)], i + 1) else if 0 ≤ fd ps (uW T i) then .inr (st, row ++ W (fd ps (uW T i)).toNat, i + 1) else .inl (3, i)) := by
    unfold qOn
    rw [if_neg (show ¬ uK T i = 3 by omega), if_neg (show ¬ uK T i = 21 by omega), if_neg (show ¬ uK T i = 22 by omega), if_pos hi]
  by_cases c1 : uW T i ∈ st ∨ 0 ≤ fd as (uW T i)
  · rw [if_pos c1] at e
    exact qY_one g (qN_name (hN i hi)) (Nat.le_refl _) e
  · rw [if_neg c1] at e
    by_cases c2 : 0 ≤ fd ps (uW T i)
    · rw [if_pos c2] at e
      refine qY_one g (hW _ ?_) (Nat.le_refl _) e
      have := fd_b (l := ps) (x := uW T i)
      omega
    · rw [if_neg c2] at e
      exact qY_err g (Nat.le_refl _) e
theorem q_part (hT : gT T) (hN : gTn T) (hW : ∀ p, p < ps.length → qN 1 (W p)) : ∀ q i, i ≤ 400 → (uPart T q i).1 = true → (∀ m ∈ (uPart T q i).2.2.2, M m.1 = m.2) → ∀ st row, st.length + q ≤ 8 → qY T M as ps W (qN 1) (uPart T q i).2.1 (st, row, i) st
  | 0, i, hi, h, hm, st, row, hst => by
    unfold uPart at h ⊢
    split at h
    · cases h
    rename_i c1
    rw [if_neg c1]
    split at h
    · obtain ⟨-, h2, -⟩ := ub_ok h
      cases h2
    rename_i c2
    rw [if_neg c2]
    obtain ⟨k1, k2⟩ := ut_ok h
    rw [k2]
    exact q_name hN hW k1 st row
  | q + 1, i, hi, h, hm, st, row, hst => by
    unfold uPart at h hm ⊢
    by_cases c1 : uK T i = 22
    · rw [if_pos c1] at h hm ⊢
      have hi' := hT.2 i (by omega) (by omega)
      obtain ⟨a1, a2, a3⟩ := q_scenes (q := q) hT (gp_part hT q) (fun j hj hk hl st row hs => q_part hT hN hW q j hj hk hl st row hs) 400 0 (i + 1) (by omega) h hm
      have g : qGd T (st, row, i) := ⟨by show uK T i ≠ 24; omega, by show uK T i = 3 → _; omega, by show uK T i = 21 → _; omega⟩
      have e : qOn T M as ps W (st, row, i) = .inr (st, row ++ List.replicate (M i - 1) 0, i + 1) := by
        unfold qOn
        rw [if_neg (show ¬ uK T i = 3 by omega), if_neg (show ¬ uK T i = 21 by omega), if_pos c1]
      refine qY_app (P := fun r => r = List.replicate (M i - 1) 0) (qY_one g rfl (Nat.le_refl _) e) (fun r _ => a3 st _ (by omega)) (fun r1 r2 q1 q2 => ?_) ?_
      · rw [q1]
        exact qN_scene (by omega) q2
      · exact (gp_sc hT (gp_part hT q) 400 0 (i + 1) (by omega)).1
    · rw [if_neg c1] at h hm ⊢
      by_cases c2 : uK T i = 3
      · rw [if_pos c2] at h hm ⊢
        have hi' := hT.2 i (by omega) (by omega)
        obtain ⟨k1, -⟩ := ut_ok (ub_ok h).1
        rw [ub_ts k1] at h hm ⊢
        have hi2 := hT.2 (i + 1) (by omega) (by omega)
        obtain ⟨k3, -⟩ := ut_ok (ub_ok h).1
        rw [ub_ts k3] at h hm ⊢
        have hi3 := hT.2 (i + 1 + 1) (by omega) (by omega)
        obtain ⟨h11, h12, h13, -, h15⟩ := ub_ok h
        obtain ⟨k5, k6⟩ := ut_ok h12
        have hmarks : ∀ m ∈ (uPart T q (i + 1 + 1 + 1)).2.2.2, M m.1 = m.2 := fun m hm' => hm m (by
          rw [h15]
          exact List.mem_append_left _ hm')
        rw [h13, k6]
        have gp3 := gp_part hT q (i + 1 + 1 + 1) (by omega)
        have g : qGd T (st, row, i) := ⟨by show uK T i ≠ 24; omega, fun _ => ⟨by show st.length < 8; omega, k1⟩, by show uK T i = 21 → _; omega⟩
        have e : qOn T M as ps W (st, row, i) = (if qkn as ps (uW T (i + 1)) then .inl (2, i + 1) else .inr (uW T (i + 1) :: st, row ++ [-(uW T (i + 1) : Int)], i + 2)) := by
          unfold qOn
          rw [if_pos c2]
        by_cases c3 : qkn as ps (uW T (i + 1))
        · rw [if_pos c3] at e
          exact qY_err g (by have := gp3.1; show i + 1 ≤ (uPart T q (i + 1 + 1 + 1)).2.1 + 1; omega) e
        · rw [if_neg c3] at e
          have ih := q_part hT hN hW q (i + 1 + 1 + 1) (by omega) h11 hmarks
          -- the name's token is behind; the bracket
          refine qY_app (P := fun r => r = [-(uW T (i + 1) : Int)]) (b := i + 2) (st := uW T (i + 1) :: st) (Q := qN 1) (qY_one g rfl (by show i + 1 ≤ i + 2; omega) e) (fun r hr => ?_) (fun r1 r2 q1 q2 => by rw [q1]; exact qN_mask (hN _ k1) q2) (by show i + 2 ≤ (uPart T q (i + 1 + 1 + 1)).2.1 + 1; have := gp3.1; omega)
          refine qY_app (P := fun r => r = []) (b := i + 2 + 1) (st := uW T (i + 1) :: st) (Q := qN 1) (qY_one (r := []) ⟨?_, ?_, ?_⟩ rfl (Nat.le_refl _) ?_) (fun r hr => ?_) (fun r1 r2 q1 q2 => by rw [q1]; exact q2) (by show i + 2 + 1 ≤ (uPart T q (i + 1 + 1 + 1)).2.1 + 1; have := gp3.1; omega)
          · show uK T (i + 1 + 1) ≠ 24; omega
          · show uK T (i + 1 + 1) = 3 → _; omega
          · show uK T (i + 1 + 1) = 21 → _; omega
          · unfold qOn
            rw [if_neg (show ¬ uK T (i + 1 + 1) = 3 by omega), if_neg (show ¬ uK T (i + 1 + 1) = 21 by omega), if_neg (show ¬ uK T (i + 1 + 1) = 22 by omega), if_neg (show ¬ uK T (i + 1 + 1) = 35 by omega), List.append_nil]
          · refine qY_app (P := qN 1) (Q := fun r => r = []) (ih (uW T (i + 1) :: st) _ (by simp; omega)) (fun r' hr' => ?_) (fun r1 r2 q1 q2 => by rw [q2, List.append_nil]; exact q1) (Nat.le_succ _)
            refine qY_one (r := []) ⟨?_, ?_, ?_⟩ rfl (Nat.le_refl _) ?_
            · show uK T (uPart T q (i + 1 + 1 + 1)).2.1 ≠ 24; omega
            · show uK T (uPart T q (i + 1 + 1 + 1)).2.1 = 3 → _; omega
            · exact fun _ => List.cons_ne_nil _ _
            · unfold qOn
              rw [if_neg (show ¬ uK T (uPart T q (i + 1 + 1 + 1)).2.1 = 3 by omega), if_pos k5, List.append_nil]
              rfl
      · rw [if_neg c2] at h hm ⊢
        obtain ⟨k1, k2⟩ := ut_ok h
        rw [k2]
        exact q_name hN hW k1 st row
end QS
/-! ===== LEVEL 3: what the orders of tests are like ===== -/
def gO (T : List aK4) (lo b : Nat) (o : aI) : Prop := o.1 ≠ 37 ∧ o.1 ≠ 35 ∧ (10 ≤ o.1 ∧ o.1 ≤ 14 → lo ≤ o.2.1 ∧ o.2.1 < b ∧ uK T o.2.1 = 35) ∧ (o.1 = 14 → lo ≤ o.2.2 ∧ o.2.2 < b ∧ uK T o.2.2 = 35)
def gr (T : List aK4) (lo : Nat) (σ τ : List Bool) (i : Nat) (R : uR) : Prop := R.1 = true → i ≤ R.2.1 ∧ (∀ j, i ≤ j → j < R.2.1 → uK T j ≠ 24 ∧ uK T j ≠ 8) ∧ (∀ o ∈ R.2.2.1, gO T lo R.2.1 o) ∧ ∀ st, aks R.2.2.1 (σ ++ st) = some (τ ++ st)
section GQ
variable {T : List aK4} {lo i : Nat} {σ τ ρ φ : List Bool}
theorem aks_ap2 : ∀ {a b : List aI} {st : List Bool}, aks (a ++ b) st = (aks a st).bind (aks b)
  | [], b, st => rfl
  | x :: a, b, st => by
    show (ak x st).bind (fun q => aks (a ++ b) q) = ((ak x st).bind fun q => aks a q).bind (aks b)
    cases ak x st with
    | none => rfl
    | some q => exact aks_ap2
theorem gO_mn {b c : Nat} {o : aI} (h : gO T lo b o) (hb : b ≤ c) : gO T lo c o := ⟨h.1, h.2.1, fun z => ⟨(h.2.2.1 z).1, by have := (h.2.2.1 z).2.1; omega, (h.2.2.1 z).2.2⟩, fun z => ⟨(h.2.2.2 z).1, by have := (h.2.2.2 z).2.1; omega, (h.2.2.2 z).2.2⟩⟩
theorem gr_f : gr T lo σ τ i (uf i) := fun z => (by cases z)
theorem gr_F {j : Nat} : gr T lo σ τ i (uf j) := fun z => (by cases z)
theorem gr_g : gr T lo σ σ i (ug i) := fun _ => ⟨Nat.le_refl _, fun j h1 h2 => absurd h2 (Nat.not_lt.mpr h1), fun o ho => (by cases ho), fun _ => rfl⟩
theorem gr_t {k : Nat} (hk : k ≠ 24 ∧ k ≠ 8) : gr T lo σ σ i (ut T k i) := by
  intro z
  obtain ⟨k1, k2⟩ := ut_ok z
  rw [k2]
  refine ⟨Nat.le_succ _, fun j h1 h2 => ?_, fun o ho => (by cases ho), fun _ => rfl⟩
  have h2' : j < i + 1 := h2
  rw [show j = i by omega, k1]; exact hk
theorem gr_fr {R : uR} (h : gr T lo σ τ i R) : gr T lo (σ ++ φ) (τ ++ φ) i R := fun z => by
  obtain ⟨h1, h2, h3, h4⟩ := h z
  refine ⟨h1, h2, h3, fun st => ?_⟩
  rw [List.append_assoc, List.append_assoc]
  exact h4 (φ ++ st)
theorem gr_b {R : uR} {f : Nat → uR} (h : gr T lo σ τ i R) (g : i ≤ R.2.1 → R.1 = true → gr T lo τ ρ R.2.1 (f R.2.1)) : gr T lo σ ρ i (ub R f) := by
  intro z
  obtain ⟨z1, z2, e1, e2, -⟩ := ub_ok z
  obtain ⟨h1, h2, h3, h4⟩ := h z1
  obtain ⟨g1, g2, g3, g4⟩ := g h1 z1 z2
  rw [e1, e2]
  refine ⟨Nat.le_trans h1 g1, fun j j1 j2 => ?_, fun o ho => ?_, fun st => ?_⟩
  · by_cases q : j < R.2.1
    · exact h2 j j1 q
    · exact g2 j (by omega) j2
  · rcases List.mem_append.mp ho with q | q
    · exact gO_mn (h3 o q) g1
    · exact g3 o q
  · rw [aks_ap2, h4]
    exact g4 st
theorem gr_e {o : aI} (ho : gO T lo i o) (h : ∀ st, ak o (σ ++ st) = some (τ ++ st)) : gr T lo σ τ i (ue o i) := fun _ => ⟨Nat.le_refl _, fun j h1 h2 => absurd h2 (Nat.not_lt.mpr h1), fun o' ho' => by
  rw [List.mem_singleton.mp ho']; exact ho, fun st => by
  show (ak o (σ ++ st)).bind (fun q => aks [] q) = _
  rw [h]; rfl⟩
/-- a token is taken first -/
theorem gr_s {k : Nat} {R : uR} (hk : uK T i ≠ 24 ∧ uK T i ≠ 8) (h : gr T lo σ τ (i + 1) R) : gr T lo σ τ i R := fun z => by
  obtain ⟨h1, h2, h3, h4⟩ := h z
  refine ⟨by omega, fun j j1 j2 => ?_, h3, h4⟩
  by_cases q : j = i
  · rw [q]; exact hk
  · exact h2 j (by omega) j2
theorem gO_k {k b : Nat} (h : ¬ (10 ≤ k ∧ k ≤ 14)) (h2 : k ≠ 35 ∧ k ≠ 37) : gO T lo b (k, 0, 0) := ⟨h2.2, h2.1, fun z => absurd z h, fun z => absurd ⟨by show 10 ≤ k; have : k = 14 := z; omega, by have : k = 14 := z; omega⟩ h⟩
theorem gr_rep {t : Bool} {ks : List Nat} {one : Nat → uR} (hk : ∀ k ∈ ks, (k ≠ 24 ∧ k ≠ 8) ∧ k ≠ 35 ∧ k ≠ 37 ∧ ¬ (10 ≤ k ∧ k ≤ 14) ∧ ∀ st, ak (k, 0, 0) (t :: t :: st) = some (t :: st)) (ho : ∀ a, lo ≤ a → gr T lo [] [t] a (one a)) : ∀ f i, lo ≤ i → gr T lo [t] [t] i (uRep T ks one f i)
  | 0, i, h => gr_g
  | f + 1, i, h => by
    unfold uRep
    split
    · rename_i q
      obtain ⟨k1, k2, k3, k4, k5⟩ := hk _ q
      refine gr_s (k := 0) k1 ?_
      refine gr_b (τ := [t, t]) (gr_fr (φ := [t]) (ho (i + 1) (by omega))) fun h1 _ => ?_
      exact gr_b (τ := [t]) (gr_e (gO_k k4 ⟨k2, k3⟩) fun st => k5 st) fun h2 _ => gr_rep hk ho f _ (by show lo ≤ (one (i + 1)).2.1; omega)
    · exact gr_g
theorem gr_val {q : Nat} {V S : Nat → uR} (hV : q ≠ 0 → ∀ a, lo ≤ a → gr T lo [] [false] a (V a)) (hS : q ≠ 0 → ∀ a, lo ≤ a → gr T lo [] [false] a (S a)) (h : lo ≤ i) : gr T lo [] [false] i (uVal T q V S i) := by
  unfold uVal
  split
  · rename_i c
    intro _
    refine ⟨Nat.le_succ _, fun j j1 j2 => ?_, fun o ho => ?_, fun st => rfl⟩
    · have j2' : j < i + 1 := j2
      rw [show j = i by omega]; omega
    · rw [List.mem_singleton.mp ho]
      exact ⟨by show (36 : Nat) ≠ 37; omega, by show (36 : Nat) ≠ 35; omega, fun z => absurd z.2 (by show ¬ (36 : Nat) ≤ 14; omega), fun z => absurd z (by show ¬ (36 : Nat) = 14; omega)⟩
  split
  · rename_i c
    exact gr_s (k := 0) (by omega) (gr_e (gO_k (by omega) (by omega)) fun st => rfl)
  split
  · rename_i c
    refine gr_s (k := 0) (by omega) (gr_b (τ := []) (gr_t (by omega)) fun h1 z => ?_)
    obtain ⟨k1, k2⟩ := ut_ok z
    rw [k2]
    refine gr_e ⟨by show uK T i ≠ 37; omega, by show uK T i ≠ 35; omega, fun _ => ⟨?_, ?_, ?_⟩, fun z => ?_⟩ fun st => ?_
    · show lo ≤ i + 1 + 1 - 1; omega
    · show i + 1 + 1 - 1 < i + 1 + 1; omega
    · show uK T (i + 1 + 1 - 1) = 35
      rw [show i + 1 + 1 - 1 = i + 1 by omega]; exact k1
    · have : uK T i = 14 := z
      omega
    · show ak (uK T i, _, _) st = some (false :: st)
      unfold ak
      rw [if_neg (show ¬ uK T i = 36 by omega), if_neg (show ¬ uK T i = 9 by omega), if_pos (show 10 ≤ uK T i ∧ uK T i ≤ 12 by omega)]
  split
  · rename_i c
    split
    · exact gr_f
    · rename_i hq
      exact gr_s (k := 0) (by omega) (gr_b (hV hq _ (by omega)) fun h1 z => gr_e (gO_k (by omega) (by omega)) fun st => rfl)
  split
  · rename_i c
    split
    · exact gr_f
    · rename_i hq
      exact gr_s (k := 0) (by omega) (gr_b (hS hq _ (by omega)) fun h1 z => gr_t (by omega))
  split
  · rename_i c
    split
    · exact gr_F
    · rename_i hq
      refine gr_s (k := 0) (by omega) (gr_b (τ := []) (gr_t (by omega)) fun h1 z => ?_)
      refine gr_b (τ := [false]) (hS hq _ (by omega)) fun h2 z => ?_
      refine gr_b (τ := [false]) (gr_t (by omega)) fun h3 z => ?_
      refine gr_b (τ := [false, false]) (gr_fr (σ := []) (τ := [false]) (φ := [false]) (hS hq _ (by omega))) fun h4 z => ?_
      refine gr_b (τ := [false, false]) (gr_t (by omega)) fun h5 z => ?_
      refine gr_e (gO_k (by omega) (by omega)) fun st => ?_
      rcases c with c | c <;> (rw [c]; rfl)
  · exact gr_f
theorem gr_sin {q : Nat} {G Z S : Nat → uR} (hG : q ≠ 0 → ∀ a, lo ≤ a → gr T lo [] [true] a (G a)) (hZ : q ≠ 0 → ∀ a, lo ≤ a → gr T lo [] [true] a (Z a)) (hS : ∀ a, lo ≤ a → gr T lo [] [false] a (S a)) (h : lo ≤ i) : gr T lo [] [true] i (uSin T q G Z S i) := by
  unfold uSin
  split
  · rename_i c
    refine gr_s (k := 0) (by omega) (gr_b (τ := []) (gr_t (by omega)) fun h1 z => ?_)
    obtain ⟨k1, k2⟩ := ut_ok z
    rw [k2]
    refine gr_e ⟨by show (13 : Nat) ≠ 37; omega, by show (13 : Nat) ≠ 35; omega, fun _ => ⟨?_, ?_, ?_⟩, fun z => ?_⟩ fun st => rfl
    · show lo ≤ i + 1 + 1 - 1; omega
    · show i + 1 + 1 - 1 < i + 1 + 1; omega
    · show uK T (i + 1 + 1 - 1) = 35
      rw [show i + 1 + 1 - 1 = i + 1 by omega]; exact k1
    · have : (13 : Nat) = 14 := z
      omega
  split
  · rename_i c
    refine gr_s (k := 0) (by omega) (gr_b (τ := []) (gr_t (by omega)) fun h1 z => ?_)
    obtain ⟨k1, k2⟩ := ut_ok z
    rw [k2]
    refine gr_b (τ := []) (gr_t (by omega)) fun h2 z => ?_
    obtain ⟨k3, k4⟩ := ut_ok z
    rw [k4]
    have k3' : uK T (i + 1 + 1) = 35 := k3
    have e1 : (ug (i + 1 + 1)).2.1 = i + 1 + 1 := rfl
    refine gr_e ⟨by show (14 : Nat) ≠ 37; omega, by show (14 : Nat) ≠ 35; omega, fun _ => ⟨?_, ?_, ?_⟩, fun _ => ⟨?_, ?_, ?_⟩⟩ fun st => rfl
    · show lo ≤ i + 1 + 1 + 1 - 2; omega
    · show i + 1 + 1 + 1 - 2 < i + 1 + 1 + 1; omega
    · show uK T (i + 1 + 1 + 1 - 2) = 35
      rw [show i + 1 + 1 + 1 - 2 = i + 1 by omega]; exact k1
    · show lo ≤ i + 1 + 1 + 1 - 1; omega
    · show i + 1 + 1 + 1 - 1 < i + 1 + 1 + 1; omega
    · show uK T (i + 1 + 1 + 1 - 1) = 35
      rw [show i + 1 + 1 + 1 - 1 = i + 1 + 1 by omega]; exact k3'
  split
  · rename_i c
    split
    · exact gr_f
    · rename_i hq
      exact gr_s (k := 0) (by omega) (gr_b (hG hq _ (by omega)) fun h1 z => gr_e (gO_k (by omega) (by omega)) fun st => rfl)
  split
  · rename_i c
    split
    · exact gr_f
    · rename_i hq
      exact gr_s (k := 0) (by omega) (gr_b (hZ hq _ (by omega)) fun h1 z => gr_t (by omega))
  · refine gr_b (τ := [false]) (hS i h) fun h1 z => ?_
    split
    · rename_i c
      refine gr_s (k := 0) (by omega) (gr_b (τ := [false, false]) (gr_fr (σ := []) (τ := [false]) (φ := [false]) (hS _ (by omega))) fun h2 z => ?_)
      refine gr_e (gO_k (by omega) (by omega)) fun st => ?_
      show ak (uK T (S i).2.1, 0, 0) (false :: false :: st) = some (true :: st)
      unfold ak
      rw [if_neg (show ¬ uK T (S i).2.1 = 36 by omega), if_neg (show ¬ uK T (S i).2.1 = 9 by omega), if_neg (show ¬ (10 ≤ uK T (S i).2.1 ∧ uK T (S i).2.1 ≤ 12) by omega), if_neg (show ¬ (uK T (S i).2.1 = 13 ∨ uK T (S i).2.1 = 14) by omega), if_neg (show ¬ uK T (S i).2.1 = 15 by omega), if_neg (show ¬ uK T (S i).2.1 = 39 by omega), if_neg (show ¬ (uK T (S i).2.1 = 16 ∨ uK T (S i).2.1 = 17) by omega), if_neg (show ¬ (uK T (S i).2.1 = 18 ∨ uK T (S i).2.1 = 19 ∨ (26 ≤ uK T (S i).2.1 ∧ uK T (S i).2.1 ≤ 29)) by omega), if_pos c]
    · exact gr_f
theorem gr_lev : ∀ q, (∀ a, lo ≤ a → gr T lo [] [false] a ((uLev T q).1 a)) ∧ (∀ a, lo ≤ a → gr T lo [] [false] a ((uLev T q).2.1 a)) ∧ (∀ a, lo ≤ a → gr T lo [] [true] a ((uLev T q).2.2.1 a)) ∧ (∀ a, lo ≤ a → gr T lo [] [true] a ((uLev T q).2.2.2 a)) := by
  have up : ∀ (q : Nat) (L : uL), (q ≠ 0 → (∀ a, lo ≤ a → gr T lo [] [false] a (L.1 a)) ∧ (∀ a, lo ≤ a → gr T lo [] [false] a (L.2.1 a)) ∧ (∀ a, lo ≤ a → gr T lo [] [true] a (L.2.2.1 a)) ∧ (∀ a, lo ≤ a → gr T lo [] [true] a (L.2.2.2 a))) → (∀ a, lo ≤ a → gr T lo [] [false] a ((uUp T q L).1 a)) ∧ (∀ a, lo ≤ a → gr T lo [] [false] a ((uUp T q L).2.1 a)) ∧ (∀ a, lo ≤ a → gr T lo [] [true] a ((uUp T q L).2.2.1 a)) ∧ (∀ a, lo ≤ a → gr T lo [] [true] a ((uUp T q L).2.2.2 a)) := by
    intro q L hL
    have g1 : ∀ a, lo ≤ a → gr T lo [] [false] a (uVal T q L.1 L.2.1 a) := fun a ha => gr_val (fun z => (hL z).1) (fun z => (hL z).2.1) ha
    have g2 : ∀ a, lo ≤ a → gr T lo [] [false] a (uPr T (uVal T q L.1 L.2.1) a) := fun a ha => gr_b (g1 a ha) fun h1 _ => gr_rep (fun k hk => by
      rcases List.mem_cons.mp hk with rfl | hk
      · exact ⟨by omega, by omega, by omega, by omega, fun _ => rfl⟩
      · rw [List.mem_singleton.mp hk]; exact ⟨by omega, by omega, by omega, by omega, fun _ => rfl⟩) g1 400 _ (by omega)
    have g3 : ∀ a, lo ≤ a → gr T lo [] [false] a (uSu T (uPr T (uVal T q L.1 L.2.1)) a) := fun a ha => gr_b (g2 a ha) fun h1 _ => gr_rep (fun k hk => by
      rcases List.mem_cons.mp hk with rfl | hk
      · exact ⟨by omega, by omega, by omega, by omega, fun _ => rfl⟩
      · rw [List.mem_singleton.mp hk]; exact ⟨by omega, by omega, by omega, by omega, fun _ => rfl⟩) g2 400 _ (by omega)
    have g4 : ∀ a, lo ≤ a → gr T lo [] [true] a (uSin T q L.2.2.1 L.2.2.2 (uSu T (uPr T (uVal T q L.1 L.2.1))) a) := fun a ha => gr_sin (fun z => (hL z).2.2.1) (fun z => (hL z).2.2.2) g3 ha
    have g5 : ∀ a, lo ≤ a → gr T lo [] [true] a (uBo T (uSin T q L.2.2.1 L.2.2.2 (uSu T (uPr T (uVal T q L.1 L.2.1)))) a) := fun a ha => gr_b (g4 a ha) fun h1 _ => gr_rep (fun k hk => by
      rw [List.mem_singleton.mp hk]; exact ⟨by omega, by omega, by omega, by omega, fun _ => rfl⟩) g4 400 _ (by omega)
    exact ⟨g1, g3, g4, fun a ha => gr_b (g5 a ha) fun h1 _ => gr_rep (fun k hk => by
      rw [List.mem_singleton.mp hk]; exact ⟨by omega, by omega, by omega, by omega, fun _ => rfl⟩) g5 400 _ (by omega)⟩
  intro q
  induction q with
  | zero => exact up 0 _ (fun z => absurd rfl z)
  | succ q ih => exact up (q + 1) _ (fun _ => ih)
/-- behind when: a test and its end -/
theorem wh_ok {n : Nat} (h : (uWh T n i).1 = true) : uK T i = 8 ∧ ∃ t, (uWh T n i).2.2.1 = t ++ [(37, 0, 0)] ∧ (uWh T n i).2.2.2 = (i, n) :: ((uLev T 8).2.2.2 (i + 1)).2.2.2 ∧ aT t ∧ (uWh T n i).2.1 = ((uLev T 8).2.2.2 (i + 1)).2.1 ∧ i + 1 ≤ (uWh T n i).2.1 ∧ (∀ j, i ≤ j → j < (uWh T n i).2.1 → uK T j ≠ 24 ∧ (j ≠ i → uK T j ≠ 8)) ∧ ∀ o ∈ t, gO T i (uWh T n i).2.1 o := by
  unfold uWh at h ⊢
  obtain ⟨-, h2, e1, e2, e3⟩ := ub_ok h
  obtain ⟨k1, -⟩ := ut_ok (ub_ok h2).1
  rw [e1, e2, e3]
  have k1' : uK T i = 8 := k1
  have e : ∀ f : Nat → uR, ub (ut T 8 ((true, i, [], [(i, n)]) : uR).2.1) f = f (i + 1) := fun f => ub_ts k1
  rw [e] at h2 ⊢
  obtain ⟨g1, -, e4, e5, e6⟩ := ub_ok h2
  rw [e4, e5, e6]
  have g := (gr_lev (T := T) (lo := i) 8).2.2.2 (i + 1) (by omega) g1
  refine ⟨k1', ((uLev T 8).2.2.2 (i + 1)).2.2.1, by simp [ue], by simp [ue], ?_, rfl, g.1, fun j j1 j2 => ?_, g.2.2.1⟩
  · have := g.2.2.2 []
    exact this
  · by_cases q : j = i
    · rw [q, k1']; exact ⟨by omega, fun z => absurd rfl z⟩
    · have := g.2.1 j (by omega) j2
      exact ⟨this.1, fun _ => this.2⟩
end GQ
/-! ===== LEVEL 3: what a playbook tells ===== -/
def qGo (T : List aK4) (M : Nat → Nat) (as ps : List Nat) (W : Nat → List Int) : Nat → aQ → aX
  | 0, s => .inr s
  | f + 1, s => if uK T s.2.2 = 24 then .inr s else match qOn T M as ps W s with
    | .inl e => .inl e
    | .inr s' => qGo T M as ps W f s'
/-- the first name of a note that is no play's -/
def qNm (T : List aK4) (ps : List Nat) : Nat → Nat → Option Nat
  | 0, _ => none
  | f + 1, j => if uK T j = 24 then none else if uK T j = 35 ∧ fd ps (uW T j) < 0 then some j else qNm T ps f (j + 1)
def qpl (T : List aK4) (ps : List Nat) (j : Nat) : Nat := (fd ps (uW T j)).toNat
def qnt (T : List aK4) (ps : List Nat) (R : uR) (i : Nat) : aN := (uK T i, qpl T ps (if uK T i = 5 then i + 3 else i + 1), qpl T ps (i + 1), if R.2.2.1 = [] then none else some R.2.2.1.dropLast)
def qLn (T : List aK4) (M : Nat → Nat) (R : uR) (i : Nat) (B : aB) : (Nat × Nat) ⊕ aB :=
  if uK T i = 0 then (if qkn B.1 B.2.1 (uW T (i + 1)) then .inl (2, i + 1) else if 8 ≤ B.1.length then .inl (4, i + 1) else .inr (B.1 ++ [uW T (i + 1)], B.2))
  else if uK T i = 1 then (if qkn B.1 B.2.1 (uW T (i + 1)) then .inl (2, i + 1) else if 12 ≤ B.2.1.length then .inl (4, i + 1) else match qGo T M B.1 B.2.1 B.2.2.1 400 ([], [], i + 3) with
    | .inl e => .inl e
    | .inr s => if 150 < s.2.1.length then .inl (5, s.2.2) else .inr (B.1, B.2.1 ++ [uW T (i + 1)], aup B.2.2.1 B.2.1.length s.2.1, B.2.2.2))
  else if 16 ≤ B.2.2.2.length then .inl (4, i) else match qNm T B.2.1 400 (i + 1) with
    | some j => .inl (3, j)
    | none => .inr (B.1, B.2.1, B.2.2.1, B.2.2.2 ++ [qnt T B.2.1 R i])
def qBk (T : List aK4) (M : Nat → Nat) : Nat → Nat → Nat → aB → (Nat × Nat) ⊕ aB
  | 0, _, _, B => .inr B
  | f + 1, n, i, B => if uK T i = 37 then .inr B else match qLn T M (uLine T n i) i B with
    | .inl e => .inl e
    | .inr B' => qBk T M f (n + (cF (uLine T n i).2.2.1).length) (uLine T n i).2.1 B'
/-- plays for their names' tokens -/
def qI (T : List aK4) (ps : List Nat) (o : aI) : aI := if 10 ≤ o.1 ∧ o.1 ≤ 13 then (o.1, qpl T ps o.2.1, 0) else if o.1 = 14 then (14, qpl T ps o.2.1, qpl T ps o.2.2) else o
def qFi (T : List aK4) (B : aB) : aB := (B.1, B.2.1, B.2.2.1, B.2.2.2.map fun n => (n.1, n.2.1, n.2.2.1, n.2.2.2.map (List.map (qI T B.2.1))))
/-- marks by place -/
def uM : List (Nat × Nat) → Nat → Nat
  | [], _ => 0
  | (i, n) :: l, j => if i = j then n else uM l j
/-- marks of places from one to another, each once -/
def gm (lo : Nat) (R : uR) : Prop := R.1 = true → (∀ m ∈ R.2.2.2, lo ≤ m.1 ∧ m.1 < R.2.1) ∧ (R.2.2.2.map (·.1)).Nodup
section QB
variable {T : List aK4} {i lo : Nat}
theorem uM_at : ∀ {l : List (Nat × Nat)} {m : Nat × Nat}, (l.map (·.1)).Nodup → m ∈ l → uM l m.1 = m.2
  | (a, b) :: l, m, h, hm => by
    have h' : a ∉ l.map (·.1) ∧ (l.map (·.1)).Nodup := List.nodup_cons.mp h
    rcases List.mem_cons.mp hm with q | q
    · subst q
      exact if_pos rfl
    · show (if a = m.1 then b else uM l m.1) = m.2
      rw [if_neg (fun z => h'.1 (by rw [z]; exact List.mem_map_of_mem q))]
      exact uM_at h'.2 q
theorem um_out : ∀ {l : List (Nat × Nat)} {MK : Nat → Int32} {j : Nat}, (∀ m ∈ l, m.1 ≠ j) → um MK l j = MK j
  | [], _, _, _ => rfl
  | (a, b) :: l, MK, j, h => by
    show um (upd MK a (Int32.ofNat b)) l j = MK j
    rw [um_out fun m hm => h m (List.mem_cons_of_mem _ hm)]
    exact if_neg (fun z => h (a, b) List.mem_cons_self z.symm)
theorem um_at : ∀ {l : List (Nat × Nat)} {MK : Nat → Int32} {m : Nat × Nat}, (l.map (·.1)).Nodup → m ∈ l → um MK l m.1 = Int32.ofNat m.2
  | (a, b) :: l, MK, m, h, hm => by
    have h' : a ∉ l.map (·.1) ∧ (l.map (·.1)).Nodup := List.nodup_cons.mp h
    show um (upd MK a (Int32.ofNat b)) l m.1 = _
    rcases List.mem_cons.mp hm with q | q
    · subst q
      rw [um_out fun m hm z => h'.1 (by have z' : m.1 = a := z; rw [← z']; exact List.mem_map_of_mem hm)]
      exact if_pos rfl
    · exact um_at h'.2 q
theorem gm_n {R : uR} (h : R.1 = true → R.2.2.2 = []) : gm lo R := fun z => by
  rw [h z]
  exact ⟨fun m hm => (by cases hm), List.nodup_nil⟩
theorem gm_b {R : uR} {f : Nat → uR} (hg : R.1 = true → lo ≤ R.2.1 ∧ ((f R.2.1).1 = true → R.2.1 ≤ (f R.2.1).2.1)) (h : gm lo R) (g : gm R.2.1 (f R.2.1)) : gm lo (ub R f) := fun z => by
  obtain ⟨z1, z2, e1, -, e2⟩ := ub_ok z
  obtain ⟨h1, h2⟩ := h z1
  obtain ⟨g1, g2⟩ := g z2
  have hg1 := hg z1
  have hg2 := hg1.2 z2
  rw [e1, e2]
  refine ⟨fun m hm => ?_, ?_⟩
  · rcases List.mem_append.mp hm with q | q
    · have := h1 m q; omega
    · have := g1 m q; omega
  · rw [List.map_append, List.nodup_append]
    refine ⟨h2, g2, fun a ha b hb => ?_⟩
    obtain ⟨m, hm, rfl⟩ := List.mem_map.mp ha
    obtain ⟨m', hm', rfl⟩ := List.mem_map.mp hb
    have := h1 m hm
    have := g1 m' hm'
    omega
theorem gm_lo {lo' : Nat} {R : uR} (h : gm lo R) (hl : lo' ≤ lo) : gm lo' R := fun z => ⟨fun m hm => by have := (h z).1 m hm; omega, (h z).2⟩
theorem ut_n {k : Nat} : (ut T k i).2.2.2 = [] := by unfold ut; split <;> rfl
theorem ut_o {k : Nat} : (ut T k i).2.2.1 = [] := by unfold ut; split <;> rfl
theorem gm_t {k : Nat} : gm lo (ut T k i) := gm_n fun _ => ut_n
/-- tests set no marks -/
theorem nm_b {R : uR} {f : Nat → uR} (h : R.2.2.2 = []) (g : ∀ a, (f a).2.2.2 = []) : (ub R f).2.2.2 = [] := by
  by_cases c : R.1 = true
  · rw [ub_T c, h, g]; rfl
  · rw [ub_F c, h]
theorem nm_rep {ks : List Nat} {one : Nat → uR} (h : ∀ a, (one a).2.2.2 = []) : ∀ f i, (uRep T ks one f i).2.2.2 = []
  | 0, i => rfl
  | f + 1, i => by
    unfold uRep
    split
    · exact nm_b (h _) fun a => nm_b rfl fun b => nm_rep h f b
    · rfl
theorem nm_lev : ∀ q, (∀ a, ((uLev T q).1 a).2.2.2 = []) ∧ (∀ a, ((uLev T q).2.1 a).2.2.2 = []) ∧ (∀ a, ((uLev T q).2.2.1 a).2.2.2 = []) ∧ (∀ a, ((uLev T q).2.2.2 a).2.2.2 = []) := by
  have up : ∀ (q : Nat) (L : uL), ((∀ a, (L.1 a).2.2.2 = []) ∧ (∀ a, (L.2.1 a).2.2.2 = []) ∧ (∀ a, (L.2.2.1 a).2.2.2 = []) ∧ (∀ a, (L.2.2.2 a).2.2.2 = [])) → (∀ a, ((uUp T q L).1 a).2.2.2 = []) ∧ (∀ a, ((uUp T q L).2.1 a).2.2.2 = []) ∧ (∀ a, ((uUp T q L).2.2.1 a).2.2.2 = []) ∧ (∀ a, ((uUp T q L).2.2.2 a).2.2.2 = []) := by
    intro q L ⟨h1, h2, h3, h4⟩
    have g1 : ∀ a, (uVal T q L.1 L.2.1 a).2.2.2 = [] := fun a => by
      unfold uVal
      split
      · rfl
      split
      · rfl
      split
      · exact nm_b ut_n fun _ => rfl
      split
      · split
        · rfl
        · exact nm_b (h1 _) fun _ => rfl
      split
      · split
        · rfl
        · exact nm_b (h2 _) fun _ => ut_n
      split
      · split
        · rfl
        · exact nm_b ut_n fun _ => nm_b (h2 _) fun _ => nm_b ut_n fun _ => nm_b (h2 _) fun _ => nm_b ut_n fun _ => rfl
      · rfl
    have g2 : ∀ a, (uPr T (uVal T q L.1 L.2.1) a).2.2.2 = [] := fun a => nm_b (g1 a) fun b => nm_rep g1 400 b
    have g3 : ∀ a, (uSu T (uPr T (uVal T q L.1 L.2.1)) a).2.2.2 = [] := fun a => nm_b (g2 a) fun b => nm_rep g2 400 b
    have g4 : ∀ a, (uSin T q L.2.2.1 L.2.2.2 (uSu T (uPr T (uVal T q L.1 L.2.1))) a).2.2.2 = [] := fun a => by
      unfold uSin
      split
      · exact nm_b ut_n fun _ => rfl
      split
      · exact nm_b ut_n fun _ => nm_b ut_n fun _ => rfl
      split
      · split
        · rfl
        · exact nm_b (h3 _) fun _ => rfl
      split
      · split
        · rfl
        · exact nm_b (h4 _) fun _ => ut_n
      · refine nm_b (g3 _) fun b => ?_
        split
        · exact nm_b (g3 _) fun _ => rfl
        · rfl
    have g5 : ∀ a, (uBo T (uSin T q L.2.2.1 L.2.2.2 (uSu T (uPr T (uVal T q L.1 L.2.1)))) a).2.2.2 = [] := fun a => nm_b (g4 a) fun b => nm_rep g4 400 b
    exact ⟨g1, g3, g4, fun a => nm_b (g5 a) fun b => nm_rep g5 400 b⟩
  intro q
  induction q with
  | zero => exact up 0 _ ⟨fun _ => rfl, fun _ => rfl, fun _ => rfl, fun _ => rfl⟩
  | succ q ih => exact up (q + 1) _ ih
/-- parts: marks; no orders; no end of a line -/
def gs (T : List aK4) (i : Nat) (R : uR) : Prop := R.1 = true → i ≤ R.2.1 ∧ (∀ j, i ≤ j → j < R.2.1 → uK T j ≠ 24) ∧ R.2.2.1 = []
theorem gs_b {R : uR} {f : Nat → uR} (h : gs T i R) (g : R.1 = true → i ≤ R.2.1 → gs T R.2.1 (f R.2.1)) : gs T i (ub R f) := fun z => by
  obtain ⟨z1, z2, e1, e2, -⟩ := ub_ok z
  obtain ⟨h1, h2, h3⟩ := h z1
  obtain ⟨g1, g2, g3⟩ := g z1 h1 z2
  rw [e1, e2, h3, g3]
  refine ⟨by omega, fun j j1 j2 => ?_, rfl⟩
  by_cases q : j < R.2.1
  · exact h2 j j1 q
  · exact g2 j (by omega) j2
theorem gs_t {k : Nat} (hk : k ≠ 24) : gs T i (ut T k i) := by
  intro z
  obtain ⟨k1, k2⟩ := ut_ok z
  rw [k2]
  refine ⟨Nat.le_succ _, fun j h1 h2 => ?_, rfl⟩
  have h2' : j < i + 1 := h2
  rw [show j = i by omega, k1]; exact hk
theorem gs_s {R : uR} (hk : uK T i ≠ 24) (h : gs T (i + 1) R) : gs T i R := fun z => by
  obtain ⟨h1, h2, h3⟩ := h z
  refine ⟨by omega, fun j j1 j2 => ?_, h3⟩
  by_cases q : j = i
  · rw [q]; exact hk
  · exact h2 j (by omega) j2
theorem gs_m {m : List (Nat × Nat)} : gs T i (true, i, [], m) := fun _ => ⟨Nat.le_refl _, fun j h1 h2 => absurd h2 (Nat.not_lt.mpr h1), rfl⟩
theorem gs_sc {own : Nat} {one : Nat → uR} (ho : ∀ a, gs T a (one a)) : ∀ f n i, gs T i (uSc T own one f n i)
  | 0, n, i => gs_b gs_m fun _ _ => gs_t (by omega)
  | f + 1, n, i => by
    unfold uSc
    split
    · exact gs_b (ho i) fun _ _ => gs_sc ho f _ _
    · exact gs_b gs_m fun _ _ => gs_t (by omega)
theorem gs_part : ∀ q i, gs T i (uPart T q i)
  | 0, i => by
    unfold uPart
    split
    · exact fun z => (by cases z)
    split
    · rename_i c
      exact gs_s (by omega) (gs_b (gs_t (by omega)) fun _ _ z => (by cases z))
    · exact gs_t (by omega)
  | q + 1, i => by
    unfold uPart
    split
    · rename_i c
      exact gs_s (by omega) (gs_sc (gs_part q) 400 0 (i + 1))
    split
    · rename_i c
      exact gs_s (by omega) (gs_b (gs_t (by omega)) fun _ _ => gs_b (gs_t (by omega)) fun _ _ => gs_b (gs_part q _) fun _ _ => gs_t (by omega))
    · exact gs_t (by omega)
theorem gm_sc {own : Nat} {one : Nat → uR} (hs : ∀ a, gs T a (one a)) (ho : ∀ a, gm a (one a)) : ∀ f n i, own < i → (uSc T own one f n i).1 = true → ∃ l n', (uSc T own one f n i).2.2.2 = l ++ [(own, n')] ∧ (∀ m ∈ l, i ≤ m.1 ∧ m.1 < (uSc T own one f n i).2.1) ∧ (l.map (·.1)).Nodup := by
  have last : ∀ (n i : Nat), (ub (true, i, [], [(own, n)]) (ut T 23)).1 = true → ∃ l n', (ub (true, i, [], [(own, n)]) (ut T 23)).2.2.2 = l ++ [(own, n')] ∧ (∀ m ∈ l, i ≤ m.1 ∧ m.1 < (ub (true, i, [], [(own, n)]) (ut T 23)).2.1) ∧ (l.map (·.1)).Nodup := by
    intro n i h
    obtain ⟨-, h2, h3, -, h5⟩ := ub_ok h
    refine ⟨[], n, ?_, fun m hm => (by cases hm), List.nodup_nil⟩
    rw [h5, ut_n]; rfl
  intro f
  induction f with
  | zero => intro n i _ h; exact last n i h
  | succ f ih =>
    intro n i hi h
    unfold uSc at h ⊢
    split at h
    · rename_i c
      rw [if_pos c]
      obtain ⟨h1, h2, h3, -, h5⟩ := ub_ok h
      have g := hs i h1
      obtain ⟨l, n', e, l1, l2⟩ := ih (n + 1) (one i).2.1 (by omega) h2
      have g2 := gs_sc hs f (n + 1) (one i).2.1 h2
      obtain ⟨m1, m2⟩ := ho i h1
      refine ⟨(one i).2.2.2 ++ l, n', by rw [h5, e, List.append_assoc], fun m hm => ?_, ?_⟩
      · rw [h3]
        rcases List.mem_append.mp hm with q | q
        · have := m1 m q; omega
        · have := l1 m q; omega
      · rw [List.map_append, List.nodup_append]
        refine ⟨m2, l2, fun a ha b hb => ?_⟩
        obtain ⟨m, hm, rfl⟩ := List.mem_map.mp ha
        obtain ⟨m', hm', rfl⟩ := List.mem_map.mp hb
        have := m1 m hm
        have := l1 m' hm'
        omega
    · rename_i c
      rw [if_neg c]
      exact last n i h
theorem gm_part : ∀ q i, gm i (uPart T q i)
  | 0, i => by
    unfold uPart
    split
    · exact gm_n fun _ => rfl
    split
    · exact gm_n fun _ => nm_b ut_n fun _ => rfl
    · exact gm_t
  | q + 1, i => by
    unfold uPart
    split
    · rename_i c
      intro z
      obtain ⟨l, n', e, l1, l2⟩ := gm_sc (gs_part q) (gm_part q) 400 0 (i + 1) (by omega) z
      have g := gs_sc (own := i) (gs_part (T := T) q) 400 0 (i + 1) z
      rw [e]
      refine ⟨fun m hm => ?_, ?_⟩
      · rcases List.mem_append.mp hm with w | w
        · have := l1 m w; omega
        · rw [List.mem_singleton.mp w]; exact ⟨Nat.le_refl _, by show i < _; omega⟩
      · rw [List.map_append, List.nodup_append]
        refine ⟨l2, List.nodup_cons.mpr ⟨List.not_mem_nil, List.nodup_nil⟩, fun a ha b hb => ?_⟩
        obtain ⟨m, hm, rfl⟩ := List.mem_map.mp ha
        have := l1 m hm
        have hb' : b = i := List.mem_singleton.mp hb
        omega
    split
    · intro z
      obtain ⟨k1, -⟩ := ut_ok (ub_ok z).1
      rw [ub_ts k1] at z ⊢
      obtain ⟨k3, -⟩ := ut_ok (ub_ok z).1
      rw [ub_ts k3] at z ⊢
      have := (gm_b (lo := i + 1 + 1 + 1) (fun w => ⟨(gs_part q _ w).1, fun w' => (gs_t (k := 21) (by omega) w').1⟩) (gm_part q _) gm_t) z
      exact ⟨fun m hm => by have := this.1 m hm; omega, this.2⟩
    · exact gm_t
/-- the shape of a line -/
def qSh (T : List aK4) (n i : Nat) (R : uR) : Prop :=
  (uK T i = 0 ∧ uK T (i + 1) = 35 ∧ uK T (i + 2) = 24 ∧ R = ug (i + 3)) ∨
  (uK T i = 1 ∧ uK T (i + 1) = 35 ∧ uK T (i + 2) = 2 ∧ (uPart T 8 (i + 3)).1 = true ∧ uK T (uPart T 8 (i + 3)).2.1 = 24 ∧ R = (true, (uPart T 8 (i + 3)).2.1 + 1, [], (uPart T 8 (i + 3)).2.2.2)) ∨
  ∃ w, (uK T i = 4 ∧ w = i + 2 ∨ uK T i = 7 ∧ w = i + 2 ∨ uK T i = 5 ∧ w = i + 4 ∧ uK T (i + 2) = 6 ∧ uK T (i + 3) = 35) ∧ uK T (i + 1) = 35 ∧
    (uK T i = 4 ∧ uK T w = 24 ∧ R = ug (w + 1) ∨ (uWh T n w).1 = true ∧ uK T (uWh T n w).2.1 = 24 ∧ R = (true, (uWh T n w).2.1 + 1, (uWh T n w).2.2.1, (uWh T n w).2.2.2))
theorem q_shape {n : Nat} (h : (uLine T n i).1 = true) : qSh T n i (uLine T n i) := by
  have fin : ∀ {R : uR}, (ub R (ut T 24)).1 = true → uK T R.2.1 = 24 ∧ R.1 = true ∧ ub R (ut T 24) = (true, R.2.1 + 1, R.2.2.1, R.2.2.2) := fun {R} z => by
    obtain ⟨z1, z2, -⟩ := ub_ok z
    obtain ⟨k1, k2⟩ := ut_ok z2
    refine ⟨k1, z1, ?_⟩
    rw [ub_T z1, k2]
    simp [ug]
  unfold uLine at h ⊢
  by_cases c0 : uK T i = 0
  · rw [if_pos c0] at h ⊢
    obtain ⟨k1, -⟩ := ut_ok (ub_ok h).1
    rw [ub_ts k1] at h ⊢
    obtain ⟨k2, k3⟩ := ut_ok h
    exact Or.inl ⟨c0, k1, k2, k3⟩
  rw [if_neg c0] at h ⊢
  by_cases c1 : uK T i = 1
  · rw [if_pos c1] at h ⊢
    obtain ⟨k1, -⟩ := ut_ok (ub_ok h).1
    rw [ub_ts k1] at h ⊢
    obtain ⟨k2, -⟩ := ut_ok (ub_ok h).1
    rw [ub_ts k2] at h ⊢
    obtain ⟨k3, k4, k5⟩ := fin h
    refine Or.inr (Or.inl ⟨c1, k1, k2, k4, k3, ?_⟩)
    rw [k5, (gs_part 8 _ k4).2.2]
  rw [if_neg c1] at h ⊢
  by_cases c4 : uK T i = 4
  · rw [if_pos c4] at h ⊢
    obtain ⟨k1, -⟩ := ut_ok (ub_ok h).1
    rw [ub_ts k1] at h ⊢
    refine Or.inr (Or.inr ⟨i + 2, Or.inl ⟨c4, rfl⟩, k1, ?_⟩)
    by_cases c : uK T (i + 1 + 1) = 24
    · rw [if_pos c] at h ⊢
      exact Or.inl ⟨c4, c, (ut_ok h).2⟩
    · rw [if_neg c] at h ⊢
      obtain ⟨k3, k4, k5⟩ := fin h
      exact Or.inr ⟨k4, k3, k5⟩
  rw [if_neg c4] at h ⊢
  by_cases c5 : uK T i = 5
  · rw [if_pos c5] at h ⊢
    obtain ⟨k1, -⟩ := ut_ok (ub_ok h).1
    rw [ub_ts k1] at h ⊢
    obtain ⟨k2, -⟩ := ut_ok (ub_ok h).1
    rw [ub_ts k2] at h ⊢
    obtain ⟨k3, -⟩ := ut_ok (ub_ok h).1
    rw [ub_ts k3] at h ⊢
    obtain ⟨k4, k5, k6⟩ := fin h
    exact Or.inr (Or.inr ⟨i + 4, Or.inr (Or.inr ⟨c5, rfl, k2, k3⟩), k1, Or.inr ⟨k5, k4, k6⟩⟩)
  rw [if_neg c5] at h ⊢
  by_cases c7 : uK T i = 7
  · rw [if_pos c7] at h ⊢
    obtain ⟨k1, -⟩ := ut_ok (ub_ok h).1
    rw [ub_ts k1] at h ⊢
    obtain ⟨k3, k4, k5⟩ := fin h
    exact Or.inr (Or.inr ⟨i + 2, Or.inr (Or.inl ⟨c7, rfl⟩), k1, Or.inr ⟨k4, k3, k5⟩⟩)
  rw [if_neg c7] at h
  cases h
end QB
