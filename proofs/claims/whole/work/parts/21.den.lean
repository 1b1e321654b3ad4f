/-! ===== LEVEL 2: what the abstract machine answers, fuel aside ===== -/
def jm_le (c1 c2 : jm_M → List Value → jm_H → Option jm_R) : Prop := ∀ y vs h r, c1 y vs h = some r → c2 y vs h = some r
theorem jm_ret_none {m : jm_M} {pc : Nat} {l : List (Option Value)} {rest : List Value} {o : Option jm_R} {S : jm_S} (h : jm_ret m pc l rest o = some S) : ∃ r, o = some r := by
  cases o with
  | none => cases h
  | some r => exact ⟨r, rfl⟩
section JML
variable {c1 c2 : jm_M → List Value → jm_H → Option jm_R} {m y : jm_M} {i : Instr} {n pc : Nat} {l : List (Option Value)} {st : List Value} {h : jm_H} {S : jm_S}
/-- the one call that an instruction makes -/
def jm_us (c1 : jm_M → List Value → jm_H → Option jm_R) (f : (jm_M → List Value → jm_H → Option jm_R) → Option jm_S) (S : jm_S) : Prop := (∀ c2, f c2 = some S) ∨ ∃ y vs h r, c1 y vs h = some r ∧ ∀ c2 : jm_M → List Value → jm_H → Option jm_R, c2 y vs h = some r → f c2 = some S
theorem jm_cv_us (hS : jm_cv c1 m y pc l st h = some S) : jm_us c1 (fun c => jm_cv c m y pc l st h) S := by
  unfold jm_cv at hS
  simp only [] at hS
  split at hS
  · rename_i h1
    split at hS
    · rename_i b rest h2
      split at hS
      · rename_i h3
        obtain ⟨r, hr⟩ := jm_ret_none hS
        refine Or.inr ⟨_, _, _, r, hr, fun c2 h4 => ?_⟩
        unfold jm_cv
        simp only [h1, h2, h3, and_self, if_true]
        rw [h4, ← hr]
        exact hS
      · cases hS
    · cases hS
  · cases hS
theorem jm_ci_us (hS : jm_ci c1 y pc l st h = some S) : jm_us c1 (fun c => jm_ci c y pc l st h) S := by
  unfold jm_ci at hS
  simp only [] at hS
  split at hS
  · rename_i h1
    split at hS
    · rename_i b rest h2
      split at hS
      · rename_i h3
        split at hS
        · rename_i v h' hr
          refine Or.inr ⟨_, _, _, _, hr, fun c2 h4 => ?_⟩
          unfold jm_ci
          simp only [h1, h2, h3, and_self, if_true]
          rw [h4]
          exact hS
        · cases hS
      · cases hS
    · cases hS
  · cases hS
theorem jm_cs_us (hS : jm_cs c1 m y pc l st h = some S) : jm_us c1 (fun c => jm_cs c m y pc l st h) S := by
  unfold jm_cs at hS
  simp only [] at hS
  split at hS
  · rename_i h1
    obtain ⟨r, hr⟩ := jm_ret_none hS
    refine Or.inr ⟨_, _, _, r, hr, fun c2 h4 => ?_⟩
    unfold jm_cs
    simp only [h1, and_self, if_true]
    rw [h4, ← hr]
    exact hS
  · cases hS
set_option maxHeartbeats 4000000 in
theorem jm_op_us (hS : jm_op c1 m i n pc l st h = some S) : jm_us c1 (fun c => jm_op c m i n pc l st h) S := by
  cases i
  case invokevirtual k =>
    simp only [jm_op] at hS ⊢
    by_cases hn : n = 3
    · rw [if_pos hn] at hS
      simp only [if_pos hn]
      generalize jm_mp m.2.2.2.2.2.1 k = o at hS ⊢
      split at hS
      · exact jm_cv_us hS
      · cases hS
    · rw [if_neg hn] at hS
      cases hS
  case invokestatic k =>
    simp only [jm_op] at hS ⊢
    by_cases hn : n = 3
    · rw [if_pos hn] at hS
      simp only [if_pos hn]
      generalize jm_mp m.2.2.2.2.2.1 k = o at hS ⊢
      split at hS
      · exact jm_cs_us hS
      · exact jm_cs_us hS
      · exact Or.inl fun _ => hS
      · exact Or.inl fun _ => hS
      · exact Or.inl fun _ => hS
      · cases hS
    · rw [if_neg hn] at hS
      cases hS
  case invokespecial k =>
    simp only [jm_op] at hS ⊢
    by_cases hn : n = 3
    · rw [if_pos hn] at hS
      simp only [if_pos hn]
      generalize jm_mp m.2.2.2.2.2.1 k = o at hS ⊢
      split at hS
      · exact jm_ci_us hS
      · exact jm_ci_us hS
      · exact Or.inl fun _ => hS
      · cases hS
    · rw [if_neg hn] at hS
      cases hS
  all_goals exact Or.inl fun _ => hS
theorem jm_op_le (hc : jm_le c1 c2) (hS : jm_op c1 m i n pc l st h = some S) : jm_op c2 m i n pc l st h = some S := by
  rcases jm_op_us hS with q | ⟨y, vs, h1, r, q1, q2⟩
  · exact q c2
  · exact q2 c2 (hc _ _ _ _ q1)
theorem jm_step_le {q : jm_C} (hc : jm_le c1 c2) (hS : jm_step c1 m q h = some S) : jm_step c2 m q h = some S := by
  unfold jm_step at hS ⊢
  split at hS
  · exact jm_op_le hc hS
  · cases hS
theorem jm_loop_le (hc : jm_le c1 c2) : ∀ (n k : Nat) (q : jm_C) (h : jm_H) (r : jm_R), n ≤ k → jm_loop c1 m n q h = some r → jm_loop c2 m k q h = some r := by
  intro n
  induction n with
  | zero => intro k q h r _ hr; cases hr
  | succ n ih =>
    intro k q h r hk hr
    obtain ⟨k, rfl⟩ : ∃ j, k = j + 1 := ⟨k - 1, by omega⟩
    unfold jm_loop at hr ⊢
    cases hs : jm_step c1 m q h with
    | none => rw [hs] at hr; cases hr
    | some S =>
      rw [hs] at hr
      rw [jm_step_le hc hs]
      cases S with
      | inl z => exact ih k z.1 z.2 r (by omega) hr
      | inr z => exact hr
end JML
theorem jm_le_rf {c : jm_M → List Value → jm_H → Option jm_R} : jm_le c c := fun _ _ _ _ h => h
theorem jm_run_le : ∀ (d e F G : Nat), d ≤ e → F ≤ G → jm_le (jm_run F d) (jm_run G e) := by
  intro d
  induction d with
  | zero => intro e F G _ _ y vs h r hr; cases hr
  | succ d ih =>
    intro e F G hde hFG y vs h r hr
    obtain ⟨e, rfl⟩ : ∃ j, e = j + 1 := ⟨e - 1, by omega⟩
    unfold jm_run at hr ⊢
    split at hr
    · rename_i hl
      rw [if_pos hl]
      exact jm_loop_le (ih e F G (by omega) hFG) F G _ _ _ hFG hr
    · cases hr
theorem jm_run_dt {d F G : Nat} {y : jm_M} {vs : List Value} {h : jm_H} {r r' : jm_R} (h1 : jm_run F d y vs h = some r) (h2 : jm_run G d y vs h = some r') : r = r' := by
  have a1 := jm_run_le d d F (F + G) (Nat.le_refl _) (by omega) y vs h r h1
  have a2 := jm_run_le d d G (F + G) (Nat.le_refl _) (by omega) y vs h r' h2
  exact Option.some.inj (a1.symm.trans a2)
theorem jm_lim {α : Type} (P : α → Prop) : ∃ o : Option α, (∀ r, o = some r → P r) ∧ ((∃ r, P r) → ∃ r, o = some r) := by
  by_cases h : ∃ r, P r
  · obtain ⟨r, hr⟩ := h
    exact ⟨some r, fun r' e => by cases e; exact hr, fun _ => ⟨r, rfl⟩⟩
  · exact ⟨none, fun r e => by (cases e), fun h' => absurd h' h⟩
/-- what a call answers -/
noncomputable def jm_D (d : Nat) (y : jm_M) (vs : List Value) (h : jm_H) : Option jm_R := Classical.choose (jm_lim fun r : jm_R => ∃ F, jm_run F d y vs h = some r)
theorem jm_D_iff {d : Nat} {y : jm_M} {vs : List Value} {h : jm_H} {r : jm_R} : jm_D d y vs h = some r ↔ ∃ F, jm_run F d y vs h = some r := by
  obtain ⟨a1, a2⟩ := Classical.choose_spec (jm_lim fun r : jm_R => ∃ F, jm_run F d y vs h = some r)
  constructor
  · exact fun e => a1 r e
  · rintro ⟨F, hF⟩
    obtain ⟨r', hr'⟩ := a2 ⟨r, F, hF⟩
    obtain ⟨G, hG⟩ := a1 r' hr'
    rw [jm_run_dt hF hG]
    exact hr'
/-- what the rest of a body answers -/
noncomputable def jm_B (d : Nat) (m : jm_M) (q : jm_C) (h : jm_H) : Option jm_R := Classical.choose (jm_lim fun r : jm_R => ∃ n, jm_loop (jm_D d) m n q h = some r)
theorem jm_B_iff {d : Nat} {m : jm_M} {q : jm_C} {h : jm_H} {r : jm_R} : jm_B d m q h = some r ↔ ∃ n, jm_loop (jm_D d) m n q h = some r := by
  obtain ⟨a1, a2⟩ := Classical.choose_spec (jm_lim fun r : jm_R => ∃ n, jm_loop (jm_D d) m n q h = some r)
  constructor
  · exact fun e => a1 r e
  · rintro ⟨n, hn⟩
    obtain ⟨r', hr'⟩ := a2 ⟨r, n, hn⟩
    obtain ⟨k, hk⟩ := a1 r' hr'
    have b1 := jm_loop_le jm_le_rf n (n + k) q h r (by omega) hn
    have b2 := jm_loop_le jm_le_rf k (n + k) q h r' (by omega) hk
    rw [Option.some.inj (b1.symm.trans b2)]
    exact hr'
theorem jm_ext {α : Type} {a b : Option α} (h1 : ∀ r, a = some r → b = some r) (h2 : ∀ r, b = some r → a = some r) : a = b := by
  cases a with
  | some r => exact (h1 r rfl).symm
  | none =>
    cases b with
    | none => rfl
    | some r => exact h2 r rfl
/-- behind a step -/
noncomputable def jm_N (d : Nat) (m : jm_M) : Option jm_S → Option jm_R
  | none => none
  | some (.inl z) => jm_B d m z.1 z.2
  | some (.inr r) => some r
theorem jm_B_step {d : Nat} {m : jm_M} {q : jm_C} {h : jm_H} : jm_B d m q h = jm_N d m (jm_step (jm_D d) m q h) := by
  refine jm_ext (fun r hr => ?_) (fun r hr => ?_)
  · obtain ⟨n, hn⟩ := jm_B_iff.mp hr
    cases n with
    | zero => cases hn
    | succ n =>
      unfold jm_loop at hn
      cases hs : jm_step (jm_D d) m q h with
      | none => rw [hs] at hn; cases hn
      | some S =>
        rw [hs] at hn
        cases S with
        | inl z => exact jm_B_iff.mpr ⟨n, hn⟩
        | inr z => exact hn
  · cases hs : jm_step (jm_D d) m q h with
    | none => rw [hs] at hr; cases hr
    | some S =>
      rw [hs] at hr
      cases S with
      | inl z =>
        obtain ⟨n, hn⟩ := jm_B_iff.mp (show jm_B d m z.1 z.2 = some r from hr)
        refine jm_B_iff.mpr ⟨n + 1, ?_⟩
        unfold jm_loop
        rw [hs]
        exact hn
      | inr z =>
        refine jm_B_iff.mpr ⟨1, ?_⟩
        unfold jm_loop
        rw [hs]
        exact hr
/-- one instruction -/
theorem jb {d : Nat} {m : jm_M} {i : Instr} {n pc : Nat} {l : List (Option Value)} {st : List Value} {h : jm_H} (hd : decode m.2.1 pc = .ok (i, n)) : jm_B d m (pc, l, st) h = jm_N d m (jm_op (jm_D d) m i n pc l st h) := by
  rw [jm_B_step]
  unfold jm_step
  rw [hd]
theorem jm_D_run {d F : Nat} : jm_le (jm_run F d) (jm_D d) := fun _ _ _ _ h => jm_D_iff.mpr ⟨F, h⟩
theorem jm_step_fin {d : Nat} {m : jm_M} {q : jm_C} {h : jm_H} {S : jm_S} (hS : jm_step (jm_D d) m q h = some S) : ∃ F, jm_step (jm_run F d) m q h = some S := by
  unfold jm_step at hS ⊢
  cases hd : decode m.2.1 q.1 with
  | error er => rw [hd] at hS; cases hS
  | ok z =>
    rw [hd] at hS
    rcases jm_op_us hS with q | ⟨y, vs, h1, r, q1, q2⟩
    · exact ⟨0, q _⟩
    · obtain ⟨F, hF⟩ := jm_D_iff.mp q1
      exact ⟨F, q2 _ hF⟩
theorem jm_loop_fin {d : Nat} {m : jm_M} : ∀ (n : Nat) (q : jm_C) (h : jm_H) (r : jm_R), jm_loop (jm_D d) m n q h = some r → ∃ F, jm_loop (jm_run F d) m F q h = some r := by
  intro n
  induction n with
  | zero => intro q h r hr; cases hr
  | succ n ih =>
    intro q h r hr
    unfold jm_loop at hr
    cases hs : jm_step (jm_D d) m q h with
    | none => rw [hs] at hr; cases hr
    | some S =>
      rw [hs] at hr
      obtain ⟨F, hF⟩ := jm_step_fin hs
      cases S with
      | inr z =>
        refine ⟨F + 1, ?_⟩
        unfold jm_loop
        rw [jm_step_le (jm_run_le d d F (F + 1) (Nat.le_refl _) (by omega)) hF]
        exact hr
      | inl z =>
        obtain ⟨G, hG⟩ := ih z.1 z.2 r hr
        refine ⟨F + G + 1, ?_⟩
        unfold jm_loop
        rw [jm_step_le (jm_run_le d d F (F + G + 1) (Nat.le_refl _) (by omega)) hF]
        exact jm_loop_le (jm_run_le d d G (F + G + 1) (Nat.le_refl _) (by omega)) G (F + G) _ _ _ (by omega) hG
/-- a call: its body -/
theorem jm_D_body {d : Nat} {y : jm_M} {vs : List Value} {h : jm_H} (hl : (jm_ent vs).length ≤ y.2.2.1) : jm_D (d + 1) y vs h = jm_B d y (0, jm_pad (jm_ent vs) y.2.2.1, []) h := by
  refine jm_ext (fun r hr => ?_) (fun r hr => ?_)
  · obtain ⟨F, hF⟩ := jm_D_iff.mp hr
    unfold jm_run at hF
    rw [if_pos hl] at hF
    exact jm_B_iff.mpr ⟨F, jm_loop_le jm_D_run F F _ _ _ (Nat.le_refl _) hF⟩
  · obtain ⟨n, hn⟩ := jm_B_iff.mp hr
    obtain ⟨F, hF⟩ := jm_loop_fin n _ _ _ hn
    refine jm_D_iff.mpr ⟨F, ?_⟩
    unfold jm_run
    rw [if_pos hl]
    exact hF
theorem jm_D_up {d e : Nat} {y : jm_M} {vs : List Value} {h : jm_H} {r : jm_R} (hde : d ≤ e) (hr : jm_D d y vs h = some r) : jm_D e y vs h = some r := by
  obtain ⟨F, hF⟩ := jm_D_iff.mp hr
  exact jm_D_iff.mpr ⟨F, jm_run_le d e F F hde (Nat.le_refl _) y vs h r hF⟩
