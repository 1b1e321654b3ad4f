/-! ===== LEVEL 3: the reference, settling: what orders ask ===== -/
def g14 (R : uR) : Prop := ∀ o ∈ R.2.2.1, o.1 = 14 → o.2.2 = o.2.1 + 1
theorem g14_b {R : uR} {f : Nat → uR} (h : g14 R) (g : R.1 = true → g14 (f R.2.1)) : g14 (ub R f) := by
  by_cases c : R.1 = true
  · rw [ub_T c]
    intro o ho
    rcases List.mem_append.mp ho with x | x
    · exact h o x
    · exact g c o x
  · rw [ub_F c]
    exact h
theorem g14_t {T : List aK4} {k i : Nat} : g14 (ut T k i) := fun o ho => by rw [ut_o] at ho; cases ho
theorem g14_f {i : Nat} : g14 (uf i) := fun o ho => by cases ho
theorem g14_g {i : Nat} : g14 (ug i) := fun o ho => by cases ho
theorem g14_e {o : aI} {i : Nat} (h : o.1 = 14 → o.2.2 = o.2.1 + 1) : g14 (ue o i) := fun o' ho => by
  rw [List.mem_singleton.mp ho]
  exact h
theorem g14_rep {T : List aK4} {ks : List Nat} {one : Nat → uR} (hk : 14 ∉ ks) (h : ∀ a, g14 (one a)) : ∀ f i, g14 (uRep T ks one f i)
  | 0, i => g14_g
  | f + 1, i => by
    unfold uRep
    split
    · rename_i c
      exact g14_b (h _) fun _ => g14_b (g14_e fun z => absurd (show 14 ∈ ks by rw [← show uK T i = 14 from z]; exact c) hk) fun _ => g14_rep hk h f _
    · exact g14_g
theorem g14_lev {T : List aK4} : ∀ q, (∀ a, g14 ((uLev T q).1 a)) ∧ (∀ a, g14 ((uLev T q).2.1 a)) ∧ (∀ a, g14 ((uLev T q).2.2.1 a)) ∧ (∀ a, g14 ((uLev T q).2.2.2 a)) := by
  have up : ∀ (q : Nat) (L : uL), ((∀ a, g14 (L.1 a)) ∧ (∀ a, g14 (L.2.1 a)) ∧ (∀ a, g14 (L.2.2.1 a)) ∧ (∀ a, g14 (L.2.2.2 a))) → (∀ a, g14 ((uUp T q L).1 a)) ∧ (∀ a, g14 ((uUp T q L).2.1 a)) ∧ (∀ a, g14 ((uUp T q L).2.2.1 a)) ∧ (∀ a, g14 ((uUp T q L).2.2.2 a)) := by
    intro q L ⟨h1, h2, h3, h4⟩
    have g1 : ∀ a, g14 (uVal T q L.1 L.2.1 a) := fun a => by
      unfold uVal
      split
      · exact fun o ho => by
          rw [List.mem_singleton.mp ho]
          intro z
          cases z
      split
      · exact g14_e fun z => (by cases z)
      split
      · exact g14_b g14_t fun _ => g14_e fun z => by have : uK T a = 14 := z; omega
      split
      · split
        · exact g14_f
        · exact g14_b (h1 _) fun _ => g14_e fun z => (by cases z)
      split
      · split
        · exact g14_f
        · exact g14_b (h2 _) fun _ => g14_t
      split
      · split
        · exact g14_f
        · exact g14_b g14_t fun _ => g14_b (h2 _) fun _ => g14_b g14_t fun _ => g14_b (h2 _) fun _ => g14_b g14_t fun _ => g14_e fun z => by have : uK T a = 14 := z; omega
      · exact g14_f
    have g2 : ∀ a, g14 (uPr T (uVal T q L.1 L.2.1) a) := fun a => g14_b (g1 a) fun _ => g14_rep (by simp) g1 400 _
    have g3 : ∀ a, g14 (uSu T (uPr T (uVal T q L.1 L.2.1)) a) := fun a => g14_b (g2 a) fun _ => g14_rep (by simp) g2 400 _
    have g4 : ∀ a, g14 (uSin T q L.2.2.1 L.2.2.2 (uSu T (uPr T (uVal T q L.1 L.2.1))) a) := fun a => by
      unfold uSin
      split
      · exact g14_b g14_t fun _ => g14_e fun z => (by cases z)
      split
      · refine g14_b g14_t fun c => g14_b g14_t fun c' => g14_e fun _ => ?_
        obtain ⟨-, e1⟩ := ut_ok c
        rw [e1] at c' ⊢
        obtain ⟨-, e2⟩ := ut_ok c'
        rw [e2]
        rfl
      split
      · split
        · exact g14_f
        · exact g14_b (h3 _) fun _ => g14_e fun z => (by cases z)
      split
      · split
        · exact g14_f
        · exact g14_b (h4 _) fun _ => g14_t
      · refine g14_b (g3 _) fun _ => ?_
        split
        · rename_i c
          exact g14_b (g3 _) fun _ => g14_e fun z => by
            have : uK T (uSu T (uPr T (uVal T q L.1 L.2.1)) a).2.1 = 14 := z
            omega
        · exact g14_f
    have g5 : ∀ a, g14 (uBo T (uSin T q L.2.2.1 L.2.2.2 (uSu T (uPr T (uVal T q L.1 L.2.1)))) a) := fun a => g14_b (g4 a) fun _ => g14_rep (by simp) g4 400 _
    exact ⟨g1, g3, g4, fun a => g14_b (g5 a) fun _ => g14_rep (by simp) g5 400 _⟩
  intro q
  induction q with
  | zero => exact up 0 _ ⟨fun _ => g14_f, fun _ => g14_f, fun _ => g14_f, fun _ => g14_f⟩
  | succ q ih => exact up (q + 1) _ ih
theorem g14_wh {T : List aK4} {n i : Nat} : g14 (uWh T n i) := by
  unfold uWh
  refine g14_b (R := (true, i, [], [(i, n)])) (fun o ho => by cases ho) fun _ => g14_b g14_t fun _ => g14_b ((g14_lev 8).2.2.2 _) fun _ => g14_e fun z => (by cases z)
theorem g14_line {T : List aK4} {n i : Nat} (h : (uLine T n i).1 = true) : g14 (uLine T n i) := by
  rcases q_shape h with ⟨-, -, -, e⟩ | ⟨-, -, -, -, -, e⟩ | ⟨w, -, -, ⟨-, -, e⟩ | ⟨-, -, e⟩⟩
  · rw [e]; exact g14_g
  · rw [e]; exact fun o ho => by cases ho
  · rw [e]; exact g14_g
  · rw [e]; exact fun o ho => g14_wh o ho
/-- what settling knows of an order -/
def zGo (T : List aK4) (ps : List Nat) (o : aI) : Prop := (10 ≤ o.1 ∧ o.1 ≤ 14 → uK T o.2.1 = 35 ∧ o.2.1 < 400 ∧ 0 ≤ fd ps (uW T o.2.1)) ∧ (o.1 = 14 → o.2.2 = o.2.1 + 1 ∧ uK T o.2.2 = 35 ∧ o.2.2 < 400 ∧ 0 ≤ fd ps (uW T o.2.2))
/-- what settling knows of a note -/
def zGn (T : List aK4) (ps : List Nat) (l : Nat) (os : List aI) (x : zNl) (nt : aN) : Prop :=
  nt.1 = x.1 ∧ uK T x.2.1 = 35 ∧ x.2.1 < 400 ∧ 0 ≤ fd ps (uW T x.2.1) ∧ nt.2.2.1 = qpl T ps x.2.1 ∧ (x.1 = 5 → uK T x.2.2.1 = 35 ∧ x.2.2.1 < 400 ∧ 0 ≤ fd ps (uW T x.2.2.1) ∧ nt.2.1 = qpl T ps x.2.2.1) ∧ (x.1 ≠ 5 → nt.2.1 = qpl T ps x.2.1) ∧ l ≤ x.2.2.2.1 ∧ x.2.2.2.2 = x.2.2.2.1 + (zts nt.2.2.2).length ∧ x.2.2.2.2 ≤ l + os.length ∧ ∀ j, j < (zts nt.2.2.2).length → os.getD (x.2.2.2.1 - l + j) oI0 = (zts nt.2.2.2).getD j oI0
/-- plays that are found stay where they are -/
def zPre (ps ps' : List Nat) : Prop := ∀ w, 0 ≤ fd ps w → fd ps' w = fd ps w
theorem zPre_pl {T : List aK4} {ps ps' : List Nat} {j : Nat} (h : zPre ps ps') (hj : 0 ≤ fd ps (uW T j)) : qpl T ps' j = qpl T ps j ∧ 0 ≤ fd ps' (uW T j) := by
  unfold qpl
  rw [h _ hj]
  exact ⟨rfl, hj⟩
theorem qLn_pre {T : List aK4} {M : Nat → Nat} {R : uR} {i : Nat} {B B' : aB} (h : qLn T M R i B = .inr B') : zPre B.2.1 B'.2.1 := by
  unfold qLn at h
  split at h
  · split at h
    · cases h
    split at h
    · cases h
    · cases h; exact fun w z => rfl
  split at h
  · split at h
    · cases h
    split at h
    · cases h
    split at h
    · cases h
    · split at h
      · cases h
      · cases h; exact fun w z => fd_app z
  split at h
  · cases h
  · split at h
    · cases h
    · cases h; exact fun w z => rfl
theorem qBk_pre {T : List aK4} {M : Nat → Nat} : ∀ {f n i : Nat} {B B' : aB}, qBk T M f n i B = .inr B' → zPre B.2.1 B'.2.1
  | 0, n, i, B, B', h => by cases h; exact fun w z => rfl
  | f + 1, n, i, B, B', h => by
    unfold qBk at h
    by_cases c : uK T i = 37
    · rw [if_pos c] at h
      cases h
      exact fun w z => rfl
    · rw [if_neg c] at h
      cases hv : qLn T M (uLine T n i) i B with
      | inl e => rw [hv] at h; cases h
      | inr B1 =>
        rw [hv] at h
        have a := qLn_pre hv
        have b := qBk_pre h
        exact fun w z => (b w (by rw [a w z]; exact z)).trans (a w z)
