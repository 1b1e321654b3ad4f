/-! ===== LEVEL 3: the law: one call of both ===== -/
section ZL
variable {h h' h1 : jm_H} {d x b n s k : Nat} {U : Nat → Prop} {B : aB} {G G' : aG} {tp tp' : List Nat} {er : Int} {sc : Nat × (Nat → Int32)} {Z : Nat → Int64} {i4 t v w w2 : Int32} {a : aA} {R R2 : Option jm_R} {o7 o8 : Option Value} {kx : Nat → jm_H → Option jm_R} {Q : (Option Value ⊕ Nat) → jm_H → Prop}
/-- between calls: the class, the reference, the place for answers -/
def lI (h : jm_H) (x b : Nat) (B : aB) (G : aG) (tp : List Nat) (er : Int) (sc : Nat × (Nat → Int32)) (Z : Nat → Int64) : Prop := CI h x B G tp er sc ∧ zI h (x + 369) b B G tp er ∧ lC h (x + 404) 1 Z ∧ (b = x + 371 ∨ x + 405 ≤ b) ∧ b + 19 ≤ h.1 ∧ x + 405 ≤ h.1
def lS (h : jm_H) (x : Nat) (sc : Nat × (Nat → Int32)) : Prop := ∃ b B G tp er Z, lI h x b B G tp er sc Z
/-- the class has answered -/
def lP (h : jm_H) (x b : Nat) (B : aB) (G : aG) (tp : List Nat) (er : Int) (G' : aG) (tp' : List Nat) (sc : Nat × (Nat → Int32)) (k : Nat) (z : Option Int64) (h' : jm_H) : Prop := jA (fun c => jn x 369 c ∨ c = x + 404) k (6 * k) h h' ∧ CI h' x B G' tp' er sc ∧ zI h' (x + 369) b B G tp er ∧ ∃ Z, lC h' (x + 404) 1 Z ∧ ∀ y, z = some y → Z 0 = y
/-- what goes on after a call -/
def lG (d : Nat) (sc : Nat × (Nat → Int32)) (x : Nat) (i4 : Int32) (h : jm_H) (Q : (Option Value ⊕ Nat) → jm_H → Prop) : Prop := ∀ h' o5 o6 o7 o8, lS h' x sc → h'.1 ≤ h.1 + 19 → h'.2.1 ≤ h.2.1 + 6740 → jE (kL_law_1982 d 82 x (x + 369) (x + 404) i4 o5 o6 o7 o8 h') Q
/-- the answer as it is kept: numbers; yes and no -/
def zz (a : aA) : Option Int64 := match a with
  | .inl v => some v.toInt64
  | .inr _ => none
def zb2 (a : aA) : Option Int64 := match a with
  | .inl v => some (if v = 0 then 0 else 1)
  | .inr _ => none
theorem jG_A (F : jG U k h h') : jA U k (6 * k) h h' := ⟨F.1, F.2.1, fun a _ z => F.2.2 a z⟩
theorem kO_C (C : CI h x B G tp er sc) : kO h sc := by
  obtain ⟨bk, sp, TP, a1, a2, a3, a4, a5, a6, a7, a8⟩ := C.1
  exact a8
theorem l_at (S : lI h x b B G tp er sc Z) (F : jG (jn x 369) k h h1) : lC h1 (x + 404) 1 Z ∧ zI h1 (x + 369) b B G tp er := by
  obtain ⟨s1, s2, s3, s4, s5, s6⟩ := S
  exact ⟨⟨(F.2.2 _ (by unfold jn; omega)).trans s3.1, s3.2⟩, zI_eq s2 fun c z => F.2.2 c (by unfold zAt jn at *; omega)⟩
theorem l_Pn (S : lI h x b B G tp er sc Z) (F : jG (jn x 369) k h h1) (C : CI h1 x B G' tp' er sc) : lP h x b B G tp er G' tp' sc k none h1 := by
  obtain ⟨L1, I1⟩ := l_at S F
  have F1 := jG_A F
  exact ⟨⟨F1.1, F1.2.1, fun c z1 z2 => F1.2.2 c z1 fun w => z2 (Or.inl w)⟩, C, I1, Z, L1, fun y e => by cases e⟩
theorem l_Pw (y : Int64) (S : lI h x b B G tp er sc Z) (F : jG (jn x 369) k h h1) (C : CI h1 x B G' tp' er sc) : ∃ h2, jm_asl h1 (x + 404) 0 y = some h2 ∧ lP h x b B G tp er G' tp' sc k (some y) h2 := by
  obtain ⟨L1, I1⟩ := l_at S F
  obtain ⟨h2, e, F2, L2⟩ := lC_w (i := 0) (x := y) L1 (by omega) (by omega)
  have s4 := S.2.2.2.1
  refine ⟨h2, e, ⟨by rw [F2.1, F.1], by rw [F2.2.1, F.2.1], fun c _ z => (F2.2.2 c fun w => z (Or.inr (by unfold jn at w; omega))).trans (F.2.2 c fun w => z (Or.inl w))⟩, CI_far C F2 (fun c w => by unfold jn at w; omega), zI_eq I1 fun c z => F2.2.2 c (by unfold zAt jn at *; omega), _, L2, fun y' e' => ?_⟩
  cases e'
  exact if_pos rfl
theorem zk_0 : ∀ v, a = .inl v → zk a = 0 := by
  rintro v rfl
  rfl
theorem zk_n : ∀ e, a = .inr e → ¬ zk a = 0 := by
  rintro e rfl
  show ¬ (if e = 2 then (1 : Int32) else 2) = 0
  by_cases z : e = 2
  · rw [if_pos z]; decide
  · rw [if_neg z]; decide
theorem zk1_0 : ∀ v, a = .inl v → zk1 a = 0 := by
  rintro v rfl
  rfl
theorem zk1_n : ∀ e, a = .inr e → ¬ zk1 a = 0 := by
  rintro e rfl
  show ¬ (1 : Int32) = 0
  decide
/-- what the law catches -/
theorem l_x2 (he : ∀ e, a = .inr e → e = 2) : ∀ e, a = .inr e → ∀ h', (if e = 2 then some (Sum.inl (some (Value.int 1)), h') else none : Option jm_R) = some (.inl (some (.int (zk a))), h') := by
  intro e z h'
  have := he e z
  subst this
  subst z
  rfl
theorem l_x20 (he : ∀ e, a = .inr e → e = 2 ∨ e = 0) : ∀ e, a = .inr e → ∀ h', (if e = 2 then some (Sum.inl (some (Value.int 1)), h') else (if e = 0 then some (.inl (some (.int 2)), h') else none) : Option jm_R) = some (.inl (some (.int (zk a))), h') := by
  intro e z h'
  rcases he e z with w | w <;> subst w <;> subst z <;> rfl
theorem l_x21 (he : ∀ e, a = .inr e → e = 2 ∨ e = 1) : ∀ e, a = .inr e → ∀ h', (if e = 2 then some (Sum.inl (some (Value.int 1)), h') else (if e = 1 then some (.inl (some (.int 2)), h') else none) : Option jm_R) = some (.inl (some (.int (zk a))), h') := by
  intro e z h'
  rcases he e z with w | w <;> subst w <;> subst z <;> rfl
theorem l_x1 (he : ∀ e, a = .inr e → e = 1) : ∀ e, a = .inr e → ∀ h', (if e = 1 then some (Sum.inl (some (Value.int 1)), h') else none : Option jm_R) = some (.inl (some (.int (zk1 a))), h') := by
  intro e z h'
  have := he e z
  subst this
  subst z
  rfl
theorem l_x0 (he : ∀ e, a = .inr e → e = 0) : ∀ e, a = .inr e → ∀ h', (if e = 0 then some (Sum.inl (some (Value.int 1)), h') else none : Option jm_R) = some (.inl (some (.int (zk1 a))), h') := by
  intro e z h'
  have := he e z
  subst this
  subst z
  rfl
theorem l_wI (S : lI h x b B G tp er sc Z) (H : jF R (rv a) fun h' => jG (jn x 369) (rg a) h h' ∧ CI h' x B G' tp' er sc) (t0 : ∀ v, a = .inl v → t = 0) (ht : ∀ e, a = .inr e → ∀ h', kx e h' = some (.inl (some (.int t)), h')) : jF (jm_O h x 11 (jc_I R (fun x3 h1 => (jm_asl h1 (x + 404) 0 x3.toInt64).bind fun h4 => some (.inl (some (.int 0)), h4)) kx)) (.inl (some (.int t))) (lP h x b B G tp er G' tp' sc (rg a) (zz a)) := by
  rw [jm_O_eq (CB_ob S.1.1)]
  cases a with
  | inl v =>
    refine jE_I H ?_
    rintro h1 ⟨F, C⟩
    obtain ⟨h2, e, P⟩ := l_Pw v.toInt64 S F C
    rw [e, Option.bind_some, t0 v rfl]
    exact jF_end P
  | inr e =>
    refine jE_Ix H ?_
    rintro h1 ⟨F, C⟩
    rw [ht e rfl]
    exact jF_end (l_Pn S F C)
theorem l_wB (S : lI h x b B G tp er sc Z) (H : jF R (rv a) fun h' => jG (jn x 369) (rg a) h h' ∧ CI h' x B G' tp' er sc) (t0 : ∀ v, a = .inl v → t = 0) (ht : ∀ e, a = .inr e → ∀ h', kx e h' = some (.inl (some (.int t)), h')) : jF (jm_O h x 11 (jc_I R (fun x3 h1 => (if x3 = 0 then (jm_asl h1 (x + 404) 0 0).bind fun h5 => some (.inl (some (.int 0)), h5) else (jm_asl h1 (x + 404) 0 1).bind fun h7 => some (.inl (some (.int 0)), h7))) kx)) (.inl (some (.int t))) (lP h x b B G tp er G' tp' sc (rg a) (zb2 a)) := by
  rw [jm_O_eq (CB_ob S.1.1)]
  cases a with
  | inl v =>
    refine jE_I H ?_
    rintro h1 ⟨F, C⟩
    obtain ⟨h2, e, P⟩ := l_Pw 0 S F C
    obtain ⟨h3, e3, P3⟩ := l_Pw 1 S F C
    rw [e, e3, Option.bind_some, Option.bind_some, t0 v rfl]
    refine jE_if (fun z => ?_) (fun z => ?_)
    · refine jF_end ?_
      rw [show zb2 (.inl v) = some 0 from congrArg some (if_pos z)]
      exact P
    · refine jF_end ?_
      rw [show zb2 (.inl v) = some 1 from congrArg some (if_neg z)]
      exact P3
  | inr e =>
    refine jE_Ix H ?_
    rintro h1 ⟨F, C⟩
    rw [ht e rfl]
    exact jF_end (l_Pn S F C)
end ZL
