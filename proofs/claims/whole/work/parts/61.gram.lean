/-! ===== LEVEL 3: the grammar, as lists of tokens keep it ===== -/
/-- what reading leaves: whether it went, where it stands, the orders of tests, the marks of tokens -/
abbrev uR : Type := Bool × Nat × List aI × List (Nat × Nat)
def uf (i : Nat) : uR := (false, i, [], [])
def ug (i : Nat) : uR := (true, i, [], [])
def ut (T : List aK4) (k i : Nat) : uR := if uK T i = k then ug (i + 1) else uf i
def ue (o : aI) (i : Nat) : uR := (true, i, [o], [])
def ub (R : uR) (f : Nat → uR) : uR := if R.1 = true then ((f R.2.1).1, (f R.2.1).2.1, R.2.2.1 ++ (f R.2.1).2.2.1, R.2.2.2 ++ (f R.2.1).2.2.2) else R
def uRep (T : List aK4) (ks : List Nat) (one : Nat → uR) : Nat → Nat → uR
  | 0, i => ug i
  | f + 1, i => if uK T i ∈ ks then ub (one (i + 1)) fun a => ub (ue (uK T i, 0, 0) a) (uRep T ks one f) else ug i
def uVal (T : List aK4) (q : Nat) (V S : Nat → uR) (i : Nat) : uR :=
  if uK T i = 36 then (true, i + 1, [(36, uV T i, 0)], [])
  else if uK T i = 9 then ue (9, 0, 0) (i + 1)
  else if uK T i = 10 ∨ uK T i = 11 ∨ uK T i = 12 then ub (ut T 35 (i + 1)) fun a => ue (uK T i, a - 1, 0) a
  else if uK T i = 27 then (if q = 0 then uf i else ub (V (i + 1)) (ue (39, 0, 0)))
  else if uK T i = 20 then (if q = 0 then uf i else ub (S (i + 1)) (ut T 21))
  else if uK T i = 18 ∨ uK T i = 19 then (if q = 0 then uf (i + 1) else ub (ut T 20 (i + 1)) fun a => ub (S a) fun a => ub (ut T 25 a) fun a => ub (S a) fun a => ub (ut T 21 a) (ue (uK T i, 0, 0)))
  else uf i
def uSin (T : List aK4) (q : Nat) (G Z S : Nat → uR) (i : Nat) : uR :=
  if uK T i = 13 then ub (ut T 35 (i + 1)) fun a => ue (13, a - 1, 0) a
  else if uK T i = 14 then ub (ut T 35 (i + 1)) fun a => ub (ut T 35 a) fun a => ue (14, a - 2, a - 1) a
  else if uK T i = 15 then (if q = 0 then uf i else ub (G (i + 1)) (ue (15, 0, 0)))
  else if uK T i = 22 then (if q = 0 then uf i else ub (Z (i + 1)) (ut T 23))
  else ub (S i) fun a => if 30 ≤ uK T a ∧ uK T a ≤ 34 then ub (S (a + 1)) (ue (uK T a, 0, 0)) else uf a
def uPr (T : List aK4) (V : Nat → uR) (i : Nat) : uR := ub (V i) (uRep T [28, 29] V 400)
def uSu (T : List aK4) (P : Nat → uR) (i : Nat) : uR := ub (P i) (uRep T [26, 27] P 400)
def uBo (T : List aK4) (G : Nat → uR) (i : Nat) : uR := ub (G i) (uRep T [16] G 400)
def uTe (T : List aK4) (B : Nat → uR) (i : Nat) : uR := ub (B i) (uRep T [17] B 400)
/-- value, sum, single, test, with so many levels left -/
abbrev uL : Type := (Nat → uR) × (Nat → uR) × (Nat → uR) × (Nat → uR)
def uUp (T : List aK4) (q : Nat) (L : uL) : uL :=
  (uVal T q L.1 L.2.1, uSu T (uPr T (uVal T q L.1 L.2.1)), uSin T q L.2.2.1 L.2.2.2 (uSu T (uPr T (uVal T q L.1 L.2.1))), uTe T (uBo T (uSin T q L.2.2.1 L.2.2.2 (uSu T (uPr T (uVal T q L.1 L.2.1))))))
def uLev (T : List aK4) : Nat → uL
  | 0 => uUp T 0 (uf, uf, uf, uf)
  | q + 1 => uUp T (q + 1) (uLev T q)
/-- parts -/
def uSc (T : List aK4) (own : Nat) (one : Nat → uR) : Nat → Nat → Nat → uR
  | 0, n, i => ub (true, i, [], [(own, n)]) (ut T 23)
  | f + 1, n, i => if n < 2 ∨ uK T i ≠ 23 then ub (one i) (uSc T own one f (n + 1)) else ub (true, i, [], [(own, n)]) (ut T 23)
def uPart (T : List aK4) : Nat → Nat → uR
  | 0, i => if uK T i = 22 then uf i else if uK T i = 3 then ub (ut T 35 (i + 1)) uf else ut T 35 i
  | q + 1, i => if uK T i = 22 then uSc T i (uPart T q) 400 0 (i + 1) else if uK T i = 3 then ub (ut T 35 (i + 1)) fun a => ub (ut T 20 a) fun a => ub (uPart T q a) (ut T 21) else ut T 35 i
/-- lines -/
def uWh (T : List aK4) (n i : Nat) : uR := ub (true, i, [], [(i, n)]) fun i => ub (ut T 8 i) fun a => ub ((uLev T 8).2.2.2 a) (ue (37, 0, 0))
def uLine (T : List aK4) (n i : Nat) : uR :=
  if uK T i = 0 then ub (ut T 35 (i + 1)) (ut T 24)
  else if uK T i = 1 then ub (ut T 35 (i + 1)) fun a => ub (ut T 2 a) fun a => ub (uPart T 8 a) (ut T 24)
  else if uK T i = 4 then ub (ut T 35 (i + 1)) fun a => if uK T a = 24 then ut T 24 a else ub (uWh T n a) (ut T 24)
  else if uK T i = 5 then ub (ut T 35 (i + 1)) fun a => ub (ut T 6 a) fun a => ub (ut T 35 a) fun a => ub (uWh T n a) (ut T 24)
  else if uK T i = 7 then ub (ut T 35 (i + 1)) fun a => ub (uWh T n a) (ut T 24)
  else uf i
def cF (l : List aI) : List (Nat × Nat) := l.flatMap cI
def uBk (T : List aK4) : Nat → Nat → Nat → uR
  | 0, _, i => ug i
  | f + 1, n, i => if uK T i = 37 then ug i else ub (uLine T n i) (uBk T f (n + (cF (uLine T n i).2.2.1).length))
theorem cF_app {a b : List aI} : cF (a ++ b) = cF a ++ cF b := List.flatMap_append
theorem cF_one {o : aI} : cF [o] = cI o := by simp [cF]
theorem ub_T {R : uR} {f : Nat → uR} (h : R.1 = true) : ub R f = ((f R.2.1).1, (f R.2.1).2.1, R.2.2.1 ++ (f R.2.1).2.2.1, R.2.2.2 ++ (f R.2.1).2.2.2) := if_pos h
theorem ub_F {R : uR} {f : Nat → uR} (h : ¬ R.1 = true) : ub R f = R := if_neg h
theorem ub_pg {R : uR} : ub R ug = R := by
  obtain ⟨b, i, o, m⟩ := R
  unfold ub ug
  cases b <;> simp
/-- what the last token bounds -/
def gT (T : List aK4) : Prop := T.length ≤ 401 ∧ ∀ i, uK T i ≠ 37 → uK T i ≠ 38 → i < 400 ∧ i + 1 < T.length
/-- how far reading gets, with what is left over for orders -/
def gp (c i : Nat) (R : uR) : Prop := i ≤ R.2.1 ∧ R.2.1 ≤ 400 ∧ (R.1 = true → (cF R.2.2.1).length + i + c ≤ R.2.1)
theorem gp_f {c i : Nat} (h : i ≤ 400) : gp c i (uf i) := ⟨Nat.le_refl _, h, fun z => (by cases z)⟩
theorem gp_f1 {c i : Nat} (h : i + 1 ≤ 400) : gp c i (uf (i + 1)) := ⟨by show i ≤ i + 1; omega, h, fun z => (by cases z)⟩
theorem gp_g {i : Nat} (h : i ≤ 400) : gp 0 i (ug i) := ⟨Nat.le_refl _, h, fun _ => by show 0 + i + 0 ≤ i; omega⟩
theorem gp_t {T : List aK4} {k i : Nat} (hT : gT T) (hk : k ≤ 36) (h : i ≤ 400) : gp 1 i (ut T k i) := by
  unfold ut
  split
  · rename_i q
    have := hT.2 i (by omega) (by omega)
    refine ⟨?_, ?_, fun _ => ?_⟩
    · show i ≤ i + 1; omega
    · show i + 1 ≤ 400; omega
    · show 0 + i + 1 ≤ i + 1; omega
  · exact gp_f h
theorem gp_w {c c' i : Nat} {R : uR} (h : gp c i R) (hc : c' ≤ c) : gp c' i R := ⟨h.1, h.2.1, fun z => by have := h.2.2 z; omega⟩
theorem gp_b {c c' e i : Nat} {R : uR} {f : Nat → uR} (h : gp c i R) (hf : R.1 = true → ∃ j : Nat, (R.2.1 = i + c + (cF R.2.2.1).length + j ∨ True) ∧ gp c' R.2.1 (f R.2.1)) (hc : e ≤ c + c') : gp e i (ub R f) := by
  by_cases q : R.1 = true
  · rw [ub_T q]
    obtain ⟨-, -, g⟩ := hf q
    refine ⟨Nat.le_trans h.1 g.1, g.2.1, fun z => ?_⟩
    have h1 := h.2.2 q
    have h2 := g.2.2 z
    show (cF (_ ++ _)).length + i + e ≤ _
    rw [cF_app, List.length_append]
    show _ ≤ (f R.2.1).2.1
    omega
  · rw [ub_F q]
    exact ⟨h.1, h.2.1, fun z => absurd z q⟩
theorem gp_bb {c c' e i : Nat} {R : uR} {f : Nat → uR} (h : gp c i R) (hf : ∀ a, i ≤ a → a ≤ 400 → gp c' a (f a)) (hc : e ≤ c + c') : gp e i (ub R f) :=
  gp_b (c' := c') h (fun _ => ⟨0, Or.inr trivial, hf _ h.1 h.2.1⟩) hc
/-- an order behind what is read -/
theorem gp_e {c e i : Nat} {R : uR} {o : Nat → aI} (h : gp c i R) (ho : ∀ a, (cI (o a)).length + e ≤ c) : gp e i (ub R fun a => ue (o a) a) := by
  by_cases q : R.1 = true
  · rw [ub_T q]
    refine ⟨h.1, h.2.1, fun _ => ?_⟩
    have h1 := h.2.2 q
    have := ho R.2.1
    show (cF (_ ++ [_])).length + i + e ≤ _
    rw [cF_app, List.length_append, cF_one]
    show _ ≤ R.2.1
    omega
  · rw [ub_F q]
    exact ⟨h.1, h.2.1, fun z => absurd z q⟩
theorem gp_ce {c e i : Nat} {R : uR} {o : aI} (h : gp c i R) (ho : (cI o).length + e ≤ c) : gp e i (ub R (ue o)) := gp_e (o := fun _ => o) h fun _ => ho
theorem gp_s {c i : Nat} {R : uR} (h : gp c (i + 1) R) : gp (c + 1) i R := ⟨by have := h.1; omega, h.2.1, fun z => by have := h.2.2 z; omega⟩
theorem cI_1 {k : Nat} (h : ¬ (10 ≤ k ∧ k ≤ 14)) : (cI (k, 0, 0)).length = 1 := by
  unfold cI
  rw [if_neg (show ¬ (10 ≤ k ∧ k ≤ 13) by omega), if_neg (show ¬ k = 14 by omega)]
  split <;> rfl
theorem gp_rep {T : List aK4} {ks : List Nat} {one : Nat → uR} (hT : gT T) (hk : ∀ k ∈ ks, k ≤ 36 ∧ ¬ (10 ≤ k ∧ k ≤ 14)) (ho : ∀ a, a ≤ 400 → gp 0 a (one a)) : ∀ f i, i ≤ 400 → gp 0 i (uRep T ks one f i)
  | 0, i, h => gp_g h
  | f + 1, i, h => by
    unfold uRep
    split
    · rename_i q
      obtain ⟨k1, k2⟩ := hk _ q
      have := hT.2 i (by omega) (by omega)
      have g1 : gp 1 i (one (i + 1)) := gp_s (ho (i + 1) (by omega))
      by_cases z : (one (i + 1)).1 = true
      · rw [ub_T z]
        have g2 := gp_rep hT hk ho f (one (i + 1)).2.1 g1.2.1
        have e1 : ub (ue (uK T i, 0, 0) (one (i + 1)).2.1) (uRep T ks one f) = ((uRep T ks one f (one (i + 1)).2.1).1, (uRep T ks one f (one (i + 1)).2.1).2.1, [(uK T i, 0, 0)] ++ (uRep T ks one f (one (i + 1)).2.1).2.2.1, [] ++ (uRep T ks one f (one (i + 1)).2.1).2.2.2) := ub_T rfl
        rw [e1]
        refine ⟨Nat.le_trans g1.1 g2.1, g2.2.1, fun w => ?_⟩
        have h1 := g1.2.2 z
        have h2 := g2.2.2 w
        show (cF (_ ++ ([_] ++ _))).length + i + 0 ≤ _
        rw [cF_app, cF_app, List.length_append, List.length_append, cF_one, cI_1 k2]
        show _ ≤ (uRep T ks one f (one (i + 1)).2.1).2.1
        omega
      · rw [ub_F z]
        exact ⟨g1.1, g1.2.1, fun w => absurd w z⟩
    · exact gp_g h
theorem gp_val {T : List aK4} {q : Nat} {V S : Nat → uR} (hT : gT T) (hV : q ≠ 0 → ∀ a, a ≤ 400 → gp 0 a (V a)) (hS : q ≠ 0 → ∀ a, a ≤ 400 → gp 0 a (S a)) {i : Nat} (h : i ≤ 400) : gp 0 i (uVal T q V S i) := by
  unfold uVal
  have nx : ∀ k, k ≤ 36 → uK T i = k → i + 1 ≤ 400 := fun k h1 h2 => by
    have := hT.2 i (by omega) (by omega)
    omega
  split
  · rename_i c
    have := nx _ (by omega) c
    refine ⟨?_, this, fun _ => ?_⟩
    · show i ≤ i + 1; omega
    · show (cF [(36, uV T i, 0)]).length + i + 0 ≤ i + 1
      rw [cF_one]
      show 1 + i + 0 ≤ i + 1
      omega
  split
  · rename_i c
    have := nx _ (by omega) c
    refine ⟨?_, this, fun _ => ?_⟩
    · show i ≤ i + 1; omega
    · show (cF [(9, 0, 0)]).length + i + 0 ≤ i + 1
      rw [cF_one]
      show 1 + i + 0 ≤ i + 1
      omega
  split
  · rename_i c
    have := nx (uK T i) (by omega) rfl
    refine gp_e (c := 2) (gp_s (gp_t hT (by omega) this)) fun a => ?_
    unfold cI
    rw [if_pos (show 10 ≤ uK T i ∧ uK T i ≤ 13 by omega)]
    exact Nat.le_refl _
  split
  · rename_i c
    have := nx _ (by omega) c
    split
    · exact gp_f h
    · rename_i hq
      exact gp_ce (c := 1) (gp_s (hV hq _ this)) (Nat.le_refl _)
  split
  · rename_i c
    have := nx _ (by omega) c
    split
    · exact gp_f h
    · rename_i hq
      exact gp_bb (c := 1) (gp_s (hS hq _ this)) (fun a _ ha => gp_t hT (by omega) ha) (Nat.zero_le _)
  split
  · rename_i c
    have := nx (uK T i) (by omega) rfl
    split
    · exact gp_f1 this
    · rename_i hq
      refine gp_bb (c := 2) (c' := 0) (gp_s (gp_t hT (by omega) this)) (fun a _ ha => ?_) (Nat.zero_le _)
      refine gp_bb (c' := 0) (hS hq a ha) (fun a _ ha => ?_) (Nat.zero_le _)
      refine gp_bb (c' := 0) (gp_t hT (by omega) ha) (fun a _ ha => ?_) (Nat.zero_le _)
      refine gp_bb (c' := 0) (hS hq a ha) (fun a _ ha => ?_) (Nat.zero_le _)
      refine gp_ce (gp_t hT (by omega) ha) ?_
      rw [cI_1 (by omega)]
      omega
  · exact gp_f h
theorem gp_sin {T : List aK4} {q : Nat} {G Z S : Nat → uR} (hT : gT T) (hG : q ≠ 0 → ∀ a, a ≤ 400 → gp 0 a (G a)) (hZ : q ≠ 0 → ∀ a, a ≤ 400 → gp 0 a (Z a)) (hS : ∀ a, a ≤ 400 → gp 0 a (S a)) {i : Nat} (h : i ≤ 400) : gp 0 i (uSin T q G Z S i) := by
  unfold uSin
  have nx : ∀ k, k ≤ 36 → uK T i = k → i + 1 ≤ 400 := fun k h1 h2 => by
    have := hT.2 i (by omega) (by omega)
    omega
  split
  · rename_i c
    have := nx _ (by omega) c
    exact gp_e (c := 2) (gp_s (gp_t hT (by omega) this)) fun a => Nat.le_refl _
  split
  · rename_i c
    have := nx _ (by omega) c
    have := @gp_e 3 0 i (ub (ut T 35 (i + 1)) (ut T 35)) (fun a => (14, a - 2, a - 1)) (gp_bb (c := 2) (c' := 1) (gp_s (gp_t hT (by omega) this)) (fun a _ ha => gp_t hT (by omega) ha) (Nat.le_refl _)) fun a => Nat.le_refl _
    have e : ub (ub (ut T 35 (i + 1)) (ut T 35)) (fun a => ue (14, a - 2, a - 1) a) = ub (ut T 35 (i + 1)) fun a => ub (ut T 35 a) fun a => ue (14, a - 2, a - 1) a := by
      generalize ut T 35 (i + 1) = R
      obtain ⟨b, j, o, m⟩ := R
      cases b
      · rfl
      · unfold ub
        cases hh : (ut T 35 j).1 <;> simp [hh]
    rw [← e]
    exact this
  split
  · rename_i c
    have := nx _ (by omega) c
    split
    · exact gp_f h
    · rename_i hq
      exact gp_ce (c := 1) (gp_s (hG hq _ this)) (Nat.le_refl _)
  split
  · rename_i c
    have := nx _ (by omega) c
    split
    · exact gp_f h
    · rename_i hq
      exact gp_bb (c := 1) (gp_s (hZ hq _ this)) (fun a _ ha => gp_t hT (by omega) ha) (Nat.zero_le _)
  · refine gp_bb (c' := 0) (hS i h) (fun a _ ha => ?_) (Nat.zero_le _)
    split
    · rename_i c
      have := hT.2 a (by omega) (by omega)
      refine gp_ce (c := 1) (gp_s (hS _ (by omega))) ?_
      rw [cI_1 (by omega)]
      exact Nat.le_refl _
    · exact gp_f ha
theorem gp_lev {T : List aK4} (hT : gT T) : ∀ q, (∀ a, a ≤ 400 → gp 0 a ((uLev T q).1 a)) ∧ (∀ a, a ≤ 400 → gp 0 a ((uLev T q).2.1 a)) ∧ (∀ a, a ≤ 400 → gp 0 a ((uLev T q).2.2.1 a)) ∧ (∀ a, a ≤ 400 → gp 0 a ((uLev T q).2.2.2 a)) := by
  have up : ∀ (q : Nat) (L : uL), (q ≠ 0 → (∀ a, a ≤ 400 → gp 0 a (L.1 a)) ∧ (∀ a, a ≤ 400 → gp 0 a (L.2.1 a)) ∧ (∀ a, a ≤ 400 → gp 0 a (L.2.2.1 a)) ∧ (∀ a, a ≤ 400 → gp 0 a (L.2.2.2 a))) → (∀ a, a ≤ 400 → gp 0 a ((uUp T q L).1 a)) ∧ (∀ a, a ≤ 400 → gp 0 a ((uUp T q L).2.1 a)) ∧ (∀ a, a ≤ 400 → gp 0 a ((uUp T q L).2.2.1 a)) ∧ (∀ a, a ≤ 400 → gp 0 a ((uUp T q L).2.2.2 a)) := by
    intro q L hL
    have g1 : ∀ a, a ≤ 400 → gp 0 a (uVal T q L.1 L.2.1 a) := fun a ha => gp_val hT (fun z => (hL z).1) (fun z => (hL z).2.1) ha
    have g2 : ∀ a, a ≤ 400 → gp 0 a (uPr T (uVal T q L.1 L.2.1) a) := fun a ha => gp_bb (c' := 0) (g1 a ha) (fun b _ hb => gp_rep hT (by simp) g1 400 b hb) (Nat.zero_le _)
    have g3 : ∀ a, a ≤ 400 → gp 0 a (uSu T (uPr T (uVal T q L.1 L.2.1)) a) := fun a ha => gp_bb (c' := 0) (g2 a ha) (fun b _ hb => gp_rep hT (by simp) g2 400 b hb) (Nat.zero_le _)
    have g4 : ∀ a, a ≤ 400 → gp 0 a (uSin T q L.2.2.1 L.2.2.2 (uSu T (uPr T (uVal T q L.1 L.2.1))) a) := fun a ha => gp_sin hT (fun z => (hL z).2.2.1) (fun z => (hL z).2.2.2) g3 ha
    have g5 : ∀ a, a ≤ 400 → gp 0 a (uBo T (uSin T q L.2.2.1 L.2.2.2 (uSu T (uPr T (uVal T q L.1 L.2.1)))) a) := fun a ha => gp_bb (c' := 0) (g4 a ha) (fun b _ hb => gp_rep hT (by simp) g4 400 b hb) (Nat.zero_le _)
    exact ⟨g1, g3, g4, fun a ha => gp_bb (c' := 0) (g5 a ha) (fun b _ hb => gp_rep hT (by simp) g5 400 b hb) (Nat.zero_le _)⟩
  intro q
  induction q with
  | zero => exact up 0 _ (fun z => absurd rfl z)
  | succ q ih => exact up (q + 1) _ (fun _ => ih)
theorem gp_m {i : Nat} {m : List (Nat × Nat)} (h : i ≤ 400) : gp 0 i (true, i, [], m) := ⟨Nat.le_refl _, h, fun _ => Nat.le_of_eq (by show 0 + i + 0 = i; omega)⟩
theorem gp_sc {T : List aK4} {own : Nat} {one : Nat → uR} (hT : gT T) (ho : ∀ a, a ≤ 400 → gp 0 a (one a)) : ∀ f n i, i ≤ 400 → gp 0 i (uSc T own one f n i)
  | 0, n, i, h => gp_bb (c' := 1) (gp_m h) (fun a _ ha => gp_t hT (by omega) ha) (Nat.zero_le _)
  | f + 1, n, i, h => by
    unfold uSc
    split
    · exact gp_bb (c' := 0) (ho i h) (fun a _ ha => gp_sc hT ho f _ a ha) (Nat.zero_le _)
    · exact gp_bb (c' := 1) (gp_m h) (fun a _ ha => gp_t hT (by omega) ha) (Nat.zero_le _)
theorem gp_part {T : List aK4} (hT : gT T) : ∀ q i, i ≤ 400 → gp 0 i (uPart T q i)
  | 0, i, h => by
    unfold uPart
    split
    · exact gp_f h
    split
    · rename_i c
      have := hT.2 i (by omega) (by omega)
      exact gp_bb (c := 2) (c' := 0) (gp_s (gp_t hT (by omega) (by omega))) (fun a _ ha => gp_f ha) (Nat.zero_le _)
    · exact gp_w (gp_t hT (by omega) h) (Nat.zero_le _)
  | q + 1, i, h => by
    unfold uPart
    split
    · rename_i c
      have := hT.2 i (by omega) (by omega)
      exact gp_w (gp_s (gp_sc hT (gp_part hT q) 400 0 (i + 1) (by omega))) (Nat.zero_le _)
    split
    · rename_i c
      have := hT.2 i (by omega) (by omega)
      refine gp_bb (c := 2) (c' := 0) (gp_s (gp_t hT (by omega) (by omega))) (fun a _ ha => ?_) (Nat.zero_le _)
      refine gp_bb (c' := 0) (gp_t hT (by omega) ha) (fun a _ ha => ?_) (Nat.zero_le _)
      exact gp_bb (c' := 1) (gp_part hT q a ha) (fun a _ ha => gp_t hT (by omega) ha) (Nat.zero_le _)
    · exact gp_w (gp_t hT (by omega) h) (Nat.zero_le _)
theorem gp_wh {T : List aK4} {n i : Nat} (hT : gT T) (h : i ≤ 400) : gp 0 i (uWh T n i) := by
  have g := gp_lev hT 8
  refine gp_bb (c' := 0) (gp_m h) (fun i _ hi => ?_) (Nat.zero_le _)
  have h1 : gp 1 i (ub (ut T 8 i) (uLev T 8).2.2.2) := gp_bb (c' := 0) (gp_t hT (by omega) hi) (fun a _ ha => g.2.2.2 a ha) (Nat.le_refl _)
  have h2 : gp 0 i (ub (ub (ut T 8 i) (uLev T 8).2.2.2) (ue (37, 0, 0))) := gp_ce h1 (Nat.le_refl _)
  have e : ub (ub (ut T 8 i) (uLev T 8).2.2.2) (ue (37, 0, 0)) = ub (ut T 8 i) fun a => ub ((uLev T 8).2.2.2 a) (ue (37, 0, 0)) := by
    generalize ut T 8 i = R
    obtain ⟨b, j, o, m⟩ := R
    cases b
    · rfl
    · unfold ub
      cases hh : ((uLev T 8).2.2.2 j).1 <;> simp [hh]
  rw [← e]
  exact h2
theorem gp_line {T : List aK4} {n i : Nat} (hT : gT T) (h : i ≤ 400) : gp 0 i (uLine T n i) := by
  unfold uLine
  have nx : ∀ k, k ≤ 36 → uK T i = k → i + 1 ≤ 400 := fun k h1 h2 => by
    have := hT.2 i (by omega) (by omega)
    omega
  have st : ∀ {f : Nat → uR}, i + 1 ≤ 400 → (∀ a, a ≤ 400 → gp 0 a (f a)) → gp 0 i (ub (ut T 35 (i + 1)) f) := fun z w => gp_bb (c := 2) (c' := 0) (gp_s (gp_t hT (by omega) z)) (fun a _ ha => w a ha) (Nat.zero_le _)
  have tk : ∀ {k a : Nat}, k ≤ 36 → a ≤ 400 → gp 0 a (ut T k a) := fun z w => gp_w (gp_t hT z w) (Nat.zero_le _)
  have wh : ∀ a, a ≤ 400 → gp 0 a (ub (uWh T n a) (ut T 24)) := fun a ha => gp_bb (c' := 0) (gp_wh hT ha) (fun b _ hb => tk (by omega) hb) (Nat.zero_le _)
  split
  · rename_i c; exact st (nx _ (by omega) c) fun a ha => tk (by omega) ha
  split
  · rename_i c
    refine st (nx _ (by omega) c) fun a ha => gp_bb (c' := 0) (tk (by omega) ha) (fun a _ ha => gp_bb (c' := 0) (gp_part hT 8 a ha) (fun b _ hb => tk (by omega) hb) (Nat.zero_le _)) (Nat.zero_le _)
  split
  · rename_i c
    refine st (nx _ (by omega) c) fun a ha => ?_
    split
    · exact tk (by omega) ha
    · exact wh a ha
  split
  · rename_i c
    exact st (nx _ (by omega) c) fun a ha => gp_bb (c' := 0) (tk (by omega) ha) (fun a _ ha => gp_bb (c' := 0) (tk (by omega) ha) (fun b _ hb => wh b hb) (Nat.zero_le _)) (Nat.zero_le _)
  split
  · rename_i c
    exact st (nx _ (by omega) c) fun a ha => wh a ha
  · exact gp_f h
/-! ===== LEVEL 3: Grammar, what reads tests ===== -/
def uX (h : jm_H) (x bb ln : Nat) (T : List aK4) (i : Nat) (MK : Nat → Int32) (cs : List (Nat × Nat)) : Prop :=
  oC h (x + 216) 1 [.ref (x + 105), .ref bb, .int (Int32.ofNat i)] ∧ kR h x ln T MK ∧ bC h bb [] [] 0 cs
def uU (x bb a : Nat) : Prop := a = x + 216 ∨ jn (x + 105) 7 a ∨ jn bb 7 a
/-- marks that are set -/
def um (MK : Nat → Int32) : List (Nat × Nat) → Nat → Int32
  | [] => MK
  | (i, n) :: l => um (upd MK i (Int32.ofNat n)) l
theorem um_app : ∀ {MK : Nat → Int32} {a b : List (Nat × Nat)}, um MK (a ++ b) = um (um MK a) b
  | _, [], _ => rfl
  | _, (i, n) :: a, b => um_app (a := a)
def uQ (o : Option jm_R) (h : jm_H) (x bb ln : Nat) (T : List aK4) (MK : Nat → Int32) (cs : List (Nat × Nat)) (R : uR) : Prop :=
  jE o fun v h' => v = .inl (some (.int (if R.1 = true then 1 else 0))) ∧ ∃ MK' cs', uX h' x bb ln T R.2.1 MK' cs' ∧ jS (uU x bb) h h' ∧ (R.1 = true → cs' = cs ++ cF R.2.2.1 ∧ MK' = um MK R.2.2.2)
section GR
variable {h h' : jm_H} {d x bb ln i : Nat} {T : List aK4} {MK : Nat → Int32} {cs : List (Nat × Nat)}
theorem uX_ob (H : uX h x bb ln T i MK cs) : jm_ob h (x + 216) 1 = true := oC_ob H.1 rfl
theorem uX_T (H : uX h x bb ln T i MK cs) : jr_R h (x + 216) 1 0 2 = some (x + 105) := oC_R H.1 rfl
theorem uX_B (H : uX h x bb ln T i MK cs) : jr_R h (x + 216) 1 1 2 = some bb := oC_R H.1 rfl
theorem uX_i (H : uX h x bb ln T i MK cs) : jr_I h (x + 216) 1 2 0 = some (Int32.ofNat i) := oC_I H.1 rfl
/-- one stands elsewhere -/
theorem uX_to (hb : bb = x + 1 ∨ bb = x + 112) (H : uX h x bb ln T i MK cs) (j : Nat) : ∃ h', jm_pf h (x + 216) 1 2 0 (.int (Int32.ofNat j)) = some h' ∧ jS (uU x bb) h h' ∧ uX h' x bb ln T j MK cs := by
  obtain ⟨h1, e1, F1, H1⟩ := oC_w (k := 2) (t := 0) (v := .int (Int32.ofNat j)) H.1 (by simp) rfl
  refine ⟨h1, e1, jS_mn F1 fun a ha => Or.inl (by unfold jn at ha; omega), H1, kR_tr H.2.1 F1 (fun y y1 y2 => by unfold jn at y1 y2; omega), bC_tr H.2.2 F1 (fun y y1 y2 => by unfold jn at y1 y2; omega)⟩
theorem uQ_pg (H : uX h x bb ln T i MK cs) : uQ (some (.inl (some (.int 1)), h)) h x bb ln T MK cs (ug i) := jE_end ⟨rfl, MK, cs, H, jS_rf, fun _ => ⟨by simp [ug, cF], rfl⟩⟩
theorem uQ_pf (H : uX h x bb ln T i MK cs) : uQ (some (.inl (some (.int 0)), h)) h x bb ln T MK cs (uf i) := jE_end ⟨rfl, MK, cs, H, jS_rf, fun z => (by cases z)⟩
/-- one behind the other -/
theorem uQ_seq {o : Option jm_R} {R : uR} {f : Nat → uR} {k : jm_H → Option jm_R} (H : uQ o h x bb ln T MK cs R) (g : ∀ h1 MK1 cs1, R.1 = true → cs1 = cs ++ cF R.2.2.1 → MK1 = um MK R.2.2.2 → jS (uU x bb) h h1 → uX h1 x bb ln T R.2.1 MK1 cs1 → uQ (k h1) h1 x bb ln T MK1 cs1 (f R.2.1)) : uQ (jc_I o (fun y h1 => if y = 0 then some (.inl (some (.int 0)), h1) else k h1) jx) h x bb ln T MK cs (ub R f) := by
  obtain ⟨v, h1, rfl, rfl, MK1, cs1, X1, F1, q1⟩ := H
  rw [jc_I_eq]
  by_cases c : R.1 = true
  · rw [if_pos c, if_neg (by decide)]
    obtain ⟨q2, q3⟩ := q1 c
    obtain ⟨v, h2, e2, rfl, MK2, cs2, X2, F2, q4⟩ := g h1 MK1 cs1 c q2 q3 F1 X1
    rw [ub_T c, e2]
    refine jE_end ⟨rfl, MK2, cs2, X2, jS_tr F1 F2, fun z => ?_⟩
    obtain ⟨q5, q6⟩ := q4 z
    refine ⟨?_, ?_⟩
    · rw [q5, q2]
      show _ = cs ++ cF (_ ++ _)
      rw [cF_app, List.append_assoc]
    · rw [q6, q3]
      show _ = um MK (_ ++ _)
      rw [um_app]
  · rw [if_neg c, if_pos rfl, ub_F c]
    exact jE_end ⟨by rw [if_neg c], MK1, cs1, X1, F1, fun z => absurd z c⟩
theorem uQ_last {o : Option jm_R} {R : uR} (H : uQ o h x bb ln T MK cs R) : uQ (jc_I o (fun y h1 => if y = 0 then some (.inl (some (.int 0)), h1) else some (.inl (some (.int 1)), h1)) jx) h x bb ln T MK cs R := by
  have := uQ_seq (f := ug) (k := fun h1 => some (.inl (some (.int 1)), h1)) H fun h1 MK1 cs1 _ _ _ _ X => uQ_pg X
  rw [ub_pg] at this
  exact this
theorem uQ_Y {o : Option jm_R} {R : uR} (H : uQ o h x bb ln T MK cs R) : uQ (jc_I o (fun y h1 => jm_Y .boolean y (some (.inl (some (.int y)), h1))) jx) h x bb ln T MK cs R := by
  obtain ⟨v, h1, rfl, rfl, q⟩ := H
  rw [jc_I_eq, if_Y]
  exact jE_end ⟨rfl, q⟩
theorem uQ_fr {o : Option jm_R} {R : uR} {h1 : jm_H} (F : jS (uU x bb) h h1) (H : uQ o h1 x bb ln T MK cs R) : uQ o h x bb ln T MK cs R := by
  obtain ⟨v, h2, rfl, rfl, MK1, cs1, X1, F1, q⟩ := H
  exact jE_end ⟨rfl, MK1, cs1, X1, jS_tr F F1, q⟩
theorem uQ_of {o o' : Option jm_R} {R : uR} (g : ∀ r, o = some r → o' = some r) (H : uQ o h x bb ln T MK cs R) : uQ o' h x bb ln T MK cs R := jE_of g H
theorem u_kind {d : Nat} (hi : i ≤ 400) (H : uX h x bb ln T i MK cs) : jm_D (d + 1) mX9_kindAt [.ref (x + 105), .int (Int32.ofNat i)] h = some (.inl (some (.int (Int32.ofNat (uK T i)))), h) := k_kindAt (by omega) H.2.1
theorem u_sees {k : Nat} (hk : k ≤ 40) (hK : ∀ j, uK T j < 2147483648) (hi : i ≤ 400) (H : uX h x bb ln T i MK cs) : jm_D (d + 2) mX1_sees [.ref (x + 216), .int (Int32.ofNat k)] h = some (.inl (some (.int (if uK T i = k then 1 else 0))), h) := by
  apply gX1_sees
  simp only [uX_T H, uX_i H, Option.bind_some, jm_O_eq (kR_ob H.2.1), u_kind hi H, jc_I_eq, jw_eq (hK i) (show k < 2147483648 by omega)]
  by_cases c : uK T i = k
  · rw [if_pos c, if_pos c]
  · rw [if_neg c, if_neg c]
theorem u_take {k : Nat} (hb : bb = x + 1 ∨ bb = x + 112) (hk : k ≤ 40) (hK : ∀ j, uK T j < 2147483648) (hi : i ≤ 400) (H : uX h x bb ln T i MK cs) : uQ (jm_D (d + 2) mX1_take [.ref (x + 216), .int (Int32.ofNat k)] h) h x bb ln T MK cs (ut T k i) := by
  refine uQ_of (fun r => gX1_take) ?_
  obtain ⟨h1, e1, F1, H1⟩ := uX_to hb H (i + 1)
  simp only [uX_T H, uX_i H, Option.bind_some, jm_O_eq (kR_ob H.2.1), u_kind hi H, jc_I_eq, jw_eq (hK i) (show k < 2147483648 by omega), jw_add1, e1]
  unfold ut
  by_cases c : uK T i = k
  · rw [if_pos c, if_pos c]
    exact uQ_fr F1 (uQ_pg H1)
  · rw [if_neg c, if_neg c]
    exact uQ_pf H
theorem u_put {k w : Nat} (hb : bb = x + 1 ∨ bb = x + 112) (hl : cs.length < 400) (H : uX h x bb ln T i MK cs) : jF (jm_D (d + 2) mX1_put [.ref (x + 216), .int (Int32.ofNat k), .int (Int32.ofNat w)] h) (.inl (some (.int 1))) fun h' => jS (uU x bb) h h' ∧ uX h' x bb ln T i MK (cs ++ [(k, w)]) := by
  refine jE_of (fun r => gX1_put) ?_
  simp only [uX_B H, Option.bind_some, jm_O_eq (bC_ob H.2.2)]
  refine jE_V (b_addCode hl H.2.2) ?_
  rintro h1 ⟨F1, H1⟩
  refine jF_end ⟨jS_mn F1 fun a ha => Or.inr (Or.inr ha), oC_tr H.1 F1 (by unfold jn; omega), kR_tr H.2.1 F1 (fun y y1 y2 => by unfold jn at y1 y2; omega), H1⟩
/-- an order of one piece -/
theorem uQ_put1 {k w : Nat} {o : uR} (hb : bb = x + 1 ∨ bb = x + 112) (hl : cs.length < 400) (H : uX h x bb ln T i MK cs) {op : aI} (ho : cI op = [(k, w)]) : uQ (jc_I (jm_D (d + 2) mX1_put [.ref (x + 216), .int (Int32.ofNat k), .int (Int32.ofNat w)] h) (fun y h1 => if y = 0 then some (.inl (some (.int 0)), h1) else some (.inl (some (.int 1)), h1)) jx) h x bb ln T MK cs (ue op i) := by
  refine jE_I (u_put hb hl H) ?_
  rintro h1 ⟨F1, H1⟩
  rw [if_neg (by decide)]
  exact jE_end ⟨rfl, MK, _, H1, F1, fun _ => ⟨by show _ = cs ++ cF [op]; rw [cF_one, ho], rfl⟩⟩
theorem uQ_put2 {k w k2 w2 : Nat} (hb : bb = x + 1 ∨ bb = x + 112) (hl : cs.length + 1 < 400) (H : uX h x bb ln T i MK cs) {op : aI} (ho : cI op = [(k, w), (k2, w2)]) : uQ (jc_I (jm_D (d + 2) mX1_put [.ref (x + 216), .int (Int32.ofNat k), .int (Int32.ofNat w)] h) (fun y h1 => if y = 0 then some (.inl (some (.int 0)), h1) else jm_O h1 (x + 216) 1 (jc_I (jm_D (d + 2) mX1_put [.ref (x + 216), .int (Int32.ofNat k2), .int (Int32.ofNat w2)] h1) (fun y h1 => if y = 0 then some (.inl (some (.int 0)), h1) else some (.inl (some (.int 1)), h1)) jx)) jx) h x bb ln T MK cs (ue op i) := by
  refine jE_I (u_put hb (by omega) H) ?_
  rintro h1 ⟨F1, H1⟩
  rw [if_neg (by decide), jm_O_eq (uX_ob H1)]
  refine jE_I (u_put hb (by simp; omega) H1) ?_
  rintro h2 ⟨F2, H2⟩
  rw [if_neg (by decide)]
  refine jE_end ⟨rfl, MK, _, H2, jS_tr F1 F2, fun _ => ⟨?_, rfl⟩⟩
  show _ = cs ++ cF [op]
  rw [cF_one, ho, List.append_assoc]
  rfl
/-- what a method reads -/
def uS (x bb ln : Nat) (T : List aK4) (D : Nat) (m : jm_M) (q : Nat) (P : Nat → uR) : Prop := ∀ d, D ≤ d → ∀ h i MK cs, uX h x bb ln T i MK cs → cs.length ≤ i → i ≤ 400 → uQ (jm_D d m [.ref (x + 216), .int (Int32.ofNat (8 - q))] h) h x bb ln T MK cs (P i)
end GR
/-! ===== LEVEL 3: Grammar, tests ===== -/
theorem ub_g {f : Nat → uR} {i : Nat} : ub (ug i) f = f i := rfl
theorem ut_self {T : List aK4} {i : Nat} : ut T (uK T i) i = ug (i + 1) := if_pos rfl
theorem ub_ts {T : List aK4} {k i : Nat} {f : Nat → uR} (h : uK T i = k) : ub (ut T k i) f = f (i + 1) := by
  rw [← h, ut_self]; rfl
theorem jne {a b : Nat} (ha : a < 2147483648) (hb : b < 2147483648) (h : a ≠ b) : ¬ (Int32.ofNat a = Int32.ofNat b) := fun z => h ((jw_eq ha hb).mp z)
section GS
variable {h h' : jm_H} {d D x bb ln i q : Nat} {T : List aK4} {MK : Nat → Int32} {cs : List (Nat × Nat)}
theorem uQ_ts {k : Nat} {f : Nat → uR} {kk : jm_H → Option jm_R} (hT : gT T) (hb : bb = x + 1 ∨ bb = x + 112) (hk : k ≤ 36) (hK : ∀ j, uK T j < 2147483648) (hi : i ≤ 400) (H : uX h x bb ln T i MK cs) (g : ∀ h1, uK T i = k → i + 1 ≤ 400 → uX h1 x bb ln T (i + 1) MK cs → uQ (kk h1) h1 x bb ln T MK cs (f (i + 1))) : uQ (jc_I (jm_D (d + 2) mX1_take [.ref (x + 216), .int (Int32.ofNat k)] h) (fun y h1 => if y = 0 then some (.inl (some (.int 0)), h1) else kk h1) jx) h x bb ln T MK cs (ub (ut T k i) f) := by
  refine uQ_seq (u_take hb (by omega) hK hi H) fun h1 MK1 cs1 c e1 e2 F1 X1 => ?_
  by_cases q : uK T i = k
  · have e : ut T k i = ug (i + 1) := if_pos q
    rw [e] at e1 e2 X1 ⊢
    have e3 : cs1 = cs := by rw [e1]; show cs ++ [] = cs; rw [List.append_nil]
    subst e3
    rw [show MK1 = MK from e2] at X1 ⊢
    have := hT.2 i (by omega) (by omega)
    exact g h1 q (by omega) X1
  · have e : ut T k i = uf i := if_neg q
    rw [e] at c
    exact absurd c (fun z => (by cases z))
theorem uQ_tl {k : Nat} (hb : bb = x + 1 ∨ bb = x + 112) (hk : k ≤ 36) (hK : ∀ j, uK T j < 2147483648) (hi : i ≤ 400) (H : uX h x bb ln T i MK cs) : uQ (jc_I (jm_D (d + 2) mX1_take [.ref (x + 216), .int (Int32.ofNat k)] h) (fun y h1 => if y = 0 then some (.inl (some (.int 0)), h1) else some (.inl (some (.int 1)), h1)) jx) h x bb ln T MK cs (ut T k i) := uQ_last (u_take hb (by omega) hK hi H)
theorem uQ_ms {m : jm_M} {P f : Nat → uR} {kk : jm_H → Option jm_R} (hS : uS x bb ln T D m q P) (gP : gp 0 i (P i)) (hD : D ≤ d) (hi : i ≤ 400) (hc : cs.length ≤ i) (H : uX h x bb ln T i MK cs) (g : ∀ h1 MK1 cs1, (P i).1 = true → cs1.length + i ≤ cs.length + (P i).2.1 → cs1.length ≤ (P i).2.1 → (P i).2.1 ≤ 400 → uX h1 x bb ln T (P i).2.1 MK1 cs1 → uQ (kk h1) h1 x bb ln T MK1 cs1 (f (P i).2.1)) : uQ (jc_I (jm_D d m [.ref (x + 216), .int (Int32.ofNat (8 - q))] h) (fun y h1 => if y = 0 then some (.inl (some (.int 0)), h1) else kk h1) jx) h x bb ln T MK cs (ub (P i) f) := by
  refine uQ_seq (hS d hD h i MK cs H hc hi) fun h1 MK1 cs1 c e1 e2 F1 X1 => ?_
  have := gP.2.2 c
  have e3 : cs1.length = cs.length + (cF (P i).2.2.1).length := by rw [e1, List.length_append]
  exact g h1 MK1 cs1 c (by omega) (by omega) gP.2.1 X1
/-- the loops -/
theorem u_test_loop {P : Nat → uR} (hT : gT T) (hb : bb = x + 1 ∨ bb = x + 112) (hK : ∀ j, uK T j < 2147483648) (hS : uS x bb ln T D mX1_both q P) (gP : ∀ a, a ≤ 400 → gp 0 a (P a)) (hD : D ≤ d + 2) : ∀ (f n i : Nat) (MK : Nat → Int32) (cs : List (Nat × Nat)) (h : jm_H), n + f = 400 → uX h x bb ln T i MK cs → cs.length ≤ i → i ≤ 400 → uQ (kX1_test_12 (d + 2) (x + 216) (Int32.ofNat (8 - q)) (Int32.ofNat n) h) h x bb ln T MK cs (uRep T [17] P f i) := by
  intro f
  induction f with
  | zero =>
    intro n i MK cs h hn H hc hi
    refine uQ_of (fun r => gX1_test_12) ?_
    rw [if_neg (by rw [show (400 : Int32) = Int32.ofNat 400 from rfl, jw_lt (by omega) (by omega)]; omega)]
    exact uQ_pg H
  | succ f ih =>
    intro n i MK cs h hn H hc hi
    refine uQ_of (fun r => gX1_test_12) ?_
    rw [if_pos (by rw [show (400 : Int32) = Int32.ofNat 400 from rfl, jw_lt (by omega) (by omega)]; omega), jm_O_eq (uX_ob H)]
    unfold uRep
    by_cases c : uK T i = 17
    · obtain ⟨h1, e1, F1, X1⟩ : ∃ h1, jm_D (d + 2) mX1_take [.ref (x + 216), .int (Int32.ofNat 17)] h = some (.inl (some (.int 1)), h1) ∧ jS (uU x bb) h h1 ∧ uX h1 x bb ln T (i + 1) MK cs := by
        obtain ⟨h1, e1, F1, X1⟩ := uX_to hb H (i + 1)
        refine ⟨h1, ?_, F1, X1⟩
        apply gX1_take
        simp only [uX_T H, uX_i H, Option.bind_some, jm_O_eq (kR_ob H.2.1), u_kind hi H, jc_I_eq, jw_add1, e1]
        rw [if_pos (by rw [c])]
      rw [show (17 : Int32) = Int32.ofNat 17 from rfl, e1, jc_I_eq, if_neg (by decide), if_pos (show uK T i ∈ [17] by rw [c]; exact List.mem_cons_self), jm_O_eq (uX_ob X1)]
      have ht := hT.2 i (by omega) (by omega)
      refine uQ_fr F1 (uQ_ms hS (gP _ (by omega)) hD (by omega) (by omega) X1 fun h2 MK2 cs2 _ l1 l2 l3 X2 => ?_)
      rw [jm_O_eq (uX_ob X2)]
      refine jE_I (u_put (k := 17) (w := 0) hb (by omega) X2) ?_
      rintro h3 ⟨F3, X3⟩
      rw [jw_add1]
      obtain ⟨v, h4, e4, rfl, MK4, cs4, X4, F4, Q4⟩ := ih (n + 1) (P (i + 1)).2.1 MK2 (cs2 ++ [(17, 0)]) h3 (by omega) X3 (by rw [List.length_append]; show cs2.length + 1 ≤ (P (i + 1)).2.1; omega) l3
      rw [e4]
      refine jE_end ⟨rfl, MK4, cs4, X4, jS_tr F3 F4, fun z => ?_⟩
      obtain ⟨q5, q6⟩ := Q4 z
      refine ⟨?_, q6⟩
      rw [q5, c]
      show _ = cs2 ++ cF ([(17, 0, 0)] ++ _)
      rw [cF_app, cF_one, List.append_assoc]
      rfl
    · have e1' : jm_D (d + 2) mX1_take [.ref (x + 216), .int (Int32.ofNat 17)] h = some (.inl (some (.int 0)), h) := by
        apply gX1_take
        simp only [uX_T H, uX_i H, Option.bind_some, jm_O_eq (kR_ob H.2.1), u_kind hi H, jc_I_eq]
        rw [if_neg (jne (hK i) (by omega) c)]
      rw [show (17 : Int32) = Int32.ofNat 17 from rfl, e1', jc_I_eq, if_pos rfl, if_neg (show ¬ uK T i ∈ [17] by simp [c])]
      exact uQ_pg H
theorem u_both_loop {P : Nat → uR} (hT : gT T) (hb : bb = x + 1 ∨ bb = x + 112) (hK : ∀ j, uK T j < 2147483648) (hS : uS x bb ln T D mX1_single q P) (gP : ∀ a, a ≤ 400 → gp 0 a (P a)) (hD : D ≤ d + 2) : ∀ (f n i : Nat) (MK : Nat → Int32) (cs : List (Nat × Nat)) (h : jm_H), n + f = 400 → uX h x bb ln T i MK cs → cs.length ≤ i → i ≤ 400 → uQ (kX1_both_12 (d + 2) (x + 216) (Int32.ofNat (8 - q)) (Int32.ofNat n) h) h x bb ln T MK cs (uRep T [16] P f i) := by
  intro f
  induction f with
  | zero =>
    intro n i MK cs h hn H hc hi
    refine uQ_of (fun r => gX1_both_12) ?_
    rw [if_neg (by rw [show (400 : Int32) = Int32.ofNat 400 from rfl, jw_lt (by omega) (by omega)]; omega)]
    exact uQ_pg H
  | succ f ih =>
    intro n i MK cs h hn H hc hi
    refine uQ_of (fun r => gX1_both_12) ?_
    rw [if_pos (by rw [show (400 : Int32) = Int32.ofNat 400 from rfl, jw_lt (by omega) (by omega)]; omega), jm_O_eq (uX_ob H)]
    unfold uRep
    by_cases c : uK T i = 16
    · obtain ⟨h1, e1, F1, X1⟩ : ∃ h1, jm_D (d + 2) mX1_take [.ref (x + 216), .int (Int32.ofNat 16)] h = some (.inl (some (.int 1)), h1) ∧ jS (uU x bb) h h1 ∧ uX h1 x bb ln T (i + 1) MK cs := by
        obtain ⟨h1, e1, F1, X1⟩ := uX_to hb H (i + 1)
        refine ⟨h1, ?_, F1, X1⟩
        apply gX1_take
        simp only [uX_T H, uX_i H, Option.bind_some, jm_O_eq (kR_ob H.2.1), u_kind hi H, jc_I_eq, jw_add1, e1]
        rw [if_pos (by rw [c])]
      rw [show (16 : Int32) = Int32.ofNat 16 from rfl, e1, jc_I_eq, if_neg (by decide), if_pos (show uK T i ∈ [16] by rw [c]; exact List.mem_cons_self), jm_O_eq (uX_ob X1)]
      have ht := hT.2 i (by omega) (by omega)
      refine uQ_fr F1 (uQ_ms hS (gP _ (by omega)) hD (by omega) (by omega) X1 fun h2 MK2 cs2 _ l1 l2 l3 X2 => ?_)
      rw [jm_O_eq (uX_ob X2)]
      refine jE_I (u_put (k := 16) (w := 0) hb (by omega) X2) ?_
      rintro h3 ⟨F3, X3⟩
      rw [jw_add1]
      obtain ⟨v, h4, e4, rfl, MK4, cs4, X4, F4, Q4⟩ := ih (n + 1) (P (i + 1)).2.1 MK2 (cs2 ++ [(16, 0)]) h3 (by omega) X3 (by rw [List.length_append]; show cs2.length + 1 ≤ (P (i + 1)).2.1; omega) l3
      rw [e4]
      refine jE_end ⟨rfl, MK4, cs4, X4, jS_tr F3 F4, fun z => ?_⟩
      obtain ⟨q5, q6⟩ := Q4 z
      refine ⟨?_, q6⟩
      rw [q5, c]
      show _ = cs2 ++ cF ([(16, 0, 0)] ++ _)
      rw [cF_app, cF_one, List.append_assoc]
      rfl
    · have e1' : jm_D (d + 2) mX1_take [.ref (x + 216), .int (Int32.ofNat 16)] h = some (.inl (some (.int 0)), h) := by
        apply gX1_take
        simp only [uX_T H, uX_i H, Option.bind_some, jm_O_eq (kR_ob H.2.1), u_kind hi H, jc_I_eq]
        rw [if_neg (jne (hK i) (by omega) c)]
      rw [show (16 : Int32) = Int32.ofNat 16 from rfl, e1', jc_I_eq, if_pos rfl, if_neg (show ¬ uK T i ∈ [16] by simp [c])]
      exact uQ_pg H
theorem u_sum_loop {P : Nat → uR} (hT : gT T) (hb : bb = x + 1 ∨ bb = x + 112) (hK : ∀ j, uK T j < 2147483648) (hS : uS x bb ln T D mX1_product q P) (gP : ∀ a, a ≤ 400 → gp 0 a (P a)) (hD : D ≤ d + 2) : ∀ (f n i : Nat) (MK : Nat → Int32) (cs : List (Nat × Nat)) (h : jm_H) (o3 : Option Value), n + f = 400 → uX h x bb ln T i MK cs → cs.length ≤ i → i ≤ 400 → uQ (kX1_sum_12 (d + 2) (x + 216) (Int32.ofNat (8 - q)) (Int32.ofNat n) o3 h) h x bb ln T MK cs (uRep T [26, 27] P f i) := by
  intro f
  induction f with
  | zero =>
    intro n i MK cs h o3 hn H hc hi
    refine uQ_of (fun r => gX1_sum_12) ?_
    rw [if_neg (by rw [show (400 : Int32) = Int32.ofNat 400 from rfl, jw_lt (by omega) (by omega)]; omega)]
    exact uQ_pg H
  | succ f ih =>
    intro n i MK cs h o3 hn H hc hi
    refine uQ_of (fun r => gX1_sum_12) ?_
    have s1 := u_sees (d := d) (k := 26) (by omega) hK hi H
    have s2 := u_sees (d := d) (k := 27) (by omega) hK hi H
    rw [if_pos (by rw [show (400 : Int32) = Int32.ofNat 400 from rfl, jw_lt (by omega) (by omega)]; omega), jm_O_eq (uX_ob H), show (26 : Int32) = Int32.ofNat 26 from rfl, s1, jc_I_eq]
    rw [jm_O_eq (uX_ob H), show (27 : Int32) = Int32.ofNat 27 from rfl, s2, jc_I_eq]
    unfold uRep
    by_cases c : uK T i = 26 ∨ uK T i = 27
    · have go : uQ (kX1_sum_37 (d + 2) (x + 216) (Int32.ofNat (8 - q)) (Int32.ofNat n) o3 h) h x bb ln T MK cs (ub (P (i + 1)) fun a => ub (ue (uK T i, 0, 0) a) (uRep T [26, 27] P f)) := by
        refine uQ_of (fun r => gX1_sum_37) ?_
        obtain ⟨h1, e1, F1, X1⟩ := uX_to hb H (i + 1)
        simp only [uX_T H, uX_i H, Option.bind_some, jm_O_eq (kR_ob H.2.1), u_kind hi H, jc_I_eq, jw_add1, e1, jm_O_eq (uX_ob X1)]
        have ht := hT.2 i (by omega) (by omega)
        refine uQ_fr F1 (uQ_ms hS (gP _ (by omega)) hD (by omega) (by omega) X1 fun h2 MK2 cs2 _ l1 l2 l3 X2 => ?_)
        rw [jm_O_eq (uX_ob X2)]
        refine jE_I (u_put (k := uK T i) (w := 0) hb (by omega) X2) ?_
        rintro h3 ⟨F3, X3⟩
        obtain ⟨v, h4, e4, rfl, MK4, cs4, X4, F4, Q4⟩ := ih (n + 1) (P (i + 1)).2.1 MK2 (cs2 ++ [(uK T i, 0)]) h3 (some (.int (Int32.ofNat (uK T i)))) (by omega) X3 (by rw [List.length_append]; show cs2.length + 1 ≤ (P (i + 1)).2.1; omega) l3
        rw [e4]
        refine jE_end ⟨rfl, MK4, cs4, X4, jS_tr F3 F4, fun z => ?_⟩
        obtain ⟨q5, q6⟩ := Q4 z
        refine ⟨?_, q6⟩
        rw [q5]
        show _ = cs2 ++ cF ([(uK T i, 0, 0)] ++ _)
        rw [cF_app, cF_one, List.append_assoc]
        congr 2
        unfold cI
        rw [if_neg (show ¬ (10 ≤ uK T i ∧ uK T i ≤ 13) by omega), if_neg (show ¬ uK T i = 14 by omega), if_neg (show ¬ uK T i = 36 by omega)]
      rw [if_pos (show uK T i ∈ [26, 27] by simp; exact c)]
      by_cases c1 : uK T i = 26
      · rw [if_pos c1, if_neg (by decide)]
        exact go
      · rw [if_neg c1, if_pos rfl, if_pos (c.resolve_left c1), if_neg (by decide)]
        exact go
    · rw [if_neg (show ¬ uK T i ∈ [26, 27] by simp; omega), if_neg (show ¬ uK T i = 26 by omega), if_pos rfl, if_neg (show ¬ uK T i = 27 by omega), if_pos rfl]
      exact uQ_pg H
theorem u_product_loop {P : Nat → uR} (hT : gT T) (hb : bb = x + 1 ∨ bb = x + 112) (hK : ∀ j, uK T j < 2147483648) (hS : uS x bb ln T D mX1_value q P) (gP : ∀ a, a ≤ 400 → gp 0 a (P a)) (hD : D ≤ d + 2) : ∀ (f n i : Nat) (MK : Nat → Int32) (cs : List (Nat × Nat)) (h : jm_H) (o3 : Option Value), n + f = 400 → uX h x bb ln T i MK cs → cs.length ≤ i → i ≤ 400 → uQ (kX1_product_12 (d + 2) (x + 216) (Int32.ofNat (8 - q)) (Int32.ofNat n) o3 h) h x bb ln T MK cs (uRep T [28, 29] P f i) := by
  intro f
  induction f with
  | zero =>
    intro n i MK cs h o3 hn H hc hi
    refine uQ_of (fun r => gX1_product_12) ?_
    rw [if_neg (by rw [show (400 : Int32) = Int32.ofNat 400 from rfl, jw_lt (by omega) (by omega)]; omega)]
    exact uQ_pg H
  | succ f ih =>
    intro n i MK cs h o3 hn H hc hi
    refine uQ_of (fun r => gX1_product_12) ?_
    have s1 := u_sees (d := d) (k := 28) (by omega) hK hi H
    have s2 := u_sees (d := d) (k := 29) (by omega) hK hi H
    rw [if_pos (by rw [show (400 : Int32) = Int32.ofNat 400 from rfl, jw_lt (by omega) (by omega)]; omega), jm_O_eq (uX_ob H), show (28 : Int32) = Int32.ofNat 28 from rfl, s1, jc_I_eq]
    rw [jm_O_eq (uX_ob H), show (29 : Int32) = Int32.ofNat 29 from rfl, s2, jc_I_eq]
    unfold uRep
    by_cases c : uK T i = 28 ∨ uK T i = 29
    · have go : uQ (kX1_product_37 (d + 2) (x + 216) (Int32.ofNat (8 - q)) (Int32.ofNat n) o3 h) h x bb ln T MK cs (ub (P (i + 1)) fun a => ub (ue (uK T i, 0, 0) a) (uRep T [28, 29] P f)) := by
        refine uQ_of (fun r => gX1_product_37) ?_
        obtain ⟨h1, e1, F1, X1⟩ := uX_to hb H (i + 1)
        simp only [uX_T H, uX_i H, Option.bind_some, jm_O_eq (kR_ob H.2.1), u_kind hi H, jc_I_eq, jw_add1, e1, jm_O_eq (uX_ob X1)]
        have ht := hT.2 i (by omega) (by omega)
        refine uQ_fr F1 (uQ_ms hS (gP _ (by omega)) hD (by omega) (by omega) X1 fun h2 MK2 cs2 _ l1 l2 l3 X2 => ?_)
        rw [jm_O_eq (uX_ob X2)]
        refine jE_I (u_put (k := uK T i) (w := 0) hb (by omega) X2) ?_
        rintro h3 ⟨F3, X3⟩
        obtain ⟨v, h4, e4, rfl, MK4, cs4, X4, F4, Q4⟩ := ih (n + 1) (P (i + 1)).2.1 MK2 (cs2 ++ [(uK T i, 0)]) h3 (some (.int (Int32.ofNat (uK T i)))) (by omega) X3 (by rw [List.length_append]; show cs2.length + 1 ≤ (P (i + 1)).2.1; omega) l3
        rw [e4]
        refine jE_end ⟨rfl, MK4, cs4, X4, jS_tr F3 F4, fun z => ?_⟩
        obtain ⟨q5, q6⟩ := Q4 z
        refine ⟨?_, q6⟩
        rw [q5]
        show _ = cs2 ++ cF ([(uK T i, 0, 0)] ++ _)
        rw [cF_app, cF_one, List.append_assoc]
        congr 2
        unfold cI
        rw [if_neg (show ¬ (10 ≤ uK T i ∧ uK T i ≤ 13) by omega), if_neg (show ¬ uK T i = 14 by omega), if_neg (show ¬ uK T i = 36 by omega)]
      rw [if_pos (show uK T i ∈ [28, 29] by simp; exact c)]
      by_cases c1 : uK T i = 28
      · rw [if_pos c1, if_neg (by decide)]
        exact go
      · rw [if_neg c1, if_pos rfl, if_pos (c.resolve_left c1), if_neg (by decide)]
        exact go
    · rw [if_neg (show ¬ uK T i ∈ [28, 29] by simp; omega), if_neg (show ¬ uK T i = 28 by omega), if_pos rfl, if_neg (show ¬ uK T i = 29 by omega), if_pos rfl]
      exact uQ_pg H
/-- from one to the other -/
theorem u_product {P : Nat → uR} (hT : gT T) (hb : bb = x + 1 ∨ bb = x + 112) (hK : ∀ j, uK T j < 2147483648) (hS : uS x bb ln T (D + 3) mX1_value q P) (gP : ∀ a, a ≤ 400 → gp 0 a (P a)) : uS x bb ln T (D + 4) mX1_product q (uPr T P) := by
  intro d hd h i MK cs H hc hi
  obtain ⟨d, rfl⟩ : ∃ e, d = e + 3 := ⟨d - 3, by omega⟩
  refine uQ_of (fun r => gX1_product) ?_
  rw [jm_O_eq (uX_ob H)]
  exact uQ_ms hS (gP i hi) (by omega) hi hc H fun h1 MK1 cs1 _ l1 l2 l3 X1 => u_product_loop hT hb hK hS gP (by omega) 400 0 _ MK1 cs1 h1 none (by omega) X1 l2 l3
theorem u_sum {P : Nat → uR} (hT : gT T) (hb : bb = x + 1 ∨ bb = x + 112) (hK : ∀ j, uK T j < 2147483648) (hS : uS x bb ln T (D + 3) mX1_product q P) (gP : ∀ a, a ≤ 400 → gp 0 a (P a)) : uS x bb ln T (D + 4) mX1_sum q (uSu T P) := by
  intro d hd h i MK cs H hc hi
  obtain ⟨d, rfl⟩ : ∃ e, d = e + 3 := ⟨d - 3, by omega⟩
  refine uQ_of (fun r => gX1_sum) ?_
  rw [jm_O_eq (uX_ob H)]
  exact uQ_ms hS (gP i hi) (by omega) hi hc H fun h1 MK1 cs1 _ l1 l2 l3 X1 => u_sum_loop hT hb hK hS gP (by omega) 400 0 _ MK1 cs1 h1 none (by omega) X1 l2 l3
theorem u_both {P : Nat → uR} (hT : gT T) (hb : bb = x + 1 ∨ bb = x + 112) (hK : ∀ j, uK T j < 2147483648) (hS : uS x bb ln T (D + 3) mX1_single q P) (gP : ∀ a, a ≤ 400 → gp 0 a (P a)) : uS x bb ln T (D + 4) mX1_both q (uBo T P) := by
  intro d hd h i MK cs H hc hi
  obtain ⟨d, rfl⟩ : ∃ e, d = e + 3 := ⟨d - 3, by omega⟩
  refine uQ_of (fun r => gX1_both) ?_
  rw [jm_O_eq (uX_ob H)]
  exact uQ_ms hS (gP i hi) (by omega) hi hc H fun h1 MK1 cs1 _ l1 l2 l3 X1 => u_both_loop hT hb hK hS gP (by omega) 400 0 _ MK1 cs1 h1 (by omega) X1 l2 l3
theorem u_test {P : Nat → uR} (hT : gT T) (hb : bb = x + 1 ∨ bb = x + 112) (hK : ∀ j, uK T j < 2147483648) (hS : uS x bb ln T (D + 3) mX1_both q P) (gP : ∀ a, a ≤ 400 → gp 0 a (P a)) : uS x bb ln T (D + 4) mX1_test q (uTe T P) := by
  intro d hd h i MK cs H hc hi
  obtain ⟨d, rfl⟩ : ∃ e, d = e + 3 := ⟨d - 3, by omega⟩
  refine uQ_of (fun r => gX1_test) ?_
  rw [jm_O_eq (uX_ob H)]
  exact uQ_ms hS (gP i hi) (by omega) hi hc H fun h1 MK1 cs1 _ l1 l2 l3 X1 => u_test_loop hT hb hK hS gP (by omega) 400 0 _ MK1 cs1 h1 (by omega) X1 l2 l3
end GS
/-! ===== LEVEL 3: Grammar, values and single tests ===== -/
section GV
variable {h h' : jm_H} {d D x bb ln i q : Nat} {T : List aK4} {MK : Nat → Int32} {cs : List (Nat × Nat)}
theorem u_value {V S : Nat → uR} (hT : gT T) (hb : bb = x + 1 ∨ bb = x + 112) (hK : ∀ j, uK T j < 2147483648) (hq : q ≤ 8) (hV : q ≠ 0 → uS x bb ln T (D + 3) mX1_value (q - 1) V) (hS : q ≠ 0 → uS x bb ln T (D + 3) mX1_sum (q - 1) S) (gV : ∀ a, a ≤ 400 → gp 0 a (V a)) (gS : ∀ a, a ≤ 400 → gp 0 a (S a)) : uS x bb ln T (D + 4) mX1_value q (uVal T q V S) := by
  intro d hd h i MK cs H hc hi
  obtain ⟨d, rfl⟩ : ∃ e, d = e + 3 := ⟨d - 3, by omega⟩
  refine uQ_of (fun r => gX1_value) ?_
  simp only [uX_T H, uX_i H, Option.bind_some, jm_O_eq (kR_ob H.2.1), u_kind hi H, jc_I_eq]
  have nx : ∀ k, k ≤ 36 → uK T i = k → i + 1 ≤ 400 ∧ i < 400 := fun k h1 h2 => by
    have := hT.2 i (by omega) (by omega)
    omega
  have n0 : ∀ k, k ≤ 40 → ¬ uK T i = k → ¬ (Int32.ofNat (uK T i) = Int32.ofNat k) := fun k hk z => jne (hK i) (by omega) z
  have e8 : (8 : Int32) = Int32.ofNat 8 := rfl
  have up : q ≠ 0 → Int32.ofNat (8 - q) + 1 = Int32.ofNat (8 - (q - 1)) := fun z => by rw [jw_add1, show 8 - q + 1 = 8 - (q - 1) by omega]
  unfold uVal
  -- size, masks, steps
  have f3 : 10 ≤ uK T i ∧ uK T i ≤ 12 → uQ (jm_O h (x + 216) 1 (jc_I (jm_D (d + 2) mX1_take [.ref (x + 216), .int (Int32.ofNat (uK T i))] h) (fun x26 h24 => (if x26 = 0 then some (.inl (some (.int 0)), h24) else jm_O h24 (x + 216) 1 (jc_I (jm_D (d + 2) mX1_take [.ref (x + 216), .int 35] h24) (fun x30 h28 => (if x30 = 0 then some (.inl (some (.int 0)), h28) else (jr_I h28 (x + 216) 1 2 0).bind fun x32 => jm_O h28 (x + 216) 1 (jc_I (jm_D (d + 2) mX1_put [.ref (x + 216), .int 35, .int (x32 - 1)] h28) (fun x36 h34 => (if x36 = 0 then some (.inl (some (.int 0)), h34) else jm_O h34 (x + 216) 1 (jc_I (jm_D (d + 2) mX1_put [.ref (x + 216), .int (Int32.ofNat (uK T i)), .int 0] h34) (fun x40 h38 => (if x40 = 0 then some (.inl (some (.int 0)), h38) else some (.inl (some (.int 1)), h38))) jx))) jx))) jx))) jx)) h x bb ln T MK cs (ub (ut T 35 (i + 1)) fun a => ue (uK T i, a - 1, 0) a) := by
    intro c
    rw [jm_O_eq (uX_ob H), ← ub_ts (T := T) (k := uK T i) (i := i) (f := fun j => ub (ut T 35 j) fun a => ue (uK T i, a - 1, 0) a) rfl]
    refine uQ_ts hT hb (by omega) hK hi H fun h1 c1 l1 X1 => ?_
    rw [jm_O_eq (uX_ob X1)]
    refine uQ_ts (k := 35) hT hb (by omega) hK l1 X1 fun h2 c2 l2 X2 => ?_
    simp only [uX_i X2, Option.bind_some, jw_sub1, jm_O_eq (uX_ob X2)]
    refine uQ_put2 (k := 35) (w := i + 1) (k2 := uK T i) (w2 := 0) hb (by omega) X2 ?_
    unfold cI
    rw [if_pos (show 10 ≤ uK T i ∧ uK T i ≤ 13 by omega)]
    rfl
  -- min, max
  have f2 : uK T i = 18 ∨ uK T i = 19 → uQ (jm_O h (x + 216) 1 (jc_I (jm_D (d + 2) mX1_take [.ref (x + 216), .int (Int32.ofNat (uK T i))] h) (fun x119 h117 => (if x119 = 0 then some (.inl (some (.int 0)), h117) else (if Int32.ofNat (8 - q) < 8 then jm_O h117 (x + 216) 1 (jc_I (jm_D (d + 2) mX1_take [.ref (x + 216), .int 20] h117) (fun x124 h122 => (if x124 = 0 then some (.inl (some (.int 0)), h122) else jm_O h122 (x + 216) 1 (jc_I (jm_D (d + 2) mX1_sum [.ref (x + 216), .int (Int32.ofNat (8 - q) + 1)] h122) (fun x128 h126 => (if x128 = 0 then some (.inl (some (.int 0)), h126) else jm_O h126 (x + 216) 1 (jc_I (jm_D (d + 2) mX1_take [.ref (x + 216), .int 25] h126) (fun x132 h130 => (if x132 = 0 then some (.inl (some (.int 0)), h130) else jm_O h130 (x + 216) 1 (jc_I (jm_D (d + 2) mX1_sum [.ref (x + 216), .int (Int32.ofNat (8 - q) + 1)] h130) (fun x136 h134 => (if x136 = 0 then some (.inl (some (.int 0)), h134) else jm_O h134 (x + 216) 1 (jc_I (jm_D (d + 2) mX1_take [.ref (x + 216), .int 21] h134) (fun x140 h138 => (if x140 = 0 then some (.inl (some (.int 0)), h138) else jm_O h138 (x + 216) 1 (jc_I (jm_D (d + 2) mX1_put [.ref (x + 216), .int (Int32.ofNat (uK T i)), .int 0] h138) (fun x144 h142 => (if x144 = 0 then some (.inl (some (.int 0)), h142) else some (.inl (some (.int 1)), h142))) jx))) jx))) jx))) jx))) jx))) jx) else some (.inl (some (.int 0)), h117)))) jx)) h x bb ln T MK cs (if q = 0 then uf (i + 1) else ub (ut T 20 (i + 1)) fun a => ub (S a) fun a => ub (ut T 25 a) fun a => ub (S a) fun a => ub (ut T 21 a) (ue (uK T i, 0, 0))) := by
    intro c
    rw [jm_O_eq (uX_ob H), ← ub_ts (T := T) (k := uK T i) (i := i) (f := fun j => if q = 0 then uf j else ub (ut T 20 j) fun a => ub (S a) fun a => ub (ut T 25 a) fun a => ub (S a) fun a => ub (ut T 21 a) (ue (uK T i, 0, 0))) rfl]
    refine uQ_ts hT hb (by omega) hK hi H fun h1 c1 l1 X1 => ?_
    by_cases q0 : q = 0
    · rw [if_pos q0, if_neg (by rw [e8, jw_lt (by omega) (by omega)]; omega)]
      exact uQ_pf X1
    · rw [if_neg q0, if_pos (by rw [e8, jw_lt (by omega) (by omega)]; omega), jm_O_eq (uX_ob X1), up q0]
      refine uQ_ts (k := 20) hT hb (by omega) hK l1 X1 fun h2 c2 l2 X2 => ?_
      rw [jm_O_eq (uX_ob X2)]
      refine uQ_ms (hS q0) (gS _ l2) (by omega) l2 (by omega) X2 fun h3 MK3 cs3 _ m1 m2 l3 X3 => ?_
      rw [jm_O_eq (uX_ob X3)]
      refine uQ_ts (k := 25) hT hb (by omega) hK l3 X3 fun h4 c4 l4 X4 => ?_
      rw [jm_O_eq (uX_ob X4)]
      refine uQ_ms (hS q0) (gS _ l4) (by omega) l4 (by omega) X4 fun h5 MK5 cs5 _ m3 m4 l5 X5 => ?_
      rw [jm_O_eq (uX_ob X5)]
      refine uQ_ts (k := 21) hT hb (by omega) hK l5 X5 fun h6 c6 l6 X6 => ?_
      rw [jm_O_eq (uX_ob X6)]
      refine uQ_put1 (k := uK T i) (w := 0) (o := uf 0) hb (by omega) X6 ?_
      unfold cI
      rw [if_neg (show ¬ (10 ≤ uK T i ∧ uK T i ≤ 13) by omega), if_neg (show ¬ uK T i = 14 by omega), if_neg (show ¬ uK T i = 36 by omega)]
  by_cases c9 : uK T i = 9
  · have l := nx _ (by omega) c9
    rw [if_pos (show Int32.ofNat (uK T i) = 9 by rw [c9]; rfl), if_neg (show ¬ uK T i = 36 by omega), if_pos c9, jm_O_eq (uX_ob H), ← ub_ts (T := T) (k := 9) (i := i) (f := ue (9, 0, 0)) c9]
    refine uQ_ts (k := 9) hT hb (by omega) hK hi H fun h1 c1 l1 X1 => ?_
    rw [jm_O_eq (uX_ob X1)]
    exact uQ_put1 (k := 9) (w := 0) (o := uf 0) hb (by omega) X1 rfl
  rw [if_neg (show ¬ Int32.ofNat (uK T i) = 9 from n0 9 (by omega) c9)]
  by_cases c10 : uK T i = 10
  · rw [if_pos (show Int32.ofNat (uK T i) = 10 by rw [c10]; rfl), if_neg (show ¬ uK T i = 36 by omega), if_neg c9, if_pos (Or.inl c10)]
    exact f3 (by omega)
  rw [if_neg (show ¬ Int32.ofNat (uK T i) = 10 from n0 10 (by omega) c10)]
  by_cases c11 : uK T i = 11
  · rw [if_pos (show Int32.ofNat (uK T i) = 11 by rw [c11]; rfl), if_neg (show ¬ uK T i = 36 by omega), if_neg c9, if_pos (Or.inr (Or.inl c11))]
    exact f3 (by omega)
  rw [if_neg (show ¬ Int32.ofNat (uK T i) = 11 from n0 11 (by omega) c11)]
  by_cases c12 : uK T i = 12
  · rw [if_pos (show Int32.ofNat (uK T i) = 12 by rw [c12]; rfl), if_neg (show ¬ uK T i = 36 by omega), if_neg c9, if_pos (Or.inr (Or.inr c12))]
    exact f3 (by omega)
  rw [if_neg (show ¬ Int32.ofNat (uK T i) = 12 from n0 12 (by omega) c12)]
  have n3 : ¬ (uK T i = 10 ∨ uK T i = 11 ∨ uK T i = 12) := by omega
  by_cases c18 : uK T i = 18
  · rw [if_pos (show Int32.ofNat (uK T i) = 18 by rw [c18]; rfl), if_neg (show ¬ uK T i = 36 by omega), if_neg c9, if_neg n3, if_neg (show ¬ uK T i = 27 by omega), if_neg (show ¬ uK T i = 20 by omega), if_pos (Or.inl c18)]
    exact f2 (Or.inl c18)
  rw [if_neg (show ¬ Int32.ofNat (uK T i) = 18 from n0 18 (by omega) c18)]
  by_cases c19 : uK T i = 19
  · rw [if_pos (show Int32.ofNat (uK T i) = 19 by rw [c19]; rfl), if_neg (show ¬ uK T i = 36 by omega), if_neg c9, if_neg n3, if_neg (show ¬ uK T i = 27 by omega), if_neg (show ¬ uK T i = 20 by omega), if_pos (Or.inr c19)]
    exact f2 (Or.inr c19)
  rw [if_neg (show ¬ Int32.ofNat (uK T i) = 19 from n0 19 (by omega) c19)]
  have n2 : ¬ (uK T i = 18 ∨ uK T i = 19) := by omega
  by_cases c20 : uK T i = 20
  · rw [if_pos (show Int32.ofNat (uK T i) = 20 by rw [c20]; rfl), if_neg (show ¬ uK T i = 36 by omega), if_neg c9, if_neg n3, if_neg (show ¬ uK T i = 27 by omega), if_pos c20]
    by_cases q0 : q = 0
    · rw [if_pos q0, if_neg (by rw [e8, jw_lt (by omega) (by omega)]; omega)]
      exact uQ_pf H
    · rw [if_neg q0, if_pos (by rw [e8, jw_lt (by omega) (by omega)]; omega), jm_O_eq (uX_ob H), up q0, ← ub_ts (T := T) (k := 20) (i := i) (f := fun j => ub (S j) (ut T 21)) c20]
      refine uQ_ts (k := 20) hT hb (by omega) hK hi H fun h1 c1 l1 X1 => ?_
      rw [jm_O_eq (uX_ob X1)]
      refine uQ_ms (hS q0) (gS _ l1) (by omega) l1 (by omega) X1 fun h3 MK3 cs3 _ m1 m2 l3 X3 => ?_
      rw [jm_O_eq (uX_ob X3)]
      exact uQ_tl (k := 21) hb (by omega) hK l3 X3
  rw [if_neg (show ¬ Int32.ofNat (uK T i) = 20 from n0 20 (by omega) c20)]
  by_cases c27 : uK T i = 27
  · rw [if_pos (show Int32.ofNat (uK T i) = 27 by rw [c27]; rfl), if_neg (show ¬ uK T i = 36 by omega), if_neg c9, if_neg n3, if_pos c27]
    by_cases q0 : q = 0
    · rw [if_pos q0, if_neg (by rw [e8, jw_lt (by omega) (by omega)]; omega)]
      exact uQ_pf H
    · rw [if_neg q0, if_pos (by rw [e8, jw_lt (by omega) (by omega)]; omega), jm_O_eq (uX_ob H), up q0, ← ub_ts (T := T) (k := 27) (i := i) (f := fun j => ub (V j) (ue (39, 0, 0))) c27]
      refine uQ_ts (k := 27) hT hb (by omega) hK hi H fun h1 c1 l1 X1 => ?_
      rw [jm_O_eq (uX_ob X1)]
      refine uQ_ms (hV q0) (gV _ l1) (by omega) l1 (by omega) X1 fun h3 MK3 cs3 _ m1 m2 l3 X3 => ?_
      rw [jm_O_eq (uX_ob X3)]
      exact uQ_put1 (k := 39) (w := 0) (o := uf 0) hb (by omega) X3 rfl
  rw [if_neg (show ¬ Int32.ofNat (uK T i) = 27 from n0 27 (by omega) c27)]
  by_cases c36 : uK T i = 36
  · have l := nx _ (by omega) c36
    rw [if_pos (show Int32.ofNat (uK T i) = 36 by rw [c36]; rfl), if_pos c36]
    simp only [jm_O_eq (kR_ob H.2.1), k_valueAt (show i < 2147483648 by omega) H.2.1, jc_I_eq, jm_O_eq (uX_ob H)]
    refine jE_I (u_put (k := 36) (w := uV T i) hb (by omega) H) ?_
    rintro h1 ⟨F1, X1⟩
    rw [if_neg (by decide), jm_O_eq (uX_ob X1)]
    obtain ⟨v, h2, e2, rfl, MK2, cs2, X2, F2, Q2⟩ := uQ_tl (d := d) (k := 36) hb (by omega) hK hi X1
    rw [show (36 : Int32) = Int32.ofNat 36 from rfl, e2]
    have e : ut T 36 i = ug (i + 1) := if_pos c36
    rw [e] at X2 Q2 ⊢
    obtain ⟨q1, q2⟩ := Q2 rfl
    refine jE_end ⟨rfl, MK2, cs2, X2, jS_tr F1 F2, fun _ => ⟨?_, q2⟩⟩
    rw [q1]
    show cs ++ [(36, uV T i)] ++ [] = cs ++ cF [(36, uV T i, 0)]
    rw [List.append_nil, cF_one]
    rfl
  rw [if_neg (show ¬ Int32.ofNat (uK T i) = 36 from n0 36 (by omega) c36), if_neg c36, if_neg c9, if_neg n3, if_neg c27, if_neg c20, if_neg n2]
  exact uQ_pf H
theorem u_single {G Z S : Nat → uR} (hT : gT T) (hb : bb = x + 1 ∨ bb = x + 112) (hK : ∀ j, uK T j < 2147483648) (hq : q ≤ 8) (hG : q ≠ 0 → uS x bb ln T (D + 3) mX1_single (q - 1) G) (hZ : q ≠ 0 → uS x bb ln T (D + 3) mX1_test (q - 1) Z) (hS : uS x bb ln T (D + 3) mX1_sum q S) (gG : ∀ a, a ≤ 400 → gp 0 a (G a)) (gZ : ∀ a, a ≤ 400 → gp 0 a (Z a)) (gS : ∀ a, a ≤ 400 → gp 0 a (S a)) : uS x bb ln T (D + 4) mX1_single q (uSin T q G Z S) := by
  intro d hd h i MK cs H hc hi
  obtain ⟨d, rfl⟩ : ∃ e, d = e + 3 := ⟨d - 3, by omega⟩
  refine uQ_of (fun r => gX1_single) ?_
  simp only [uX_T H, uX_i H, Option.bind_some, jm_O_eq (kR_ob H.2.1), u_kind hi H, jc_I_eq]
  have n0 : ∀ k, k ≤ 40 → ¬ uK T i = k → ¬ (Int32.ofNat (uK T i) = Int32.ofNat k) := fun k hk z => jne (hK i) (by omega) z
  have e8 : (8 : Int32) = Int32.ofNat 8 := rfl
  have up : q ≠ 0 → Int32.ofNat (8 - q) + 1 = Int32.ofNat (8 - (q - 1)) := fun z => by rw [jw_add1, show 8 - q + 1 = 8 - (q - 1) by omega]
  unfold uSin
  by_cases c13 : uK T i = 13
  · rw [if_pos (show Int32.ofNat (uK T i) = 13 by rw [c13]; rfl), if_pos c13, jm_O_eq (uX_ob H), ← ub_ts (T := T) (k := 13) (i := i) (f := fun j => ub (ut T 35 j) fun a => ue (13, a - 1, 0) a) c13]
    refine uQ_ts (k := 13) hT hb (by omega) hK hi H fun h1 c1 l1 X1 => ?_
    rw [jm_O_eq (uX_ob X1)]
    refine uQ_ts (k := 35) hT hb (by omega) hK l1 X1 fun h2 c2 l2 X2 => ?_
    simp only [uX_i X2, Option.bind_some, jw_sub1, jm_O_eq (uX_ob X2)]
    exact uQ_put2 (k := 35) (w := i + 1) (k2 := 13) (w2 := 0) hb (by omega) X2 rfl
  rw [if_neg (show ¬ Int32.ofNat (uK T i) = 13 from n0 13 (by omega) c13), if_neg c13]
  by_cases c14 : uK T i = 14
  · rw [if_pos (show Int32.ofNat (uK T i) = 14 by rw [c14]; rfl), if_pos c14, jm_O_eq (uX_ob H), ← ub_ts (T := T) (k := 14) (i := i) (f := fun j => ub (ut T 35 j) fun a => ub (ut T 35 a) fun a => ue (14, a - 2, a - 1) a) c14]
    refine uQ_ts (k := 14) hT hb (by omega) hK hi H fun h1 c1 l1 X1 => ?_
    rw [jm_O_eq (uX_ob X1)]
    refine uQ_ts (k := 35) hT hb (by omega) hK l1 X1 fun h2 c2 l2 X2 => ?_
    simp only [uX_i X2, Option.bind_some, jw_sub1, jm_O_eq (uX_ob X2)]
    refine jE_I (u_put (k := 35) (w := i + 1) hb (by omega) X2) ?_
    rintro h3 ⟨F3, X3⟩
    rw [if_neg (by decide), jm_O_eq (uX_ob X3)]
    have hl : (cs ++ [(35, i + 1)]).length = cs.length + 1 := by simp
    obtain ⟨v, h4, e4, rfl, MK4, cs4, X4, F4, Q4⟩ := u_take (d := d) (k := 35) hb (by omega) hK l2 X3
    have e4' : jm_D (d + 2) mX1_take [.ref (x + 216), .int 35] h3 = some (.inl (some (.int (if (ut T 35 (i + 1 + 1)).1 = true then 1 else 0))), h4) := e4
    rw [e4', jc_I_eq]
    by_cases c3 : uK T (i + 1 + 1) = 35
    · have e : ut T 35 (i + 1 + 1) = ug (i + 1 + 1 + 1) := if_pos c3
      rw [e] at X4 Q4 ⊢
      obtain ⟨q1, q2⟩ := Q4 rfl
      have q1' : cs4 = cs ++ [(35, i + 1)] := q1.trans (List.append_nil _)
      subst q1'
      have X4' : uX h4 x bb ln T (i + 1 + 1 + 1) MK4 (cs ++ [(35, i + 1)]) := X4
      have l4 := hT.2 (i + 1 + 1) (by omega) (by omega)
      rw [if_neg (show ¬ ((if (ug (i + 1 + 1 + 1)).1 = true then (1 : Int32) else 0) = 0) from (by decide : ¬ ((1 : Int32) = 0)))]
      simp only [uX_i X4', Option.bind_some, jw_sub1, jm_O_eq (uX_ob X4')]
      refine jE_I (u_put (k := 35) (w := i + 1 + 1) hb (by omega) X4') ?_
      rintro h5 ⟨F5, X5⟩
      have hl2 : (cs ++ [(35, i + 1)] ++ [(35, i + 1 + 1)]).length = cs.length + 2 := by simp
      rw [if_neg (by decide), jm_O_eq (uX_ob X5)]
      refine jE_I (u_put (k := 14) (w := 0) hb (by omega) X5) ?_
      rintro h6 ⟨F6, X6⟩
      rw [if_neg (by decide)]
      refine jE_end ⟨rfl, MK4, _, X6, jS_tr F3 (jS_tr F4 (jS_tr F5 F6)), fun _ => ⟨?_, q2⟩⟩
      show _ = cs ++ cF [(14, i + 1 + 1 + 1 - 2, i + 1 + 1 + 1 - 1)]
      rw [cF_one, List.append_assoc, List.append_assoc]
      rfl
    · have e : ut T 35 (i + 1 + 1) = uf (i + 1 + 1) := if_neg c3
      rw [e] at X4 Q4 ⊢
      rw [if_pos (show (if (uf (i + 1 + 1)).1 = true then (1 : Int32) else 0) = 0 from rfl)]
      exact jE_end ⟨rfl, MK4, cs4, X4, jS_tr F3 F4, fun z => (by cases z)⟩
  rw [if_neg (show ¬ Int32.ofNat (uK T i) = 14 from n0 14 (by omega) c14), if_neg c14]
  by_cases c15 : uK T i = 15
  · rw [if_pos (show Int32.ofNat (uK T i) = 15 by rw [c15]; rfl), if_pos c15]
    by_cases q0 : q = 0
    · rw [if_pos q0, if_neg (by rw [e8, jw_lt (by omega) (by omega)]; omega)]
      exact uQ_pf H
    · rw [if_neg q0, if_pos (by rw [e8, jw_lt (by omega) (by omega)]; omega), jm_O_eq (uX_ob H), up q0, ← ub_ts (T := T) (k := 15) (i := i) (f := fun j => ub (G j) (ue (15, 0, 0))) c15]
      refine uQ_ts (k := 15) hT hb (by omega) hK hi H fun h1 c1 l1 X1 => ?_
      rw [jm_O_eq (uX_ob X1)]
      refine uQ_ms (hG q0) (gG _ l1) (by omega) l1 (by omega) X1 fun h3 MK3 cs3 _ m1 m2 l3 X3 => ?_
      rw [jm_O_eq (uX_ob X3)]
      exact uQ_put1 (k := 15) (w := 0) (o := uf 0) hb (by omega) X3 rfl
  rw [if_neg (show ¬ Int32.ofNat (uK T i) = 15 from n0 15 (by omega) c15), if_neg c15]
  by_cases c22 : uK T i = 22
  · rw [if_pos (show Int32.ofNat (uK T i) = 22 by rw [c22]; rfl), if_pos c22]
    by_cases q0 : q = 0
    · rw [if_pos q0, if_neg (by rw [e8, jw_lt (by omega) (by omega)]; omega)]
      exact uQ_pf H
    · rw [if_neg q0, if_pos (by rw [e8, jw_lt (by omega) (by omega)]; omega), jm_O_eq (uX_ob H), up q0, ← ub_ts (T := T) (k := 22) (i := i) (f := fun j => ub (Z j) (ut T 23)) c22]
      refine uQ_ts (k := 22) hT hb (by omega) hK hi H fun h1 c1 l1 X1 => ?_
      rw [jm_O_eq (uX_ob X1)]
      refine uQ_ms (hZ q0) (gZ _ l1) (by omega) l1 (by omega) X1 fun h3 MK3 cs3 _ m1 m2 l3 X3 => ?_
      rw [jm_O_eq (uX_ob X3)]
      exact uQ_tl (k := 23) hb (by omega) hK l3 X3
  rw [if_neg (show ¬ Int32.ofNat (uK T i) = 22 from n0 22 (by omega) c22), if_neg c22, jm_O_eq (uX_ob H)]
  refine uQ_ms hS (gS i hi) (by omega) hi hc H fun h1 MK1 cs1 _ m1 m2 l1 X1 => ?_
  simp only [uX_T X1, uX_i X1, Option.bind_some, jm_O_eq (kR_ob X1.2.1), u_kind l1 X1, jc_I_eq]
  by_cases c : 30 ≤ uK T (S i).2.1 ∧ uK T (S i).2.1 ≤ 34
  · have hk := hK (S i).2.1
    have := hT.2 (S i).2.1 (by omega) (by omega)
    obtain ⟨h2, e2, F2, X2⟩ := uX_to hb X1 ((S i).2.1 + 1)
    rw [if_pos c, if_neg (by rw [show (30 : Int32) = Int32.ofNat 30 from rfl, jw_lt hk (by omega)]; omega), if_neg (by rw [show (34 : Int32) = Int32.ofNat 34 from rfl, jw_lt (by omega) hk]; omega)]
    simp only [jw_add1, e2, Option.bind_some, jm_O_eq (uX_ob X2)]
    refine uQ_fr F2 (uQ_ms hS (gS _ (by omega)) (by omega) (by omega) (by omega) X2 fun h3 MK3 cs3 _ m3 m4 l3 X3 => ?_)
    rw [jm_O_eq (uX_ob X3)]
    refine uQ_put1 (k := uK T (S i).2.1) (w := 0) (o := uf 0) hb (by omega) X3 ?_
    unfold cI
    rw [if_neg (show ¬ (10 ≤ uK T (S i).2.1 ∧ uK T (S i).2.1 ≤ 13) by omega), if_neg (show ¬ uK T (S i).2.1 = 14 by omega), if_neg (show ¬ uK T (S i).2.1 = 36 by omega)]
  · rw [if_neg c]
    have hk := hK (S i).2.1
    by_cases c1 : uK T (S i).2.1 < 30
    · rw [if_pos (by rw [show (30 : Int32) = Int32.ofNat 30 from rfl, jw_lt hk (by omega)]; exact c1)]
      exact uQ_pf X1
    · rw [if_neg (by rw [show (30 : Int32) = Int32.ofNat 30 from rfl, jw_lt hk (by omega)]; exact c1), if_pos (by rw [show (34 : Int32) = Int32.ofNat 34 from rfl, jw_lt (by omega) hk]; omega)]
      exact uQ_pf X1
end GV
/-! ===== LEVEL 3: Grammar, parts and lines ===== -/
section GL
variable {h h' : jm_H} {d D x bb ln i q : Nat} {T : List aK4} {MK : Nat → Int32} {cs : List (Nat × Nat)}
theorem uS_up {D' : Nat} {m : jm_M} {P : Nat → uR} (h : uS x bb ln T D m q P) (hD : D ≤ D') : uS x bb ln T D' m q P := fun d hd => h d (by omega)
theorem u_lev (hT : gT T) (hb : bb = x + 1 ∨ bb = x + 112) (hK : ∀ j, uK T j < 2147483648) : ∀ q, q ≤ 8 → uS x bb ln T (4 + 6 * q) mX1_value q (uLev T q).1 ∧ uS x bb ln T (6 + 6 * q) mX1_sum q (uLev T q).2.1 ∧ uS x bb ln T (7 + 6 * q) mX1_single q (uLev T q).2.2.1 ∧ uS x bb ln T (9 + 6 * q) mX1_test q (uLev T q).2.2.2 := by
  have up : ∀ (q : Nat) (L : uL), q ≤ 8 → (q ≠ 0 → uS x bb ln T (3 + 6 * q) mX1_value (q - 1) L.1 ∧ uS x bb ln T (3 + 6 * q) mX1_sum (q - 1) L.2.1 ∧ uS x bb ln T (6 + 6 * q) mX1_single (q - 1) L.2.2.1 ∧ uS x bb ln T (6 + 6 * q) mX1_test (q - 1) L.2.2.2) → (∀ a, a ≤ 400 → gp 0 a (L.1 a)) → (∀ a, a ≤ 400 → gp 0 a (L.2.1 a)) → (∀ a, a ≤ 400 → gp 0 a (L.2.2.1 a)) → (∀ a, a ≤ 400 → gp 0 a (L.2.2.2 a)) → uS x bb ln T (4 + 6 * q) mX1_value q (uUp T q L).1 ∧ uS x bb ln T (6 + 6 * q) mX1_sum q (uUp T q L).2.1 ∧ uS x bb ln T (7 + 6 * q) mX1_single q (uUp T q L).2.2.1 ∧ uS x bb ln T (9 + 6 * q) mX1_test q (uUp T q L).2.2.2 := by
    intro q L hq hL l1 l2 l3 l4
    have g1 : ∀ a, a ≤ 400 → gp 0 a (uVal T q L.1 L.2.1 a) := fun a ha => gp_val hT (fun z => l1) (fun z => l2) ha
    have g2 : ∀ a, a ≤ 400 → gp 0 a (uPr T (uVal T q L.1 L.2.1) a) := fun a ha => gp_bb (c' := 0) (g1 a ha) (fun b _ hb => gp_rep hT (by simp) g1 400 b hb) (Nat.zero_le _)
    have g3 : ∀ a, a ≤ 400 → gp 0 a (uSu T (uPr T (uVal T q L.1 L.2.1)) a) := fun a ha => gp_bb (c' := 0) (g2 a ha) (fun b _ hb => gp_rep hT (by simp) g2 400 b hb) (Nat.zero_le _)
    have g4 : ∀ a, a ≤ 400 → gp 0 a (uSin T q L.2.2.1 L.2.2.2 (uSu T (uPr T (uVal T q L.1 L.2.1))) a) := fun a ha => gp_sin hT (fun z => l3) (fun z => l4) g3 ha
    have g5 : ∀ a, a ≤ 400 → gp 0 a (uBo T (uSin T q L.2.2.1 L.2.2.2 (uSu T (uPr T (uVal T q L.1 L.2.1)))) a) := fun a ha => gp_bb (c' := 0) (g4 a ha) (fun b _ hb => gp_rep hT (by simp) g4 400 b hb) (Nat.zero_le _)
    have e : ∀ k, 3 + 6 * q + k = (6 * q + k) + 3 := fun k => by omega
    have s1 : uS x bb ln T (6 * q + 4) mX1_value q (uVal T q L.1 L.2.1) := u_value hT hb hK hq (fun z => uS_up (hL z).1 (by omega)) (fun z => uS_up (hL z).2.1 (by omega)) l1 l2
    have s2 := u_product (D := 6 * q + 1) hT hb hK (uS_up s1 (by omega)) g1
    have s3 := u_sum (D := 6 * q + 2) hT hb hK (uS_up s2 (by omega)) g2
    have s4 : uS x bb ln T (6 * q + 3 + 4) mX1_single q _ := u_single hT hb hK hq (fun z => uS_up (hL z).2.2.1 (by omega)) (fun z => uS_up (hL z).2.2.2 (by omega)) (uS_up s3 (by omega)) l3 l4 g3
    have s5 := u_both (D := 6 * q + 4) hT hb hK (uS_up s4 (by omega)) g4
    have s6 := u_test (D := 6 * q + 5) hT hb hK (uS_up s5 (by omega)) g5
    exact ⟨uS_up s1 (by omega), uS_up s3 (by omega), uS_up s4 (by omega), uS_up s6 (by omega)⟩
  intro q
  induction q with
  | zero => exact fun hq => up 0 (uf, uf, uf, uf) hq (fun z => absurd rfl z) (fun a ha => gp_f ha) (fun a ha => gp_f ha) (fun a ha => gp_f ha) (fun a ha => gp_f ha)
  | succ q ih =>
    intro hq
    have g := gp_lev hT q
    have s := ih (by omega)
    exact up (q + 1) (uLev T q) hq (fun _ => ⟨uS_up s.1 (by omega), uS_up s.2.1 (by omega), uS_up s.2.2.1 (by omega), uS_up s.2.2.2 (by omega)⟩) g.1 g.2.1 g.2.2.1 g.2.2.2
/-- a mark -/
theorem u_mark {j n : Nat} (hb : bb = x + 1 ∨ bb = x + 112) (hj : j < T.length) (H : uX h x bb ln T i MK cs) : jF (jm_D (d + 1) mX9_mark [.ref (x + 105), .int (Int32.ofNat j), .int (Int32.ofNat n)] h) (.inl none) fun h' => jS (uU x bb) h h' ∧ uX h' x bb ln T i (upd MK j (Int32.ofNat n)) cs := by
  refine jF_mono (k_mark hj H.2.1) ?_
  rintro h1 ⟨F1, H1⟩
  exact ⟨jS_mn F1 fun a ha => Or.inr (Or.inl ha), oC_tr H.1 F1 (by unfold jn; omega), H1, bC_tr H.2.2 F1 (fun y y1 y2 => by unfold jn at y1 y2; omega)⟩
theorem uQ_mk {j n : Nat} {f : Nat → uR} {kk : jm_H → Option jm_R} (hb : bb = x + 1 ∨ bb = x + 112) (hj : j < T.length) (H : uX h x bb ln T i MK cs) (g : ∀ h1, uX h1 x bb ln T i (upd MK j (Int32.ofNat n)) cs → uQ (kk h1) h1 x bb ln T (upd MK j (Int32.ofNat n)) cs (f i)) : uQ (jc_V (jm_D (d + 1) mX9_mark [.ref (x + 105), .int (Int32.ofNat j), .int (Int32.ofNat n)] h) (fun h1 => kk h1) jx) h x bb ln T MK cs (ub (true, i, [], [(j, n)]) f) := by
  refine jE_V (u_mark hb hj H) ?_
  rintro h1 ⟨F1, X1⟩
  obtain ⟨v, h2, e2, rfl, MK2, cs2, X2, F2, Q2⟩ := g h1 X1
  rw [e2, ub_T rfl]
  exact jE_end ⟨rfl, MK2, cs2, X2, jS_tr F1 F2, fun z => Q2 z⟩
theorem u_scenes_loop {own : Nat} {P : Nat → uR} (hT : gT T) (hb : bb = x + 1 ∨ bb = x + 112) (hK : ∀ j, uK T j < 2147483648) (hq : 0 < q ∧ q ≤ 8) (hS : uS x bb ln T D mX1_part (q - 1) P) (gP : ∀ a, a ≤ 400 → gp 0 a (P a)) (hD : D ≤ d + 2) (ho : own < T.length) : ∀ (f n i : Nat) (MK : Nat → Int32) (cs : List (Nat × Nat)) (h : jm_H), n + f = 400 → uX h x bb ln T i MK cs → cs.length ≤ i → i ≤ 400 → uQ (kX1_scenes_24 (d + 2) (x + 216) (Int32.ofNat (8 - q)) (Int32.ofNat own) (Int32.ofNat n) h) h x bb ln T MK cs (uSc T own P f n i) := by
  have up : Int32.ofNat (8 - q) + 1 = Int32.ofNat (8 - (q - 1)) := by rw [jw_add1, show 8 - q + 1 = 8 - (q - 1) by omega]
  intro f
  induction f with
  | zero =>
    intro n i MK cs h hn H hc hi
    refine uQ_of (fun r => gX1_scenes_24) ?_
    rw [if_neg (by rw [show (400 : Int32) = Int32.ofNat 400 from rfl, jw_lt (by omega) (by omega)]; omega)]
    simp only [uX_T H, Option.bind_some, jm_O_eq (kR_ob H.2.1)]
    refine uQ_mk hb ho H fun h1 X1 => ?_
    rw [jm_O_eq (uX_ob X1)]
    exact uQ_Y (u_take (k := 23) hb (by omega) hK hi X1)
  | succ f ih =>
    intro n i MK cs h hn H hc hi
    refine uQ_of (fun r => gX1_scenes_24) ?_
    rw [if_pos (by rw [show (400 : Int32) = Int32.ofNat 400 from rfl, jw_lt (by omega) (by omega)]; omega)]
    have s1 : jm_D (d + 2) mX1_sees [.ref (x + 216), .int 23] h = some (.inl (some (.int (if uK T i = 23 then 1 else 0))), h) := u_sees (d := d) (k := 23) (by omega) hK hi H
    have go : uQ (jc_I (jm_D (d + 2) mX1_part [.ref (x + 216), .int (Int32.ofNat (8 - q) + 1)] h) (fun x29 h27 => (if x29 = 0 then some (.inl (some (.int 0)), h27) else kX1_scenes_24 (d + 2) (x + 216) (Int32.ofNat (8 - q)) (Int32.ofNat own) (Int32.ofNat n + 1) h27)) jx) h x bb ln T MK cs (ub (P i) (uSc T own P f (n + 1))) := by
      rw [up, jw_add1]
      exact uQ_ms hS (gP i hi) hD hi hc H fun h1 MK1 cs1 _ m1 m2 l1 X1 => ih (n + 1) _ MK1 cs1 h1 (by omega) X1 m2 l1
    unfold uSc
    by_cases c : n < 2
    · rw [if_pos (by rw [show (2 : Int32) = Int32.ofNat 2 from rfl, jw_lt (by omega) (by omega)]; exact c), if_pos (Or.inl c), jm_O_eq (uX_ob H)]
      exact go
    · rw [if_neg (by rw [show (2 : Int32) = Int32.ofNat 2 from rfl, jw_lt (by omega) (by omega)]; exact c), jm_O_eq (uX_ob H), s1, jc_I_eq]
      by_cases c2 : uK T i = 23
      · rw [if_pos c2, if_neg (by decide), if_neg (show ¬ (n < 2 ∨ uK T i ≠ 23) by omega)]
        simp only [uX_T H, Option.bind_some, jm_O_eq (kR_ob H.2.1)]
        refine uQ_mk hb ho H fun h1 X1 => ?_
        rw [jm_O_eq (uX_ob X1)]
        exact uQ_Y (u_take (k := 23) hb (by omega) hK hi X1)
      · rw [if_neg c2, if_pos rfl, if_pos (Or.inr c2), jm_O_eq (uX_ob H)]
        exact go
theorem u_part (hT : gT T) (hb : bb = x + 1 ∨ bb = x + 112) (hK : ∀ j, uK T j < 2147483648) : ∀ q, q ≤ 8 → uS x bb ln T (4 + 2 * q) mX1_part q (uPart T q)
  | 0, _ => by
    intro d hd h i MK cs H hc hi
    obtain ⟨d, rfl⟩ : ∃ e, d = e + 4 := ⟨d - 4, by omega⟩
    refine uQ_of (fun r => gX1_part) ?_
    have s1 : jm_D (d + 3) mX1_sees [.ref (x + 216), .int 22] h = some (.inl (some (.int (if uK T i = 22 then 1 else 0))), h) := u_sees (d := d + 1) (k := 22) (by omega) hK hi H
    rw [jm_O_eq (uX_ob H), s1, jc_I_eq]
    unfold uPart
    by_cases c : uK T i = 22
    · rw [if_pos c, if_neg (by decide), if_pos c, jm_O_eq (uX_ob H)]
      refine uQ_Y ?_
      refine uQ_of (fun r => gX1_scenes) ?_
      simp only [uX_i H, Option.bind_some]
      rw [if_neg (by decide)]
      exact uQ_pf H
    · rw [if_neg c, if_pos rfl, if_neg c, jm_O_eq (uX_ob H)]
      obtain ⟨h1, e1, F1, X1⟩ := uX_to hb H (i + 1)
      have et : jm_D (d + 3) mX1_take [.ref (x + 216), .int 3] h = if uK T i = 3 then some (.inl (some (.int 1)), h1) else some (.inl (some (.int 0)), h) := by
        by_cases c3 : uK T i = 3
        · rw [if_pos c3]
          apply gX1_take
          simp only [uX_T H, uX_i H, Option.bind_some, jm_O_eq (kR_ob H.2.1), u_kind hi H, jc_I_eq, jw_add1, e1]
          rw [if_pos (by rw [c3]; rfl)]
        · rw [if_neg c3]
          apply gX1_take
          simp only [uX_T H, uX_i H, Option.bind_some, jm_O_eq (kR_ob H.2.1), u_kind hi H, jc_I_eq]
          rw [if_neg (show ¬ Int32.ofNat (uK T i) = 3 from jne (b := 3) (hK i) (by omega) c3)]
      rw [et]
      by_cases c3 : uK T i = 3
      · have l1 := hT.2 i (by omega) (by omega)
        rw [if_pos c3, if_pos c3, jc_I_eq, if_neg (by decide), jm_O_eq (uX_ob X1)]
        refine uQ_fr F1 (uQ_ts (k := 35) hT hb (by omega) hK (by omega) X1 fun h2 c2 l2 X2 => ?_)
        rw [if_neg (by decide)]
        exact uQ_pf X2
      · rw [if_neg c3, if_neg c3, jc_I_eq, if_pos rfl, jm_O_eq (uX_ob H)]
        exact uQ_Y (u_take (k := 35) hb (by omega) hK hi H)
  | q + 1, hq => by
    intro d hd h i MK cs H hc hi
    have ihq := u_part hT hb hK q (by omega)
    obtain ⟨d, rfl⟩ : ∃ e, d = e + 4 := ⟨d - 4, by omega⟩
    refine uQ_of (fun r => gX1_part) ?_
    have s1 : jm_D (d + 3) mX1_sees [.ref (x + 216), .int 22] h = some (.inl (some (.int (if uK T i = 22 then 1 else 0))), h) := u_sees (d := d + 1) (k := 22) (by omega) hK hi H
    have e8 : (8 : Int32) = Int32.ofNat 8 := rfl
    rw [jm_O_eq (uX_ob H), s1, jc_I_eq]
    unfold uPart
    by_cases c : uK T i = 22
    · have l0 := hT.2 i (by omega) (by omega)
      rw [if_pos c, if_neg (by decide), if_pos c, jm_O_eq (uX_ob H)]
      refine uQ_Y ?_
      refine uQ_of (fun r => gX1_scenes) ?_
      simp only [uX_i H, Option.bind_some]
      rw [if_pos (by rw [e8, jw_lt (by omega) (by omega)]; omega), jm_O_eq (uX_ob H), ← ub_ts (T := T) (k := 22) (i := i) (f := fun j => uSc T i (uPart T q) 400 0 j) c]
      refine uQ_ts (k := 22) hT hb (by omega) hK hi H fun h1 c1 l1 X1 => ?_
      exact u_scenes_loop (q := q + 1) (P := uPart T q) hT hb hK ⟨by omega, hq⟩ (uS_up (D' := d + 2) ihq (by omega)) (gp_part hT q) (by omega) (by omega) 400 0 (i + 1) MK cs h1 (by omega) X1 (by omega) l1
    · rw [if_neg c, if_pos rfl, if_neg c, jm_O_eq (uX_ob H)]
      obtain ⟨h1, e1, F1, X1⟩ := uX_to hb H (i + 1)
      have et : jm_D (d + 3) mX1_take [.ref (x + 216), .int 3] h = if uK T i = 3 then some (.inl (some (.int 1)), h1) else some (.inl (some (.int 0)), h) := by
        by_cases c3 : uK T i = 3
        · rw [if_pos c3]
          apply gX1_take
          simp only [uX_T H, uX_i H, Option.bind_some, jm_O_eq (kR_ob H.2.1), u_kind hi H, jc_I_eq, jw_add1, e1]
          rw [if_pos (by rw [c3]; rfl)]
        · rw [if_neg c3]
          apply gX1_take
          simp only [uX_T H, uX_i H, Option.bind_some, jm_O_eq (kR_ob H.2.1), u_kind hi H, jc_I_eq]
          rw [if_neg (show ¬ Int32.ofNat (uK T i) = 3 from jne (b := 3) (hK i) (by omega) c3)]
      rw [et]
      by_cases c3 : uK T i = 3
      · have l1 := hT.2 i (by omega) (by omega)
        rw [if_pos c3, if_pos c3, jc_I_eq, if_neg (by decide), jm_O_eq (uX_ob X1)]
        refine uQ_fr F1 (uQ_ts (k := 35) hT hb (by omega) hK (by omega) X1 fun h2 c2 l2 X2 => ?_)
        rw [if_pos (by rw [e8, jw_lt (by omega) (by omega)]; omega), jm_O_eq (uX_ob X2), jw_add1, show 8 - (q + 1) + 1 = 8 - q by omega]
        refine uQ_ts (k := 20) hT hb (by omega) hK l2 X2 fun h3 c3 l3 X3 => ?_
        rw [jm_O_eq (uX_ob X3)]
        refine uQ_ms ihq (gp_part hT q _ l3) (by omega) l3 (by omega) X3 fun h4 MK4 cs4 _ m1 m2 l4 X4 => ?_
        rw [jm_O_eq (uX_ob X4)]
        exact uQ_tl (k := 21) hb (by omega) hK l4 X4
      · rw [if_neg c3, if_neg c3, jc_I_eq, if_pos rfl, jm_O_eq (uX_ob H)]
        exact uQ_Y (u_take (k := 35) hb (by omega) hK hi H)
theorem u_when (hT : gT T) (hb : bb = x + 1 ∨ bb = x + 112) (hK : ∀ j, uK T j < 2147483648) (hd : 57 ≤ d) (H : uX h x bb ln T i MK cs) (hc : cs.length ≤ i) (hi : i ≤ 400) (hl : i < T.length) : uQ (jm_D (d + 1) mX1_when [.ref (x + 216)] h) h x bb ln T MK cs (uWh T cs.length i) := by
  obtain ⟨d, rfl⟩ : ∃ e, d = e + 2 := ⟨d - 2, by omega⟩
  refine uQ_of (fun r => gX1_when) ?_
  have e0 : jr_I h bb 0 3 0 = some (Int32.ofNat cs.length) := by
    obtain ⟨AN, PN, u, v, CK, CV, a1, -⟩ := H.2.2
    exact oC_I a1 rfl
  simp only [uX_T H, uX_i H, uX_B H, e0, Option.bind_some, jm_O_eq (kR_ob H.2.1)]
  refine uQ_mk hb hl H fun h1 X1 => ?_
  rw [jm_O_eq (uX_ob X1)]
  refine uQ_ts (k := 8) hT hb (by omega) hK hi X1 fun h2 c2 l2 X2 => ?_
  rw [jm_O_eq (uX_ob X2)]
  have s := (u_lev (ln := ln) hT hb hK 8 (Nat.le_refl _)).2.2.2
  refine uQ_ms (q := 8) s ((gp_lev hT 8).2.2.2 _ l2) (by omega) l2 (by omega) X2 fun h4 MK4 cs4 _ m1 m2 l4 X4 => ?_
  rw [jm_O_eq (uX_ob X4)]
  exact uQ_put1 (k := 37) (w := 0) (o := uf 0) hb (by omega) X4 rfl
end GL
/-! ===== LEVEL 3: Grammar, the whole ===== -/
section GW
variable {h h' : jm_H} {d D x bb ln i q : Nat} {T : List aK4} {MK : Nat → Int32} {cs : List (Nat × Nat)}
theorem uQ_wh {f : Nat → uR} {kk : jm_H → Option jm_R} (hT : gT T) (hb : bb = x + 1 ∨ bb = x + 112) (hK : ∀ j, uK T j < 2147483648) (hd : 57 ≤ d) (hi : i ≤ 400) (hl : i < T.length) (hc : cs.length ≤ i) (H : uX h x bb ln T i MK cs) (g : ∀ h1 MK1 cs1, cs1.length ≤ (uWh T cs.length i).2.1 → (uWh T cs.length i).2.1 ≤ 400 → uX h1 x bb ln T (uWh T cs.length i).2.1 MK1 cs1 → uQ (kk h1) h1 x bb ln T MK1 cs1 (f (uWh T cs.length i).2.1)) : uQ (jc_I (jm_D (d + 1) mX1_when [.ref (x + 216)] h) (fun y h1 => if y = 0 then some (.inl (some (.int 0)), h1) else kk h1) jx) h x bb ln T MK cs (ub (uWh T cs.length i) f) := by
  refine uQ_seq (u_when hT hb hK hd H hc hi hl) fun h1 MK1 cs1 c e1 e2 F1 X1 => ?_
  have gP := gp_wh (n := cs.length) hT hi
  have := gP.2.2 c
  have e3 : cs1.length = cs.length + (cF (uWh T cs.length i).2.2.1).length := by rw [e1, List.length_append]
  exact g h1 MK1 cs1 (by omega) gP.2.1 X1
theorem u_line (hT : gT T) (hb : bb = x + 1 ∨ bb = x + 112) (hK : ∀ j, uK T j < 2147483648) (hd : 58 ≤ d) (H : uX h x bb ln T i MK cs) (hc : cs.length ≤ i) (hi : i ≤ 400) : uQ (jm_D (d + 1) mX1_line [.ref (x + 216)] h) h x bb ln T MK cs (uLine T cs.length i) := by
  obtain ⟨d, rfl⟩ : ∃ e, d = e + 2 := ⟨d - 2, by omega⟩
  refine uQ_of (fun r => gX1_line) ?_
  obtain ⟨h1, e1, F1, X1⟩ := uX_to hb H (i + 1)
  simp only [uX_T H, uX_i H, Option.bind_some, jm_O_eq (kR_ob H.2.1), u_kind hi H, jc_I_eq, jw_add1, e1]
  have n0 : ∀ k, k ≤ 40 → ¬ uK T i = k → ¬ (Int32.ofNat (uK T i) = Int32.ofNat k) := fun k hk z => jne (hK i) (by omega) z
  have ln1 : ∀ {k j : Nat}, k ≤ 36 → uK T j = k → j + 1 < T.length := fun z w => (hT.2 _ (by omega) (by omega)).2
  unfold uLine
  by_cases c0 : uK T i = 0
  · have l0 := hT.2 i (by omega) (by omega)
    rw [if_pos (show Int32.ofNat (uK T i) = 0 by rw [c0]; rfl), if_pos c0, jm_O_eq (uX_ob X1)]
    refine uQ_fr F1 (uQ_ts (k := 35) hT hb (by omega) hK (by omega) X1 fun h2 c2 l2 X2 => ?_)
    rw [jm_O_eq (uX_ob X2)]
    exact uQ_tl (k := 24) hb (by omega) hK l2 X2
  rw [if_neg (show ¬ Int32.ofNat (uK T i) = 0 from n0 0 (by omega) c0), if_neg c0]
  by_cases c1 : uK T i = 1
  · have l0 := hT.2 i (by omega) (by omega)
    rw [if_pos (show Int32.ofNat (uK T i) = 1 by rw [c1]; rfl), if_pos c1, jm_O_eq (uX_ob X1)]
    refine uQ_fr F1 (uQ_ts (k := 35) hT hb (by omega) hK (by omega) X1 fun h2 c2 l2 X2 => ?_)
    rw [jm_O_eq (uX_ob X2)]
    refine uQ_ts (k := 2) hT hb (by omega) hK l2 X2 fun h3 c3 l3 X3 => ?_
    rw [jm_O_eq (uX_ob X3)]
    refine uQ_ms (q := 8) (P := uPart T 8) (u_part hT hb hK 8 (Nat.le_refl _)) (gp_part hT 8 _ l3) (by omega) l3 (by omega) X3 fun h4 MK4 cs4 _ m1 m2 l4 X4 => ?_
    rw [jm_O_eq (uX_ob X4)]
    exact uQ_tl (k := 24) hb (by omega) hK l4 X4
  rw [if_neg (show ¬ Int32.ofNat (uK T i) = 1 from n0 1 (by omega) c1), if_neg c1]
  by_cases c4 : uK T i = 4
  · have l0 := hT.2 i (by omega) (by omega)
    rw [if_pos (show Int32.ofNat (uK T i) = 4 by rw [c4]; rfl), if_pos c4, jm_O_eq (uX_ob X1)]
    refine uQ_fr F1 (uQ_ts (k := 35) hT hb (by omega) hK (by omega) X1 fun h2 c2 l2 X2 => ?_)
    have s1 : jm_D (d + 2) mX1_sees [.ref (x + 216), .int 24] h2 = some (.inl (some (.int (if uK T (i + 1 + 1) = 24 then 1 else 0))), h2) := u_sees (d := d) (k := 24) (by omega) hK l2 X2
    rw [jm_O_eq (uX_ob X2), s1, jc_I_eq]
    by_cases c : uK T (i + 1 + 1) = 24
    · rw [if_pos c, if_neg (by decide), if_pos c, jm_O_eq (uX_ob X2)]
      exact uQ_tl (k := 24) hb (by omega) hK l2 X2
    · rw [if_neg c, if_pos rfl, if_neg c, jm_O_eq (uX_ob X2)]
      refine uQ_wh hT hb hK (by omega) l2 (ln1 (k := 35) (by omega) c2) (by omega) X2 fun h3 MK3 cs3 m1 m2 X3 => ?_
      rw [jm_O_eq (uX_ob X3)]
      exact uQ_tl (k := 24) hb (by omega) hK m2 X3
  rw [if_neg (show ¬ Int32.ofNat (uK T i) = 4 from n0 4 (by omega) c4), if_neg c4]
  by_cases c5 : uK T i = 5
  · have l0 := hT.2 i (by omega) (by omega)
    rw [if_pos (show Int32.ofNat (uK T i) = 5 by rw [c5]; rfl), if_pos c5, jm_O_eq (uX_ob X1)]
    refine uQ_fr F1 (uQ_ts (k := 35) hT hb (by omega) hK (by omega) X1 fun h2 c2 l2 X2 => ?_)
    rw [jm_O_eq (uX_ob X2)]
    refine uQ_ts (k := 6) hT hb (by omega) hK l2 X2 fun h3 c3 l3 X3 => ?_
    rw [jm_O_eq (uX_ob X3)]
    refine uQ_ts (k := 35) hT hb (by omega) hK l3 X3 fun h4 c4 l4 X4 => ?_
    rw [jm_O_eq (uX_ob X4)]
    refine uQ_wh hT hb hK (by omega) l4 (ln1 (k := 35) (by omega) c4) (by omega) X4 fun h5 MK5 cs5 m1 m2 X5 => ?_
    rw [jm_O_eq (uX_ob X5)]
    exact uQ_tl (k := 24) hb (by omega) hK m2 X5
  rw [if_neg (show ¬ Int32.ofNat (uK T i) = 5 from n0 5 (by omega) c5), if_neg c5]
  by_cases c7 : uK T i = 7
  · have l0 := hT.2 i (by omega) (by omega)
    rw [if_pos (show Int32.ofNat (uK T i) = 7 by rw [c7]; rfl), if_pos c7, jm_O_eq (uX_ob X1)]
    refine uQ_fr F1 (uQ_ts (k := 35) hT hb (by omega) hK (by omega) X1 fun h2 c2 l2 X2 => ?_)
    rw [jm_O_eq (uX_ob X2)]
    refine uQ_wh hT hb hK (by omega) l2 (ln1 (k := 35) (by omega) c2) (by omega) X2 fun h3 MK3 cs3 m1 m2 X3 => ?_
    rw [jm_O_eq (uX_ob X3)]
    exact uQ_tl (k := 24) hb (by omega) hK m2 X3
  rw [if_neg (show ¬ Int32.ofNat (uK T i) = 7 from n0 7 (by omega) c7), if_neg c7]
  obtain ⟨h2, e2, F2, X2⟩ := uX_to hb X1 i
  simp only [uX_i X1, Option.bind_some, jw_sub1, e2]
  exact uQ_fr F1 (uQ_fr F2 (uQ_pf X2))
/-- the answer: what is wrong, or -1 -/
def uA (R : uR) : Int32 := if R.1 = true then -1 else Int32.ofNat R.2.1
def uZ (o : Option jm_R) (h : jm_H) (x bb ln : Nat) (T : List aK4) (MK : Nat → Int32) (cs : List (Nat × Nat)) (R : uR) : Prop :=
  jE o fun v h' => v = .inl (some (.int (uA R))) ∧ ∃ MK' cs', uX h' x bb ln T R.2.1 MK' cs' ∧ jS (uU x bb) h h' ∧ (R.1 = true → cs' = cs ++ cF R.2.2.1 ∧ MK' = um MK R.2.2.2)
theorem u_book_loop (hT : gT T) (hb : bb = x + 1 ∨ bb = x + 112) (hK : ∀ j, uK T j < 2147483648) (hd : 58 ≤ d) : ∀ (f n i : Nat) (MK : Nat → Int32) (cs : List (Nat × Nat)) (h : jm_H) (o1 : Option Value), n + f = 400 → uX h x bb ln T i MK cs → cs.length ≤ i → i ≤ 400 → uZ (kX1_firstWrongToken_12 (d + 1) (x + 216) o1 (Int32.ofNat n) h) h x bb ln T MK cs (uBk T f cs.length i) := by
  intro f
  induction f with
  | zero =>
    intro n i MK cs h o1 hn H hc hi
    refine jE_of (fun r => gX1_firstWrongToken_12) ?_
    rw [if_neg (by rw [show (400 : Int32) = Int32.ofNat 400 from rfl, jw_lt (by omega) (by omega)]; omega)]
    exact jE_end ⟨rfl, MK, cs, H, jS_rf, fun _ => ⟨(List.append_nil _).symm, rfl⟩⟩
  | succ f ih =>
    intro n i MK cs h o1 hn H hc hi
    refine jE_of (fun r => gX1_firstWrongToken_12) ?_
    obtain ⟨d, rfl⟩ : ∃ e, d = e + 1 := ⟨d - 1, by omega⟩
    have s1 : jm_D (d + 2) mX1_sees [.ref (x + 216), .int 37] h = some (.inl (some (.int (if uK T i = 37 then 1 else 0))), h) := u_sees (d := d) (k := 37) (by omega) hK hi H
    rw [if_pos (by rw [show (400 : Int32) = Int32.ofNat 400 from rfl, jw_lt (by omega) (by omega)]; omega), jm_O_eq (uX_ob H), s1, jc_I_eq]
    unfold uBk
    by_cases c : uK T i = 37
    · rw [if_pos c, if_neg (by decide), if_pos c]
      exact jE_end ⟨rfl, MK, cs, H, jS_rf, fun _ => ⟨(List.append_nil _).symm, rfl⟩⟩
    · rw [if_neg c, if_pos rfl, if_neg c, jm_O_eq (uX_ob H)]
      obtain ⟨v, h1, e1, rfl, MK1, cs1, X1, F1, Q1⟩ := u_line (d := d + 1) hT hb hK hd H hc hi
      have gP := gp_line (n := cs.length) hT hi
      rw [e1, jc_I_eq]
      generalize uLine T cs.length i = R at X1 Q1 gP ⊢
      by_cases q : R.1 = true
      · obtain ⟨q1, q2⟩ := Q1 q
        have e3 : cs1.length = cs.length + (cF R.2.2.1).length := by rw [q1, List.length_append]
        have := gP.2.2 q
        rw [if_pos q, if_neg (by decide), jw_add1]
        obtain ⟨v, h2, e2, rfl, MK2, cs2, X2, F2, Q2⟩ := ih (n + 1) R.2.1 MK1 cs1 h1 (jm_dm o1) (by omega) X1 (by omega) gP.2.1
        rw [e3] at e2 X2 Q2
        rw [e2, ub_T q]
        refine jE_end ⟨rfl, MK2, cs2, X2, jS_tr F1 F2, fun z => ?_⟩
        obtain ⟨q3, q4⟩ := Q2 z
        refine ⟨?_, ?_⟩
        · rw [q3, q1]
          show _ = cs ++ cF (_ ++ _)
          rw [cF_app, List.append_assoc]
        · rw [q4, q2]
          show _ = um MK (_ ++ _)
          rw [um_app]
      · rw [if_neg q, if_pos rfl, ub_F q]
        simp only [uX_i X1, Option.bind_some]
        refine jE_end ⟨?_, MK1, cs1, X1, F1, fun z => absurd z q⟩
        unfold uA
        rw [if_neg q]
theorem u_book {bb0 at0 : _} (hT : gT T) (hb : bb = x + 1 ∨ bb = x + 112) (hK : ∀ j, uK T j < 2147483648) (hd : 59 ≤ d) (H1 : oC h (x + 216) 1 [.ref (x + 105), .ref bb0, .int at0]) (H2 : kR h x ln T MK) (H3 : bC h bb [] [] 0 []) : uZ (jm_D (d + 1) mX1_firstWrongToken [.ref (x + 216), .ref bb] h) h x bb ln T MK [] (uBk T 400 0 0) := by
  obtain ⟨d, rfl⟩ : ∃ e, d = e + 1 := ⟨d - 1, by omega⟩
  refine jE_of (fun r => gX1_firstWrongToken) ?_
  obtain ⟨h1, e1, F1, X1⟩ := oC_w (k := 1) (t := 2) (v := .ref bb) H1 (by simp) rfl
  obtain ⟨h2, e2, F2, X2⟩ := oC_w (k := 2) (t := 0) (v := .int 0) X1 (by simp) rfl
  have F : jS (jn (x + 216) 1) h h2 := jS_tr F1 F2
  simp only [e1, e2, Option.bind_some]
  have X : uX h2 x bb ln T 0 MK [] := ⟨X2, kR_tr H2 F (fun y y1 y2 => by unfold jn at y1 y2; omega), bC_tr H3 F (fun y y1 y2 => by unfold jn at y1 y2; omega)⟩
  obtain ⟨v, h3, e3, rfl, MK3, cs3, X3, F3, Q3⟩ := u_book_loop (d := d) hT hb hK (by omega) 400 0 0 MK [] h2 (some (.ref bb)) rfl X (Nat.le_refl _) (by omega)
  have e3' : kX1_firstWrongToken_12 (d + 1) (x + 216) (some (.ref bb)) 0 h2 = _ := e3
  rw [e3']
  exact jE_end ⟨rfl, MK3, cs3, X3, jS_tr (jS_mn F fun a ha => Or.inl (by unfold jn at ha; omega)) F3, Q3⟩
end GW
