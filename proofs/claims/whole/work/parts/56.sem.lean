/-! ===== LEVEL 3: tests, notes, evenings ===== -/
noncomputable def jI {α : Type} (P : Prop) (a b : α) : α := @ite α P (Classical.propDecidable P) a b
theorem jI_T {α : Type} {P : Prop} {a b : α} (h : P) : jI P a b = a := if_pos h
theorem jI_F {α : Type} {P : Prop} {a b : α} (h : ¬ P) : jI P a b = b := if_neg h
/-- an order of a test: what, and with which plays or number -/
abbrev aI : Type := Nat × Nat × Nat
/-- the plays: rows and steps -/
abbrev aS : Type := (Nat → List Int) × (Nat → Int32)
def ry_cm (l : List Int) : Nat := jcnt (fun j => decide (l.getD j 0 < 0)) l.length
def ry_cs (l : List Int) : Nat := jcnt (fun j => decide (l.getD j 0 = 0)) l.length
noncomputable def aq (S : aS) (op p : Nat) : Int32 := if op = 10 then Int32.ofNat (S.1 p).length else if op = 11 then Int32.ofNat (ry_cm (S.1 p)) else if op = 12 then S.2 p else jp (ry_r (S.1 p) = none)
def ab (op : Nat) (x y : Int32) : Int32 :=
  if op = 16 then x &&& y else if op = 17 then x ||| y else if op = 18 then (if y < x then y else x) else if op = 19 then (if x < y then y else x)
  else if op = 26 then x + y else if op = 27 then x - y else if op = 28 then x * y else if op = 29 then (if y = 0 then 0 else x / y)
  else if op = 30 then (if x < y then 1 else 0) else if op = 31 then (if y < x then 1 else 0) else if op = 32 then (if x = y then 1 else 0) else if op = 33 then (if y < x then 0 else 1) else (if x < y then 0 else 1)
/-- what an order does with the stack, its top first -/
noncomputable def av (S : aS) (ev : Int32) (i : aI) (st : List Int32) : List Int32 :=
  if i.1 = 36 then Int32.ofNat i.2.1 :: st
  else if i.1 = 9 then ev :: st
  else if 10 ≤ i.1 ∧ i.1 ≤ 13 then aq S i.1 i.2.1 :: st
  else if i.1 = 14 then jp (ry_like (S.1 i.2.1) (S.1 i.2.2)) :: st
  else if i.1 = 15 then (match st with | x :: r => (if x = 0 then 1 else 0) :: r | [] => [])
  else if i.1 = 39 then (match st with | x :: r => (-x) :: r | [] => [])
  else (match st with | y :: x :: r => ab i.1 x y :: r | _ => [])
noncomputable def avs (S : aS) (ev : Int32) : List aI → List Int32 → List Int32
  | [], st => st
  | i :: l, st => avs S ev l (av S ev i st)
/-- kinds of what lies on the stack: whether it is 0 or 1 -/
def ak (i : aI) (st : List Bool) : Option (List Bool) :=
  if i.1 = 36 then some (false :: st)
  else if i.1 = 9 then some (false :: st)
  else if 10 ≤ i.1 ∧ i.1 ≤ 12 then some (false :: st)
  else if i.1 = 13 ∨ i.1 = 14 then some (true :: st)
  else if i.1 = 15 then (match st with | true :: r => some (true :: r) | _ => none)
  else if i.1 = 39 then (match st with | false :: r => some (false :: r) | _ => none)
  else if i.1 = 16 ∨ i.1 = 17 then (match st with | true :: true :: r => some (true :: r) | _ => none)
  else if i.1 = 18 ∨ i.1 = 19 ∨ (26 ≤ i.1 ∧ i.1 ≤ 29) then (match st with | false :: false :: r => some (false :: r) | _ => none)
  else if 30 ≤ i.1 ∧ i.1 ≤ 34 then (match st with | false :: false :: r => some (true :: r) | _ => none)
  else none
def aks : List aI → List Bool → Option (List Bool)
  | [], st => some st
  | i :: l, st => (ak i st).bind fun q => aks l q
/-- a whole test -/
def aT (t : List aI) : Prop := aks t [] = some [true]
/-- a stack of such kinds -/
def aK : List Bool → List Int32 → Prop
  | [], [] => True
  | b :: k, x :: s => (b = true → x = 0 ∨ x = 1) ∧ aK k s
  | _, _ => False
theorem jp_01 {P : Prop} : jp P = 0 ∨ jp P = 1 := by
  by_cases h : P
  · exact Or.inr (jp_T h)
  · exact Or.inl (jp_F h)
theorem if_01 {P : Prop} [Decidable P] : (if P then (1 : Int32) else 0) = 0 ∨ (if P then (1 : Int32) else 0) = 1 := by
  split
  · exact Or.inr rfl
  · exact Or.inl rfl
theorem if_10 {P : Prop} [Decidable P] : (if P then (0 : Int32) else 1) = 0 ∨ (if P then (0 : Int32) else 1) = 1 := by
  split
  · exact Or.inl rfl
  · exact Or.inr rfl
theorem aK_len : ∀ {k : List Bool} {s : List Int32}, aK k s → k.length = s.length
  | [], [], _ => rfl
  | _ :: _, _ :: _, h => congrArg (· + 1) (aK_len h.2)
  | [], _ :: _, h => h.elim
  | _ :: _, [], h => h.elim
theorem aK_av {S : aS} {ev : Int32} {i : aI} {k k' : List Bool} {s : List Int32} (hk : ak i k = some k') (hs : aK k s) : aK k' (av S ev i s) := by
  unfold ak at hk
  unfold av
  by_cases c1 : i.1 = 36
  · rw [if_pos c1] at hk ⊢; cases hk; exact ⟨fun z => (by cases z), hs⟩
  rw [if_neg c1] at hk ⊢
  by_cases c2 : i.1 = 9
  · rw [if_pos c2] at hk ⊢; cases hk; exact ⟨fun z => (by cases z), hs⟩
  rw [if_neg c2] at hk ⊢
  by_cases c3 : 10 ≤ i.1 ∧ i.1 ≤ 12
  · rw [if_pos c3] at hk; rw [if_pos ⟨c3.1, by omega⟩]; cases hk; exact ⟨fun z => (by cases z), hs⟩
  rw [if_neg c3] at hk
  by_cases c4 : i.1 = 13 ∨ i.1 = 14
  · rw [if_pos c4] at hk
    cases hk
    by_cases c5 : i.1 = 13
    · rw [if_pos ⟨by omega, by omega⟩]
      refine ⟨fun _ => ?_, hs⟩
      unfold aq
      rw [if_neg (by omega), if_neg (by omega), if_neg (by omega)]
      exact jp_01
    · rw [if_neg (by omega), if_pos (by omega)]
      exact ⟨fun _ => jp_01, hs⟩
  rw [if_neg c4] at hk
  rw [if_neg (by omega), if_neg (by omega)]
  by_cases c6 : i.1 = 15
  · rw [if_pos c6] at hk ⊢
    match k, s, hs, hk with
    | true :: k, x :: s, hs, hk => cases hk; exact ⟨fun _ => if_01, hs.2⟩
  rw [if_neg c6] at hk ⊢
  by_cases c7 : i.1 = 39
  · rw [if_pos c7] at hk ⊢
    match k, s, hs, hk with
    | false :: k, x :: s, hs, hk => cases hk; exact ⟨fun z => (by cases z), hs.2⟩
  rw [if_neg c7] at hk ⊢
  by_cases c8 : i.1 = 16 ∨ i.1 = 17
  · rw [if_pos c8] at hk
    match k, s, hs, hk with
    | true :: true :: k, y :: x :: s, hs, hk =>
      cases hk
      refine ⟨fun _ => ?_, hs.2.2⟩
      have hy := hs.1 rfl
      have hx := hs.2.1 rfl
      show ab i.1 x y = 0 ∨ ab i.1 x y = 1
      unfold ab
      by_cases c9 : i.1 = 16
      · rw [if_pos c9]
        rcases hx with rfl | rfl <;> rcases hy with rfl | rfl <;> decide
      · rw [if_neg c9, if_pos (by omega)]
        rcases hx with rfl | rfl <;> rcases hy with rfl | rfl <;> decide
  rw [if_neg c8] at hk
  by_cases c10 : i.1 = 18 ∨ i.1 = 19 ∨ (26 ≤ i.1 ∧ i.1 ≤ 29)
  · rw [if_pos c10] at hk
    match k, s, hs, hk with
    | false :: false :: k, y :: x :: s, hs, hk => cases hk; exact ⟨fun z => (by cases z), hs.2.2⟩
  rw [if_neg c10] at hk
  by_cases c11 : 30 ≤ i.1 ∧ i.1 ≤ 34
  · rw [if_pos c11] at hk
    match k, s, hs, hk with
    | false :: false :: k, y :: x :: s, hs, hk =>
      cases hk
      refine ⟨fun _ => ?_, hs.2.2⟩
      show ab i.1 x y = 0 ∨ ab i.1 x y = 1
      unfold ab
      rw [if_neg (by omega), if_neg (by omega), if_neg (by omega), if_neg (by omega), if_neg (by omega), if_neg (by omega), if_neg (by omega), if_neg (by omega)]
      repeat' split
      all_goals first | exact Or.inl rfl | exact Or.inr rfl
  rw [if_neg c11] at hk
  cases hk
theorem aks_app : ∀ {t u : List aI} {k : List Bool}, aks (t ++ u) k = (aks t k).bind fun q => aks u q
  | [], u, k => rfl
  | i :: t, u, k => by
    show (ak i k).bind (fun q => aks (t ++ u) q) = ((ak i k).bind fun q => aks t q).bind fun q => aks u q
    cases ak i k with
    | none => rfl
    | some q => exact aks_app
theorem ak_up {i : aI} {k k' r : List Bool} (h : ak i k = some k') : ak i (k ++ r) = some (k' ++ r) := by
  unfold ak at h ⊢
  split at h
  · rename_i c; rw [if_pos c]; cases h; rfl
  rename_i c1; rw [if_neg c1]
  split at h
  · rename_i c; rw [if_pos c]; cases h; rfl
  rename_i c2; rw [if_neg c2]
  split at h
  · rename_i c; rw [if_pos c]; cases h; rfl
  rename_i c3; rw [if_neg c3]
  split at h
  · rename_i c; rw [if_pos c]; cases h; rfl
  rename_i c4; rw [if_neg c4]
  split at h
  · rename_i c; rw [if_pos c]
    match k, h with
    | true :: k, h => cases h; rfl
  rename_i c5; rw [if_neg c5]
  split at h
  · rename_i c; rw [if_pos c]
    match k, h with
    | false :: k, h => cases h; rfl
  rename_i c6; rw [if_neg c6]
  split at h
  · rename_i c; rw [if_pos c]
    match k, h with
    | true :: true :: k, h => cases h; rfl
  rename_i c7; rw [if_neg c7]
  split at h
  · rename_i c; rw [if_pos c]
    match k, h with
    | false :: false :: k, h => cases h; rfl
  rename_i c8; rw [if_neg c8]
  split at h
  · rename_i c; rw [if_pos c]
    match k, h with
    | false :: false :: k, h => cases h; rfl
  · cases h
theorem aks_up : ∀ {t : List aI} {k k' r : List Bool}, aks t k = some k' → aks t (k ++ r) = some (k' ++ r)
  | [], k, k', r, h => by cases h; rfl
  | i :: t, k, k', r, h => by
    have h1 : (ak i k).bind (fun q => aks t q) = some k' := h
    cases e : ak i k with
    | none => rw [e] at h1; cases h1
    | some q =>
      rw [e] at h1
      show (ak i (k ++ r)).bind (fun q => aks t q) = _
      rw [ak_up e]
      exact aks_up (t := t) h1
theorem aK_avs {S : aS} {ev : Int32} : ∀ {t : List aI} {k k' : List Bool} {s : List Int32}, aks t k = some k' → aK k s → aK k' (avs S ev t s)
  | [], k, k', s, h, hs => by cases h; exact hs
  | i :: t, k, k', s, h, hs => by
    have h1 : (ak i k).bind (fun q => aks t q) = some k' := h
    cases e : ak i k with
    | none => rw [e] at h1; cases h1
    | some q =>
      rw [e] at h1
      exact aK_avs (t := t) h1 (aK_av e hs)
/-- what a whole test comes to -/
theorem aT_end {S : aS} {ev : Int32} {t : List aI} (h : aT t) : ∃ x, avs S ev t [] = [x] ∧ (x = 0 ∨ x = 1) := by
  have := aK_avs (S := S) (ev := ev) (k := []) (s := []) h trivial
  match e : avs S ev t [], this with
  | [x], this => exact ⟨x, rfl, this.1 rfl⟩
def aH (S : aS) (ev : Int32) (t : Option (List aI)) : Prop := match t with
  | none => True
  | some t => avs S ev t [] = [1]
/-- a note: its kind, the play that changes, the one that is given, its test -/
abbrev aN : Type := Nat × Nat × Nat × Option (List aI)
def aup {α : Type} (f : Nat → α) (k : Nat) (x : α) : Nat → α := fun j => if j = k then x else f j
/-- what was told: names of actors and plays, rows, notes -/
abbrev aB : Type := List Nat × List Nat × (Nat → List Int) × List aN
/-- the rows behind a note that is carried out, and whether it is -/
noncomputable def aco (B : aB) (n : aN) (S : aS) : Bool × aS :=
  if n.1 = 4 then (match ry_r (S.1 n.2.1) with
    | none => (false, S)
    | some k => if ry_sz (S.1 n.2.1) k ≤ 150 then (!decide (ry_st (S.1 n.2.1) k = S.1 n.2.1), aup S.1 n.2.1 (ry_st (S.1 n.2.1) k), aup S.2 n.2.1 (S.2 n.2.1 + 1)) else (false, S))
  else if n.1 = 5 then (if 1 + (S.1 n.2.1).length + (S.1 n.2.2.1).length ≤ 150 then (true, aup S.1 n.2.1 (0 :: S.1 n.2.1 ++ S.1 n.2.2.1), S.2) else (false, S))
  else (!decide (S.1 n.2.1 = B.2.2.1 n.2.1), aup S.1 n.2.1 (B.2.2.1 n.2.1), S.2)
noncomputable def ans (B : aB) (ev : Int32) : List aN → aS → Int32 → aS × Int32
  | [], S, c => (S, c)
  | n :: l, S, c => jI (aH S ev n.2.2.2) (ans B ev l (aco B n S).2 (if (aco B n S).1 = true then c + 1 else c)) (ans B ev l S c)
/-- a stage: the plays, evenings, notes carried out -/
abbrev aG : Type := aS × Int32 × Int32
noncomputable def aev (B : aB) (G : aG) : aG × Int32 := (((ans B G.2.1 B.2.2.2 G.1 0).1, G.2.1 + 1, G.2.2 + (ans B G.2.1 B.2.2.2 G.1 0).2), (ans B G.2.1 B.2.2.2 G.1 0).2)
/-- the plays are good rows -/
def gS (B : aB) (S : aS) : Prop := ∀ p, p < B.2.1.length → gR (S.1 p)
/-- a playbook that can be -/
def gB (B : aB) : Prop := B.1.length ≤ 8 ∧ B.2.1.length ≤ 12 ∧ B.2.2.2.length ≤ 16 ∧ (∀ x ∈ B.1, vW x ∧ 0 < x) ∧ (∀ x ∈ B.2.1, vW x ∧ 0 < x) ∧ (∀ p, p < B.2.1.length → gR (B.2.2.1 p)) ∧
  ∀ n ∈ B.2.2.2, (n.1 = 4 ∨ n.1 = 5 ∨ n.1 = 7) ∧ n.2.1 < B.2.1.length ∧ (n.1 = 5 → n.2.2.1 < B.2.1.length) ∧ ∀ t, n.2.2.2 = some t → aT t ∧ ∀ i ∈ t, (10 ≤ i.1 ∧ i.1 ≤ 14 → i.2.1 < B.2.1.length) ∧ (i.1 = 14 → i.2.2 < B.2.1.length)
theorem gR_give {a b : List Int} (ha : gR a) (hb : gR b) (h : 1 + a.length + b.length ≤ 150) : gR (0 :: a ++ b) := by
  refine ⟨ry_P_scene ha.1 hb.1, gW_mem.mpr fun x hx => ?_, by simp; omega⟩
  rcases List.mem_append.mp hx with h | h
  · rcases List.mem_cons.mp h with h | h
    · subst h; exact vW_0
    · exact gW_mem.mp ha.2.1 x h
  · exact gW_mem.mp hb.2.1 x h
theorem gS_up {B : aB} {R : Nat → List Int} {T T' : Nat → Int32} {p : Nat} {l : List Int} (h : gS B (R, T)) (hl : gR l) : gS B (aup R p l, T') := by
  intro q hq
  show gR (if q = p then l else R q)
  split
  · exact hl
  · exact h q hq
theorem gS_aco {B : aB} {n : aN} {S : aS} (hB : gB B) (hn : n ∈ B.2.2.2) (h : gS B S) : gS B (aco B n S).2 := by
  obtain ⟨-, -, -, -, -, hT, hN⟩ := hB
  obtain ⟨h1, h2, h3, -⟩ := hN n hn
  obtain ⟨R, T⟩ := S
  unfold aco
  split
  · cases q : ry_r (R n.2.1) with
    | none => simp only [q]; exact h
    | some k =>
      simp only [q]
      split
      · rename_i hz; exact gS_up h (gR_st (h _ h2) q hz)
      · exact h
  · split
    · split
      · rename_i c hz; exact gS_up h (gR_give (h _ h2) (h _ (h3 c)) hz)
      · exact h
    · exact gS_up h (hT _ h2)
/-! ===== LEVEL 3: Book ===== -/
/-- the first place of a number in a list; -1 -/
def fdx (l : List Nat) (x : Nat) : Nat → Nat → Int
  | 0, _ => -1
  | f + 1, i => if l.getD i 0 = x then (i : Int) else fdx l x f (i + 1)
def fd (l : List Nat) (x : Nat) : Int := fdx l x l.length 0
theorem fdx_b {l : List Nat} {x : Nat} : ∀ {f i : Nat}, -1 ≤ fdx l x f i ∧ fdx l x f i < (i + f : Nat)
  | 0, i => ⟨Int.le_refl _, by show (-1 : Int) < _; omega⟩
  | f + 1, i => by
    have := fdx_b (l := l) (x := x) (f := f) (i := i + 1)
    unfold fdx
    split <;> omega
theorem fd_b {l : List Nat} {x : Nat} : -1 ≤ fd l x ∧ fd l x < l.length := by
  have := fdx_b (l := l) (x := x) (f := l.length) (i := 0)
  unfold fd
  omega
def bF (b ac pc nc cl : Nat) : List Value := [.int (Int32.ofNat ac), .int (Int32.ofNat pc), .int (Int32.ofNat nc), .int (Int32.ofNat cl), .ref (b + 1), .ref (b + 2), .ref (b + 3), .ref (b + 4), .ref (b + 5), .ref (b + 6), .ref (b + 7), .ref (b + 12)]
/-- names that are told -/
def bN (l : List Nat) : Prop := ∀ i, i < l.length → vW (l.getD i 0) ∧ 0 < l.getD i 0
/-- the own cells of a Book -/
def bC (h : jm_H) (b : Nat) (as ps : List Nat) (nc : Nat) (cs : List (Nat × Nat)) : Prop :=
  ∃ AN PN u v CK CV, oC h b 0 (bF b as.length ps.length nc cs.length) ∧ lC h (b + 1) 8 AN ∧ lC h (b + 2) 12 PN ∧ rC h (b + 3) 5 12 u ∧ rC h (b + 4) 6 16 v ∧ aC h (b + 5) 0 400 CK ∧ aC h (b + 6) 0 400 CV ∧ (∀ i, i < 12 → u i = some (b + 13 + 5 * i)) ∧ (∀ i, i < 16 → v i = some (b + 73 + i)) ∧ (∀ i, i < as.length → AN i = nm (as.getD i 0 : Nat)) ∧ (∀ i, i < ps.length → PN i = nm (ps.getD i 0 : Nat)) ∧ (∀ i, i < cs.length → CK i = Int32.ofNat (cs.getD i (0, 0)).1 ∧ CV i = Int32.ofNat (cs.getD i (0, 0)).2) ∧ as.length ≤ 8 ∧ ps.length ≤ 12 ∧ nc ≤ 16 ∧ cs.length ≤ 400
def bS (b x : Nat) : Prop := jn b 7 x
section BK
variable {h h' : jm_H} {b d : Nat} {as ps : List Nat} {nc : Nat} {cs : List (Nat × Nat)} {S : Nat → Prop}
theorem bC_tr (H : bC h b as ps nc cs) (F : jS S h h') (D : ∀ x, S x → jn b 7 x → False) : bC h' b as ps nc cs := by
  obtain ⟨AN, PN, u, v, CK, CV, a1, a2, a3, a4, a5, a6, a7, a8⟩ := H
  have k : ∀ j, j < 7 → ¬ S (b + j) := fun j hj z => D _ z ⟨by omega, by omega⟩
  exact ⟨AN, PN, u, v, CK, CV, oC_tr a1 F (k 0 (by omega)), lC_tr a2 F (k 1 (by omega)), lC_tr a3 F (k 2 (by omega)), rC_tr a4 F (k 3 (by omega)), rC_tr a5 F (k 4 (by omega)), aC_tr a6 F (k 5 (by omega)), aC_tr a7 F (k 6 (by omega)), a8⟩
theorem bC_ob (H : bC h b as ps nc cs) : jm_ob h b 0 = true := by
  obtain ⟨AN, PN, u, v, CK, CV, a1, -⟩ := H
  exact oC_ob a1 rfl
theorem bC_0 (H : bC h b as ps nc cs) : jr_I h b 0 0 0 = some (Int32.ofNat as.length) := by
  obtain ⟨AN, PN, u, v, CK, CV, a1, -⟩ := H
  exact oC_I a1 rfl
theorem bC_1 (H : bC h b as ps nc cs) : jr_I h b 0 1 0 = some (Int32.ofNat ps.length) := by
  obtain ⟨AN, PN, u, v, CK, CV, a1, -⟩ := H
  exact oC_I a1 rfl
theorem bC_2 (H : bC h b as ps nc cs) : jr_I h b 0 2 0 = some (Int32.ofNat nc) := by
  obtain ⟨AN, PN, u, v, CK, CV, a1, -⟩ := H
  exact oC_I a1 rfl
theorem bC_3 (H : bC h b as ps nc cs) : jr_I h b 0 3 0 = some (Int32.ofNat cs.length) := by
  obtain ⟨AN, PN, u, v, CK, CV, a1, -⟩ := H
  exact oC_I a1 rfl
theorem bC_8 (H : bC h b as ps nc cs) : 128 ≤ b := by
  obtain ⟨AN, PN, u, v, CK, CV, a1, -⟩ := H
  exact a1.2
theorem bC_le (H : bC h b as ps nc cs) : as.length ≤ 8 ∧ ps.length ≤ 12 ∧ nc ≤ 16 ∧ cs.length ≤ 400 := by
  obtain ⟨AN, PN, u, v, CK, CV, -, -, -, -, -, -, -, -, -, -, -, -, a⟩ := H
  exact a
theorem b_toldAt {i : Nat} (H : bC h b as ps nc cs) (hi : i < 12) : jm_D (d + 1) mX0_toldAt [.ref b, .int (Int32.ofNat i)] h = some (.inl (some (.ref (b + 13 + 5 * i))), h) := by
  obtain ⟨AN, PN, u, v, CK, CV, a1, a2, a3, a4, a5, a6, a7, a8, a9, a10, a11, a12, a13, a14, a15, a16⟩ := H
  apply gX0_toldAt
  simp only [oC_R a1 (k := 6) rfl, rC_len a4, rC_at a4 hi (by omega) (a8 i hi) (by have := a1.2; omega), Option.bind_some]
  rw [if_neg (by rw [jw_neg (by omega)]; exact id), if_pos (by rw [jw_lt (by omega) (by omega)]; omega)]
theorem b_noteAt {i : Nat} (H : bC h b as ps nc cs) (hi : i < 16) : jm_D (d + 1) mX0_noteAt [.ref b, .int (Int32.ofNat i)] h = some (.inl (some (.ref (b + 73 + i))), h) := by
  obtain ⟨AN, PN, u, v, CK, CV, a1, a2, a3, a4, a5, a6, a7, a8, a9, a10, a11, a12, a13, a14, a15, a16⟩ := H
  apply gX0_noteAt
  simp only [oC_R a1 (k := 7) rfl, rC_len a5, rC_at a5 hi (by omega) (a9 i hi) (by have := a1.2; omega), Option.bind_some]
  rw [if_neg (by rw [jw_neg (by omega)]; exact id), if_pos (by rw [jw_lt (by omega) (by omega)]; omega)]
theorem b_actorNameAt {i : Nat} (H : bC h b as ps nc cs) (hi : i < as.length) : jm_D (d + 1) mX0_actorNameAt [.ref b, .int (Int32.ofNat i)] h = some (.inl (some (.long (nm (as.getD i 0 : Nat)))), h) := by
  obtain ⟨AN, PN, u, v, CK, CV, a1, a2, a3, a4, a5, a6, a7, a8, a9, a10, a11, a12, a13, a14, a15, a16⟩ := H
  apply gX0_actorNameAt
  simp only [oC_R a1 (k := 4) rfl, lC_len a2, lC_at a2 (show i < 8 by omega) (by omega), a10 i hi, Option.bind_some]
  rw [if_neg (by rw [jw_neg (by omega)]; exact id), if_pos (by rw [jw_lt (by omega) (by omega)]; omega)]
theorem nm_eqN {x y : Nat} (hx : x < q10) (hy : y < q10) : nm (x : Int) = nm (y : Int) ↔ x = y := by
  rw [nm_eq (by simpa using hx) (by simpa using hy)]; simp
theorem b_actorOf_loop {x : Nat} (hN : bN as) (hx : x < q10) (H : bC h b as ps nc cs) : ∀ (f i : Nat), i + f = as.length → kX0_actorOf_2 d b (nm x) (Int32.ofNat i) h = some (.inl (some (.int (Int32.ofInt (fdx as x f i)))), h) := by
  have hl := bC_le H
  have h0 := bC_0 H
  obtain ⟨AN, PN, u, v, CK, CV, a1, a2, a3, a4, a5, a6, a7, a8, a9, a10, a11, a12, a13, a14, a15, a16⟩ := H
  intro f
  induction f with
  | zero =>
    intro i hi
    apply gX0_actorOf_2
    simp only [h0, Option.bind_some]
    rw [if_neg (by rw [jw_lt (by omega) (by omega)]; omega)]
    rfl
  | succ f ih =>
    intro i hi
    apply gX0_actorOf_2
    simp only [h0, oC_R a1 (k := 4) rfl, lC_len a2, lC_at a2 (show i < 8 by omega) (by omega), a10 i (by omega), Option.bind_some, lg_0, nm_eqN (hN i (by omega)).1.1 hx, jw_add1]
    rw [if_pos (by rw [jw_lt (by omega) (by omega)]; omega), if_pos (by rw [jw_lt (by omega) (by omega)]; omega)]
    unfold fdx
    by_cases q : as.getD i 0 = x
    · rw [if_pos q, if_pos q, jw_in]
    · rw [if_neg q, if_neg q]
      exact ih (i + 1) (by omega)
theorem b_actorOf {x : Nat} (hN : bN as) (hx : x < q10) (H : bC h b as ps nc cs) : jm_D (d + 1) mX0_actorOf [.ref b, .long (nm x)] h = some (.inl (some (.int (Int32.ofInt (fd as x)))), h) :=
  gX0_actorOf (b_actorOf_loop hN hx H as.length 0 (by omega))
theorem b_playOf_loop {x : Nat} (hN : bN ps) (hx : x < q10) (H : bC h b as ps nc cs) : ∀ (f i : Nat), i + f = ps.length → kX0_playOf_2 d b (nm x) (Int32.ofNat i) h = some (.inl (some (.int (Int32.ofInt (fdx ps x f i)))), h) := by
  have hl := bC_le H
  have h0 := bC_1 H
  obtain ⟨AN, PN, u, v, CK, CV, a1, a2, a3, a4, a5, a6, a7, a8, a9, a10, a11, a12, a13, a14, a15, a16⟩ := H
  intro f
  induction f with
  | zero =>
    intro i hi
    apply gX0_playOf_2
    simp only [h0, Option.bind_some]
    rw [if_neg (by rw [jw_lt (by omega) (by omega)]; omega)]
    rfl
  | succ f ih =>
    intro i hi
    apply gX0_playOf_2
    simp only [h0, oC_R a1 (k := 5) rfl, lC_len a3, lC_at a3 (show i < 12 by omega) (by omega), a11 i (by omega), Option.bind_some, lg_0, nm_eqN (hN i (by omega)).1.1 hx, jw_add1]
    rw [if_pos (by rw [jw_lt (by omega) (by omega)]; omega), if_pos (by rw [jw_lt (by omega) (by omega)]; omega)]
    unfold fdx
    by_cases q : ps.getD i 0 = x
    · rw [if_pos q, if_pos q, jw_in]
    · rw [if_neg q, if_neg q]
      exact ih (i + 1) (by omega)
theorem b_playOf {x : Nat} (hN : bN ps) (hx : x < q10) (H : bC h b as ps nc cs) : jm_D (d + 1) mX0_playOf [.ref b, .long (nm x)] h = some (.inl (some (.int (Int32.ofInt (fd ps x)))), h) :=
  gX0_playOf (b_playOf_loop hN hx H ps.length 0 (by omega))
theorem b_knows {x : Nat} (hN : bN as) (hM : bN ps) (hx : x < q10) (H : bC h b as ps nc cs) : jm_D (d + 2) mX0_knows [.ref b, .long (nm x)] h = some (.inl (some (.int (jp (0 ≤ fd as x ∨ 0 ≤ fd ps x)))), h) := by
  have hl := bC_le H
  have h1 := fd_b (l := as) (x := x)
  have h2 := fd_b (l := ps) (x := x)
  apply gX0_knows
  simp only [jm_O_eq (bC_ob H), b_actorOf hN hx H, b_playOf hM hx H, jc_I_eq, jw_zneg (show -2147483648 ≤ fd as x by omega) (show fd as x < 2147483648 by omega), jw_zneg (show -2147483648 ≤ fd ps x by omega) (show fd ps x < 2147483648 by omega)]
  by_cases q : fd as x < 0
  · rw [if_pos q]
    by_cases q2 : fd ps x < 0
    · rw [if_pos q2, jp_F (by omega)]
    · rw [if_neg q2, jp_T (by omega)]
  · rw [if_neg q, jp_T (by omega)]
theorem b_codeKind {i : Nat} (H : bC h b as ps nc cs) (hi : i < cs.length) : jm_D (d + 1) mX0_codeKindAt [.ref b, .int (Int32.ofNat i)] h = some (.inl (some (.int (Int32.ofNat (cs.getD i (0, 0)).1))), h) := by
  have h3 := bC_3 H
  obtain ⟨AN, PN, u, v, CK, CV, a1, a2, a3, a4, a5, a6, a7, a8, a9, a10, a11, a12, a13, a14, a15, a16⟩ := H
  apply gX0_codeKindAt
  simp only [h3, oC_R a1 (k := 8) rfl, aC_len a6, aC_at a6 (show i < 400 by omega) (by omega), (a12 i hi).1, Option.bind_some]
  rw [if_neg (by rw [jw_neg (by omega)]; exact id), if_pos (by rw [jw_lt (by omega) (by omega)]; omega), if_pos (by rw [jw_lt (by omega) (by omega)]; omega)]
theorem b_codeValue {i : Nat} (H : bC h b as ps nc cs) (hi : i < cs.length) : jm_D (d + 1) mX0_codeValueAt [.ref b, .int (Int32.ofNat i)] h = some (.inl (some (.int (Int32.ofNat (cs.getD i (0, 0)).2))), h) := by
  have h3 := bC_3 H
  obtain ⟨AN, PN, u, v, CK, CV, a1, a2, a3, a4, a5, a6, a7, a8, a9, a10, a11, a12, a13, a14, a15, a16⟩ := H
  apply gX0_codeValueAt
  simp only [h3, oC_R a1 (k := 9) rfl, aC_len a7, aC_at a7 (show i < 400 by omega) (by omega), (a12 i hi).2, Option.bind_some]
  rw [if_neg (by rw [jw_neg (by omega)]; exact id), if_pos (by rw [jw_lt (by omega) (by omega)]; omega), if_pos (by rw [jw_lt (by omega) (by omega)]; omega)]
/-! writes -/
theorem b_clear (H : bC h b as ps nc cs) : jF (jm_D (d + 1) mX0_clear [.ref b] h) (.inl none) fun h' => jS (jn b 1) h h' ∧ bC h' b [] [] 0 [] := by
  obtain ⟨AN, PN, u, v, CK, CV, a1, a2, a3, a4, a5, a6, a7, a8, a9, a10, a11, a12, a13, a14, a15, a16⟩ := H
  refine jE_of (fun r => gX0_clear) ?_
  obtain ⟨h1, e1, F1, H1⟩ := oC_w (k := 0) (t := 0) (v := .int (Int32.ofNat 0)) a1 (by simp [bF]) rfl
  obtain ⟨h2, e2, F2, H2⟩ := oC_w (k := 1) (t := 0) (v := .int (Int32.ofNat 0)) H1 (by simp [bF]) rfl
  obtain ⟨h3, e3, F3, H3⟩ := oC_w (k := 2) (t := 0) (v := .int (Int32.ofNat 0)) H2 (by simp [bF]) rfl
  obtain ⟨h4, e4, F4, H4⟩ := oC_w (k := 3) (t := 0) (v := .int (Int32.ofNat 0)) H3 (by simp [bF]) rfl
  rw [show (0 : Int32) = Int32.ofNat 0 from rfl]
  simp only [e1, e2, e3, e4, Option.bind_some]
  have F := jS_tr F1 (jS_tr F2 (jS_tr F3 F4))
  have D : ∀ j, 0 < j → ¬ jn b 1 (b + j) := fun j hj => by unfold jn; omega
  refine jF_end ⟨F, AN, PN, u, v, CK, CV, H4, lC_tr a2 F (D 1 (by omega)), lC_tr a3 F (D 2 (by omega)), rC_tr a4 F (D 3 (by omega)), rC_tr a5 F (D 4 (by omega)), aC_tr a6 F (D 5 (by omega)), aC_tr a7 F (D 6 (by omega)), a8, a9, fun i hi => absurd hi (Nat.not_lt_zero _), fun i hi => absurd hi (Nat.not_lt_zero _), fun i hi => absurd hi (Nat.not_lt_zero _), ?_⟩
  simp
theorem b_addActor {x : Nat} (hl : as.length < 8) (H : bC h b as ps nc cs) : jF (jm_D (d + 1) mX0_addActor [.ref b, .long (nm x)] h) (.inl none) fun h' => jS (jn b 7) h h' ∧ bC h' b (as ++ [x]) ps nc cs := by
  obtain ⟨AN, PN, u, v, CK, CV, a1, a2, a3, a4, a5, a6, a7, a8, a9, a10, a11, a12, a13, a14, a15, a16⟩ := H
  refine jE_of (fun r => gX0_addActor) ?_
  have e0 : jr_I h b 0 0 0 = some (Int32.ofNat as.length) := oC_I a1 rfl
  obtain ⟨h1, e1, F1, H1⟩ := lC_w (x := nm x) a2 hl (by omega)
  have b1 := oC_tr a1 F1 (by unfold jn; omega)
  have e3 : jr_I h1 b 0 0 0 = some (Int32.ofNat as.length) := oC_I b1 rfl
  obtain ⟨h2, e2, F2, H2⟩ := oC_w (k := 0) (t := 0) (v := .int (Int32.ofNat (as.length + 1))) b1 (by simp [bF]) rfl
  simp only [e0, oC_R a1 (k := 4) rfl, lC_len a2, e1, e3, jw_add1, e2, Option.bind_some]
  rw [if_neg (by rw [jw_neg (by omega)]; exact id), if_pos (by rw [jw_lt (by omega) (by omega)]; omega)]
  have F := jS_tr (jS_1 (b := b) (n := 7) F1 (by omega)) (jS_1 (b := b) (n := 7) F2 (by omega))
  have t : ∀ j, 1 < j → j < 7 → ∀ S : Nat → Prop, True → ¬ jn (b + 1) 1 (b + j) ∧ ¬ jn b 1 (b + j) := fun j _ _ _ _ => by unfold jn; omega
  refine jF_end ⟨F, vp_updL AN as.length (nm x), PN, u, v, CK, CV, by rw [List.length_append]; exact H2, lC_tr H1 F2 (by unfold jn; omega), lC_tr (lC_tr a3 F1 (by unfold jn; omega)) F2 (by unfold jn; omega), rC_tr (rC_tr a4 F1 (by unfold jn; omega)) F2 (by unfold jn; omega), rC_tr (rC_tr a5 F1 (by unfold jn; omega)) F2 (by unfold jn; omega), aC_tr (aC_tr a6 F1 (by unfold jn; omega)) F2 (by unfold jn; omega), aC_tr (aC_tr a7 F1 (by unfold jn; omega)) F2 (by unfold jn; omega), a8, a9, fun i hi => ?_, a11, a12, by simp; omega, a14, a15, a16⟩
  rw [List.length_append] at hi
  by_cases e : i = as.length
  · subst e
    rw [ls_last]
    exact if_pos rfl
  · have : i < as.length := by simp at hi; omega
    rw [ls_at this]
    exact (if_neg e).trans (a10 i this)
theorem b_addPlay {x : Nat} (hl : ps.length < 12) (H : bC h b as ps nc cs) : jF (jm_D (d + 1) mX0_addPlay [.ref b, .long (nm x)] h) (.inl none) fun h' => jS (jn b 7) h h' ∧ bC h' b as (ps ++ [x]) nc cs := by
  obtain ⟨AN, PN, u, v, CK, CV, a1, a2, a3, a4, a5, a6, a7, a8, a9, a10, a11, a12, a13, a14, a15, a16⟩ := H
  refine jE_of (fun r => gX0_addPlay) ?_
  have e0 : jr_I h b 0 1 0 = some (Int32.ofNat ps.length) := oC_I a1 rfl
  obtain ⟨h1, e1, F1, H1⟩ := lC_w (x := nm x) a3 hl (by omega)
  have b1 := oC_tr a1 F1 (by unfold jn; omega)
  have e3 : jr_I h1 b 0 1 0 = some (Int32.ofNat ps.length) := oC_I b1 rfl
  obtain ⟨h2, e2, F2, H2⟩ := oC_w (k := 1) (t := 0) (v := .int (Int32.ofNat (ps.length + 1))) b1 (by simp [bF]) rfl
  simp only [e0, oC_R a1 (k := 5) rfl, lC_len a3, e1, e3, jw_add1, e2, Option.bind_some]
  rw [if_neg (by rw [jw_neg (by omega)]; exact id), if_pos (by rw [jw_lt (by omega) (by omega)]; omega)]
  have F := jS_tr (jS_1 (b := b) (n := 7) F1 (by omega)) (jS_1 (b := b) (n := 7) F2 (by omega))
  refine jF_end ⟨F, AN, vp_updL PN ps.length (nm x), u, v, CK, CV, by rw [List.length_append]; exact H2, lC_tr (lC_tr a2 F1 (by unfold jn; omega)) F2 (by unfold jn; omega), lC_tr H1 F2 (by unfold jn; omega), rC_tr (rC_tr a4 F1 (by unfold jn; omega)) F2 (by unfold jn; omega), rC_tr (rC_tr a5 F1 (by unfold jn; omega)) F2 (by unfold jn; omega), aC_tr (aC_tr a6 F1 (by unfold jn; omega)) F2 (by unfold jn; omega), aC_tr (aC_tr a7 F1 (by unfold jn; omega)) F2 (by unfold jn; omega), a8, a9, a10, fun i hi => ?_, a12, a13, by simp; omega, a15, a16⟩
  rw [List.length_append] at hi
  by_cases e : i = ps.length
  · subst e
    rw [ls_last]
    exact if_pos rfl
  · have : i < ps.length := by simp at hi; omega
    rw [ls_at this]
    exact (if_neg e).trans (a11 i this)
theorem ls_lastP {l : List (Nat × Nat)} {x : Nat × Nat} : (l ++ [x]).getD l.length (0, 0) = x := by simp
theorem ls_atP {l : List (Nat × Nat)} {x : Nat × Nat} {i : Nat} (hi : i < l.length) : (l ++ [x]).getD i (0, 0) = l.getD i (0, 0) := by
  simp [List.getElem?_append_left hi]
theorem b_addCode {k w : Nat} (hl : cs.length < 400) (H : bC h b as ps nc cs) : jF (jm_D (d + 1) mX0_addCode [.ref b, .int (Int32.ofNat k), .int (Int32.ofNat w)] h) (.inl none) fun h' => jS (jn b 7) h h' ∧ bC h' b as ps nc (cs ++ [(k, w)]) := by
  obtain ⟨AN, PN, u, v, CK, CV, a1, a2, a3, a4, a5, a6, a7, a8, a9, a10, a11, a12, a13, a14, a15, a16⟩ := H
  refine jE_of (fun r => gX0_addCode) ?_
  have e0 : jr_I h b 0 3 0 = some (Int32.ofNat cs.length) := oC_I a1 rfl
  obtain ⟨h1, e1, F1, H1⟩ := aC_w (x := Int32.ofNat k) a6 hl (by omega)
  have b1 := oC_tr a1 F1 (by unfold jn; omega)
  have c7 := aC_tr a7 F1 (by unfold jn; omega)
  have e3 : jr_I h1 b 0 3 0 = some (Int32.ofNat cs.length) := oC_I b1 rfl
  obtain ⟨h2, e2, F2, H2⟩ := aC_w (x := Int32.ofNat w) c7 hl (by omega)
  have b2 := oC_tr b1 F2 (by unfold jn; omega)
  have e5 : jr_I h2 b 0 3 0 = some (Int32.ofNat cs.length) := oC_I b2 rfl
  obtain ⟨h3, e4, F3, H3⟩ := oC_w (k := 3) (t := 0) (v := .int (Int32.ofNat (cs.length + 1))) b2 (by simp [bF]) rfl
  rw [nar0] at H1 H2
  simp only [e0, oC_R a1 (k := 8) rfl, aC_len a6, e1, e3, oC_R b1 (k := 9) rfl, e2, e5, jw_add1, e4, Option.bind_some]
  rw [if_neg (by rw [jw_neg (by omega)]; exact id), if_pos (by rw [jw_lt (by omega) (by omega)]; omega)]
  have F := jS_tr (jS_1 (b := b) (n := 7) F1 (by omega)) (jS_tr (jS_1 (b := b) (n := 7) F2 (by omega)) (jS_1 (b := b) (n := 7) F3 (by omega)))
  refine jF_end ⟨F, AN, PN, u, v, upd CK cs.length (Int32.ofNat k), upd CV cs.length (Int32.ofNat w), by rw [List.length_append]; exact H3, lC_tr (lC_tr (lC_tr a2 F1 (by unfold jn; omega)) F2 (by unfold jn; omega)) F3 (by unfold jn; omega), lC_tr (lC_tr (lC_tr a3 F1 (by unfold jn; omega)) F2 (by unfold jn; omega)) F3 (by unfold jn; omega), rC_tr (rC_tr (rC_tr a4 F1 (by unfold jn; omega)) F2 (by unfold jn; omega)) F3 (by unfold jn; omega), rC_tr (rC_tr (rC_tr a5 F1 (by unfold jn; omega)) F2 (by unfold jn; omega)) F3 (by unfold jn; omega), aC_tr (aC_tr H1 F2 (by unfold jn; omega)) F3 (by unfold jn; omega), aC_tr H2 F3 (by unfold jn; omega), a8, a9, a10, a11, fun i hi => ?_, a13, a14, a15, by simp; omega⟩
  rw [List.length_append] at hi
  by_cases e : i = cs.length
  · subst e
    rw [ls_lastP]
    exact ⟨if_pos rfl, if_pos rfl⟩
  · have : i < cs.length := by simp at hi; omega
    rw [ls_atP this]
    exact ⟨(if_neg e).trans (a12 i this).1, (if_neg e).trans (a12 i this).2⟩
theorem b_addNote {k p g c x1 x2 x3 x4 : Int32} (hl : nc < 16) (H : bC h b as ps nc cs) (Hn : oC h (b + 73 + nc) 2 [.int x1, .int x2, .int x3, .int x4]) : jF (jm_D (d + 2) mX0_addNote [.ref b, .int k, .int p, .int g, .int c] h) (.inl none) fun h' => jS (fun x => jn b 7 x ∨ jn (b + 73 + nc) 1 x) h h' ∧ bC h' b as ps (nc + 1) cs ∧ oC h' (b + 73 + nc) 2 [.int k, .int p, .int g, .int c] := by
  refine jE_of (fun r => gX0_addNote) ?_
  simp only [bC_2 H, Option.bind_some, jm_O_eq (bC_ob H), b_noteAt H hl, jc_R_eq]
  obtain ⟨h1, e1, F1, H1⟩ := oC_w (k := 0) (t := 0) (v := .int k) Hn (by simp) rfl
  obtain ⟨h2, e2, F2, H2⟩ := oC_w (k := 1) (t := 0) (v := .int p) H1 (by simp) rfl
  obtain ⟨h3, e3, F3, H3⟩ := oC_w (k := 2) (t := 0) (v := .int g) H2 (by simp) rfl
  obtain ⟨h4, e4, F4, H4⟩ := oC_w (k := 3) (t := 0) (v := .int c) H3 (by simp) rfl
  have F := jS_tr F1 (jS_tr F2 (jS_tr F3 F4))
  have B4 := bC_tr H F fun x z1 z2 => by unfold jn at z1 z2; omega
  simp only [e1, e2, e3, e4, Option.bind_some, bC_2 B4, jw_add1]
  obtain ⟨AN, PN, u, v, CK, CV, a1, a2, a3, a4, a5, a6, a7, a8, a9, a10, a11, a12, a13, a14, a15, a16⟩ := B4
  obtain ⟨h5, e5, F5, H5⟩ := oC_w (k := 2) (t := 0) (v := .int (Int32.ofNat (nc + 1))) a1 (by simp [bF]) rfl
  simp only [e5, Option.bind_some]
  refine jF_end ⟨jS_tr (jS_mn F fun x z => Or.inr z) (jS_mn F5 fun x z => Or.inl (by unfold jn at *; omega)), ⟨AN, PN, u, v, CK, CV, H5, lC_tr a2 F5 (by unfold jn; omega), lC_tr a3 F5 (by unfold jn; omega), rC_tr a4 F5 (by unfold jn; omega), rC_tr a5 F5 (by unfold jn; omega), aC_tr a6 F5 (by unfold jn; omega), aC_tr a7 F5 (by unfold jn; omega), a8, a9, a10, a11, a12, a13, a14, by omega, a16⟩, oC_tr H4 F5 (by unfold jn; omega)⟩
end BK
/-! ===== LEVEL 3: Tests ===== -/
/-- the stack of tests, its top first -/
def qC (h : jm_H) (t : Nat) (st : List Int32) : Prop := ∃ SK, oC h t 7 [.ref (t + 1), .int (Int32.ofNat st.length)] ∧ aC h (t + 1) 0 400 SK ∧ ∀ i, i < st.length → SK i = st.getD (st.length - 1 - i) 0
/-- a stage, to be looked at -/
def gF (g s : Nat) (ev dn : Int32) : List Value := [.int ev, .int dn, .ref (g + 1), .ref (g + 2), .ref (g + 3), .ref (g + 8), .ref s, .ref (g + 13)]
def gC (h : jm_H) (g s : Nat) (S : aS) (ev dn : Int32) (pc : Nat) : Prop := ∃ u T, oC h g 4 (gF g s ev dn) ∧ rC h (g + 1) 5 12 u ∧ (∀ i, i < 12 → u i = some (g + 15 + 5 * i)) ∧ aC h (g + 2) 0 12 T ∧ (∀ i, i < pc → T i = S.2 i) ∧ (∀ p, p < pc → pL h (g + 15 + 5 * p) (S.1 p)) ∧ pc ≤ 12
/-- the code of an order -/
def cI (i : aI) : List (Nat × Nat) := if 10 ≤ i.1 ∧ i.1 ≤ 13 then [(35, i.2.1), (i.1, 0)] else if i.1 = 14 then [(35, i.2.1), (35, i.2.2), (14, 0)] else if i.1 = 36 then [(36, i.2.1)] else [(i.1, 0)]
section TE
variable {h h' : jm_H} {t d g s b pc : Nat} {st : List Int32} {S : aS} {ev dn : Int32} {U : Nat → Prop} {as ps : List Nat} {nc : Nat} {cs : List (Nat × Nat)}
theorem qC_tr (H : qC h t st) (F : jS U h h') (D : ∀ x, U x → jn t 2 x → False) : qC h' t st := by
  obtain ⟨SK, a1, a2, a3⟩ := H
  exact ⟨SK, oC_tr a1 F fun z => D _ z (by unfold jn; omega), aC_tr a2 F fun z => D _ z (by unfold jn; omega), a3⟩
theorem qC_ob (H : qC h t st) : jm_ob h t 7 = true := by
  obtain ⟨SK, a1, a2, a3⟩ := H
  exact oC_ob a1 rfl
theorem gC_tr (H : gC h g s S ev dn pc) (F : jS U h h') (D : ∀ x, U x → (jn g 3 x ∨ jn (g + 15) 60 x) → False) : gC h' g s S ev dn pc := by
  obtain ⟨u, T, a1, a2, a3, a4, a5, a6, a7⟩ := H
  exact ⟨u, T, oC_tr a1 F fun z => D _ z (Or.inl (by unfold jn; omega)), rC_tr a2 F fun z => D _ z (Or.inl (by unfold jn; omega)), a3, aC_tr a4 F fun z => D _ z (Or.inl (by unfold jn; omega)), a5, fun p hp => pL_tr (a6 p hp) F fun x z1 z2 => D x z1 (Or.inr (by unfold jn at *; omega)), a7⟩
theorem gC_ob (H : gC h g s S ev dn pc) : jm_ob h g 4 = true := by
  obtain ⟨u, T, a1, -⟩ := H
  exact oC_ob a1 rfl
theorem gC_part {p : Nat} (H : gC h g s S ev dn pc) (hp : p < pc) : pL h (g + 15 + 5 * p) (S.1 p) := by
  obtain ⟨u, T, a1, a2, a3, a4, a5, a6, a7⟩ := H
  exact a6 p hp
theorem g_partAt {p : Nat} (H : gC h g s S ev dn pc) (hp : p < 12) : jm_D (d + 1) mX4_partAt [.ref g, .int (Int32.ofNat p)] h = some (.inl (some (.ref (g + 15 + 5 * p))), h) := by
  obtain ⟨u, T, a1, a2, a3, a4, a5, a6, a7⟩ := H
  apply gX4_partAt
  simp only [oC_R a1 (k := 2) rfl, rC_len a2, rC_at a2 hp (by omega) (a3 p hp) (by have := a1.2; omega), Option.bind_some]
  rw [if_neg (by rw [jw_neg (by omega)]; exact id), if_pos (by rw [jw_lt (by omega) (by omega)]; omega)]
theorem g_stepsAt {p : Nat} (H : gC h g s S ev dn pc) (hp : p < pc) : jm_D (d + 1) mX4_stepsAt [.ref g, .int (Int32.ofNat p)] h = some (.inl (some (.int (S.2 p))), h) := by
  obtain ⟨u, T, a1, a2, a3, a4, a5, a6, a7⟩ := H
  apply gX4_stepsAt
  simp only [oC_R a1 (k := 3) rfl, aC_len a4, aC_at a4 (show p < 12 by omega) (by omega), a5 p hp, Option.bind_some]
  rw [if_neg (by rw [jw_neg (by omega)]; exact id), if_pos (by rw [jw_lt (by omega) (by omega)]; omega)]
theorem q_push {x : Int32} (hl : st.length < 400) (H : qC h t st) : jF (jm_D (d + 1) mX7_push [.ref t, .int x] h) (.inl none) fun h' => jS (jn t 2) h h' ∧ qC h' t (x :: st) := by
  obtain ⟨SK, a1, a2, a3⟩ := H
  refine jE_of (fun r => gX7_push) ?_
  have e0 : jr_I h t 7 1 0 = some (Int32.ofNat st.length) := oC_I a1 rfl
  obtain ⟨h1, e1, F1, H1⟩ := aC_w (x := x) a2 hl (by omega)
  rw [nar0] at H1
  have b1 := oC_tr a1 F1 (by unfold jn; omega)
  have e2 : jr_I h1 t 7 1 0 = some (Int32.ofNat st.length) := oC_I b1 rfl
  obtain ⟨h2, e3, F2, H2⟩ := oC_w (k := 1) (t := 0) (v := .int (Int32.ofNat (st.length + 1))) b1 (by simp) rfl
  simp only [e0, oC_R a1 (k := 0) rfl, aC_len a2, e1, e2, jw_add1, e3, Option.bind_some]
  rw [if_neg (by rw [jw_neg (by omega)]; exact id), if_pos (by rw [jw_lt (by omega) (by omega)]; omega)]
  refine jF_end ⟨jS_tr (jS_1 F1 (by omega)) (jS_1 F2 (by omega)), upd SK st.length x, H2, aC_tr H1 F2 (by unfold jn; omega), fun i hi => ?_⟩
  rw [List.length_cons] at hi ⊢
  by_cases e : i = st.length
  · subst e
    rw [show st.length + 1 - 1 - st.length = 0 by omega]
    exact if_pos rfl
  · rw [show st.length + 1 - 1 - i = (st.length - 1 - i) + 1 by omega]
    exact (if_neg e).trans (a3 i (by omega))
theorem q_pop {x : Int32} (hl : st.length < 400) (H : qC h t (x :: st)) : jF (jm_D (d + 1) mX7_pop [.ref t] h) (.inl (some (.int x))) fun h' => jS (jn t 2) h h' ∧ qC h' t st := by
  obtain ⟨SK, a1, a2, a3⟩ := H
  refine jE_of (fun r => gX7_pop) ?_
  have e0 : jr_I h t 7 1 0 = some (Int32.ofNat (st.length + 1)) := oC_I a1 rfl
  obtain ⟨h1, e1, F1, H1⟩ := oC_w (k := 1) (t := 0) (v := .int (Int32.ofNat st.length)) a1 (by simp) rfl
  have b2 := aC_tr a2 F1 (by unfold jn; omega)
  have e2 : jr_I h1 t 7 1 0 = some (Int32.ofNat st.length) := oC_I H1 rfl
  have e3 : jr_R h1 t 7 0 2 = some (t + 1) := oC_R H1 rfl
  have ex : SK st.length = x := by
    have := a3 st.length (by simp)
    simpa using this
  simp only [e0, oC_R a1 (k := 0) rfl, aC_len a2, jw_sub1, e1, e2, e3, aC_at b2 hl (by omega), ex, Option.bind_some]
  rw [if_pos (by rw [jw_0lt (by omega)]; omega), if_neg (by rw [jw_lt (by omega) (by omega)]; omega)]
  refine jF_end ⟨jS_1 F1 (by omega), SK, H1, b2, fun i hi => ?_⟩
  have := a3 i (by simp; omega)
  rw [this, List.length_cons, show st.length + 1 - 1 - i = (st.length - 1 - i) + 1 by omega]
  rfl
theorem ky_mask {l : List Int} : jcnt (fun j => decide (ky (l.getD j 0) = 1)) l.length = ry_cm l := by
  unfold ry_cm
  congr 1
  funext j
  rw [Bool.eq_iff_iff, decide_eq_true_iff, decide_eq_true_iff, ky_1]
theorem ky_scene {l : List Int} : jcnt (fun j => decide (ky (l.getD j 0) = 2)) l.length = ry_cs l := by
  unfold ry_cs
  congr 1
  funext j
  rw [Bool.eq_iff_iff, decide_eq_true_iff, decide_eq_true_iff, ky_2]
theorem ro_neg {l : List Int} (hn : l.length ≤ 150) : (Int32.ofInt (ry_ro l) < 0) ↔ ry_r l = none := by
  unfold ry_ro
  cases q : ry_r l with
  | none => exact ⟨fun _ => rfl, fun _ => by decide⟩
  | some k =>
    have := (ry_r_at q).2.2
    simp only []
    rw [jw_in, jw_neg (by omega)]
    exact ⟨False.elim, fun z => by cases z⟩
theorem q_ofPlay {op p : Nat} (hS : ∀ p, p < pc → gR (S.1 p)) (hop : 10 ≤ op ∧ op ≤ 13) (hp : p < pc) (H : gC h g s S ev dn pc) : jm_D (d + 3) mX7_ofPlay [.int (Int32.ofNat op), .int (Int32.ofNat p), .ref g] h = some (.inl (some (.int (aq S op p))), h) := by
  have h12 : pc ≤ 12 := by obtain ⟨u, T, a1, a2, a3, a4, a5, a6, a7⟩ := H; exact a7
  have hL := gC_part H hp
  apply gX7_ofPlay
  simp only [jm_O_eq (gC_ob H), g_partAt H (show p < 12 by omega), g_stepsAt H hp, jc_R_eq, jc_I_eq, pU_n (pL_U hL), Option.bind_some, jm_O_eq (pU_ob (pL_U hL)), pU_countOf (pL_U hL), pU_readyScene (pL_U hL), ky_mask, show (10 : Int32) = Int32.ofNat 10 from rfl, show (11 : Int32) = Int32.ofNat 11 from rfl, show (12 : Int32) = Int32.ofNat 12 from rfl, jw_eq (show op < 2147483648 by omega) (show 10 < 2147483648 by omega), jw_eq (show op < 2147483648 by omega) (show 11 < 2147483648 by omega), jw_eq (show op < 2147483648 by omega) (show 12 < 2147483648 by omega)]
  unfold aq
  by_cases c1 : op = 10
  · rw [if_pos c1, if_pos c1]
  rw [if_neg c1, if_neg c1]
  by_cases c2 : op = 11
  · rw [if_pos c2, if_pos c2]
  rw [if_neg c2, if_neg c2]
  by_cases c3 : op = 12
  · rw [if_pos c3, if_pos c3]
  rw [if_neg c3, if_neg c3]
  by_cases c4 : ry_r (S.1 p) = none
  · rw [if_pos ((ro_neg (hS p hp).2.2).mpr c4), jp_T c4]
  · rw [if_neg (mt (ro_neg (hS p hp).2.2).mp c4), jp_F c4]
theorem q_ofNumbers {op : Nat} {x y : Int32} (hop : op < 30) (hop2 : op = 16 ∨ op = 17 ∨ op = 18 ∨ op = 19 ∨ (26 ≤ op ∧ op ≤ 29)) : jm_D (d + 1) mX7_ofNumbers [.int (Int32.ofNat op), .int x, .int y] h = some (.inl (some (.int (ab op x y))), h) := by
  apply gX7_ofNumbers
  simp only [show (16 : Int32) = Int32.ofNat 16 from rfl, show (18 : Int32) = Int32.ofNat 18 from rfl, show (19 : Int32) = Int32.ofNat 19 from rfl, show (26 : Int32) = Int32.ofNat 26 from rfl, show (27 : Int32) = Int32.ofNat 27 from rfl, show (28 : Int32) = Int32.ofNat 28 from rfl, show (29 : Int32) = Int32.ofNat 29 from rfl, jw_eq (show op < 2147483648 by omega) (show 16 < 2147483648 by omega), jw_eq (show op < 2147483648 by omega) (show 18 < 2147483648 by omega), jw_eq (show op < 2147483648 by omega) (show 19 < 2147483648 by omega), jw_eq (show op < 2147483648 by omega) (show 26 < 2147483648 by omega), jw_eq (show op < 2147483648 by omega) (show 27 < 2147483648 by omega), jw_eq (show op < 2147483648 by omega) (show 28 < 2147483648 by omega), jw_eq (show op < 2147483648 by omega) (show 29 < 2147483648 by omega)]
  unfold ab
  by_cases c1 : op = 16
  · rw [if_pos c1, if_pos c1]
  rw [if_neg c1, if_neg c1]
  by_cases c2 : op = 17
  · rw [if_pos c2, if_neg (by omega), if_neg (by omega), if_neg (by omega), if_neg (by omega), if_neg (by omega), if_neg (by omega)]
  rw [if_neg c2]
  by_cases c3 : op = 18
  · rw [if_pos c3, if_pos c3]
  rw [if_neg c3, if_neg c3]
  by_cases c4 : op = 19
  · rw [if_pos c4, if_pos c4]
  rw [if_neg c4, if_neg c4]
  by_cases c5 : op = 26
  · rw [if_pos c5, if_pos c5]
  rw [if_neg c5, if_neg c5]
  by_cases c6 : op = 27
  · rw [if_pos c6, if_pos c6]
  rw [if_neg c6, if_neg c6]
  by_cases c7 : op = 28
  · rw [if_pos c7, if_pos c7]
  have c9 : op = 29 := by omega
  rw [if_neg c7, if_neg c7, if_pos c9, if_pos c9]
  by_cases c8 : y = 0
  · rw [if_pos c8, if_pos c8]
  · rw [if_neg c8, if_neg c8, if_neg c8]
theorem q_99 {o0 o1 o2 : Option Value} {x : Int32} (hx : x = 0 ∨ x = 1) : kX7_ofOrder_99 d o0 o1 o2 x h = some (.inl (some (.int x)), h) := by
  apply gX7_ofOrder_99
  rcases hx with rfl | rfl
  · rw [if_pos rfl]
  · rw [if_neg (by decide)]
theorem q_ofOrder {op : Nat} {x y : Int32} (hop : 30 ≤ op ∧ op ≤ 34) : jm_D (d + 1) mX7_ofOrder [.int (Int32.ofNat op), .int x, .int y] h = some (.inl (some (.int (ab op x y))), h) := by
  apply gX7_ofOrder
  simp only [q_99 (Or.inl rfl), q_99 (Or.inr rfl), show (30 : Int32) = Int32.ofNat 30 from rfl, show (31 : Int32) = Int32.ofNat 31 from rfl, show (32 : Int32) = Int32.ofNat 32 from rfl, show (33 : Int32) = Int32.ofNat 33 from rfl, jw_eq (show op < 2147483648 by omega) (show 30 < 2147483648 by omega), jw_eq (show op < 2147483648 by omega) (show 31 < 2147483648 by omega), jw_eq (show op < 2147483648 by omega) (show 32 < 2147483648 by omega), jw_eq (show op < 2147483648 by omega) (show 33 < 2147483648 by omega), jp_if]
  unfold ab
  rw [if_neg (show ¬ op = 16 by omega), if_neg (show ¬ op = 17 by omega), if_neg (show ¬ op = 18 by omega), if_neg (show ¬ op = 19 by omega), if_neg (show ¬ op = 26 by omega), if_neg (show ¬ op = 27 by omega), if_neg (show ¬ op = 28 by omega), if_neg (show ¬ op = 29 by omega)]
/-- one code -/
def cv (S : aS) (ev : Int32) (pc k w : Nat) (st st' : List Int32) : Prop :=
  ((k = 35 ∨ k = 36) ∧ st' = Int32.ofNat w :: st) ∨ (k = 9 ∧ st' = ev :: st) ∨ (∃ p r, 10 ≤ k ∧ k ≤ 13 ∧ p < pc ∧ st = Int32.ofNat p :: r ∧ st' = aq S k p :: r) ∨ (∃ p q r, k = 14 ∧ p < pc ∧ q < pc ∧ st = Int32.ofNat q :: Int32.ofNat p :: r ∧ st' = jp (ry_like (S.1 p) (S.1 q)) :: r) ∨ (∃ x r, k = 15 ∧ st = x :: r ∧ st' = (if x = 0 then 1 else 0) :: r) ∨ (∃ x r, k = 39 ∧ st = x :: r ∧ st' = (-x) :: r) ∨ ∃ x y r, (16 ≤ k ∧ k ≤ 19 ∨ 26 ≤ k ∧ k ≤ 34) ∧ st = y :: x :: r ∧ st' = ab k x y :: r
theorem q_reckon {k w : Nat} {st' : List Int32} (hS : ∀ p, p < pc → gR (S.1 p)) (hl : st.length < 400) (hd : t = g + 13) (hv : cv S ev pc k w st st') (G : gC h g s S ev dn pc) (H : qC h t st) : jF (jm_D (d + 4) mX7_reckon [.ref t, .int (Int32.ofNat k), .int (Int32.ofNat w), .ref g] h) (.inl none) fun h' => jS (jn t 2) h h' ∧ qC h' t st' := by
  subst hd
  have dis : ∀ x, jn (g + 13) 2 x → (jn g 3 x ∨ jn (g + 15) 60 x) → False := fun x z1 z2 => by unfold jn at *; omega
  have hk40 : k < 40 := by
    rcases hv with ⟨q, -⟩ | ⟨q, -⟩ | ⟨_, _, _, q, -⟩ | ⟨_, _, _, q, -⟩ | ⟨_, _, q, -⟩ | ⟨_, _, q, -⟩ | ⟨_, _, _, q, -⟩ <;> omega
  refine jE_of (fun r => gX7_reckon) ?_
  have e : ∀ n : Nat, n < 2147483648 → ((Int32.ofNat k = Int32.ofNat n) ↔ k = n) := fun n hn => jw_eq (by omega) hn
  simp only [show (9 : Int32) = Int32.ofNat 9 from rfl, show (10 : Int32) = Int32.ofNat 10 from rfl, show (11 : Int32) = Int32.ofNat 11 from rfl, show (12 : Int32) = Int32.ofNat 12 from rfl, show (13 : Int32) = Int32.ofNat 13 from rfl, show (14 : Int32) = Int32.ofNat 14 from rfl, show (15 : Int32) = Int32.ofNat 15 from rfl, show (35 : Int32) = Int32.ofNat 35 from rfl, show (36 : Int32) = Int32.ofNat 36 from rfl, show (39 : Int32) = Int32.ofNat 39 from rfl, show (30 : Int32) = Int32.ofNat 30 from rfl, e 9 (by omega), e 10 (by omega), e 11 (by omega), e 12 (by omega), e 13 (by omega), e 14 (by omega), e 15 (by omega), e 35 (by omega), e 36 (by omega), e 39 (by omega), jw_lt (show k < 2147483648 by omega) (show 30 < 2147483648 by omega), jm_O_eq (qC_ob H)]
  have push : ∀ (h1 : jm_H) (x : Int32) (r : List Int32) (d : Nat), jS (jn (g + 13) 2) h h1 → qC h1 (g + 13) r → r.length < 400 → st' = x :: r → jF (jc_V (jm_D (d + 1) mX7_push [.ref (g + 13), .int x] h1) (fun h4 => some (.inl none, h4)) jx) (.inl none) fun h' => jS (jn (g + 13) 2) h h' ∧ qC h' (g + 13) st' := by
    intro h1 x r d F1 H1 hr e'
    subst e'
    refine jE_V (q_push hr H1) ?_
    rintro h2 ⟨F2, H2⟩
    exact jF_end ⟨jS_tr F1 F2, H2⟩
  rcases hv with ⟨q, q2⟩ | ⟨q, q2⟩ | ⟨p, r, q, q', hp, rfl, q2⟩ | ⟨p, p', r, q, hp, hp', rfl, q2⟩ | ⟨x, r, q, rfl, q2⟩ | ⟨x, r, q, rfl, q2⟩ | ⟨x, y, r, q, rfl, q2⟩
  · rw [if_neg (by omega), if_neg (by omega), if_neg (by omega), if_neg (by omega), if_neg (by omega), if_neg (by omega), if_neg (by omega)]
    by_cases c : k = 35
    · rw [if_pos c]
      exact push h _ st (d + 2) jS_rf H hl q2
    · rw [if_neg c, if_pos (by omega)]
      exact push h _ st (d + 2) jS_rf H hl q2
  · rw [if_pos q]
    obtain ⟨u, T, a1, -⟩ := id G
    simp only [oC_I a1 (k := 0) rfl, Option.bind_some]
    exact push h _ st (d + 2) jS_rf H hl q2
  · have one : jF (jc_I (jm_D (d + 3) mX7_pop [.ref (g + 13)] h) (fun x12 h10 => jc_I (jm_D (d + 3) mX7_ofPlay [.int (Int32.ofNat k), .int x12, .ref g] h10) (fun x15 h13 => jm_O h13 (g + 13) 7 (jc_V (jm_D (d + 3) mX7_push [.ref (g + 13), .int x15] h13) (fun h16 => some (.inl none, h16)) jx)) jx) jx) (.inl none) fun h' => jS (jn (g + 13) 2) h h' ∧ qC h' (g + 13) st' := by
      rw [List.length_cons] at hl
      refine jE_I (q_pop (d := d + 2) (by omega) H) ?_
      rintro h1 ⟨F1, H1⟩
      simp only [q_ofPlay hS ⟨q, q'⟩ hp (gC_tr G F1 dis), jc_I_eq, jm_O_eq (qC_ob H1)]
      exact push h1 _ r (d + 2) F1 H1 (by omega) q2
    rw [if_neg (by omega)]
    by_cases c1 : k = 10
    · rw [if_pos c1]; subst c1; exact one
    rw [if_neg c1]
    by_cases c2 : k = 11
    · rw [if_pos c2]; subst c2; exact one
    rw [if_neg c2]
    by_cases c3 : k = 12
    · rw [if_pos c3]; subst c3; exact one
    rw [if_neg c3, if_pos (by omega)]
    obtain rfl : k = 13 := by omega
    exact one
  · rw [List.length_cons, List.length_cons] at hl
    rw [if_neg (by omega), if_neg (by omega), if_neg (by omega), if_neg (by omega), if_neg (by omega), if_pos q]
    have h12 : pc ≤ 12 := by obtain ⟨u, T, a1, a2, a3, a4, a5, a6, a7⟩ := G; exact a7
    refine jE_I (q_pop (d := d + 2) (by simp; omega) H) ?_
    rintro h1 ⟨F1, H1⟩
    have G1 := gC_tr G F1 dis
    simp only [jm_O_eq (gC_ob G1), g_partAt G1 (show p' < 12 by omega), jc_R_eq, jm_O_eq (qC_ob H1)]
    refine jE_I (q_pop (d := d + 2) (by omega) H1) ?_
    rintro h2 ⟨F2, H2⟩
    have G2 := gC_tr G1 F2 dis
    have hRp := hS p hp
    have hRp' := hS p' hp'
    simp only [jm_O_eq (gC_ob G2), g_partAt G2 (show p < 12 by omega), jc_R_eq, jm_O_eq (pU_ob (pL_U (gC_part G2 hp'))), pL_isLike (gC_part G2 hp') (pL_U (gC_part G2 hp)) hRp'.1 (gW_gN hRp'.2.1) (gW_gN hRp.2.1), jc_I_eq, jm_O_eq (qC_ob H2)]
    have esy : ry_like (S.1 p') (S.1 p) ↔ ry_like (S.1 p) (S.1 p') := ⟨ry_like_sy, ry_like_sy⟩
    by_cases c : ry_like (S.1 p) (S.1 p')
    · rw [jp_T (esy.mpr c), if_neg (by decide)]
      rw [jp_T c] at q2
      exact push h2 _ r (d + 2) (jS_tr F1 F2) H2 (by omega) q2
    · rw [jp_F (mt esy.mp c), if_pos rfl]
      rw [jp_F c] at q2
      exact push h2 _ r (d + 2) (jS_tr F1 F2) H2 (by omega) q2
  · rw [List.length_cons] at hl
    rw [if_neg (by omega), if_neg (by omega), if_neg (by omega), if_neg (by omega), if_neg (by omega), if_neg (by omega), if_pos q]
    refine jE_I (q_pop (d := d + 2) (by omega) H) ?_
    rintro h1 ⟨F1, H1⟩
    simp only [jm_O_eq (qC_ob H1)]
    by_cases c : x = 0
    · rw [if_pos c]
      rw [if_pos c] at q2
      exact push h1 _ r (d + 2) F1 H1 (by omega) q2
    · rw [if_neg c]
      rw [if_neg c] at q2
      exact push h1 _ r (d + 2) F1 H1 (by omega) q2
  · rw [List.length_cons] at hl
    rw [if_neg (by omega), if_neg (by omega), if_neg (by omega), if_neg (by omega), if_neg (by omega), if_neg (by omega), if_neg (by omega), if_neg (by omega), if_neg (by omega), if_pos q]
    refine jE_I (q_pop (d := d + 2) (by omega) H) ?_
    rintro h1 ⟨F1, H1⟩
    simp only [jm_O_eq (qC_ob H1)]
    exact push h1 _ r (d + 2) F1 H1 (by omega) q2
  · rw [List.length_cons, List.length_cons] at hl
    rw [if_neg (by omega), if_neg (by omega), if_neg (by omega), if_neg (by omega), if_neg (by omega), if_neg (by omega), if_neg (by omega), if_neg (by omega), if_neg (by omega), if_neg (by omega)]
    refine jE_I (q_pop (d := d + 2) (by simp; omega) H) ?_
    rintro h1 ⟨F1, H1⟩
    simp only [jm_O_eq (qC_ob H1)]
    refine jE_I (q_pop (d := d + 2) (by omega) H1) ?_
    rintro h2 ⟨F2, H2⟩
    by_cases c : k < 30
    · rw [if_pos c, q_ofNumbers c (by omega), jc_I_eq, jm_O_eq (qC_ob H2)]
      exact push h2 _ r (d + 2) (jS_tr F1 F2) H2 (by omega) q2
    · rw [if_neg c, q_ofOrder (by omega), jc_I_eq, jm_O_eq (qC_ob H2)]
      exact push h2 _ r (d + 2) (jS_tr F1 F2) H2 (by omega) q2
end TE
/-! ===== LEVEL 3: Tests, a whole test ===== -/
def cvs (S : aS) (ev : Int32) (pc : Nat) : List (Nat × Nat) → List Int32 → List Int32 → Prop
  | [], st, st' => st = st'
  | c :: L, st, st' => ∃ st1, c.1 ≠ 37 ∧ cv S ev pc c.1 c.2 st st1 ∧ cvs S ev pc L st1 st'
/-- the plays that an order names are there -/
def aP (pc : Nat) (i : aI) : Prop := (10 ≤ i.1 ∧ i.1 ≤ 14 → i.2.1 < pc) ∧ (i.1 = 14 → i.2.2 < pc)
section TE
variable {h h' : jm_H} {t d g s b pc : Nat} {st : List Int32} {S : aS} {ev dn : Int32} {U : Nat → Prop} {as ps : List Nat} {nc : Nat} {cs : List (Nat × Nat)}
theorem cvs_app : ∀ {L M : List (Nat × Nat)} {st st1 st2 : List Int32}, cvs S ev pc L st st1 → cvs S ev pc M st1 st2 → cvs S ev pc (L ++ M) st st2
  | [], M, st, st1, st2, h1, h2 => by cases h1; exact h2
  | c :: L, M, st, st1, st2, ⟨q, q1, q2, q3⟩, h2 => ⟨q, q1, q2, cvs_app q3 h2⟩
theorem cv_len {k w : Nat} {st st' : List Int32} (hv : cv S ev pc k w st st') : st'.length ≤ st.length + 1 := by
  rcases hv with ⟨q, rfl⟩ | ⟨q, rfl⟩ | ⟨p, r, q, q', hp, rfl, rfl⟩ | ⟨p, p', r, q, hp, hp', rfl, rfl⟩ | ⟨x, r, q, rfl, rfl⟩ | ⟨x, r, q, rfl, rfl⟩ | ⟨x, y, r, q, rfl, rfl⟩ <;> simp <;> omega
theorem cI_cvs {i : aI} {k k' : List Bool} {st : List Int32} (hk : ak i k = some k') (hs : aK k st) (hp : aP pc i) : cvs S ev pc (cI i) st (av S ev i st) := by
  obtain ⟨op, x, y⟩ := i
  unfold ak at hk
  unfold av cI
  simp only [] at hk ⊢
  unfold aP at hp
  simp only [] at hp
  by_cases c1 : op = 36
  · rw [if_pos c1, if_neg (by omega), if_neg (by omega), if_pos c1]
    exact ⟨_, by simp, Or.inl ⟨Or.inr rfl, rfl⟩, rfl⟩
  rw [if_neg c1] at hk ⊢
  by_cases c2 : op = 9
  · rw [if_pos c2, if_neg (by omega), if_neg (by omega), if_neg c1]
    exact ⟨_, by show op ≠ 37; omega, Or.inr (Or.inl ⟨c2, rfl⟩), rfl⟩
  rw [if_neg c2] at hk ⊢
  by_cases c3 : 10 ≤ op ∧ op ≤ 13
  · rw [if_pos c3, if_pos c3, if_neg c1]
    exact ⟨_, by simp, Or.inl ⟨Or.inl rfl, rfl⟩, _, by show op ≠ 37; omega, Or.inr (Or.inr (Or.inl ⟨x, st, c3.1, c3.2, hp.1 ⟨c3.1, by omega⟩, rfl, rfl⟩)), rfl⟩
  rw [if_neg c3, if_neg c3]
  rw [if_neg (by omega)] at hk
  by_cases c4 : op = 14
  · rw [if_pos c4, if_pos c4, if_neg c1]
    exact ⟨_, by simp, Or.inl ⟨Or.inl rfl, rfl⟩, _, by simp, Or.inl ⟨Or.inl rfl, rfl⟩, _, by simp, Or.inr (Or.inr (Or.inr (Or.inl ⟨x, y, st, rfl, hp.1 ⟨by omega, by omega⟩, hp.2 c4, rfl, rfl⟩))), rfl⟩
  rw [if_neg c4, if_neg c4, if_neg c1]
  rw [if_neg (by omega)] at hk
  have ne37 : op = 15 ∨ op = 39 ∨ (16 ≤ op ∧ op ≤ 19 ∨ 26 ≤ op ∧ op ≤ 34) := by
    by_cases c : op = 15 ∨ op = 39 ∨ (16 ≤ op ∧ op ≤ 19 ∨ 26 ≤ op ∧ op ≤ 34)
    · exact c
    · rw [if_neg (by omega), if_neg (by omega), if_neg (by omega), if_neg (by omega), if_neg (by omega)] at hk
      cases hk
  have n37 : op ≠ 37 := by omega
  by_cases c5 : op = 15
  · rw [if_pos c5] at hk ⊢
    match k, st, hs, hk with
    | true :: k, z :: st, hs, hk =>
      exact ⟨_, n37, Or.inr (Or.inr (Or.inr (Or.inr (Or.inl ⟨z, st, c5, rfl, rfl⟩)))), rfl⟩
  rw [if_neg c5] at hk ⊢
  by_cases c6 : op = 39
  · rw [if_pos c6] at hk ⊢
    match k, st, hs, hk with
    | false :: k, z :: st, hs, hk =>
      exact ⟨_, n37, Or.inr (Or.inr (Or.inr (Or.inr (Or.inr (Or.inl ⟨z, st, c6, rfl, rfl⟩))))), rfl⟩
  rw [if_neg c6] at hk ⊢
  have c7 : 16 ≤ op ∧ op ≤ 19 ∨ 26 ≤ op ∧ op ≤ 34 := by omega
  have two : ∃ u v r, st = u :: v :: r := by
    have hl := aK_len hs
    split at hk
    · match k, hk with
      | true :: true :: k, hk =>
        match st, hs with
        | u :: v :: r, _ => exact ⟨u, v, r, rfl⟩
    · split at hk
      · match k, hk with
        | false :: false :: k, hk =>
          match st, hs with
          | u :: v :: r, _ => exact ⟨u, v, r, rfl⟩
      · split at hk
        · match k, hk with
          | false :: false :: k, hk =>
            match st, hs with
            | u :: v :: r, _ => exact ⟨u, v, r, rfl⟩
        · cases hk
  obtain ⟨u, v, r, rfl⟩ := two
  exact ⟨_, n37, Or.inr (Or.inr (Or.inr (Or.inr (Or.inr (Or.inr ⟨v, u, r, c7, rfl, rfl⟩))))), rfl⟩
theorem cIs_cvs : ∀ {t : List aI} {k k' : List Bool} {st : List Int32}, aks t k = some k' → aK k st → (∀ i ∈ t, aP pc i) → cvs S ev pc (t.flatMap cI) st (avs S ev t st)
  | [], k, k', st, h, hs, hp => rfl
  | i :: t, k, k', st, h, hs, hp => by
    have h1 : (ak i k).bind (fun q => aks t q) = some k' := h
    cases e : ak i k with
    | none => rw [e] at h1; cases h1
    | some q =>
      rw [e] at h1
      rw [List.flatMap_cons]
      exact cvs_app (cI_cvs e hs (hp i List.mem_cons_self)) (cIs_cvs (t := t) h1 (aK_av e hs) fun j hj => hp j (List.mem_cons_of_mem _ hj))
theorem drop_at {cs : List (Nat × Nat)} {j : Nat} {c : Nat × Nat} {L : List (Nat × Nat)} (h : cs.drop j = c :: L) : j < cs.length ∧ cs.getD j (0, 0) = c ∧ cs.drop (j + 1) = L := by
  have hj : j < cs.length := by
    by_cases q : j < cs.length
    · exact q
    · rw [List.drop_eq_nil_of_le (by omega)] at h
      cases h
  rw [List.drop_eq_getElem_cons hj] at h
  injection h with h1 h2
  refine ⟨hj, ?_, h2⟩
  rw [List.getD_eq_getElem?_getD, List.getElem?_eq_getElem hj]
  exact h1
theorem q_holds_loop {rest : List (Nat × Nat)} {x : Int32} {o2 : Option Value} (hS : ∀ p, p < pc → gR (S.1 p)) (hd : t = g + 13) (hb : t + 2 ≤ b ∨ b + 7 ≤ t) : ∀ (L : List (Nat × Nat)) (j : Nat) (st : List Int32) (o5 : Option Value) (h : jm_H), cs.drop j = L ++ (37, 0) :: rest → st.length ≤ j → cvs S ev pc L st [x] → bC h b as ps nc cs → gC h g s S ev dn pc → qC h t st →
    jF (kX7_holds_15 (d + 4) t b o2 g (Int32.ofNat j) o5 h) (.inl (some (.int (if x = 0 then 0 else 1)))) fun h' => jS (jn t 2) h h' ∧ ∃ st', qC h' t st' := by
  have disB : ∀ y, jn t 2 y → jn b 7 y → False := fun y z1 z2 => by unfold jn at *; omega
  have disG : ∀ y, jn t 2 y → (jn g 3 y ∨ jn (g + 15) 60 y) → False := fun y z1 z2 => by subst hd; unfold jn at *; omega
  intro L
  induction L with
  | nil =>
    intro j st o5 h hL hj hv B G H
    obtain ⟨j1, j2, j3⟩ := drop_at hL
    have hle := bC_le B
    cases hv
    refine jE_of (fun r => gX7_holds_15) ?_
    simp only [bC_3 B, Option.bind_some, jm_O_eq (bC_ob B), b_codeKind B j1, j2, jc_I_eq]
    rw [if_pos (by rw [jw_lt (by omega) (by omega)]; omega), if_pos (show Int32.ofNat 37 = 37 from rfl), jm_O_eq (qC_ob H)]
    refine jE_I (q_pop (d := d + 3) (by simp) H) ?_
    rintro h1 ⟨F1, H1⟩
    by_cases c : x = 0
    · rw [if_pos c, if_pos c]
      exact jF_end ⟨F1, _, H1⟩
    · rw [if_neg c, if_neg c]
      exact jF_end ⟨F1, _, H1⟩
  | cons c L ih =>
    intro j st o5 h hL hj hv B G H
    obtain ⟨j1, j2, j3⟩ := drop_at hL
    have hle := bC_le B
    obtain ⟨st1, v1, v2, v3⟩ := hv
    have hlen := cv_len v2
    have hk40 : c.1 < 40 := by
      rcases v2 with ⟨q, -⟩ | ⟨q, -⟩ | ⟨_, _, _, q, -⟩ | ⟨_, _, _, q, -⟩ | ⟨_, _, q, -⟩ | ⟨_, _, q, -⟩ | ⟨_, _, _, q, -⟩ <;> omega
    refine jE_of (fun r => gX7_holds_15) ?_
    simp only [bC_3 B, Option.bind_some, jm_O_eq (bC_ob B), b_codeKind B j1, b_codeValue B j1, j2, jc_I_eq]
    rw [if_pos (by rw [jw_lt (by omega) (by omega)]; omega), if_neg (by rw [show (37 : Int32) = Int32.ofNat 37 from rfl, jw_eq (by omega) (by omega)]; exact v1), jm_O_eq (qC_ob H), jw_add1]
    refine jE_V (q_reckon (d := d) hS (by omega) hd v2 G H) ?_
    rintro h1 ⟨F1, H1⟩
    exact jF_mono (ih (j + 1) st1 _ h1 j3 (by omega) v3 (bC_tr B F1 disB) (gC_tr G F1 disG) H1) fun h2 ⟨F2, q⟩ => ⟨jS_tr F1 F2, q⟩
/-- where a test lies in the code -/
def cP (cs : List (Nat × Nat)) (t : Option (List aI)) (c : Int32) : Prop := match t with
  | none => c = -1
  | some t => ∃ j rest, c = Int32.ofNat j ∧ cs.drop j = t.flatMap cI ++ (37, 0) :: rest
theorem q_holds {tt : Option (List aI)} {c : Int32} (hS : ∀ p, p < pc → gR (S.1 p)) (hd : t = g + 13) (hb : t + 2 ≤ b ∨ b + 7 ≤ t) (hT : ∀ u, tt = some u → aT u ∧ ∀ i ∈ u, aP pc i) (hc : cP cs tt c) (B : bC h b as ps nc cs) (G : gC h g s S ev dn pc) (H : qC h t st) :
    jF (jm_D (d + 5) mX7_holds [.ref t, .ref b, .int c, .ref g] h) (.inl (some (.int (jp (aH S ev tt))))) fun h' => jS (jn t 2) h h' ∧ ∃ st', qC h' t st' := by
  refine jE_of (fun r => gX7_holds) ?_
  cases tt with
  | none =>
    have : c = -1 := hc
    subst this
    rw [if_pos rfl, jp_T (show aH S ev none from trivial)]
    exact jF_end ⟨jS_rf, st, H⟩
  | some u =>
    obtain ⟨j, rest, rfl, hL⟩ := hc
    obtain ⟨hT1, hT2⟩ := hT u rfl
    have hle := bC_le B
    have hj : j ≤ 400 := by
      by_cases q : j ≤ 400
      · exact q
      · rw [List.drop_eq_nil_of_le (by omega)] at hL
        have := congrArg List.length hL
        simp at this
    rw [if_neg (fun z => by have := congrArg Int32.toInt z; rw [jw_i (by omega)] at this; have e : (-1 : Int32).toInt = -1 := rfl; omega)]
    obtain ⟨SK, a1, a2, a3⟩ := H
    obtain ⟨h1, e1, F1, H1⟩ := oC_w (k := 1) (t := 0) (v := .int (Int32.ofNat 0)) a1 (by simp) rfl
    have Q1 : qC h1 t [] := ⟨SK, H1, aC_tr a2 F1 (by unfold jn; omega), fun i hi => absurd hi (Nat.not_lt_zero _)⟩
    have F1' : jS (jn t 2) h h1 := jS_1 F1 (by omega)
    rw [show (0 : Int32) = Int32.ofNat 0 from rfl]
    simp only [e1, Option.bind_some]
    obtain ⟨x, hx, hx2⟩ := aT_end (S := S) (ev := ev) hT1
    have hcv := cIs_cvs (S := S) (ev := ev) (pc := pc) (t := u) (k := []) (st := []) hT1 trivial hT2
    rw [hx] at hcv
    have := q_holds_loop (d := d) (o2 := some (.int (Int32.ofNat j))) hS hd hb (u.flatMap cI) j [] none h1 hL (Nat.zero_le _) hcv (bC_tr B F1' fun y z1 z2 => by unfold jn at *; omega) (gC_tr G F1' fun y z1 z2 => by subst hd; unfold jn at *; omega) Q1
    have ex : (if x = 0 then (0 : Int32) else 1) = jp (aH S ev (some u)) := by
      rcases hx2 with rfl | rfl
      · rw [if_pos rfl, jp_F]
        intro z
        have z' : avs S ev u [] = [1] := z
        rw [hx] at z'
        injection z' with z1 _
        exact absurd z1 (by decide)
      · rw [if_neg (by decide), jp_T]
        exact hx
    rw [ex] at this
    exact jF_mono this fun h2 ⟨F2, q⟩ => ⟨jS_tr F1' F2, q⟩
end TE
