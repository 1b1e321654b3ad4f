/-! ===== what the real machine's heap and frame are, of an abstract one ===== -/
/-- D of the kit; the classes of the kinds of arrays; the constants' addresses; the formatter; where the heap begins; the script -/
abbrev jm_X : Type := va_G × (Nat → ClassId) × (Nat → Nat) × Value × Nat × (Nat × (Nat → Int32))
abbrev jm_X.D (X : jm_X) : va_G := X.1
abbrev jm_X.cA (X : jm_X) : Nat → ClassId := X.2.1
abbrev jm_X.ka (X : jm_X) : Nat → Nat := X.2.2.1
abbrev jm_X.fv (X : jm_X) : Value := X.2.2.2.1
abbrev jm_X.N0 (X : jm_X) : Nat := X.2.2.2.2.1
abbrev jm_X.sc (X : jm_X) : Nat × (Nat → Int32) := X.2.2.2.2.2
def jm_ad (X : jm_X) (a : Nat) : Nat := X.N0 + (a - 128)
def jm_vc (X : jm_X) : Value → Value
  | .ref a => if a < 128 then (if a = 81 then X.fv else .ref (X.ka a)) else .ref (jm_ad X a)
  | v => v
def jm_cf (X : jm_X) (f : Nat → Option Nat) : Nat → Option Nat := fun j => (f j).map (jm_ad X)
def jm_ca (X : jm_X) : vp_A → vp_A
  | (n, .inr (.inr (.inr (.inr f)))) => (n, .inr (.inr (.inr (.inr (jm_cf X f)))))
  | x => x
def jm_ce (X : jm_X) : jm_AE → va_E
  | .inl (t, x) => .inl (X.cA t, jm_ca X x)
  | .inr (c, fs) => .inr (c, fs.map (jm_vc X))
/-- the texts' lengths and bytes -/
def jm_tb (t : String) : List Int32 := t.toList.map fun c => Int32.ofNat c.toNat
def jm_tbyt : List (List Int32) := jm_tx.map fun q => jm_tb q.2.2
def jm_tlen : List Nat := jm_tx.map fun q => q.2.2.toList.length
/-- WORDS: which text each is -/
def jm_wd : List Nat := [15, 16, 17, 14, 18, 19, 20, 21, 22, 23, 24, 25, 26, 27, 28, 29, 30, 31, 32, 33]
/-- the constants -/
def jm_kon (sc : Nat × (Nat → Int32)) (a : Nat) : Option jm_AE :=
  if a < 34 then some (.inr (90, [.ref (40 + a), .int 0]))
  else if 40 ≤ a ∧ a < 74 then some (.inl (2, (jm_tlen.getD (a - 40) 0, .inl fun j => (jm_tbyt.getD (a - 40) []).getD j 0)))
  else if a = 80 then some (.inl (7, (20, .inr (.inr (.inr (.inr fun j => jm_wd[j]?))))))
  else if a = 82 then some (.inl (0, (sc.1, .inl sc.2)))
  else none
def jm_pic (X : jm_X) (h : jm_H) (H : Heap) : Prop := H.size + 128 = X.N0 + h.1 ∧ 128 ≤ h.1 ∧ (∀ a e, 128 ≤ a → h.2.2 a = some e → a < h.1 ∧ va_at X.D vwCl (jm_ad X a, jm_ce X e) H) ∧ ∀ a, a < 128 → h.2.2 a = jm_kon X.sc a
def jm_lr (X : jm_X) (ls : Array Slot) (n : Nat) (l : List (Option Value)) : Prop := ls.size = n ∧ lv_wf ls ∧ l.length = n ∧ ∀ (i : Nat) (v : Value), l[i]? = some (some v) → ls[i]? = some (.val (jm_vc X v))
def jm_Z (X : jm_X) : Nat → Prop := fun q => X.N0 ≤ q
def jm_at (X : jm_X) (s : State) (h0 h : jm_H) (H : Heap) (locs : List Loc) (cells slots : Nat) (ls : Array Slot) (nL : Nat) (l : List (Option Value)) : Prop :=
  jm_pic X h H ∧ va_S (jm_Z X) s.heap H locs ∧ cells + h0.1 = h.1 ∧ slots + h0.2.1 = h.2.1 ∧ jm_lr X ls nL l
section JMG
variable {X : jm_X} {p : Program} {lc : Launch} {e : Env} {R : Room} {s : State} {m : MethodId} {args : Array Value} {below : List Frame} {meth : Method} {c : Code} {nL : Nat} {h0 : jm_H} {Q : State → Prop}
def jm_go (X : jm_X) (p : Program) (lc : Launch) (e : Env) (R : Room) (s : State) (m : MethodId) (args : Array Value) (below : List Frame) (meth : Method) (c : Code) (nL : Nat) (h0 : jm_H) (Q : State → Prop) (pc : Nat) (l : List (Option Value)) (st : List Value) (h : jm_H) : Prop :=
  ∀ (H : Heap) (locs : List Loc) (cells slots : Nat) (ls : Array Slot), jm_at X s h0 h H locs cells slots ls nL l → W p lc e R s m args below meth c H locs cells slots Q (F0 m pc ls (st.map (jm_vc X)))
variable {cc : ByteArray} {pc : Nat} {l : List (Option Value)} {r : List Value} {h : jm_H}
theorem jm_vc_cat (X : jm_X) (hf : X.fv.category = 1) (v : Value) : (jm_vc X v).category = v.category := by
  cases v <;> try rfl
  rename_i a
  show (if a < 128 then (if a = 81 then X.fv else .ref (X.ka a)) else .ref (jm_ad X a)).category = 1
  split
  · split
    · exact hf
    · rfl
  · rfl
theorem jm_ld_at {ls : Array Slot} {i : Nat} {v : Value} (hl : jm_lr X ls nL l) (h : jm_ld l i = some v) : ls[i]? = some (.val (jm_vc X v)) := by
  unfold jm_ld at h
  cases hk : l[i]? with
  | none => rw [hk] at h; cases h
  | some o =>
    cases o with
    | none => rw [hk] at h; cases h
    | some w => rw [hk] at h; cases h; exact hl.2.2.2 i v hk
/-- the locals as the kit has them -/
def jm_lv (X : jm_X) (l : List (Option Value)) : List (Nat × Value) := (List.range l.length).filterMap fun i => match l[i]? with
  | some (some v) => some (i, jm_vc X v)
  | _ => none
theorem jm_lv_mem {i : Nat} {w : Value} : (i, w) ∈ jm_lv X l ↔ ∃ v, l[i]? = some (some v) ∧ w = jm_vc X v := by
  unfold jm_lv
  rw [List.mem_filterMap]
  constructor
  · rintro ⟨j, hj, hm⟩
    split at hm
    · rename_i v hv
      cases hm
      exact ⟨v, hv, rfl⟩
    · cases hm
  · rintro ⟨v, hv, rfl⟩
    exact ⟨i, List.mem_range.mpr (List.getElem?_eq_some_iff.mp hv).1, by rw [hv]⟩
theorem jm_lr_has {ls : Array Slot} (hl : jm_lr X ls nL l) : lv_has ls nL (jm_lv X l) := ⟨hl.1, hl.2.1, fun q hq => by
  obtain ⟨v, hv, hw⟩ := jm_lv_mem.mp (show (q.1, q.2) ∈ _ from hq)
  rw [hw]
  exact hl.2.2.2 _ _ hv⟩
theorem jm_dm_some {a : Option Value} {v : Value} (h : jm_dm a = some v) : a = some v ∧ v.category = 1 := by
  unfold jm_dm at h
  split at h
  · cases h
  · cases h
  · subst h
    refine ⟨rfl, ?_⟩
    cases v <;> first | rfl | (rename_i q1 q2 _; exact absurd rfl (q1 _)) | (rename_i q1 q2 _; exact absurd rfl (q2 _)) | (rename_i q1 q2; exact absurd rfl (q1 _)) | (rename_i q1 q2; exact absurd rfl (q2 _))
theorem jm_st1_len : ∀ (l : List (Option Value)) (i : Nat) (v : Value), (jm_st1 l i v).length = l.length
  | [], _, _ => rfl
  | _ :: _, 0, _ => rfl
  | _ :: l, 1, v => by show (jm_st1 l 0 v).length + 1 = _; rw [jm_st1_len l 0 v]; rfl
  | _ :: l, i + 2, v => by show (jm_st1 l (i + 1) v).length + 1 = _; rw [jm_st1_len l (i + 1) v]; rfl
theorem jm_st1_get : ∀ (l : List (Option Value)) (i j : Nat) (v w : Value), (jm_st1 l i v)[j]? = some (some w) → (j = i ∧ w = v) ∨ (j ≠ i ∧ l[j]? = some (some w) ∧ (j + 1 = i → w.category = 1))
  | [], _, _, _, _, h => by simp [jm_st1] at h
  | _ :: l, 0, 0, v, w, h => by simp [jm_st1] at h; exact Or.inl ⟨rfl, h.symm⟩
  | _ :: l, 0, j + 1, v, w, h => by simp [jm_st1] at h; exact Or.inr ⟨by omega, by simpa using h, by omega⟩
  | a :: l, 1, 0, v, w, h => by
    simp [jm_st1] at h
    obtain ⟨h1, h2⟩ := jm_dm_some h
    exact Or.inr ⟨by omega, by simp [h1], fun _ => h2⟩
  | a :: l, 1, j + 1, v, w, h => by
    simp [jm_st1] at h
    rcases jm_st1_get l 0 j v w h with ⟨h1, h2⟩ | ⟨h1, h2, h3⟩
    · exact Or.inl ⟨by omega, h2⟩
    · exact Or.inr ⟨by omega, by simpa using h2, fun q => h3 (by omega)⟩
  | a :: l, i + 2, 0, v, w, h => by simp [jm_st1] at h; exact Or.inr ⟨by omega, by simp [h], by omega⟩
  | a :: l, i + 2, j + 1, v, w, h => by
    simp [jm_st1] at h
    rcases jm_st1_get l (i + 1) j v w h with ⟨h1, h2⟩ | ⟨h1, h2, h3⟩
    · exact Or.inl ⟨by omega, h2⟩
    · exact Or.inr ⟨by omega, by simpa using h2, fun q => h3 (by omega)⟩
theorem jm_st2_len : ∀ (l : List (Option Value)) (i : Nat) (v : Value), (jm_st2 l i v).length = l.length
  | [], _, _ => rfl
  | [_], 0, _ => rfl
  | _ :: _ :: _, 0, _ => rfl
  | a :: l, 1, v => by simp [jm_st2, jm_st2_len l 0 v]
  | a :: l, i + 2, v => by simp [jm_st2, jm_st2_len l (i + 1) v]
theorem jm_st2_get : ∀ (l : List (Option Value)) (i j : Nat) (v w : Value), (jm_st2 l i v)[j]? = some (some w) → (j = i ∧ w = v) ∨ (j ≠ i ∧ j ≠ i + 1 ∧ l[j]? = some (some w) ∧ (j + 1 = i → w.category = 1))
  | [], _, _, _, _, h => by simp [jm_st2] at h
  | [_], 0, j, v, w, h => by cases j <;> simp [jm_st2] at h
  | _ :: _ :: l, 0, 0, v, w, h => by simp [jm_st2] at h; exact Or.inl ⟨rfl, h.symm⟩
  | _ :: _ :: l, 0, 1, v, w, h => by simp [jm_st2] at h
  | _ :: _ :: l, 0, j + 2, v, w, h => by simp [jm_st2] at h; exact Or.inr ⟨by omega, by omega, by simpa using h, by omega⟩
  | a :: l, 1, 0, v, w, h => by
    simp [jm_st2] at h
    obtain ⟨h1, h2⟩ := jm_dm_some h
    exact Or.inr ⟨by omega, by omega, by simp [h1], fun _ => h2⟩
  | a :: l, 1, j + 1, v, w, h => by
    simp [jm_st2] at h
    rcases jm_st2_get l 0 j v w h with ⟨h1, h2⟩ | ⟨h1, h2, h3, h4⟩
    · exact Or.inl ⟨by omega, h2⟩
    · exact Or.inr ⟨by omega, by omega, by simpa using h3, fun q => h4 (by omega)⟩
  | a :: l, i + 2, 0, v, w, h => by simp [jm_st2] at h; exact Or.inr ⟨by omega, by omega, by simp [h], by omega⟩
  | a :: l, i + 2, j + 1, v, w, h => by
    simp [jm_st2] at h
    rcases jm_st2_get l (i + 1) j v w h with ⟨h1, h2⟩ | ⟨h1, h2, h3, h4⟩
    · exact Or.inl ⟨by omega, h2⟩
    · exact Or.inr ⟨by omega, by omega, by simpa using h3, fun q => h4 (by omega)⟩
theorem jm_lr_st1 {ls ls' : Array Slot} {i : Nat} {v : Value} (hf : X.fv.category = 1) (hl : jm_lr X ls nL l) (h : lv_has ls' nL ((i, jm_vc X v) :: (jm_lv X l).filter (fun q => !(q.1 == i) && !(q.1 + 1 == i && q.2.category == 2)))) : jm_lr X ls' nL (jm_st1 l i v) := by
  refine ⟨h.1, h.2.1, by rw [jm_st1_len]; exact hl.2.2.1, fun j w hj => ?_⟩
  rcases jm_st1_get l i j v w hj with ⟨rfl, rfl⟩ | ⟨h1, h2, h3⟩
  · exact h.2.2 (j, jm_vc X w) List.mem_cons_self
  · refine h.2.2 (j, jm_vc X w) (List.mem_cons_of_mem _ (List.mem_filter.mpr ⟨jm_lv_mem.mpr ⟨w, h2, rfl⟩, ?_⟩))
    have hc := jm_vc_cat X hf w
    by_cases q : j + 1 = i
    · have := h3 q
      simp [h1, hc, this]
    · simp [h1, q]
theorem jm_lr_st2 {ls ls' : Array Slot} {i : Nat} {v : Value} (hf : X.fv.category = 1) (hl : jm_lr X ls nL l) (h : lv_has ls' nL ((i, jm_vc X v) :: (jm_lv X l).filter (fun q => !(q.1 == i) && (!(q.1 == i + 1) && !(q.1 + 1 == i && q.2.category == 2))))) : jm_lr X ls' nL (jm_st2 l i v) := by
  refine ⟨h.1, h.2.1, by rw [jm_st2_len]; exact hl.2.2.1, fun j w hj => ?_⟩
  rcases jm_st2_get l i j v w hj with ⟨rfl, rfl⟩ | ⟨h1, h2, h3, h4⟩
  · exact h.2.2 (j, jm_vc X w) List.mem_cons_self
  · refine h.2.2 (j, jm_vc X w) (List.mem_cons_of_mem _ (List.mem_filter.mpr ⟨jm_lv_mem.mpr ⟨w, h3, rfl⟩, ?_⟩))
    have hc := jm_vc_cat X hf w
    by_cases q : j + 1 = i
    · have := h4 q
      simp [h1, h2, hc, this]
    · simp [h1, h2, q]
theorem jm_at_ls {H : Heap} {locs : List Loc} {cells slots : Nat} {ls ls' : Array Slot} {l' : List (Option Value)} (ha : jm_at X s h0 h H locs cells slots ls nL l) (h' : jm_lr X ls' nL l') : jm_at X s h0 h H locs cells slots ls' nL l' := ⟨ha.1, ha.2.1, ha.2.2.1, ha.2.2.2.1, h'⟩
theorem jg_iadd (hx : p.tables.exec = Jvm.exec) (hb : c.code = cc) {x : Int32} {y : Int32} (hd : decode cc pc = .ok (.iadd, 1)) (k : jm_go X p lc e R s m args below meth c nL h0 Q (pc + 1) l (.int (x + y) :: r) h) : jm_go X p lc e R s m args below meth c nL h0 Q pc l (.int y :: .int x :: r) h := fun H locs cells slots ls ha => lv_iadd hx hb hd (k H locs cells slots ls ha)
theorem jg_isub (hx : p.tables.exec = Jvm.exec) (hb : c.code = cc) {x : Int32} {y : Int32} (hd : decode cc pc = .ok (.isub, 1)) (k : jm_go X p lc e R s m args below meth c nL h0 Q (pc + 1) l (.int (x - y) :: r) h) : jm_go X p lc e R s m args below meth c nL h0 Q pc l (.int y :: .int x :: r) h := fun H locs cells slots ls ha => lv_isub hx hb hd (k H locs cells slots ls ha)
theorem jg_imul (hx : p.tables.exec = Jvm.exec) (hb : c.code = cc) {x : Int32} {y : Int32} (hd : decode cc pc = .ok (.imul, 1)) (k : jm_go X p lc e R s m args below meth c nL h0 Q (pc + 1) l (.int (x * y) :: r) h) : jm_go X p lc e R s m args below meth c nL h0 Q pc l (.int y :: .int x :: r) h := fun H locs cells slots ls ha => lv_imul hx hb hd (k H locs cells slots ls ha)
theorem jg_iand (hx : p.tables.exec = Jvm.exec) (hb : c.code = cc) {x : Int32} {y : Int32} (hd : decode cc pc = .ok (.iand, 1)) (k : jm_go X p lc e R s m args below meth c nL h0 Q (pc + 1) l (.int (x &&& y) :: r) h) : jm_go X p lc e R s m args below meth c nL h0 Q pc l (.int y :: .int x :: r) h := fun H locs cells slots ls ha => lv_iand hx hb hd (k H locs cells slots ls ha)
theorem jg_ior (hx : p.tables.exec = Jvm.exec) (hb : c.code = cc) {x : Int32} {y : Int32} (hd : decode cc pc = .ok (.ior, 1)) (k : jm_go X p lc e R s m args below meth c nL h0 Q (pc + 1) l (.int (x ||| y) :: r) h) : jm_go X p lc e R s m args below meth c nL h0 Q pc l (.int y :: .int x :: r) h := fun H locs cells slots ls ha => lv_ior hx hb hd (k H locs cells slots ls ha)
theorem jg_ishr (hx : p.tables.exec = Jvm.exec) (hb : c.code = cc) {x : Int32} {y : Int32} (hd : decode cc pc = .ok (.ishr, 1)) (k : jm_go X p lc e R s m args below meth c nL h0 Q (pc + 1) l (.int (x >>> (y &&& 31)) :: r) h) : jm_go X p lc e R s m args below meth c nL h0 Q pc l (.int y :: .int x :: r) h := fun H locs cells slots ls ha => lv_ishr hx hb hd (k H locs cells slots ls ha)
theorem jg_idiv (hx : p.tables.exec = Jvm.exec) (hb : c.code = cc) {x : Int32} {y : Int32} (hd : decode cc pc = .ok (.idiv, 1)) (hne : ¬ y = 0) (k : jm_go X p lc e R s m args below meth c nL h0 Q (pc + 1) l (.int (x / y) :: r) h) : jm_go X p lc e R s m args below meth c nL h0 Q pc l (.int y :: .int x :: r) h := fun H locs cells slots ls ha => lv_idiv hx hb hd hne (k H locs cells slots ls ha)
theorem jg_irem (hx : p.tables.exec = Jvm.exec) (hb : c.code = cc) {x : Int32} {y : Int32} (hd : decode cc pc = .ok (.irem, 1)) (hne : ¬ y = 0) (k : jm_go X p lc e R s m args below meth c nL h0 Q (pc + 1) l (.int (x - x / y * y) :: r) h) : jm_go X p lc e R s m args below meth c nL h0 Q pc l (.int y :: .int x :: r) h := fun H locs cells slots ls ha => lv_irem hx hb hd hne (k H locs cells slots ls ha)
theorem jg_ladd (hx : p.tables.exec = Jvm.exec) (hb : c.code = cc) {x : Int64} {y : Int64} (hd : decode cc pc = .ok (.ladd, 1)) (k : jm_go X p lc e R s m args below meth c nL h0 Q (pc + 1) l (.long (x + y) :: r) h) : jm_go X p lc e R s m args below meth c nL h0 Q pc l (.long y :: .long x :: r) h := fun H locs cells slots ls ha => lv_ladd hx hb hd (k H locs cells slots ls ha)
theorem jg_lsub (hx : p.tables.exec = Jvm.exec) (hb : c.code = cc) {x : Int64} {y : Int64} (hd : decode cc pc = .ok (.lsub, 1)) (k : jm_go X p lc e R s m args below meth c nL h0 Q (pc + 1) l (.long (x - y) :: r) h) : jm_go X p lc e R s m args below meth c nL h0 Q pc l (.long y :: .long x :: r) h := fun H locs cells slots ls ha => lv_lsub hx hb hd (k H locs cells slots ls ha)
theorem jg_lmul (hx : p.tables.exec = Jvm.exec) (hb : c.code = cc) {x : Int64} {y : Int64} (hd : decode cc pc = .ok (.lmul, 1)) (k : jm_go X p lc e R s m args below meth c nL h0 Q (pc + 1) l (.long (x * y) :: r) h) : jm_go X p lc e R s m args below meth c nL h0 Q pc l (.long y :: .long x :: r) h := fun H locs cells slots ls ha => lv_lmul hx hb hd (k H locs cells slots ls ha)
theorem jg_lor (hx : p.tables.exec = Jvm.exec) (hb : c.code = cc) {x : Int64} {y : Int64} (hd : decode cc pc = .ok (.lor, 1)) (k : jm_go X p lc e R s m args below meth c nL h0 Q (pc + 1) l (.long (x ||| y) :: r) h) : jm_go X p lc e R s m args below meth c nL h0 Q pc l (.long y :: .long x :: r) h := fun H locs cells slots ls ha => lv_lor hx hb hd (k H locs cells slots ls ha)
theorem jg_ldiv (hx : p.tables.exec = Jvm.exec) (hb : c.code = cc) {x : Int64} {y : Int64} (hd : decode cc pc = .ok (.ldiv, 1)) (hne : ¬ y = 0) (k : jm_go X p lc e R s m args below meth c nL h0 Q (pc + 1) l (.long (x / y) :: r) h) : jm_go X p lc e R s m args below meth c nL h0 Q pc l (.long y :: .long x :: r) h := fun H locs cells slots ls ha => lv_ldiv hx hb hd hne (k H locs cells slots ls ha)
theorem jg_lrem (hx : p.tables.exec = Jvm.exec) (hb : c.code = cc) {x : Int64} {y : Int64} (hd : decode cc pc = .ok (.lrem, 1)) (hne : ¬ y = 0) (k : jm_go X p lc e R s m args below meth c nL h0 Q (pc + 1) l (.long (x - x / y * y) :: r) h) : jm_go X p lc e R s m args below meth c nL h0 Q pc l (.long y :: .long x :: r) h := fun H locs cells slots ls ha => lv_lrem hx hb hd hne (k H locs cells slots ls ha)
theorem jg_lshl (hx : p.tables.exec = Jvm.exec) (hb : c.code = cc) {x : Int64} {y : Int32} (hd : decode cc pc = .ok (.lshl, 1)) (k : jm_go X p lc e R s m args below meth c nL h0 Q (pc + 1) l (.long (x <<< (y.toInt64 &&& 63)) :: r) h) : jm_go X p lc e R s m args below meth c nL h0 Q pc l (.int y :: .long x :: r) h := fun H locs cells slots ls ha => lv_lshl hx hb hd rfl (k H locs cells slots ls ha)
theorem jg_lshr (hx : p.tables.exec = Jvm.exec) (hb : c.code = cc) {x : Int64} {y : Int32} (hd : decode cc pc = .ok (.lshr, 1)) (k : jm_go X p lc e R s m args below meth c nL h0 Q (pc + 1) l (.long (x >>> (y.toInt64 &&& 63)) :: r) h) : jm_go X p lc e R s m args below meth c nL h0 Q pc l (.int y :: .long x :: r) h := fun H locs cells slots ls ha => lv_lshr hx hb hd rfl (k H locs cells slots ls ha)
theorem jg_lushr (hx : p.tables.exec = Jvm.exec) (hb : c.code = cc) {x : Int64} {y : Int32} (hd : decode cc pc = .ok (.lushr, 1)) (k : jm_go X p lc e R s m args below meth c nL h0 Q (pc + 1) l (.long ((x.toUInt64 >>> (y.toInt64.toUInt64 &&& Int64.toUInt64 63)).toInt64) :: r) h) : jm_go X p lc e R s m args below meth c nL h0 Q pc l (.int y :: .long x :: r) h := fun H locs cells slots ls ha => lv_lushr hx hb hd rfl (k H locs cells slots ls ha)
theorem jg_lcmp (hx : p.tables.exec = Jvm.exec) (hb : c.code = cc) {x : Int64} {y : Int64} (hd : decode cc pc = .ok (.lcmp, 1)) (k : jm_go X p lc e R s m args below meth c nL h0 Q (pc + 1) l (.int (lg_cmp x y) :: r) h) : jm_go X p lc e R s m args below meth c nL h0 Q pc l (.long y :: .long x :: r) h := fun H locs cells slots ls ha => W.lcmp hx hb hd (k H locs cells slots ls ha)
theorem jg_ddiv (hx : p.tables.exec = Jvm.exec) (hb : c.code = cc) {x : UInt64} {y : UInt64} (hd : decode cc pc = .ok (.ddiv, 1)) (hne : FP.ddiv x y &&& 0x7fffffffffffffff ≤ 0x7ff0000000000000) (k : jm_go X p lc e R s m args below meth c nL h0 Q (pc + 1) l (.double (FP.ddiv x y) :: r) h) : jm_go X p lc e R s m args below meth c nL h0 Q pc l (.double y :: .double x :: r) h := fun H locs cells slots ls ha => lv_ddiv hx hb hd hne (k H locs cells slots ls ha)
theorem jg_dcmp (hx : p.tables.exec = Jvm.exec) (hb : c.code = cc) {x y : UInt64} {op : CmpOp} (hd : decode cc pc = .ok (.dcmp op, 1)) (k : jm_go X p lc e R s m args below meth c nL h0 Q (pc + 1) l (.int (Op.cmpValue (FP.dcmp x y) op) :: r) h) : jm_go X p lc e R s m args below meth c nL h0 Q pc l (.double y :: .double x :: r) h := fun H locs cells slots ls ha => lv_dcmp hx hb hd (k H locs cells slots ls ha)
theorem jg_ineg (hx : p.tables.exec = Jvm.exec) (hb : c.code = cc) {x : Int32} (hd : decode cc pc = .ok (.ineg, 1)) (k : jm_go X p lc e R s m args below meth c nL h0 Q (pc + 1) l (.int (-x) :: r) h) : jm_go X p lc e R s m args below meth c nL h0 Q pc l (.int x :: r) h := fun H locs cells slots ls ha => lv_ineg hx hb hd (k H locs cells slots ls ha)
theorem jg_lneg (hx : p.tables.exec = Jvm.exec) (hb : c.code = cc) {x : Int64} (hd : decode cc pc = .ok (.lneg, 1)) (k : jm_go X p lc e R s m args below meth c nL h0 Q (pc + 1) l (.long (-x) :: r) h) : jm_go X p lc e R s m args below meth c nL h0 Q pc l (.long x :: r) h := fun H locs cells slots ls ha => lv_lneg hx hb hd (k H locs cells slots ls ha)
theorem jg_i2l (hx : p.tables.exec = Jvm.exec) (hb : c.code = cc) {x : Int32} (hd : decode cc pc = .ok (.i2l, 1)) (k : jm_go X p lc e R s m args below meth c nL h0 Q (pc + 1) l (.long (x.toInt64) :: r) h) : jm_go X p lc e R s m args below meth c nL h0 Q pc l (.int x :: r) h := fun H locs cells slots ls ha => lv_i2l hx hb hd rfl (k H locs cells slots ls ha)
theorem jg_i2b (hx : p.tables.exec = Jvm.exec) (hb : c.code = cc) {x : Int32} (hd : decode cc pc = .ok (.i2b, 1)) (k : jm_go X p lc e R s m args below meth c nL h0 Q (pc + 1) l (.int (x.toInt8.toInt32) :: r) h) : jm_go X p lc e R s m args below meth c nL h0 Q pc l (.int x :: r) h := fun H locs cells slots ls ha => lv_i2b hx hb hd rfl (k H locs cells slots ls ha)
theorem jg_i2c (hx : p.tables.exec = Jvm.exec) (hb : c.code = cc) {x : Int32} (hd : decode cc pc = .ok (.i2c, 1)) (k : jm_go X p lc e R s m args below meth c nL h0 Q (pc + 1) l (.int ((x.toUInt32 % 65536).toInt32) :: r) h) : jm_go X p lc e R s m args below meth c nL h0 Q pc l (.int x :: r) h := fun H locs cells slots ls ha => lv_i2c hx hb hd rfl (k H locs cells slots ls ha)
theorem jg_i2d (hx : p.tables.exec = Jvm.exec) (hb : c.code = cc) {x : Int32} (hd : decode cc pc = .ok (.i2d, 1)) (k : jm_go X p lc e R s m args below meth c nL h0 Q (pc + 1) l (.double (FP.i2d x) :: r) h) : jm_go X p lc e R s m args below meth c nL h0 Q pc l (.int x :: r) h := fun H locs cells slots ls ha => lv_i2d hx hb hd (k H locs cells slots ls ha)
theorem jg_l2i (hx : p.tables.exec = Jvm.exec) (hb : c.code = cc) {x : Int64} (hd : decode cc pc = .ok (.l2i, 1)) (k : jm_go X p lc e R s m args below meth c nL h0 Q (pc + 1) l (.int (x.toInt32) :: r) h) : jm_go X p lc e R s m args below meth c nL h0 Q pc l (.long x :: r) h := fun H locs cells slots ls ha => lv_l2i hx hb hd rfl (k H locs cells slots ls ha)
theorem jg_iconst (hx : p.tables.exec = Jvm.exec) (hb : c.code = cc) {n : Int} (hd : decode cc pc = .ok (.iconst n, 1)) (k : jm_go X p lc e R s m args below meth c nL h0 Q (pc + 1) l (.int (Int32.ofInt n) :: r) h) : jm_go X p lc e R s m args below meth c nL h0 Q pc l r h := fun H locs cells slots ls ha => lv_iconst hx hb hd rfl (k H locs cells slots ls ha)
theorem jg_bipush (hx : p.tables.exec = Jvm.exec) (hb : c.code = cc) {n : Int} (hd : decode cc pc = .ok (.bipush n, 2)) (k : jm_go X p lc e R s m args below meth c nL h0 Q (pc + 2) l (.int (Int8.ofInt n).toInt32 :: r) h) : jm_go X p lc e R s m args below meth c nL h0 Q pc l r h := fun H locs cells slots ls ha => lv_bipush hx hb hd rfl (k H locs cells slots ls ha)
theorem jg_sipush (hx : p.tables.exec = Jvm.exec) (hb : c.code = cc) {n : Int} (hd : decode cc pc = .ok (.sipush n, 3)) (k : jm_go X p lc e R s m args below meth c nL h0 Q (pc + 3) l (.int (Int16.ofInt n).toInt32 :: r) h) : jm_go X p lc e R s m args below meth c nL h0 Q pc l r h := fun H locs cells slots ls ha => lv_sipush hx hb hd rfl (k H locs cells slots ls ha)
theorem jg_lconst (hx : p.tables.exec = Jvm.exec) (hb : c.code = cc) {n : Fin 2} (hd : decode cc pc = .ok (.lconst n, 1)) (k : jm_go X p lc e R s m args below meth c nL h0 Q (pc + 1) l (.long (Int64.ofNat (n : Nat)) :: r) h) : jm_go X p lc e R s m args below meth c nL h0 Q pc l r h := fun H locs cells slots ls ha => lv_lconst hx hb hd rfl (k H locs cells slots ls ha)
theorem jg_dconst (hx : p.tables.exec = Jvm.exec) (hb : c.code = cc) (hd : decode cc pc = .ok (.dconst 0, 1)) (k : jm_go X p lc e R s m args below meth c nL h0 Q (pc + 1) l (.double FP.dconst0 :: r) h) : jm_go X p lc e R s m args below meth c nL h0 Q pc l r h := fun H locs cells slots ls ha => lv_dconst0 hx hb hd (k H locs cells slots ls ha)
theorem jg_iload_n (hx : p.tables.exec = Jvm.exec) (hb : c.code = cc) {n : Fin 4} {x : Int32} (hd : decode cc pc = .ok (.iload_n n, 1)) (hl : jm_ld l n = some (.int x)) (k : jm_go X p lc e R s m args below meth c nL h0 Q (pc + 1) l (.int x :: r) h) : jm_go X p lc e R s m args below meth c nL h0 Q pc l r h := fun H locs cells slots ls ha => lv_iload_n hx hb hd rfl (jm_ld_at ha.2.2.2.2 hl) (k H locs cells slots ls ha)
theorem jg_iload (hx : p.tables.exec = Jvm.exec) (hb : c.code = cc) {n : Nat} {x : Int32} (hd : decode cc pc = .ok (.iload n, 2)) (hl : jm_ld l n = some (.int x)) (k : jm_go X p lc e R s m args below meth c nL h0 Q (pc + 2) l (.int x :: r) h) : jm_go X p lc e R s m args below meth c nL h0 Q pc l r h := fun H locs cells slots ls ha => lv_iload hx hb hd (jm_ld_at ha.2.2.2.2 hl) (k H locs cells slots ls ha)
theorem jg_lload_n (hx : p.tables.exec = Jvm.exec) (hb : c.code = cc) {n : Fin 4} {x : Int64} (hd : decode cc pc = .ok (.lload_n n, 1)) (hl : jm_ld l n = some (.long x)) (k : jm_go X p lc e R s m args below meth c nL h0 Q (pc + 1) l (.long x :: r) h) : jm_go X p lc e R s m args below meth c nL h0 Q pc l r h := fun H locs cells slots ls ha => lv_lload_n hx hb hd rfl (jm_ld_at ha.2.2.2.2 hl) (k H locs cells slots ls ha)
theorem jg_lload (hx : p.tables.exec = Jvm.exec) (hb : c.code = cc) {n : Nat} {x : Int64} (hd : decode cc pc = .ok (.lload n, 2)) (hl : jm_ld l n = some (.long x)) (k : jm_go X p lc e R s m args below meth c nL h0 Q (pc + 2) l (.long x :: r) h) : jm_go X p lc e R s m args below meth c nL h0 Q pc l r h := fun H locs cells slots ls ha => lv_lload hx hb hd (jm_ld_at ha.2.2.2.2 hl) (k H locs cells slots ls ha)
theorem jg_dload (hx : p.tables.exec = Jvm.exec) (hb : c.code = cc) {n : Nat} {x : UInt64} (hd : decode cc pc = .ok (.dload n, 2)) (hl : jm_ld l n = some (.double x)) (k : jm_go X p lc e R s m args below meth c nL h0 Q (pc + 2) l (.double x :: r) h) : jm_go X p lc e R s m args below meth c nL h0 Q pc l r h := fun H locs cells slots ls ha => lv_dload hx hb hd (jm_ld_at ha.2.2.2.2 hl) (k H locs cells slots ls ha)
/-- what a reference is -/
theorem jm_vc_ref (hf : X.fv = .null ∨ ∃ q, X.fv = .ref q) (a : Nat) : jm_vc X (.ref a) = .null ∨ ∃ q, jm_vc X (.ref a) = .ref q := by
  show (if a < 128 then (if a = 81 then X.fv else .ref (X.ka a)) else .ref (jm_ad X a)) = .null ∨ ∃ q, (if a < 128 then (if a = 81 then X.fv else .ref (X.ka a)) else .ref (jm_ad X a)) = .ref q
  split
  · split
    · exact hf
    · exact Or.inr ⟨_, rfl⟩
  · exact Or.inr ⟨_, rfl⟩
theorem jm_fv_cat (hf : X.fv = .null ∨ ∃ q, X.fv = .ref q) : X.fv.category = 1 := by
  rcases hf with h | ⟨q, h⟩ <;> rw [h] <;> rfl
theorem jg_aload_n (hf : X.fv = .null ∨ ∃ q, X.fv = .ref q) (hx : p.tables.exec = Jvm.exec) (hb : c.code = cc) {n : Fin 4} {x : Nat} (hd : decode cc pc = .ok (.aload_n n, 1)) (hl : jm_ld l n = some (.ref x)) (k : jm_go X p lc e R s m args below meth c nL h0 Q (pc + 1) l (.ref x :: r) h) : jm_go X p lc e R s m args below meth c nL h0 Q pc l r h := by
  intro H locs cells slots ls ha
  have h1 := jm_ld_at ha.2.2.2.2 hl
  have h2 := k H locs cells slots ls ha
  rw [List.map_cons] at h2
  rcases jm_vc_ref hf x with q | ⟨b, q⟩
  · rw [q] at h1 h2
    exact lv_aload_nN hx hb hd rfl h1 h2
  · rw [q] at h1 h2
    exact lv_aload_n hx hb hd rfl h1 h2
theorem jg_astore_n (hf : X.fv = .null ∨ ∃ q, X.fv = .ref q) (hx : p.tables.exec = Jvm.exec) (hb : c.code = cc) {n : Fin 4} {x : Nat} (hd : decode cc pc = .ok (.astore_n n, 1)) (hn : (n : Nat) < l.length) (k : jm_go X p lc e R s m args below meth c nL h0 Q (pc + 1) (jm_st1 l n (.ref x)) r h) : jm_go X p lc e R s m args below meth c nL h0 Q pc l (.ref x :: r) h := by
  intro H locs cells slots ls ha
  have hl := ha.2.2.2.2
  have h0 : ∀ ls' : Array Slot, lv_has ls' nL (((n : Nat), jm_vc X (.ref x)) :: (jm_lv X l).filter (fun q => !(q.1 == (n : Nat)) && !(q.1 + 1 == (n : Nat) && q.2.category == 2))) → W p lc e R s m args below meth c H locs cells slots Q (F0 m (pc + 1) ls' (r.map (jm_vc X))) := fun ls' h' => k H locs cells slots ls' (jm_at_ls ha (jm_lr_st1 (jm_fv_cat hf) hl h'))
  rw [List.map_cons]
  rcases jm_vc_ref hf x with q | ⟨b, q⟩
  · rw [q] at h0 ⊢
    exact lv_astore_nN hx hb hd rfl (jm_lr_has hl) (by rw [← hl.2.2.1]; exact hn) rfl h0
  · rw [q] at h0 ⊢
    exact lv_astore_n hx hb hd rfl (jm_lr_has hl) (by rw [← hl.2.2.1]; exact hn) rfl h0
theorem jg_istore_n (hf : X.fv = .null ∨ ∃ q, X.fv = .ref q) (hx : p.tables.exec = Jvm.exec) (hb : c.code = cc) {n : Fin 4} {x : Int32} (hd : decode cc pc = .ok (.istore_n n, 1)) (hn : (n : Nat) < l.length) (k : jm_go X p lc e R s m args below meth c nL h0 Q (pc + 1) (jm_st1 l n (.int x)) r h) : jm_go X p lc e R s m args below meth c nL h0 Q pc l (.int x :: r) h := by
  intro H locs cells slots ls ha
  have hl := ha.2.2.2.2
  exact lv_istore_n hx hb hd rfl (jm_lr_has hl) (by rw [← hl.2.2.1]; exact hn) rfl (fun ls' h' => k H locs cells slots ls' (jm_at_ls ha (jm_lr_st1 (jm_fv_cat hf) (v := .int x) hl h')))
theorem jg_lstore_n (hf : X.fv = .null ∨ ∃ q, X.fv = .ref q) (hx : p.tables.exec = Jvm.exec) (hb : c.code = cc) {n : Fin 4} {x : Int64} (hd : decode cc pc = .ok (.lstore_n n, 1)) (hn : (n : Nat) + 1 < l.length) (k : jm_go X p lc e R s m args below meth c nL h0 Q (pc + 1) (jm_st2 l n (.long x)) r h) : jm_go X p lc e R s m args below meth c nL h0 Q pc l (.long x :: r) h := by
  intro H locs cells slots ls ha
  have hl := ha.2.2.2.2
  exact lv_lstore_n hx hb hd rfl (jm_lr_has hl) (by rw [← hl.2.2.1]; exact hn) rfl (fun ls' h' => k H locs cells slots ls' (jm_at_ls ha (jm_lr_st2 (jm_fv_cat hf) (v := .long x) hl h')))
theorem jg_aload (hf : X.fv = .null ∨ ∃ q, X.fv = .ref q) (hx : p.tables.exec = Jvm.exec) (hb : c.code = cc) {n : Nat} {x : Nat} (hd : decode cc pc = .ok (.aload n, 2)) (hl : jm_ld l n = some (.ref x)) (k : jm_go X p lc e R s m args below meth c nL h0 Q (pc + 2) l (.ref x :: r) h) : jm_go X p lc e R s m args below meth c nL h0 Q pc l r h := by
  intro H locs cells slots ls ha
  have h1 := jm_ld_at ha.2.2.2.2 hl
  have h2 := k H locs cells slots ls ha
  rw [List.map_cons] at h2
  rcases jm_vc_ref hf x with q | ⟨b, q⟩
  · rw [q] at h1 h2
    exact lv_aloadN hx hb hd h1 h2
  · rw [q] at h1 h2
    exact lv_aload hx hb hd h1 h2
theorem jg_astore (hf : X.fv = .null ∨ ∃ q, X.fv = .ref q) (hx : p.tables.exec = Jvm.exec) (hb : c.code = cc) {n : Nat} {x : Nat} (hd : decode cc pc = .ok (.astore n, 2)) (hn : (n : Nat) < l.length) (k : jm_go X p lc e R s m args below meth c nL h0 Q (pc + 2) (jm_st1 l n (.ref x)) r h) : jm_go X p lc e R s m args below meth c nL h0 Q pc l (.ref x :: r) h := by
  intro H locs cells slots ls ha
  have hl := ha.2.2.2.2
  have h0 : ∀ ls' : Array Slot, lv_has ls' nL (((n : Nat), jm_vc X (.ref x)) :: (jm_lv X l).filter (fun q => !(q.1 == (n : Nat)) && !(q.1 + 1 == (n : Nat) && q.2.category == 2))) → W p lc e R s m args below meth c H locs cells slots Q (F0 m (pc + 2) ls' (r.map (jm_vc X))) := fun ls' h' => k H locs cells slots ls' (jm_at_ls ha (jm_lr_st1 (jm_fv_cat hf) hl h'))
  rw [List.map_cons]
  rcases jm_vc_ref hf x with q | ⟨b, q⟩
  · rw [q] at h0 ⊢
    exact lv_astoreN hx hb hd (jm_lr_has hl) (by rw [← hl.2.2.1]; exact hn) rfl h0
  · rw [q] at h0 ⊢
    exact lv_astore hx hb hd (jm_lr_has hl) (by rw [← hl.2.2.1]; exact hn) rfl h0
theorem jg_istore (hf : X.fv = .null ∨ ∃ q, X.fv = .ref q) (hx : p.tables.exec = Jvm.exec) (hb : c.code = cc) {n : Nat} {x : Int32} (hd : decode cc pc = .ok (.istore n, 2)) (hn : (n : Nat) < l.length) (k : jm_go X p lc e R s m args below meth c nL h0 Q (pc + 2) (jm_st1 l n (.int x)) r h) : jm_go X p lc e R s m args below meth c nL h0 Q pc l (.int x :: r) h := by
  intro H locs cells slots ls ha
  have hl := ha.2.2.2.2
  exact lv_istore hx hb hd (jm_lr_has hl) (by rw [← hl.2.2.1]; exact hn) rfl (fun ls' h' => k H locs cells slots ls' (jm_at_ls ha (jm_lr_st1 (jm_fv_cat hf) (v := .int x) hl h')))
theorem jg_lstore (hf : X.fv = .null ∨ ∃ q, X.fv = .ref q) (hx : p.tables.exec = Jvm.exec) (hb : c.code = cc) {n : Nat} {x : Int64} (hd : decode cc pc = .ok (.lstore n, 2)) (hn : (n : Nat) + 1 < l.length) (k : jm_go X p lc e R s m args below meth c nL h0 Q (pc + 2) (jm_st2 l n (.long x)) r h) : jm_go X p lc e R s m args below meth c nL h0 Q pc l (.long x :: r) h := by
  intro H locs cells slots ls ha
  have hl := ha.2.2.2.2
  exact lv_lstore hx hb hd (jm_lr_has hl) (by rw [← hl.2.2.1]; exact hn) rfl (fun ls' h' => k H locs cells slots ls' (jm_at_ls ha (jm_lr_st2 (jm_fv_cat hf) (v := .long x) hl h')))
theorem jg_dstore (hf : X.fv = .null ∨ ∃ q, X.fv = .ref q) (hx : p.tables.exec = Jvm.exec) (hb : c.code = cc) {n : Nat} {x : UInt64} (hd : decode cc pc = .ok (.dstore n, 2)) (hn : (n : Nat) + 1 < l.length) (k : jm_go X p lc e R s m args below meth c nL h0 Q (pc + 2) (jm_st2 l n (.double x)) r h) : jm_go X p lc e R s m args below meth c nL h0 Q pc l (.double x :: r) h := by
  intro H locs cells slots ls ha
  have hl := ha.2.2.2.2
  exact lv_dstore hx hb hd (jm_lr_has hl) (by rw [← hl.2.2.1]; exact hn) rfl (fun ls' h' => k H locs cells slots ls' (jm_at_ls ha (jm_lr_st2 (jm_fv_cat hf) (v := .double x) hl h')))
theorem jg_iinc (hf : X.fv = .null ∨ ∃ q, X.fv = .ref q) (hx : p.tables.exec = Jvm.exec) (hb : c.code = cc) {n : Nat} {d : Int} {x : Int32} (hd : decode cc pc = .ok (.iinc n d, 3)) (hn : n < l.length) (hq : jm_ld l n = some (.int x)) (k : jm_go X p lc e R s m args below meth c nL h0 Q (pc + 3) (jm_st1 l n (.int (x + Int32.ofInt d))) r h) : jm_go X p lc e R s m args below meth c nL h0 Q pc l r h := by
  intro H locs cells slots ls ha
  have hl := ha.2.2.2.2
  have hg : l[n]? = some (some (.int x)) := by
    unfold jm_ld at hq
    split at hq
    · rename_i v hv; cases hq; exact hv
    · cases hq
  have hm : (n, Value.int x) ∈ jm_lv X l := jm_lv_mem.mpr ⟨.int x, hg, rfl⟩
  obtain ⟨i, hi⟩ := List.getElem?_of_mem hm
  exact lv_iinc hx hb hd (jm_lr_has hl) hi rfl (by rw [← hl.2.2.1]; exact hn) rfl (fun ls' h' => k H locs cells slots ls' (jm_at_ls ha (jm_lr_st1 (jm_fv_cat hf) (v := .int (x + Int32.ofInt d)) hl h')))
theorem jg_dup (hf : X.fv = .null ∨ ∃ q, X.fv = .ref q) (hx : p.tables.exec = Jvm.exec) (hb : c.code = cc) {v : Value} (hd : decode cc pc = .ok (.dup, 1)) (hv : v.category = 1) (k : jm_go X p lc e R s m args below meth c nL h0 Q (pc + 1) l (v :: v :: r) h) : jm_go X p lc e R s m args below meth c nL h0 Q pc l (v :: r) h := fun H locs cells slots ls ha => lv_dup hx hb hd ((jm_vc_cat X (jm_fv_cat hf) v).trans hv) (k H locs cells slots ls ha)
theorem jg_dup2 (hf : X.fv = .null ∨ ∃ q, X.fv = .ref q) (hx : p.tables.exec = Jvm.exec) (hb : c.code = cc) {v w : Value} (hd : decode cc pc = .ok (.dup2, 1)) (hv : v.category = 1) (hw : w.category = 1) (k : jm_go X p lc e R s m args below meth c nL h0 Q (pc + 1) l (v :: w :: v :: w :: r) h) : jm_go X p lc e R s m args below meth c nL h0 Q pc l (v :: w :: r) h := fun H locs cells slots ls ha => lv_dup2_11 hx hb hd ((jm_vc_cat X (jm_fv_cat hf) v).trans hv) ((jm_vc_cat X (jm_fv_cat hf) w).trans hw) (k H locs cells slots ls ha)
theorem jg_pop (hf : X.fv = .null ∨ ∃ q, X.fv = .ref q) (hx : p.tables.exec = Jvm.exec) (hb : c.code = cc) {v : Value} (hd : decode cc pc = .ok (.pop, 1)) (hv : v.category = 1) (k : jm_go X p lc e R s m args below meth c nL h0 Q (pc + 1) l r h) : jm_go X p lc e R s m args below meth c nL h0 Q pc l (v :: r) h := fun H locs cells slots ls ha => lv_pop hx hb hd ((jm_vc_cat X (jm_fv_cat hf) v).trans hv) (k H locs cells slots ls ha)
theorem jg_ifCond (hx : p.tables.exec = Jvm.exec) (hb : c.code = cc) {x : Int32} {op : Jvm.ClassFile.Cond} {off : Int} {tgt : Nat} (hd : decode cc pc = .ok (.ifCond op off, 3)) (ht : (pc : Int) + off = (tgt : Int)) (kt : jm_cc op x 0 = true → jm_go X p lc e R s m args below meth c nL h0 Q tgt l r h) (kf : ¬ jm_cc op x 0 = true → jm_go X p lc e R s m args below meth c nL h0 Q (pc + 3) l r h) : jm_go X p lc e R s m args below meth c nL h0 Q pc l (.int x :: r) h := by
  intro H locs cells slots ls ha
  cases op
  · exact lv_if_eq hx hb hd ht (fun q => kt (decide_eq_true q) H locs cells slots ls ha) (fun q => kf (fun z => q (of_decide_eq_true z)) H locs cells slots ls ha)
  · exact lv_if_ne hx hb hd ht (fun q => kt (decide_eq_true q) H locs cells slots ls ha) (fun q => kf (fun z => of_decide_eq_true z q) H locs cells slots ls ha)
  · exact lv_if_lt hx hb hd ht (fun q => kt (decide_eq_true q) H locs cells slots ls ha) (fun q => kf (fun z => q (of_decide_eq_true z)) H locs cells slots ls ha)
  · exact lv_if_ge hx hb hd ht (fun q => kt (decide_eq_true q) H locs cells slots ls ha) (fun q => kf (fun z => q (of_decide_eq_true z)) H locs cells slots ls ha)
  · exact lv_if_gt hx hb hd ht (fun q => kt (decide_eq_true q) H locs cells slots ls ha) (fun q => kf (fun z => q (of_decide_eq_true z)) H locs cells slots ls ha)
  · exact lv_if_le hx hb hd ht (fun q => kt (decide_eq_true q) H locs cells slots ls ha) (fun q => kf (fun z => q (of_decide_eq_true z)) H locs cells slots ls ha)
theorem jg_icmp (hx : p.tables.exec = Jvm.exec) (hb : c.code = cc) {x y : Int32} {op : Jvm.ClassFile.Cond} {off : Int} {tgt : Nat} (hd : decode cc pc = .ok (.if_icmp op off, 3)) (ht : (pc : Int) + off = (tgt : Int)) (kt : jm_cc op x y = true → jm_go X p lc e R s m args below meth c nL h0 Q tgt l r h) (kf : ¬ jm_cc op x y = true → jm_go X p lc e R s m args below meth c nL h0 Q (pc + 3) l r h) : jm_go X p lc e R s m args below meth c nL h0 Q pc l (.int y :: .int x :: r) h := by
  intro H locs cells slots ls ha
  cases op
  · exact lv_icmp_eq hx hb hd ht (fun q => kt (decide_eq_true q) H locs cells slots ls ha) (fun q => kf (fun z => q (of_decide_eq_true z)) H locs cells slots ls ha)
  · exact lv_icmp_ne hx hb hd ht (fun q => kt (decide_eq_true q) H locs cells slots ls ha) (fun q => kf (fun z => of_decide_eq_true z q) H locs cells slots ls ha)
  · exact lv_icmp_lt hx hb hd ht (fun q => kt (decide_eq_true q) H locs cells slots ls ha) (fun q => kf (fun z => q (of_decide_eq_true z)) H locs cells slots ls ha)
  · exact lv_icmp_ge hx hb hd ht (fun q => kt (decide_eq_true q) H locs cells slots ls ha) (fun q => kf (fun z => q (of_decide_eq_true z)) H locs cells slots ls ha)
  · exact lv_icmp_gt hx hb hd ht (fun q => kt (decide_eq_true q) H locs cells slots ls ha) (fun q => kf (fun z => q (of_decide_eq_true z)) H locs cells slots ls ha)
  · exact lv_icmp_le hx hb hd ht (fun q => kt (decide_eq_true q) H locs cells slots ls ha) (fun q => kf (fun z => q (of_decide_eq_true z)) H locs cells slots ls ha)
theorem jg_goto (hx : p.tables.exec = Jvm.exec) (hb : c.code = cc) {off : Int} {tgt : Nat} (hd : decode cc pc = .ok (.goto off, 3)) (ht : (pc : Int) + off = (tgt : Int)) (k : jm_go X p lc e R s m args below meth c nL h0 Q tgt l r h) : jm_go X p lc e R s m args below meth c nL h0 Q pc l r h := fun H locs cells slots ls ha => lv_goto hx hb hd ht (k H locs cells slots ls ha)
theorem jg_tableIn (hx : p.tables.exec = Jvm.exec) (hb : c.code = cc) {d lo hi : Int} {offs : Array Int} {len : Nat} {x : Int32} {off : Int} {tgt : Nat} (hd : decode cc pc = .ok (.tableswitch d lo hi offs, len)) (h1 : ¬ (x.toInt < lo ∨ hi < x.toInt)) (ho : offs[(x.toInt - lo).toNat]? = some off) (ht : (pc : Int) + off = (tgt : Int)) (k : jm_go X p lc e R s m args below meth c nL h0 Q tgt l r h) : jm_go X p lc e R s m args below meth c nL h0 Q pc l (.int x :: r) h := fun H locs cells slots ls ha => lv_tableIn hx hb hd (fun q => h1 (Or.inl q)) (fun q => h1 (Or.inr q)) ho ht (k H locs cells slots ls ha)
theorem jg_tableOut (hx : p.tables.exec = Jvm.exec) (hb : c.code = cc) {d lo hi : Int} {offs : Array Int} {len : Nat} {x : Int32} {tgt : Nat} (hd : decode cc pc = .ok (.tableswitch d lo hi offs, len)) (h1 : x.toInt < lo ∨ hi < x.toInt) (ht : (pc : Int) + d = (tgt : Int)) (k : jm_go X p lc e R s m args below meth c nL h0 Q tgt l r h) : jm_go X p lc e R s m args below meth c nL h0 Q pc l (.int x :: r) h := fun H locs cells slots ls ha => lv_tableOut hx hb hd h1 ht (k H locs cells slots ls ha)
theorem jg_lookup (hx : p.tables.exec = Jvm.exec) (hb : c.code = cc) {d : Int} {ps : Array (Int × Int)} {len : Nat} {x : Int32} {tgt : Nat} (hd : decode cc pc = .ok (.lookupswitch d ps, len)) (hp : (ps.toList.zip (ps.toList.drop 1)).all (fun (a, next) => a.1 < next.1) = true) (ht : (pc : Int) + Op.lookupswitch.offset ps.toList d x.toInt = (tgt : Int)) (k : jm_go X p lc e R s m args below meth c nL h0 Q tgt l r h) : jm_go X p lc e R s m args below meth c nL h0 Q pc l (.int x :: r) h := fun H locs cells slots ls ha => lv_lookup hx hb hd hp rfl ht (k H locs cells slots ls ha)
end JMG
