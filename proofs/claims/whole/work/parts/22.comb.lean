/-! ===== LEVEL 2: pieces of which the equations are made ===== -/
theorem jbd {α : Type} {o : Option α} {f : α → Option jm_R} {r : jm_R} (H : o.bind f = some r) : ∃ x, o = some x ∧ f x = some r := by
  cases o with
  | none => cases H
  | some x => exact ⟨x, rfl, H⟩
def jr_I (h : jm_H) (a ci k t : Nat) : Option Int32 := match jm_gf h a ci k t with
  | some (.int x) => some x
  | _ => none
def jr_L (h : jm_H) (a ci k t : Nat) : Option Int64 := match jm_gf h a ci k t with
  | some (.long x) => some x
  | _ => none
def jr_R (h : jm_H) (a ci k t : Nat) : Option Nat := match jm_gf h a ci k t with
  | some (.ref x) => some x
  | _ => none
theorem jr_I_inv {h : jm_H} {a ci k t : Nat} {x : Int32} (H : jr_I h a ci k t = some x) : jm_gf h a ci k t = some (.int x) := by
  unfold jr_I at H
  split at H
  · rename_i y hy; cases H; exact hy
  · cases H
theorem jr_L_inv {h : jm_H} {a ci k t : Nat} {x : Int64} (H : jr_L h a ci k t = some x) : jm_gf h a ci k t = some (.long x) := by
  unfold jr_L at H
  split at H
  · rename_i y hy; cases H; exact hy
  · cases H
theorem jr_R_inv {h : jm_H} {a ci k t : Nat} {x : Nat} (H : jr_R h a ci k t = some x) : jm_gf h a ci k t = some (.ref x) := by
  unfold jr_R at H
  split at H
  · rename_i y hy; cases H; exact hy
  · cases H
/-- what a call brings: the rest, of its answer, or of what it throws -/
def jc_I (o : Option jm_R) (k : Int32 → jm_H → Option jm_R) (kx : Nat → jm_H → Option jm_R) : Option jm_R := match o with
  | some (.inl (some (.int x)), h) => k x h
  | some (.inr x, h) => kx x h
  | _ => none
def jc_L (o : Option jm_R) (k : Int64 → jm_H → Option jm_R) (kx : Nat → jm_H → Option jm_R) : Option jm_R := match o with
  | some (.inl (some (.long x)), h) => k x h
  | some (.inr x, h) => kx x h
  | _ => none
def jc_D (o : Option jm_R) (k : UInt64 → jm_H → Option jm_R) (kx : Nat → jm_H → Option jm_R) : Option jm_R := match o with
  | some (.inl (some (.double x)), h) => k x h
  | some (.inr x, h) => kx x h
  | _ => none
def jc_R (o : Option jm_R) (k : Nat → jm_H → Option jm_R) (kx : Nat → jm_H → Option jm_R) : Option jm_R := match o with
  | some (.inl (some (.ref x)), h) => k x h
  | some (.inr x, h) => kx x h
  | _ => none
def jc_V (o : Option jm_R) (k : jm_H → Option jm_R) (kx : Nat → jm_H → Option jm_R) : Option jm_R := match o with
  | some (.inl none, h) => k h
  | some (.inr x, h) => kx x h
  | _ => none
/-- a throw handed on -/
def jx (x : Nat) (h : jm_H) : Option jm_R := some (.inr x, h)
/-- the receiver is an object of a class -/
def jm_O (h : jm_H) (b cn : Nat) (o : Option jm_R) : Option jm_R := if jm_ob h b cn = true then o else none
def jm_U (b : Nat) (o : Option jm_R) : Option jm_R := if 128 ≤ b then o else none
theorem jm_O_inv {h : jm_H} {b cn : Nat} {o : Option jm_R} {r : jm_R} (H : jm_O h b cn o = some r) : jm_ob h b cn = true ∧ o = some r := by
  unfold jm_O at H
  split at H
  · rename_i q; exact ⟨q, H⟩
  · cases H
theorem jm_U_inv {b : Nat} {o : Option jm_R} {r : jm_R} (H : jm_U b o = some r) : 128 ≤ b ∧ o = some r := by
  unfold jm_U at H
  split at H
  · rename_i q; exact ⟨q, H⟩
  · cases H
theorem jcI {o : Option jm_R} {k : Int32 → jm_H → Option jm_R} {kx : Nat → jm_H → Option jm_R} {r : jm_R} (H : jc_I o k kx = some r) : (∃ x h, o = some (.inl (some (.int x)), h) ∧ k x h = some r) ∨ ∃ x h, o = some (.inr x, h) ∧ kx x h = some r := by
  unfold jc_I at H
  split at H
  · exact Or.inl ⟨_, _, rfl, H⟩
  · exact Or.inr ⟨_, _, rfl, H⟩
  · cases H
theorem jcL {o : Option jm_R} {k : Int64 → jm_H → Option jm_R} {kx : Nat → jm_H → Option jm_R} {r : jm_R} (H : jc_L o k kx = some r) : (∃ x h, o = some (.inl (some (.long x)), h) ∧ k x h = some r) ∨ ∃ x h, o = some (.inr x, h) ∧ kx x h = some r := by
  unfold jc_L at H
  split at H
  · exact Or.inl ⟨_, _, rfl, H⟩
  · exact Or.inr ⟨_, _, rfl, H⟩
  · cases H
theorem jcD {o : Option jm_R} {k : UInt64 → jm_H → Option jm_R} {kx : Nat → jm_H → Option jm_R} {r : jm_R} (H : jc_D o k kx = some r) : (∃ x h, o = some (.inl (some (.double x)), h) ∧ k x h = some r) ∨ ∃ x h, o = some (.inr x, h) ∧ kx x h = some r := by
  unfold jc_D at H
  split at H
  · exact Or.inl ⟨_, _, rfl, H⟩
  · exact Or.inr ⟨_, _, rfl, H⟩
  · cases H
theorem jcR {o : Option jm_R} {k : Nat → jm_H → Option jm_R} {kx : Nat → jm_H → Option jm_R} {r : jm_R} (H : jc_R o k kx = some r) : (∃ x h, o = some (.inl (some (.ref x)), h) ∧ k x h = some r) ∨ ∃ x h, o = some (.inr x, h) ∧ kx x h = some r := by
  unfold jc_R at H
  split at H
  · exact Or.inl ⟨_, _, rfl, H⟩
  · exact Or.inr ⟨_, _, rfl, H⟩
  · cases H
theorem jcV {o : Option jm_R} {k : jm_H → Option jm_R} {kx : Nat → jm_H → Option jm_R} {r : jm_R} (H : jc_V o k kx = some r) : (∃ h, o = some (.inl none, h) ∧ k h = some r) ∨ ∃ x h, o = some (.inr x, h) ∧ kx x h = some r := by
  unfold jc_V at H
  split at H
  · exact Or.inl ⟨_, rfl, H⟩
  · exact Or.inr ⟨_, _, rfl, H⟩
  · cases H
/-- a method's instructions -/
theorem jq {c : ByteArray} {L : List (Nat × Instr × Nat)} (hL : ∀ q ∈ L, decode c q.1 = .ok (q.2.1, q.2.2)) (k : Nat) {pc n : Nat} {i : Instr} (hk : L[k]? = some (pc, i, n)) : decode c pc = .ok (i, n) := hL (pc, i, n) (List.mem_of_getElem? hk)
section JMB
variable {d : Nat} {m y : jm_M} {i : Instr} {n pc : Nat} {l : List (Option Value)} {st rest : List Value} {h h' : jm_H} {q : jm_C} {r : jm_R} {c : jm_M → List Value → jm_H → Option jm_R}
theorem jb_nx (hd : decode m.2.1 pc = .ok (i, n)) (ho : jm_op (jm_D d) m i n pc l st h = some (.inl (q, h'))) : jm_B d m (pc, l, st) h = jm_B d m q h' := by
  rw [jb hd, ho]
  rfl
theorem jb_rt (hd : decode m.2.1 pc = .ok (i, n)) (ho : jm_op (jm_D d) m i n pc l st h = some (.inr r)) : jm_B d m (pc, l, st) h = some r := by
  rw [jb hd, ho]
  rfl
theorem jo_ifT {op : Jvm.ClassFile.Cond} {off : Int} {x : Int32} {S : jm_S} (hc : jm_cc op x 0 = true) (hp : jm_jp pc off l rest h = some S) : jm_op c m (.ifCond op off) 3 pc l (.int x :: rest) h = some S := by
  show (if (3 : Nat) = 3 then (if jm_cc op x 0 = true then jm_jp pc off l rest h else jm_nx (pc + 3) l rest h) else none) = _
  rw [if_pos rfl, if_pos hc]
  exact hp
theorem jo_ifF {op : Jvm.ClassFile.Cond} {off : Int} {x : Int32} (hc : ¬ jm_cc op x 0 = true) : jm_op c m (.ifCond op off) 3 pc l (.int x :: rest) h = some (.inl ((pc + 3, l, rest), h)) := by
  show (if (3 : Nat) = 3 then (if jm_cc op x 0 = true then jm_jp pc off l rest h else jm_nx (pc + 3) l rest h) else none) = _
  rw [if_pos rfl, if_neg hc]
  rfl
theorem jo_icT {op : Jvm.ClassFile.Cond} {off : Int} {x y : Int32} {S : jm_S} (hc : jm_cc op x y = true) (hp : jm_jp pc off l rest h = some S) : jm_op c m (.if_icmp op off) 3 pc l (.int y :: .int x :: rest) h = some S := by
  show (if (3 : Nat) = 3 then (if jm_cc op x y = true then jm_jp pc off l rest h else jm_nx (pc + 3) l rest h) else none) = _
  rw [if_pos rfl, if_pos hc]
  exact hp
theorem jo_icF {op : Jvm.ClassFile.Cond} {off : Int} {x y : Int32} (hc : ¬ jm_cc op x y = true) : jm_op c m (.if_icmp op off) 3 pc l (.int y :: .int x :: rest) h = some (.inl ((pc + 3, l, rest), h)) := by
  show (if (3 : Nat) = 3 then (if jm_cc op x y = true then jm_jp pc off l rest h else jm_nx (pc + 3) l rest h) else none) = _
  rw [if_pos rfl, if_neg hc]
  rfl
/-- conditions -/
theorem jz_eqT {x y : Int32} (h : x = y) : jm_cc .eq x y = true := decide_eq_true h
theorem jz_eqF {x y : Int32} (h : ¬ x = y) : ¬ jm_cc .eq x y = true := fun q => h (of_decide_eq_true q)
theorem jz_neT {x y : Int32} (h : ¬ x = y) : jm_cc .ne x y = true := decide_eq_true h
theorem jz_neF {x y : Int32} (h : x = y) : ¬ jm_cc .ne x y = true := fun q => (of_decide_eq_true q : ¬ x = y) h
theorem jz_ltT {x y : Int32} (h : x < y) : jm_cc .lt x y = true := decide_eq_true h
theorem jz_ltF {x y : Int32} (h : ¬ x < y) : ¬ jm_cc .lt x y = true := fun q => h (of_decide_eq_true q)
theorem jz_gtT {x y : Int32} (h : y < x) : jm_cc .gt x y = true := decide_eq_true h
theorem jz_gtF {x y : Int32} (h : ¬ y < x) : ¬ jm_cc .gt x y = true := fun q => h (of_decide_eq_true q)
theorem jz_geT {x y : Int32} (h : ¬ x < y) : jm_cc .ge x y = true := decide_eq_true (Int32.not_lt.mp h)
theorem jz_geF {x y : Int32} (h : x < y) : ¬ jm_cc .ge x y = true := fun q => Int32.not_lt.mpr (of_decide_eq_true q : x ≥ y) h
theorem jz_leT {x y : Int32} (h : ¬ y < x) : jm_cc .le x y = true := decide_eq_true (Int32.not_lt.mp h)
theorem jz_leF {x y : Int32} (h : y < x) : ¬ jm_cc .le x y = true := fun q => Int32.not_lt.mpr (of_decide_eq_true q : x ≤ y) h
/-- fields -/
theorem jo_gf {k ci f t o a : Nat} {v : Value} (hp : jm_fp m.2.2.2.2.2.1 k = some (ci, f, t, o)) (hg : jm_gf h a ci f t = some v) : jm_op c m (.getfield k) 3 pc l (.ref a :: rest) h = some (.inl ((pc + 3, l, v :: rest), h)) := by
  simp only [jm_op, if_true, hp, hg]
  rfl
theorem jo_pf {k ci f t o a : Nat} {v : Value} (hp : jm_fp m.2.2.2.2.2.1 k = some (ci, f, t, o)) (hf : jm_fin ci f = false ∨ (o = 2 ∧ m.2.2.2.2.2.2.1 = 2)) (hg : jm_pf h a ci f t v = some h') : jm_op c m (.putfield k) 3 pc l (v :: .ref a :: rest) h = some (.inl ((pc + 3, l, rest), h')) := by
  simp only [jm_op, if_true, hp, hf, hg]
  rfl
theorem jo_len {a k : Nat} (hg : jm_len h a = some k) : jm_op c m .arraylength 1 pc l (.ref a :: rest) h = some (.inl ((pc + 1, l, .int (Int32.ofNat k) :: rest), h)) := by
  simp only [jm_op, if_true, hg]
  rfl
theorem jm_ali_23 {a : Nat} {i x : Int32} (hg : jm_ali h a 3 i = some x) : jm_ali h a 2 i = none := by
  unfold jm_ali at hg ⊢
  split at hg
  · rename_i t' n f hc
    split at hg
    · rename_i hq
      rw [if_neg (fun z => by have := z.1; omega)]
    · cases hg
  · cases hg
theorem jm_asi_23 {a : Nat} {i x : Int32} (hg : jm_asi h a 3 i x = some h') : jm_asi h a 2 i x = none := by
  unfold jm_asi at hg ⊢
  split at hg
  · rename_i t' n f hc
    split at hg
    · rename_i hq
      rw [if_neg (fun z => by have := z.2.1; omega)]
    · cases hg
  · cases hg
theorem jo_ial {a : Nat} {i x : Int32} (hg : jm_ali h a 0 i = some x) : jm_op c m .iaload 1 pc l (.int i :: .ref a :: rest) h = some (.inl ((pc + 1, l, .int x :: rest), h)) := by
  simp only [jm_op, if_true, hg]
  rfl
theorem jo_cal {a : Nat} {i x : Int32} (hg : jm_ali h a 4 i = some x) : jm_op c m .caload 1 pc l (.int i :: .ref a :: rest) h = some (.inl ((pc + 1, l, .int x :: rest), h)) := by
  simp only [jm_op, if_true, hg]
  rfl
theorem jo_bal {a : Nat} {i x : Int32} (hg : jm_ali h a 2 i = some x) : jm_op c m .baload 1 pc l (.int i :: .ref a :: rest) h = some (.inl ((pc + 1, l, .int x :: rest), h)) := by
  simp only [jm_op, if_true, hg]
  rfl
theorem jo_zal {a : Nat} {i x : Int32} (hg : jm_ali h a 3 i = some x) : jm_op c m .baload 1 pc l (.int i :: .ref a :: rest) h = some (.inl ((pc + 1, l, .int x :: rest), h)) := by
  simp only [jm_op, if_true, hg, jm_ali_23 hg]
  rfl
theorem jo_lal {a : Nat} {i : Int32} {x : Int64} (hg : jm_all h a i = some x) : jm_op c m .laload 1 pc l (.int i :: .ref a :: rest) h = some (.inl ((pc + 1, l, .long x :: rest), h)) := by
  simp only [jm_op, if_true, hg]
  rfl
theorem jo_ral {a b : Nat} {i : Int32} (hg : jm_alr h a i = some b) : jm_op c m .aaload 1 pc l (.int i :: .ref a :: rest) h = some (.inl ((pc + 1, l, .ref b :: rest), h)) := by
  simp only [jm_op, if_true, hg]
  rfl
theorem jo_ias {a : Nat} {i x : Int32} (hg : jm_asi h a 0 i x = some h') : jm_op c m .iastore 1 pc l (.int x :: .int i :: .ref a :: rest) h = some (.inl ((pc + 1, l, rest), h')) := by
  simp only [jm_op, if_true, hg]
  rfl
theorem jo_cas {a : Nat} {i x : Int32} (hg : jm_asi h a 4 i x = some h') : jm_op c m .castore 1 pc l (.int x :: .int i :: .ref a :: rest) h = some (.inl ((pc + 1, l, rest), h')) := by
  simp only [jm_op, if_true, hg]
  rfl
theorem jo_bas {a : Nat} {i x : Int32} (hg : jm_asi h a 2 i x = some h') : jm_op c m .bastore 1 pc l (.int x :: .int i :: .ref a :: rest) h = some (.inl ((pc + 1, l, rest), h')) := by
  simp only [jm_op, if_true, hg]
  rfl
theorem jo_zas {a : Nat} {i x : Int32} (hg : jm_asi h a 3 i x = some h') : jm_op c m .bastore 1 pc l (.int x :: .int i :: .ref a :: rest) h = some (.inl ((pc + 1, l, rest), h')) := by
  simp only [jm_op, if_true, hg, jm_asi_23 hg]
  rfl
theorem jo_las {a : Nat} {i : Int32} {x : Int64} (hg : jm_asl h a i x = some h') : jm_op c m .lastore 1 pc l (.long x :: .int i :: .ref a :: rest) h = some (.inl ((pc + 1, l, rest), h')) := by
  simp only [jm_op, if_true, hg]
  rfl
theorem jo_ras {a b : Nat} {i : Int32} (hg : jm_asr h a i b = some h') : jm_op c m .aastore 1 pc l (.ref b :: .int i :: .ref a :: rest) h = some (.inl ((pc + 1, l, rest), h')) := by
  simp only [jm_op, if_true, hg]
  rfl
theorem jo_newa {t : ArrayType} {k : Nat} {x : Int32} (hk : jm_ak t = some k) (hg : jm_newa h k x = some h') : jm_op c m (.newarray t) 2 pc l (.int x :: rest) h = some (.inl ((pc + 2, l, .ref h.1 :: rest), h')) := by
  simp only [jm_op, if_true, hk, hg]
  rfl
theorem jo_anew {k ci t : Nat} {x : Int32} (hk : jm_np m.2.2.2.2.2.1 k = some (ci, t)) (ht : t = 5 ∨ t = 6) (hg : jm_newa h t x = some h') : jm_op c m (.anewarray k) 3 pc l (.int x :: rest) h = some (.inl ((pc + 3, l, .ref h.1 :: rest), h')) := by
  simp only [jm_op, if_true, hk, ht, hg]
  rfl
theorem jo_new {k ci t : Nat} {fs : List Value} (hk : jm_np m.2.2.2.2.2.1 k = some (ci, t)) (hc : ci < 100) (hf : jm_nf ci = some fs) : jm_op c m (.new k) 3 pc l rest h = some (.inl ((pc + 3, l, .ref h.1 :: rest), jm_push h (.inr (ci, fs)) fs.length)) := by
  simp only [jm_op, if_true, hk, hc, hf]
  rfl
theorem jo_thr {k x t : Nat} (hk : jm_np m.2.2.2.2.2.1 k = some (100 + x, t)) (ht : jm_thr m pc x st h = some (.inr (.inr x, jm_gap h))) : jm_op c m (.new k) 3 pc l st h = some (.inr (.inr x, jm_gap h)) := by
  simp only [jm_op, if_true, hk]
  rw [if_neg (by omega), Nat.add_sub_cancel_left]
  exact ht
theorem jo_throw {x k j : Nat} {z : Nat} (h0 : m.2.2.2.2.1 = [] ∧ m.2.2.2.2.2.1 = 11 ∧ x ≤ 2 ∧ jm_cat st ≤ 8) (h1 : decode m.2.1 (pc + 3) = .ok (.dup, 1)) (h2 : decode m.2.1 (pc + 4) = .ok (.ldc k, 2)) (h3 : jm_sp 11 k = some z) (h4 : decode m.2.1 (pc + 6) = .ok (.invokespecial j, 3)) (h5 : decode m.2.1 (pc + 9) = .ok (.athrow, 1)) (h6 : j = jm_ic x) : jm_thr m pc x st h = some (.inr (.inr x, jm_gap h)) := by
  unfold jm_thr
  rw [if_pos h0]
  simp only [h1, h2, h3, h4, h5, h6, if_true]
theorem jo_throwW {x k j : Nat} {z : Nat} (h0 : m.2.2.2.2.1 = [] ∧ m.2.2.2.2.2.1 = 11 ∧ x ≤ 2 ∧ jm_cat st ≤ 8) (h1 : decode m.2.1 (pc + 3) = .ok (.dup, 1)) (h2 : decode m.2.1 (pc + 4) = .ok (.ldc_w k, 3)) (h3 : jm_sp 11 k = some z) (h4 : decode m.2.1 (pc + 7) = .ok (.invokespecial j, 3)) (h5 : decode m.2.1 (pc + 10) = .ok (.athrow, 1)) (h6 : j = jm_ic x) : jm_thr m pc x st h = some (.inr (.inr x, jm_gap h)) := by
  unfold jm_thr
  rw [if_pos h0]
  simp only [h1, h2, h3, h4, h5, h6, if_true]
/-- calls -/
theorem jo_cv {k b : Nat} {vs : List Value} {res : jm_R} {S : jm_S} (hk : jm_mp m.2.2.2.2.2.1 k = some (0, y)) (hn : y.2.2.2.2.2.2.2 ≤ st.length) (hs : st.drop y.2.2.2.2.2.2.2 = .ref b :: rest) (hc : jm_cat rest ≤ 8) (ho : jm_ob h b y.2.2.2.2.2.1 = true) (hv : .ref b :: (st.take y.2.2.2.2.2.2.2).reverse = vs) (hr : c y vs h = some res) (hS : jm_ret m pc l rest (some res) = some S) : jm_op c m (.invokevirtual k) 3 pc l st h = some S := by
  subst hv
  simp only [jm_op, if_true, hk]
  unfold jm_cv
  simp only [hn, if_true, hs, hc, ho, and_self, hr]
  exact hS
theorem jo_ci {k b w : Nat} {vs : List Value} {h' : jm_H} (hw : w = 2 ∨ w = 3) (hk : jm_mp m.2.2.2.2.2.1 k = some (w, y)) (hn : y.2.2.2.2.2.2.2 ≤ st.length) (hs : st.drop y.2.2.2.2.2.2.2 = .ref b :: rest) (hc : jm_cat rest ≤ 8) (hb : 128 ≤ b) (hv : .ref b :: (st.take y.2.2.2.2.2.2.2).reverse = vs) (hr : c y vs h = some (.inl none, h')) : jm_op c m (.invokespecial k) 3 pc l st h = some (.inl ((pc + 3, l, rest), h')) := by
  subst hv
  have h1 : jm_ci c y pc l st h = some (.inl ((pc + 3, l, rest), h')) := by
    unfold jm_ci
    simp only [hn, if_true, hs, hc, hb, and_self, hr]
    rfl
  rcases hw with rfl | rfl <;> simp only [jm_op, if_true, hk] <;> exact h1
theorem jo_pc {k b : Nat} {v : Option Value} {vs : List Value} {h' : jm_H} (hk : jm_mp m.2.2.2.2.2.1 k = some (3, y)) (hn : y.2.2.2.2.2.2.2 ≤ st.length) (hs : st.drop y.2.2.2.2.2.2.2 = .ref b :: rest) (hc : jm_cat rest ≤ 8) (hb : 128 ≤ b) (hv : .ref b :: (st.take y.2.2.2.2.2.2.2).reverse = vs) (hr : c y vs h = some (.inl v, h')) : jm_op c m (.invokespecial k) 3 pc l st h = some (.inl ((pc + 3, l, v.toList ++ rest), h')) := by
  subst hv
  have h1 : jm_ci c y pc l st h = some (.inl ((pc + 3, l, v.toList ++ rest), h')) := by
    unfold jm_ci
    simp only [hn, if_true, hs, hc, hb, and_self, hr]
    rfl
  simp only [jm_op, if_true, hk]
  exact h1
theorem jo_cs {k w : Nat} {vs : List Value} {res : jm_R} {S : jm_S} (hw : w = 1 ∨ w = 4) (hk : jm_mp m.2.2.2.2.2.1 k = some (w, y)) (hn : y.2.2.2.2.2.2.2 ≤ st.length) (hs : st.drop y.2.2.2.2.2.2.2 = rest) (hc : jm_cat rest ≤ 8) (hv : (st.take y.2.2.2.2.2.2.2).reverse = vs) (hr : c y vs h = some res) (hS : jm_ret m pc l rest (some res) = some S) : jm_op c m (.invokestatic k) 3 pc l st h = some S := by
  subst hv
  subst hs
  have h1 : jm_cs c m y pc l st h = some S := by
    unfold jm_cs
    simp only [hn, hc, and_self, if_true, hr]
    exact hS
  rcases hw with rfl | rfl <;> simp only [jm_op, if_true, hk] <;> exact h1
theorem jo_ret {v : Option Value} {h' : jm_H} : jm_ret m pc l rest (some (.inl v, h')) = some (.inl ((pc + 3, l, v.toList ++ rest), h')) := rfl
theorem jo_exn {x : Nat} {h' : jm_H} (h0 : m.2.2.2.2.1 = []) : jm_ret m pc l rest (some (.inr x, h')) = some (.inr (.inr x, h')) := by
  show jm_ex m pc l x h' = _
  unfold jm_ex
  rw [if_pos h0]
theorem jo_cpy {k a0 a : Nat} {sp dp n : Int32} {z : jm_M} (hk : jm_mp m.2.2.2.2.2.1 k = some (13, z)) (hc : jm_cat rest ≤ 8) (hg : jm_cpy h a0 sp a dp n = some h') : jm_op c m (.invokestatic k) 3 pc l (.int n :: .int dp :: .ref a :: .int sp :: .ref a0 :: rest) h = some (.inl ((pc + 3, l, rest), h')) := by
  simp only [jm_op, if_true, hk, hc, hg]
  rfl
theorem jo_mx {k : Nat} {x y : Int32} {z : jm_M} (hk : jm_mp m.2.2.2.2.2.1 k = some (11, z)) (hc : jm_cat rest ≤ 8) : jm_op c m (.invokestatic k) 3 pc l (.int y :: .int x :: rest) h = some (.inl ((pc + 3, l, .int (if x < y then y else x) :: rest), h)) := by
  simp only [jm_op, if_true, hk, hc]
  rfl
theorem jo_mn {k : Nat} {x y : Int32} {z : jm_M} (hk : jm_mp m.2.2.2.2.2.1 k = some (12, z)) (hc : jm_cat rest ≤ 8) : jm_op c m (.invokestatic k) 3 pc l (.int y :: .int x :: rest) h = some (.inl ((pc + 3, l, .int (if y < x then y else x) :: rest), h)) := by
  simp only [jm_op, if_true, hk, hc]
  rfl
theorem jo_oi {k a : Nat} {z : jm_M} (hk : jm_mp m.2.2.2.2.2.1 k = some (10, z)) (hc : jm_cat rest ≤ 8) (ha : 128 ≤ a) : jm_op c m (.invokespecial k) 3 pc l (.ref a :: rest) h = some (.inl ((pc + 3, l, rest), h)) := by
  simp only [jm_op, if_true, hk, hc, ha, and_self]
  rfl
end JMB
