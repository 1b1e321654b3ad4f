/-! ===== LEVEL 2: more pieces ===== -/
def jl_new (h : jm_H) (ci : Nat) (fs : List Value) (n : Nat) (k : Nat → jm_H → Option jm_R) : Option jm_R := k h.1 (jm_push h (.inr (ci, fs)) n)
theorem jl_new_inv {h : jm_H} {ci : Nat} {fs : List Value} {n : Nat} {k : Nat → jm_H → Option jm_R} {r : jm_R} (H : jl_new h ci fs n k = some r) : ∃ a h1, h.1 = a ∧ jm_push h (.inr (ci, fs)) n = h1 ∧ k a h1 = some r := ⟨_, _, rfl, rfl, H⟩
def jl_newa (h : jm_H) (t : Nat) (n : Int32) (k : Nat → jm_H → Option jm_R) : Option jm_R := (jm_newa h t n).bind fun h1 => k h.1 h1
theorem jl_newa_inv {h : jm_H} {t : Nat} {n : Int32} {k : Nat → jm_H → Option jm_R} {r : jm_R} (H : jl_newa h t n k = some r) : ∃ a h1, h.1 = a ∧ jm_newa h t n = some h1 ∧ k a h1 = some r := by
  obtain ⟨h1, e, H⟩ := jbd H
  exact ⟨_, h1, rfl, e, H⟩
def jm_Y (ty : FieldType) (x : Int32) (o : Option jm_R) : Option jm_R := if narrow ty (.int x) = .int x then o else none
theorem jm_Y_inv {ty : FieldType} {x : Int32} {o : Option jm_R} {r : jm_R} (H : jm_Y ty x o = some r) : narrow ty (.int x) = .int x ∧ o = some r := by
  unfold jm_Y at H
  split at H
  · rename_i q; exact ⟨q, H⟩
  · cases H
section JMB
variable {d : Nat} {m y : jm_M} {i : Instr} {n pc : Nat} {l : List (Option Value)} {st rest : List Value} {h h' : jm_H} {q : jm_C} {r : jm_R} {c : jm_M → List Value → jm_H → Option jm_R}
theorem jo_newo {k ci t n a : Nat} {fs : List Value} (hk : jm_np m.2.2.2.2.2.1 k = some (ci, t)) (hc : ci < 100) (hf : jm_nf ci = some fs) (hn : fs.length = n) (e1 : h.1 = a) (e2 : jm_push h (.inr (ci, fs)) n = h') : jm_op c m (.new k) 3 pc l rest h = some (.inl ((pc + 3, l, .ref a :: rest), h')) := by
  subst hn e1 e2
  exact jo_new hk hc hf
theorem jo_newb {t : ArrayType} {k a : Nat} {x : Int32} (hk : jm_ak t = some k) (e1 : h.1 = a) (hg : jm_newa h k x = some h') : jm_op c m (.newarray t) 2 pc l (.int x :: rest) h = some (.inl ((pc + 2, l, .ref a :: rest), h')) := by
  subst e1
  exact jo_newa hk hg
theorem jo_anewb {k ci t a : Nat} {x : Int32} (hk : jm_np m.2.2.2.2.2.1 k = some (ci, t)) (ht : t = 5 ∨ t = 6) (e1 : h.1 = a) (hg : jm_newa h t x = some h') : jm_op c m (.anewarray k) 3 pc l (.int x :: rest) h = some (.inl ((pc + 3, l, .ref a :: rest), h')) := by
  subst e1
  exact jo_anew hk ht hg
theorem jo_idiv {x y : Int32} (hy : ¬ y = 0) : jm_op c m .idiv 1 pc l (.int y :: .int x :: rest) h = some (.inl ((pc + 1, l, .int (x / y) :: rest), h)) := by
  simp only [jm_op, if_true, hy, if_false]
  rfl
theorem jo_irem {x y : Int32} (hy : ¬ y = 0) : jm_op c m .irem 1 pc l (.int y :: .int x :: rest) h = some (.inl ((pc + 1, l, .int (x - x / y * y) :: rest), h)) := by
  simp only [jm_op, if_true, hy, if_false]
  rfl
theorem jo_ldiv {x y : Int64} (hy : ¬ y = 0) : jm_op c m .ldiv 1 pc l (.long y :: .long x :: rest) h = some (.inl ((pc + 1, l, .long (x / y) :: rest), h)) := by
  simp only [jm_op, if_true, hy, if_false]
  rfl
theorem jo_lrem {x y : Int64} (hy : ¬ y = 0) : jm_op c m .lrem 1 pc l (.long y :: .long x :: rest) h = some (.inl ((pc + 1, l, .long (x - x / y * y) :: rest), h)) := by
  simp only [jm_op, if_true, hy, if_false]
  rfl
theorem jo_ddiv {x y : UInt64} (hy : FP.ddiv x y &&& 0x7fffffffffffffff ≤ 0x7ff0000000000000) : jm_op c m .ddiv 1 pc l (.double y :: .double x :: rest) h = some (.inl ((pc + 1, l, .double (FP.ddiv x y) :: rest), h)) := by
  simp only [jm_op, if_true, hy]
  rfl
theorem jo_iret {ty : FieldType} {x : Int32} (hr : m.2.2.2.1 = some ty) (hn : narrow ty (.int x) = .int x) : jm_op c m .ireturn 1 pc l [.int x] h = some (.inr (.inl (some (.int x)), h)) := by
  simp only [jm_op, if_true, hr, hn]
theorem jo_exh {x t k : Nat} (h0 : ¬ m.2.2.2.2.1 = []) (h1 : jm_hd m.2.2.2.2.2.1 m.2.2.2.2.1 pc x = some t) (hd : decode m.2.1 t = .ok (.astore_n (Fin.ofNat 4 k), 1)) (hk : (Fin.ofNat 4 k : Fin 4).val < l.length) : jm_ret m pc l rest (some (.inr x, h')) = some (.inl ((t + 1, jm_un l (Fin.ofNat 4 k : Fin 4).val, []), h')) := by
  show jm_ex m pc l x h' = _
  unfold jm_ex
  rw [if_neg h0, h1]
  simp only [hd]
  rw [if_pos hk]
  rfl
theorem jo_lookD {d0 : Int} {ps : Array (Int × Int)} {x : Int32} {S : jm_S} {k : Nat} (h1 : (ps.toList.zip (ps.toList.drop 1)).all (fun (a, next) => a.1 < next.1) = true) (hx : ∀ p ∈ ps.toList, ¬ x.toInt = p.1) (hp : jm_jp pc d0 l rest h = some S) : jm_op c m (.lookupswitch d0 ps) k pc l (.int x :: rest) h = some S := by
  have e : Op.lookupswitch.offset ps.toList d0 x.toInt = d0 := by
    generalize ps.toList = L at hx
    induction L with
    | nil => rfl
    | cons p L ih =>
      obtain ⟨a, o⟩ := p
      rw [Op.lookupswitch.offset_cons, if_neg (fun z => hx _ List.mem_cons_self z.symm)]
      exact ih fun p hp => hx p (List.mem_cons_of_mem _ hp)
  simp only [jm_op, h1, if_true, e]
  exact hp
theorem jo_tabD {d0 lo hi : Int} {offs : Array Int} {x : Int32} {ks : List Int} {S : jm_S} {k : Nat} (h1 : ∀ j : Nat, j < (hi - lo).toNat + 1 → offs[j]? = some d0 ∨ (lo + j) ∈ ks) (hx : ∀ k ∈ ks, ¬ x.toInt = k) (hp : jm_jp pc d0 l rest h = some S) : jm_op c m (.tableswitch d0 lo hi offs) k pc l (.int x :: rest) h = some S := by
  simp only [jm_op]
  by_cases hq : x.toInt < lo ∨ hi < x.toInt
  · rw [if_pos hq]
    exact hp
  · rw [if_neg hq]
    have h2 := h1 (x.toInt - lo).toNat (by omega)
    rcases h2 with h2 | h2
    · rw [h2]
      exact hp
    · exact absurd (by omega) (hx _ h2)
end JMB
