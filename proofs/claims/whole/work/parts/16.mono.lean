/-! ===== the heap grows ===== -/
theorem jm_ex_hp {M : jm_M} {pc : Nat} {l : List (Option Value)} {x : Nat} {h' : jm_H} {S : jm_S} (hS : jm_ex M pc l x h' = some S) : h' = jm_hp S := by
  unfold jm_ex at hS
  split at hS
  · cases hS
    rfl
  · split at hS
    · split at hS
      · split at hS
        · have e1 := jm_nx_eq hS
          subst e1
          rfl
        · cases hS
      · split at hS
        · have e1 := jm_nx_eq hS
          subst e1
          rfl
        · cases hS
      · cases hS
    · cases hS
theorem jm_ret_hp {M : jm_M} {pc : Nat} {l : List (Option Value)} {rest : List Value} {res : jm_R} {S : jm_S} (hS : jm_ret M pc l rest (some res) = some S) : res.2 = jm_hp S := by
  obtain ⟨res1, res2⟩ := res
  cases res1 with
  | inl v =>
    have e1 := jm_nx_eq hS
    subst e1
    rfl
  | inr x => exact jm_ex_hp hS
set_option maxHeartbeats 4000000 in
theorem jm_mono {M : jm_M} {call : jm_M → List Value → jm_H → Option jm_R} (hcall : ∀ y vs h r, jm_okm y → call y vs h = some r → h.1 ≤ r.2.1 ∧ h.2.1 ≤ r.2.2.1) {i : Instr} {n pc : Nat} {l : List (Option Value)} {st : List Value} {h : jm_H} {S : jm_S} (hS : jm_op call M i n pc l st h = some S) : h.1 ≤ (jm_hp S).1 ∧ h.2.1 ≤ (jm_hp S).2.1 := by
  cases i
  all_goals simp only [jm_op, reduceCtorEq] at hS
  case iconst n1 =>
    split at hS
    · rename_i hn
      subst hn
      have e1 := jm_nx_eq hS
      subst e1
      exact ⟨Nat.le_refl _, Nat.le_refl _⟩
    · cases hS
  case bipush n1 =>
    split at hS
    · rename_i hn
      subst hn
      have e1 := jm_nx_eq hS
      subst e1
      exact ⟨Nat.le_refl _, Nat.le_refl _⟩
    · cases hS
  case sipush n1 =>
    split at hS
    · rename_i hn
      subst hn
      have e1 := jm_nx_eq hS
      subst e1
      exact ⟨Nat.le_refl _, Nat.le_refl _⟩
    · cases hS
  case lconst n1 =>
    split at hS
    · rename_i hn
      subst hn
      have e1 := jm_nx_eq hS
      subst e1
      exact ⟨Nat.le_refl _, Nat.le_refl _⟩
    · cases hS
  case dconst n1 =>
    split at hS
    · rename_i hn
      obtain ⟨rfl, rfl⟩ := hn
      have e1 := jm_nx_eq hS
      subst e1
      exact ⟨Nat.le_refl _, Nat.le_refl _⟩
    · cases hS
  case ldc n1 =>
    split at hS
    · rename_i hn
      subst hn
      split at hS
      · rename_i j hj
        have e1 := jm_nx_eq hS
        subst e1
        exact ⟨Nat.le_refl _, Nat.le_refl _⟩
      · cases hS
    · cases hS
  case ldc2_w n1 =>
    split at hS
    · rename_i hn
      subst hn
      split at hS
      · rename_i j hj
        have e1 := jm_nx_eq hS
        subst e1
        exact ⟨Nat.le_refl _, Nat.le_refl _⟩
      · cases hS
    · cases hS
  case iload_n n1 =>
    split at hS
    · rename_i hn
      subst hn
      split at hS
      · rename_i x hj
        have e1 := jm_nx_eq hS
        subst e1
        exact ⟨Nat.le_refl _, Nat.le_refl _⟩
      · cases hS
    · cases hS
  case iload n1 =>
    split at hS
    · rename_i hn
      subst hn
      split at hS
      · rename_i x hj
        have e1 := jm_nx_eq hS
        subst e1
        exact ⟨Nat.le_refl _, Nat.le_refl _⟩
      · cases hS
    · cases hS
  case lload_n n1 =>
    split at hS
    · rename_i hn
      subst hn
      split at hS
      · rename_i x hj
        have e1 := jm_nx_eq hS
        subst e1
        exact ⟨Nat.le_refl _, Nat.le_refl _⟩
      · cases hS
    · cases hS
  case lload n1 =>
    split at hS
    · rename_i hn
      subst hn
      split at hS
      · rename_i x hj
        have e1 := jm_nx_eq hS
        subst e1
        exact ⟨Nat.le_refl _, Nat.le_refl _⟩
      · cases hS
    · cases hS
  case dload n1 =>
    split at hS
    · rename_i hn
      subst hn
      split at hS
      · rename_i x hj
        have e1 := jm_nx_eq hS
        subst e1
        exact ⟨Nat.le_refl _, Nat.le_refl _⟩
      · cases hS
    · cases hS
  case aload_n n1 =>
    split at hS
    · rename_i hn
      subst hn
      split at hS
      · rename_i x hj
        have e1 := jm_nx_eq hS
        subst e1
        exact ⟨Nat.le_refl _, Nat.le_refl _⟩
      · cases hS
    · cases hS
  case aload n1 =>
    split at hS
    · rename_i hn
      subst hn
      split at hS
      · rename_i x hj
        have e1 := jm_nx_eq hS
        subst e1
        exact ⟨Nat.le_refl _, Nat.le_refl _⟩
      · cases hS
    · cases hS
  case istore_n n1 =>
    split at hS
    · rename_i hn
      obtain ⟨rfl, hl⟩ := hn
      split at hS
      · rename_i x r
        have e1 := jm_nx_eq hS
        subst e1
        exact ⟨Nat.le_refl _, Nat.le_refl _⟩
      · cases hS
    · cases hS
  case istore n1 =>
    split at hS
    · rename_i hn
      obtain ⟨rfl, hl⟩ := hn
      split at hS
      · rename_i x r
        have e1 := jm_nx_eq hS
        subst e1
        exact ⟨Nat.le_refl _, Nat.le_refl _⟩
      · cases hS
    · cases hS
  case astore_n n1 =>
    split at hS
    · rename_i hn
      obtain ⟨rfl, hl⟩ := hn
      split at hS
      · rename_i x r
        have e1 := jm_nx_eq hS
        subst e1
        exact ⟨Nat.le_refl _, Nat.le_refl _⟩
      · cases hS
    · cases hS
  case astore n1 =>
    split at hS
    · rename_i hn
      obtain ⟨rfl, hl⟩ := hn
      split at hS
      · rename_i x r
        have e1 := jm_nx_eq hS
        subst e1
        exact ⟨Nat.le_refl _, Nat.le_refl _⟩
      · cases hS
    · cases hS
  case lstore_n n1 =>
    split at hS
    · rename_i hn
      obtain ⟨rfl, hl⟩ := hn
      split at hS
      · rename_i x r
        have e1 := jm_nx_eq hS
        subst e1
        exact ⟨Nat.le_refl _, Nat.le_refl _⟩
      · cases hS
    · cases hS
  case lstore n1 =>
    split at hS
    · rename_i hn
      obtain ⟨rfl, hl⟩ := hn
      split at hS
      · rename_i x r
        have e1 := jm_nx_eq hS
        subst e1
        exact ⟨Nat.le_refl _, Nat.le_refl _⟩
      · cases hS
    · cases hS
  case dstore n1 =>
    split at hS
    · rename_i hn
      obtain ⟨rfl, hl⟩ := hn
      split at hS
      · rename_i x r
        have e1 := jm_nx_eq hS
        subst e1
        exact ⟨Nat.le_refl _, Nat.le_refl _⟩
      · cases hS
    · cases hS
  case iinc n1 d1 =>
    split at hS
    · rename_i hn
      obtain ⟨rfl, hl⟩ := hn
      split at hS
      · rename_i x hj
        have e1 := jm_nx_eq hS
        subst e1
        exact ⟨Nat.le_refl _, Nat.le_refl _⟩
      · cases hS
    · cases hS
  case iadd =>
    split at hS
    · rename_i hn
      subst hn
      split at hS
      · rename_i y x r
        have e1 := jm_nx_eq hS
        subst e1
        exact ⟨Nat.le_refl _, Nat.le_refl _⟩
      · cases hS
    · cases hS
  case isub =>
    split at hS
    · rename_i hn
      subst hn
      split at hS
      · rename_i y x r
        have e1 := jm_nx_eq hS
        subst e1
        exact ⟨Nat.le_refl _, Nat.le_refl _⟩
      · cases hS
    · cases hS
  case imul =>
    split at hS
    · rename_i hn
      subst hn
      split at hS
      · rename_i y x r
        have e1 := jm_nx_eq hS
        subst e1
        exact ⟨Nat.le_refl _, Nat.le_refl _⟩
      · cases hS
    · cases hS
  case iand =>
    split at hS
    · rename_i hn
      subst hn
      split at hS
      · rename_i y x r
        have e1 := jm_nx_eq hS
        subst e1
        exact ⟨Nat.le_refl _, Nat.le_refl _⟩
      · cases hS
    · cases hS
  case ior =>
    split at hS
    · rename_i hn
      subst hn
      split at hS
      · rename_i y x r
        have e1 := jm_nx_eq hS
        subst e1
        exact ⟨Nat.le_refl _, Nat.le_refl _⟩
      · cases hS
    · cases hS
  case ishr =>
    split at hS
    · rename_i hn
      subst hn
      split at hS
      · rename_i y x r
        have e1 := jm_nx_eq hS
        subst e1
        exact ⟨Nat.le_refl _, Nat.le_refl _⟩
      · cases hS
    · cases hS
  case ladd =>
    split at hS
    · rename_i hn
      subst hn
      split at hS
      · rename_i y x r
        have e1 := jm_nx_eq hS
        subst e1
        exact ⟨Nat.le_refl _, Nat.le_refl _⟩
      · cases hS
    · cases hS
  case lsub =>
    split at hS
    · rename_i hn
      subst hn
      split at hS
      · rename_i y x r
        have e1 := jm_nx_eq hS
        subst e1
        exact ⟨Nat.le_refl _, Nat.le_refl _⟩
      · cases hS
    · cases hS
  case lmul =>
    split at hS
    · rename_i hn
      subst hn
      split at hS
      · rename_i y x r
        have e1 := jm_nx_eq hS
        subst e1
        exact ⟨Nat.le_refl _, Nat.le_refl _⟩
      · cases hS
    · cases hS
  case lor =>
    split at hS
    · rename_i hn
      subst hn
      split at hS
      · rename_i y x r
        have e1 := jm_nx_eq hS
        subst e1
        exact ⟨Nat.le_refl _, Nat.le_refl _⟩
      · cases hS
    · cases hS
  case lshl =>
    split at hS
    · rename_i hn
      subst hn
      split at hS
      · rename_i y x r
        have e1 := jm_nx_eq hS
        subst e1
        exact ⟨Nat.le_refl _, Nat.le_refl _⟩
      · cases hS
    · cases hS
  case lshr =>
    split at hS
    · rename_i hn
      subst hn
      split at hS
      · rename_i y x r
        have e1 := jm_nx_eq hS
        subst e1
        exact ⟨Nat.le_refl _, Nat.le_refl _⟩
      · cases hS
    · cases hS
  case lushr =>
    split at hS
    · rename_i hn
      subst hn
      split at hS
      · rename_i y x r
        have e1 := jm_nx_eq hS
        subst e1
        exact ⟨Nat.le_refl _, Nat.le_refl _⟩
      · cases hS
    · cases hS
  case lcmp =>
    split at hS
    · rename_i hn
      subst hn
      split at hS
      · rename_i y x r
        have e1 := jm_nx_eq hS
        subst e1
        exact ⟨Nat.le_refl _, Nat.le_refl _⟩
      · cases hS
    · cases hS
  case ineg =>
    split at hS
    · rename_i hn
      subst hn
      split at hS
      · rename_i x r
        have e1 := jm_nx_eq hS
        subst e1
        exact ⟨Nat.le_refl _, Nat.le_refl _⟩
      · cases hS
    · cases hS
  case i2l =>
    split at hS
    · rename_i hn
      subst hn
      split at hS
      · rename_i x r
        have e1 := jm_nx_eq hS
        subst e1
        exact ⟨Nat.le_refl _, Nat.le_refl _⟩
      · cases hS
    · cases hS
  case i2b =>
    split at hS
    · rename_i hn
      subst hn
      split at hS
      · rename_i x r
        have e1 := jm_nx_eq hS
        subst e1
        exact ⟨Nat.le_refl _, Nat.le_refl _⟩
      · cases hS
    · cases hS
  case i2c =>
    split at hS
    · rename_i hn
      subst hn
      split at hS
      · rename_i x r
        have e1 := jm_nx_eq hS
        subst e1
        exact ⟨Nat.le_refl _, Nat.le_refl _⟩
      · cases hS
    · cases hS
  case i2d =>
    split at hS
    · rename_i hn
      subst hn
      split at hS
      · rename_i x r
        have e1 := jm_nx_eq hS
        subst e1
        exact ⟨Nat.le_refl _, Nat.le_refl _⟩
      · cases hS
    · cases hS
  case l2i =>
    split at hS
    · rename_i hn
      subst hn
      split at hS
      · rename_i x r
        have e1 := jm_nx_eq hS
        subst e1
        exact ⟨Nat.le_refl _, Nat.le_refl _⟩
      · cases hS
    · cases hS
  case lneg =>
    split at hS
    · rename_i hn
      subst hn
      split at hS
      · rename_i x r
        have e1 := jm_nx_eq hS
        subst e1
        exact ⟨Nat.le_refl _, Nat.le_refl _⟩
      · cases hS
    · cases hS
  case idiv =>
    split at hS
    · rename_i hn
      subst hn
      split at hS
      · rename_i y x r
        split at hS
        · cases hS
        · rename_i hy
          have e1 := jm_nx_eq hS
          subst e1
          exact ⟨Nat.le_refl _, Nat.le_refl _⟩
      · cases hS
    · cases hS
  case irem =>
    split at hS
    · rename_i hn
      subst hn
      split at hS
      · rename_i y x r
        split at hS
        · cases hS
        · rename_i hy
          have e1 := jm_nx_eq hS
          subst e1
          exact ⟨Nat.le_refl _, Nat.le_refl _⟩
      · cases hS
    · cases hS
  case ldiv =>
    split at hS
    · rename_i hn
      subst hn
      split at hS
      · rename_i y x r
        split at hS
        · cases hS
        · rename_i hy
          have e1 := jm_nx_eq hS
          subst e1
          exact ⟨Nat.le_refl _, Nat.le_refl _⟩
      · cases hS
    · cases hS
  case lrem =>
    split at hS
    · rename_i hn
      subst hn
      split at hS
      · rename_i y x r
        split at hS
        · cases hS
        · rename_i hy
          have e1 := jm_nx_eq hS
          subst e1
          exact ⟨Nat.le_refl _, Nat.le_refl _⟩
      · cases hS
    · cases hS
  case ddiv =>
    split at hS
    · rename_i hn
      subst hn
      split at hS
      · rename_i y x r
        split at hS
        · rename_i hy
          have e1 := jm_nx_eq hS
          subst e1
          exact ⟨Nat.le_refl _, Nat.le_refl _⟩
        · cases hS
      · cases hS
    · cases hS
  case dcmp op =>
    split at hS
    · rename_i hn
      subst hn
      split at hS
      · rename_i y x r
        have e1 := jm_nx_eq hS
        subst e1
        exact ⟨Nat.le_refl _, Nat.le_refl _⟩
      · cases hS
    · cases hS
  case dup =>
    split at hS
    · rename_i hn
      subst hn
      split at hS
      · rename_i v r
        split at hS
        · rename_i hv
          have e1 := jm_nx_eq hS
          subst e1
          exact ⟨Nat.le_refl _, Nat.le_refl _⟩
        · cases hS
      · cases hS
    · cases hS
  case dup2 =>
    split at hS
    · rename_i hn
      subst hn
      split at hS
      · rename_i v w r
        split at hS
        · rename_i hv
          have e1 := jm_nx_eq hS
          subst e1
          exact ⟨Nat.le_refl _, Nat.le_refl _⟩
        · cases hS
      · cases hS
    · cases hS
  case pop =>
    split at hS
    · rename_i hn
      subst hn
      split at hS
      · rename_i v r
        split at hS
        · rename_i hv
          have e1 := jm_nx_eq hS
          subst e1
          exact ⟨Nat.le_refl _, Nat.le_refl _⟩
        · cases hS
      · cases hS
    · cases hS
  case ifCond op off =>
    split at hS
    · rename_i hn
      subst hn
      split at hS
      · rename_i x r
        split at hS
        · rename_i hc
          obtain ⟨e2, e1⟩ := jm_jp_eq hS
          subst e1
          exact ⟨Nat.le_refl _, Nat.le_refl _⟩
        · rename_i hc
          have e1 := jm_nx_eq hS
          subst e1
          exact ⟨Nat.le_refl _, Nat.le_refl _⟩
      · cases hS
    · cases hS
  case if_icmp op off =>
    split at hS
    · rename_i hn
      subst hn
      split at hS
      · rename_i y x r
        split at hS
        · rename_i hc
          obtain ⟨e2, e1⟩ := jm_jp_eq hS
          subst e1
          exact ⟨Nat.le_refl _, Nat.le_refl _⟩
        · rename_i hc
          have e1 := jm_nx_eq hS
          subst e1
          exact ⟨Nat.le_refl _, Nat.le_refl _⟩
      · cases hS
    · cases hS
  case goto off =>
    split at hS
    · rename_i hn
      subst hn
      obtain ⟨e2, e1⟩ := jm_jp_eq hS
      subst e1
      exact ⟨Nat.le_refl _, Nat.le_refl _⟩
    · cases hS
  case tableswitch d1 lo hi offs =>
    split at hS
    · rename_i x r
      split at hS
      · rename_i hq
        obtain ⟨e2, e1⟩ := jm_jp_eq hS
        subst e1
        exact ⟨Nat.le_refl _, Nat.le_refl _⟩
      · rename_i hq
        split at hS
        · rename_i off ho
          obtain ⟨e2, e1⟩ := jm_jp_eq hS
          subst e1
          exact ⟨Nat.le_refl _, Nat.le_refl _⟩
        · cases hS
    · cases hS
  case lookupswitch d1 ps =>
    split at hS
    · rename_i x r
      split at hS
      · rename_i hq
        obtain ⟨e2, e1⟩ := jm_jp_eq hS
        subst e1
        exact ⟨Nat.le_refl _, Nat.le_refl _⟩
      · cases hS
    · cases hS
  case getfield k1 =>
    split at hS
    · rename_i hn
      subst hn
      split at hS
      · rename_i ci f t o1 a r hp
        split at hS
        · rename_i v hg
          have e1 := jm_nx_eq hS
          subst e1
          exact ⟨Nat.le_refl _, Nat.le_refl _⟩
        · cases hS
      · cases hS
    · cases hS
  case putfield k1 =>
    split at hS
    · rename_i hn
      subst hn
      split at hS
      · rename_i ci f t o1 v a r hp
        split at hS
        · rename_i hfin
          split at hS
          · rename_i h' hg
            have e1 := jm_nx_eq hS
            subst e1
            obtain ⟨-, fs, -, -, -, hq⟩ := jm_pf_inv hg
            subst hq
            exact ⟨Nat.le_refl _, Nat.le_refl _⟩
          · cases hS
        · cases hS
      · cases hS
    · cases hS
  case getstatic k1 =>
    split at hS
    · rename_i hn
      subst hn
      split at hS
      · rename_i v hv
        have e1 := jm_nx_eq hS
        subst e1
        exact ⟨Nat.le_refl _, Nat.le_refl _⟩
      · cases hS
    · cases hS
  case arraylength =>
    split at hS
    · rename_i hn
      subst hn
      split at hS
      · rename_i a r
        split at hS
        · rename_i x hg
          have e1 := jm_nx_eq hS
          subst e1
          exact ⟨Nat.le_refl _, Nat.le_refl _⟩
        · cases hS
      · cases hS
    · cases hS
  case iaload =>
    split at hS
    · rename_i hn
      subst hn
      split at hS
      · rename_i i a r
        split at hS
        · rename_i x hg
          have e1 := jm_nx_eq hS
          subst e1
          exact ⟨Nat.le_refl _, Nat.le_refl _⟩
        · cases hS
      · cases hS
    · cases hS
  case caload =>
    split at hS
    · rename_i hn
      subst hn
      split at hS
      · rename_i i a r
        split at hS
        · rename_i x hg
          have e1 := jm_nx_eq hS
          subst e1
          exact ⟨Nat.le_refl _, Nat.le_refl _⟩
        · cases hS
      · cases hS
    · cases hS
  case laload =>
    split at hS
    · rename_i hn
      subst hn
      split at hS
      · rename_i i a r
        split at hS
        · rename_i x hg
          have e1 := jm_nx_eq hS
          subst e1
          exact ⟨Nat.le_refl _, Nat.le_refl _⟩
        · cases hS
      · cases hS
    · cases hS
  case aaload =>
    split at hS
    · rename_i hn
      subst hn
      split at hS
      · rename_i i a r
        split at hS
        · rename_i x hg
          have e1 := jm_nx_eq hS
          subst e1
          exact ⟨Nat.le_refl _, Nat.le_refl _⟩
        · cases hS
      · cases hS
    · cases hS
  case baload =>
    split at hS
    · rename_i hn
      subst hn
      split at hS
      · rename_i i a r
        split at hS
        · rename_i x hg
          have e1 := jm_nx_eq hS
          subst e1
          exact ⟨Nat.le_refl _, Nat.le_refl _⟩
        · split at hS
          · rename_i x hg
            have e1 := jm_nx_eq hS
            subst e1
            exact ⟨Nat.le_refl _, Nat.le_refl _⟩
          · cases hS
      · cases hS
    · cases hS
  case iastore =>
    split at hS
    · rename_i hn
      subst hn
      split at hS
      · rename_i x i a r
        split at hS
        · rename_i h' hg
          have e1 := jm_nx_eq hS
          subst e1
          obtain ⟨-, n1, f, -, -, hq⟩ := jm_asi_inv hg
          subst hq
          exact ⟨Nat.le_refl _, Nat.le_refl _⟩
        · cases hS
      · cases hS
    · cases hS
  case castore =>
    split at hS
    · rename_i hn
      subst hn
      split at hS
      · rename_i x i a r
        split at hS
        · rename_i h' hg
          have e1 := jm_nx_eq hS
          subst e1
          obtain ⟨-, n1, f, -, -, hq⟩ := jm_asi_inv hg
          subst hq
          exact ⟨Nat.le_refl _, Nat.le_refl _⟩
        · cases hS
      · cases hS
    · cases hS
  case lastore =>
    split at hS
    · rename_i hn
      subst hn
      split at hS
      · rename_i x i a r
        split at hS
        · rename_i h' hg
          have e1 := jm_nx_eq hS
          subst e1
          obtain ⟨-, n1, f, -, -, hq⟩ := jm_asl_inv hg
          subst hq
          exact ⟨Nat.le_refl _, Nat.le_refl _⟩
        · cases hS
      · cases hS
    · cases hS
  case aastore =>
    split at hS
    · rename_i hn
      subst hn
      split at hS
      · rename_i x i a r
        split at hS
        · rename_i h' hg
          have e1 := jm_nx_eq hS
          subst e1
          obtain ⟨-, -, t, n1, f, fs, -, -, -, -, hq⟩ := jm_asr_inv hg
          subst hq
          exact ⟨Nat.le_refl _, Nat.le_refl _⟩
        · cases hS
      · cases hS
    · cases hS
  case bastore =>
    split at hS
    · rename_i hn
      subst hn
      split at hS
      · rename_i x i a r
        split at hS
        · rename_i h' hg
          have e1 := jm_nx_eq hS
          subst e1
          obtain ⟨-, n1, f, -, -, hq⟩ := jm_asi_inv hg
          subst hq
          exact ⟨Nat.le_refl _, Nat.le_refl _⟩
        · split at hS
          · rename_i h' hg
            have e1 := jm_nx_eq hS
            subst e1
            obtain ⟨-, n1, f, -, -, hq⟩ := jm_asi_inv hg
            subst hq
            exact ⟨Nat.le_refl _, Nat.le_refl _⟩
          · cases hS
      · cases hS
    · cases hS
  case newarray t1 =>
    split at hS
    · rename_i hn
      subst hn
      split at hS
      · rename_i kk x r hk
        split at hS
        · rename_i h' hg
          have e1 := jm_nx_eq hS
          subst e1
          obtain ⟨-, -, hq⟩ := jm_newa_inv hg
          subst hq
          exact ⟨Nat.le_succ _, Nat.le_add_right _ _⟩
        · cases hS
      · cases hS
    · cases hS
  case anewarray k1 =>
    split at hS
    · rename_i hn
      subst hn
      split at hS
      · rename_i ci t x r hk
        split at hS
        · rename_i ht
          split at hS
          · rename_i h' hg
            have e1 := jm_nx_eq hS
            subst e1
            obtain ⟨-, -, hq⟩ := jm_newa_inv hg
            subst hq
            exact ⟨Nat.le_succ _, Nat.le_add_right _ _⟩
          · cases hS
        · cases hS
      · cases hS
    · cases hS
  case new k1 =>
    split at hS
    · rename_i hn
      subst hn
      split at hS
      · rename_i ci t hk
        split at hS
        · rename_i hci
          split at hS
          · rename_i fs hfs
            have e1 := jm_nx_eq hS
            subst e1
            exact ⟨Nat.le_succ _, Nat.le_add_right _ _⟩
          · cases hS
        · rename_i hci
          have hk' : jm_np M.2.2.2.2.2.1 k1 = some (100 + (ci - 100), t) := by rw [hk]; congr 2; omega
          have hS2 := jm_thr_eq hS
          subst hS2
          exact ⟨Nat.le_succ _, Nat.le_add_right _ _⟩
      · cases hS
    · cases hS
  case invokevirtual k1 =>
    split at hS
    · rename_i hn
      subst hn
      split at hS
      · rename_i y hk
        unfold jm_cv at hS
        simp only [] at hS
        split at hS
        · rename_i hn1
          split at hS
          · rename_i b rest hdr
            split at hS
            · rename_i hcb
              cases hres : call y (.ref b :: (st.take y.2.2.2.2.2.2.2).reverse) h with
              | none => rw [hres] at hS; cases hS
              | some res =>
                rw [hres] at hS
                have hmet := hcall _ _ _ _ (jm_okm_of hk (by decide)) hres
                have q1 := jm_ret_hp hS
                rw [← q1]
                exact hmet
            · cases hS
          · cases hS
        · cases hS
      · cases hS
    · cases hS
  case invokestatic k1 =>
    split at hS
    · rename_i hn
      subst hn
      split at hS
      · rename_i st1 x9 st9 y hk
        unfold jm_cs at hS
        simp only [] at hS
        split at hS
        · rename_i hcb
          cases hres : call y (st1.take y.2.2.2.2.2.2.2).reverse h with
          | none => rw [hres] at hS; cases hS
          | some res =>
            rw [hres] at hS
            have hmet := hcall _ _ _ _ (jm_okm_of hk (by decide)) hres
            have q1 := jm_ret_hp hS
            rw [← q1]
            exact hmet
        · cases hS
      · rename_i st1 x9 st9 y hk
        unfold jm_cs at hS
        simp only [] at hS
        split at hS
        · rename_i hcb
          cases hres : call y (st1.take y.2.2.2.2.2.2.2).reverse h with
          | none => rw [hres] at hS; cases hS
          | some res =>
            rw [hres] at hS
            have hmet := hcall _ _ _ _ (jm_okm_of hk (by decide)) hres
            have q1 := jm_ret_hp hS
            rw [← q1]
            exact hmet
        · cases hS
      · rename_i y0 y x r hk
        split at hS
        · rename_i hcb
          have e1 := jm_nx_eq hS
          subst e1
          exact ⟨Nat.le_refl _, Nat.le_refl _⟩
        · cases hS
      · rename_i y0 y x r hk
        split at hS
        · rename_i hcb
          have e1 := jm_nx_eq hS
          subst e1
          exact ⟨Nat.le_refl _, Nat.le_refl _⟩
        · cases hS
      · rename_i y0 kk dp a sp a0 r hk
        split at hS
        · rename_i hcb
          split at hS
          · rename_i h' hg
            have e1 := jm_nx_eq hS
            subst e1
            obtain ⟨-, -, -, -, -, hq⟩ := jm_cpy_inv hg
            have hh : (h'.1 = h.1 ∧ h'.2.1 = h.2.1) := by
              rcases hq with ⟨n0, n1, f, g, -, -, -, -, rfl⟩ | ⟨n0, n1, f, g, -, -, -, -, rfl⟩ <;> exact ⟨rfl, rfl⟩
            exact ⟨Nat.le_of_eq hh.1.symm, Nat.le_of_eq hh.2.symm⟩
          · cases hS
        · cases hS
      · cases hS
    · cases hS
  case invokespecial k1 =>
    split at hS
    · rename_i hn
      subst hn
      split at hS
      · rename_i y hk
        unfold jm_ci at hS
        simp only [] at hS
        split at hS
        · rename_i hn1
          split at hS
          · rename_i b rest hdr
            split at hS
            · rename_i hcb
              split at hS
              · rename_i v h' hres
                have hmet := hcall _ _ _ _ (jm_okm_of hk (by decide)) hres
                have e1 := jm_nx_eq hS
                subst e1
                exact hmet
              · cases hS
            · cases hS
          · cases hS
        · cases hS
      · rename_i y hk
        unfold jm_ci at hS
        simp only [] at hS
        split at hS
        · rename_i hn1
          split at hS
          · rename_i b rest hdr
            split at hS
            · rename_i hcb
              split at hS
              · rename_i v h' hres
                have hmet := hcall _ _ _ _ (jm_okm_of hk (by decide)) hres
                have e1 := jm_nx_eq hS
                subst e1
                exact hmet
              · cases hS
            · cases hS
          · cases hS
        · cases hS
      · rename_i y hk
        split at hS
        · rename_i a r
          split at hS
          · rename_i hcb
            have e1 := jm_nx_eq hS
            subst e1
            exact ⟨Nat.le_refl _, Nat.le_refl _⟩
          · cases hS
        · cases hS
      · cases hS
    · cases hS
  case ireturn =>
    split at hS
    · rename_i hn
      subst hn
      split at hS
      · rename_i ty x hty
        split at hS
        · rename_i hx1
          cases hS
          exact ⟨Nat.le_refl _, Nat.le_refl _⟩
        · cases hS
      · cases hS
    · cases hS
  case lreturn =>
    split at hS
    · rename_i hn
      obtain ⟨rfl, hty⟩ := hn
      split at hS
      · rename_i x
        cases hS
        exact ⟨Nat.le_refl _, Nat.le_refl _⟩
      · cases hS
    · cases hS
  case dreturn =>
    split at hS
    · rename_i hn
      obtain ⟨rfl, hty⟩ := hn
      split at hS
      · rename_i x
        cases hS
        exact ⟨Nat.le_refl _, Nat.le_refl _⟩
      · cases hS
    · cases hS
  case areturn =>
    split at hS
    · rename_i hn
      subst hn
      split at hS
      · rename_i ty x hty
        split at hS
        · rename_i hx1
          cases hS
          exact ⟨Nat.le_refl _, Nat.le_refl _⟩
        · cases hS
      · cases hS
    · cases hS
  case return_ =>
    split at hS
    · rename_i hn
      obtain ⟨rfl, hty, rfl⟩ := hn
      cases hS
      exact ⟨Nat.le_refl _, Nat.le_refl _⟩
    · cases hS
theorem jm_loop_mono {M : jm_M} {call : jm_M → List Value → jm_H → Option jm_R} (hcall : ∀ y vs h r, jm_okm y → call y vs h = some r → h.1 ≤ r.2.1 ∧ h.2.1 ≤ r.2.2.1) : ∀ (n : Nat) (q : jm_C) (h : jm_H) (r : jm_R), jm_loop call M n q h = some r → h.1 ≤ r.2.1 ∧ h.2.1 ≤ r.2.2.1 := by
  intro n
  induction n with
  | zero => intro q h r hl; cases hl
  | succ n ih =>
    intro q h r hl
    unfold jm_loop at hl
    cases hs : jm_step call M q h with
    | none => rw [hs] at hl; cases hl
    | some S =>
      rw [hs] at hl
      unfold jm_step at hs
      cases hdc : decode M.2.1 q.1 with
      | error er => rw [hdc] at hs; cases hs
      | ok z =>
        rw [hdc] at hs
        obtain ⟨i, k⟩ := z
        have g1 := jm_mono hcall hs
        cases S with
        | inl z =>
          have i1 := ih z.1 z.2 r hl
          have m1 : h.1 ≤ z.2.1 := g1.1
          have m2 : h.2.1 ≤ z.2.2.1 := g1.2
          exact ⟨Nat.le_trans m1 i1.1, Nat.le_trans m2 i1.2⟩
        | inr z =>
          have hz : z = r := Option.some.inj hl
          subst hz
          exact g1
