/-! ===== the simulation: any instruction ===== -/
section JMO
variable {X : jm_X} {p : Program} {lc : Launch} {e : Env} {R : Room} {s : State} {m : MethodId} {args : Array Value} {below : List Frame} {meth : Method} {c : Code} {nL : Nat} {h0 : jm_H} {Q : State → Prop}
variable {d : Nat} {M : jm_M}
set_option maxHeartbeats 4000000 in
theorem jm_sim (hfl : lc.stackTraces = false) (hR : d + 9 ≤ R.frames ∧ 41 * d + 141 ≤ R.locals) (hN : X.N0 ≤ s.heap.size) (hx : p.tables.exec = Jvm.exec) (hb : c.code = M.2.1) (hml : c.maxLocals = nL) (hown : s.vm.findClass (jm_cl M.2.2.2.2.2.1) = some m.cls) (hts : ∀ w ∈ jm_ws, w.before args s = true) (hC : jm_cst X s s.heap) (hc23 : M.2.2.2.2.2.1 < 23) (hin : M.2.2.2.2.2.2.1 = 2 → meth.name = "<init>") (htab : M.2.2.2.2.1 ≠ [] → c.exceptionTable.toList = tableOf M.2.2.2.2.1) (hh22 : M.2.2.2.2.1 ≠ [] → M.2.2.2.2.2.1 = 22)
    {call : jm_M → List Value → jm_H → Option jm_R} (hcall : ∀ y vs h r, jm_okm y → call y vs h = some r → jm_met lc X d y vs h r) {r0 : jm_R}
    (hRet : ∀ pc l st h v, jm_rto M.2.1 M.2.2.2.1 pc st v → (.inl v, h) = r0 → jm_go X p lc e R s m args below meth c nL h0 Q pc l st h)
    (hThr : ∀ pc l st h k x t S, decode M.2.1 pc = .ok (.new k, 3) → jm_np M.2.2.2.2.2.1 k = some (100 + x, t) → jm_thr M pc x st h = some S → jm_rm R h0 (jm_gap h) → (.inr x, jm_gap h) = r0 → jm_go X p lc e R s m args below meth c nL h0 Q pc l st h)
    (hOut : ∀ x h' pc l rest, M.2.2.2.2.1 = [] → (.inr x, h') = r0 → jm_kx X p lc e R s m args below meth c nL h0 Q pc l rest x h') {i : Instr} {n pc : Nat} {l : List (Option Value)} {st : List Value} {h : jm_H} {S : jm_S} (hd : decode M.2.1 pc = .ok (i, n)) (hS : jm_op call M i n pc l st h = some S) : (h.1 ≤ (jm_hp S).1 ∧ h.2.1 ≤ (jm_hp S).2.1) ∧ (jm_rm R h0 (jm_hp S) → jm_K X p lc e R s m args below meth c nL h0 Q r0 S → jm_go X p lc e R s m args below meth c nL h0 Q pc l st h) := by
  have hf := hC.2.1
  have hR8 : 8 ≤ R.frames ∧ 100 ≤ R.locals := by omega
  cases i
  all_goals simp only [jm_op, reduceCtorEq] at hS
  case iconst n1 =>
    split at hS
    · rename_i hn
      subst hn
      have e1 := jm_nx_eq hS
      subst e1
      exact ⟨⟨Nat.le_refl _, Nat.le_refl _⟩, fun _ k => jg_iconst hx hb hd k⟩
    · cases hS
  case bipush n1 =>
    split at hS
    · rename_i hn
      subst hn
      have e1 := jm_nx_eq hS
      subst e1
      exact ⟨⟨Nat.le_refl _, Nat.le_refl _⟩, fun _ k => jg_bipush hx hb hd k⟩
    · cases hS
  case sipush n1 =>
    split at hS
    · rename_i hn
      subst hn
      have e1 := jm_nx_eq hS
      subst e1
      exact ⟨⟨Nat.le_refl _, Nat.le_refl _⟩, fun _ k => jg_sipush hx hb hd k⟩
    · cases hS
  case lconst n1 =>
    split at hS
    · rename_i hn
      subst hn
      have e1 := jm_nx_eq hS
      subst e1
      exact ⟨⟨Nat.le_refl _, Nat.le_refl _⟩, fun _ k => jg_lconst hx hb hd k⟩
    · cases hS
  case dconst n1 =>
    split at hS
    · rename_i hn
      obtain ⟨rfl, rfl⟩ := hn
      have e1 := jm_nx_eq hS
      subst e1
      exact ⟨⟨Nat.le_refl _, Nat.le_refl _⟩, fun _ k => jg_dconst hx hb hd k⟩
    · cases hS
  case ldc n1 =>
    split at hS
    · rename_i hn
      subst hn
      split at hS
      · rename_i j hj
        have e1 := jm_nx_eq hS
        subst e1
        exact ⟨⟨Nat.le_refl _, Nat.le_refl _⟩, fun _ k => jg_ldc hx hb hown hC hc23 hj hd k⟩
      · cases hS
    · cases hS
  case ldc2_w n1 =>
    split at hS
    · rename_i hn
      subst hn
      split at hS
      · rename_i j hj
        have e1 := jm_nx_eq hS
        subst e1
        exact ⟨⟨Nat.le_refl _, Nat.le_refl _⟩, fun _ k => jg_ldc2 hx hb hown hts hj hd k⟩
      · cases hS
    · cases hS
  case iload_n n1 =>
    split at hS
    · rename_i hn
      subst hn
      split at hS
      · rename_i x hj
        have e1 := jm_nx_eq hS
        subst e1
        exact ⟨⟨Nat.le_refl _, Nat.le_refl _⟩, fun _ k => jg_iload_n hx hb hd hj k⟩
      · cases hS
    · cases hS
  case iload n1 =>
    split at hS
    · rename_i hn
      subst hn
      split at hS
      · rename_i x hj
        have e1 := jm_nx_eq hS
        subst e1
        exact ⟨⟨Nat.le_refl _, Nat.le_refl _⟩, fun _ k => jg_iload hx hb hd hj k⟩
      · cases hS
    · cases hS
  case lload_n n1 =>
    split at hS
    · rename_i hn
      subst hn
      split at hS
      · rename_i x hj
        have e1 := jm_nx_eq hS
        subst e1
        exact ⟨⟨Nat.le_refl _, Nat.le_refl _⟩, fun _ k => jg_lload_n hx hb hd hj k⟩
      · cases hS
    · cases hS
  case lload n1 =>
    split at hS
    · rename_i hn
      subst hn
      split at hS
      · rename_i x hj
        have e1 := jm_nx_eq hS
        subst e1
        exact ⟨⟨Nat.le_refl _, Nat.le_refl _⟩, fun _ k => jg_lload hx hb hd hj k⟩
      · cases hS
    · cases hS
  case dload n1 =>
    split at hS
    · rename_i hn
      subst hn
      split at hS
      · rename_i x hj
        have e1 := jm_nx_eq hS
        subst e1
        exact ⟨⟨Nat.le_refl _, Nat.le_refl _⟩, fun _ k => jg_dload hx hb hd hj k⟩
      · cases hS
    · cases hS
  case aload_n n1 =>
    split at hS
    · rename_i hn
      subst hn
      split at hS
      · rename_i x hj
        have e1 := jm_nx_eq hS
        subst e1
        exact ⟨⟨Nat.le_refl _, Nat.le_refl _⟩, fun _ k => jg_aload_n hf hx hb hd hj k⟩
      · cases hS
    · cases hS
  case aload n1 =>
    split at hS
    · rename_i hn
      subst hn
      split at hS
      · rename_i x hj
        have e1 := jm_nx_eq hS
        subst e1
        exact ⟨⟨Nat.le_refl _, Nat.le_refl _⟩, fun _ k => jg_aload hf hx hb hd hj k⟩
      · cases hS
    · cases hS
  case istore_n n1 =>
    split at hS
    · rename_i hn
      obtain ⟨rfl, hl⟩ := hn
      split at hS
      · rename_i x r
        have e1 := jm_nx_eq hS
        subst e1
        exact ⟨⟨Nat.le_refl _, Nat.le_refl _⟩, fun _ k => jg_istore_n hf hx hb hd hl k⟩
      · cases hS
    · cases hS
  case istore n1 =>
    split at hS
    · rename_i hn
      obtain ⟨rfl, hl⟩ := hn
      split at hS
      · rename_i x r
        have e1 := jm_nx_eq hS
        subst e1
        exact ⟨⟨Nat.le_refl _, Nat.le_refl _⟩, fun _ k => jg_istore hf hx hb hd hl k⟩
      · cases hS
    · cases hS
  case astore_n n1 =>
    split at hS
    · rename_i hn
      obtain ⟨rfl, hl⟩ := hn
      split at hS
      · rename_i x r
        have e1 := jm_nx_eq hS
        subst e1
        exact ⟨⟨Nat.le_refl _, Nat.le_refl _⟩, fun _ k => jg_astore_n hf hx hb hd hl k⟩
      · cases hS
    · cases hS
  case astore n1 =>
    split at hS
    · rename_i hn
      obtain ⟨rfl, hl⟩ := hn
      split at hS
      · rename_i x r
        have e1 := jm_nx_eq hS
        subst e1
        exact ⟨⟨Nat.le_refl _, Nat.le_refl _⟩, fun _ k => jg_astore hf hx hb hd hl k⟩
      · cases hS
    · cases hS
  case lstore_n n1 =>
    split at hS
    · rename_i hn
      obtain ⟨rfl, hl⟩ := hn
      split at hS
      · rename_i x r
        have e1 := jm_nx_eq hS
        subst e1
        exact ⟨⟨Nat.le_refl _, Nat.le_refl _⟩, fun _ k => jg_lstore_n hf hx hb hd hl k⟩
      · cases hS
    · cases hS
  case lstore n1 =>
    split at hS
    · rename_i hn
      obtain ⟨rfl, hl⟩ := hn
      split at hS
      · rename_i x r
        have e1 := jm_nx_eq hS
        subst e1
        exact ⟨⟨Nat.le_refl _, Nat.le_refl _⟩, fun _ k => jg_lstore hf hx hb hd hl k⟩
      · cases hS
    · cases hS
  case dstore n1 =>
    split at hS
    · rename_i hn
      obtain ⟨rfl, hl⟩ := hn
      split at hS
      · rename_i x r
        have e1 := jm_nx_eq hS
        subst e1
        exact ⟨⟨Nat.le_refl _, Nat.le_refl _⟩, fun _ k => jg_dstore hf hx hb hd hl k⟩
      · cases hS
    · cases hS
  case iinc n1 d1 =>
    split at hS
    · rename_i hn
      obtain ⟨rfl, hl⟩ := hn
      split at hS
      · rename_i x hj
        have e1 := jm_nx_eq hS
        subst e1
        exact ⟨⟨Nat.le_refl _, Nat.le_refl _⟩, fun _ k => jg_iinc hf hx hb hd hl hj k⟩
      · cases hS
    · cases hS
  case iadd =>
    split at hS
    · rename_i hn
      subst hn
      split at hS
      · rename_i y x r
        have e1 := jm_nx_eq hS
        subst e1
        exact ⟨⟨Nat.le_refl _, Nat.le_refl _⟩, fun _ k => jg_iadd hx hb hd k⟩
      · cases hS
    · cases hS
  case isub =>
    split at hS
    · rename_i hn
      subst hn
      split at hS
      · rename_i y x r
        have e1 := jm_nx_eq hS
        subst e1
        exact ⟨⟨Nat.le_refl _, Nat.le_refl _⟩, fun _ k => jg_isub hx hb hd k⟩
      · cases hS
    · cases hS
  case imul =>
    split at hS
    · rename_i hn
      subst hn
      split at hS
      · rename_i y x r
        have e1 := jm_nx_eq hS
        subst e1
        exact ⟨⟨Nat.le_refl _, Nat.le_refl _⟩, fun _ k => jg_imul hx hb hd k⟩
      · cases hS
    · cases hS
  case iand =>
    split at hS
    · rename_i hn
      subst hn
      split at hS
      · rename_i y x r
        have e1 := jm_nx_eq hS
        subst e1
        exact ⟨⟨Nat.le_refl _, Nat.le_refl _⟩, fun _ k => jg_iand hx hb hd k⟩
      · cases hS
    · cases hS
  case ior =>
    split at hS
    · rename_i hn
      subst hn
      split at hS
      · rename_i y x r
        have e1 := jm_nx_eq hS
        subst e1
        exact ⟨⟨Nat.le_refl _, Nat.le_refl _⟩, fun _ k => jg_ior hx hb hd k⟩
      · cases hS
    · cases hS
  case ishr =>
    split at hS
    · rename_i hn
      subst hn
      split at hS
      · rename_i y x r
        have e1 := jm_nx_eq hS
        subst e1
        exact ⟨⟨Nat.le_refl _, Nat.le_refl _⟩, fun _ k => jg_ishr hx hb hd k⟩
      · cases hS
    · cases hS
  case ladd =>
    split at hS
    · rename_i hn
      subst hn
      split at hS
      · rename_i y x r
        have e1 := jm_nx_eq hS
        subst e1
        exact ⟨⟨Nat.le_refl _, Nat.le_refl _⟩, fun _ k => jg_ladd hx hb hd k⟩
      · cases hS
    · cases hS
  case lsub =>
    split at hS
    · rename_i hn
      subst hn
      split at hS
      · rename_i y x r
        have e1 := jm_nx_eq hS
        subst e1
        exact ⟨⟨Nat.le_refl _, Nat.le_refl _⟩, fun _ k => jg_lsub hx hb hd k⟩
      · cases hS
    · cases hS
  case lmul =>
    split at hS
    · rename_i hn
      subst hn
      split at hS
      · rename_i y x r
        have e1 := jm_nx_eq hS
        subst e1
        exact ⟨⟨Nat.le_refl _, Nat.le_refl _⟩, fun _ k => jg_lmul hx hb hd k⟩
      · cases hS
    · cases hS
  case lor =>
    split at hS
    · rename_i hn
      subst hn
      split at hS
      · rename_i y x r
        have e1 := jm_nx_eq hS
        subst e1
        exact ⟨⟨Nat.le_refl _, Nat.le_refl _⟩, fun _ k => jg_lor hx hb hd k⟩
      · cases hS
    · cases hS
  case lshl =>
    split at hS
    · rename_i hn
      subst hn
      split at hS
      · rename_i y x r
        have e1 := jm_nx_eq hS
        subst e1
        exact ⟨⟨Nat.le_refl _, Nat.le_refl _⟩, fun _ k => jg_lshl hx hb hd k⟩
      · cases hS
    · cases hS
  case lshr =>
    split at hS
    · rename_i hn
      subst hn
      split at hS
      · rename_i y x r
        have e1 := jm_nx_eq hS
        subst e1
        exact ⟨⟨Nat.le_refl _, Nat.le_refl _⟩, fun _ k => jg_lshr hx hb hd k⟩
      · cases hS
    · cases hS
  case lushr =>
    split at hS
    · rename_i hn
      subst hn
      split at hS
      · rename_i y x r
        have e1 := jm_nx_eq hS
        subst e1
        exact ⟨⟨Nat.le_refl _, Nat.le_refl _⟩, fun _ k => jg_lushr hx hb hd k⟩
      · cases hS
    · cases hS
  case lcmp =>
    split at hS
    · rename_i hn
      subst hn
      split at hS
      · rename_i y x r
        have e1 := jm_nx_eq hS
        subst e1
        exact ⟨⟨Nat.le_refl _, Nat.le_refl _⟩, fun _ k => jg_lcmp hx hb hd k⟩
      · cases hS
    · cases hS
  case ineg =>
    split at hS
    · rename_i hn
      subst hn
      split at hS
      · rename_i x r
        have e1 := jm_nx_eq hS
        subst e1
        exact ⟨⟨Nat.le_refl _, Nat.le_refl _⟩, fun _ k => jg_ineg hx hb hd k⟩
      · cases hS
    · cases hS
  case i2l =>
    split at hS
    · rename_i hn
      subst hn
      split at hS
      · rename_i x r
        have e1 := jm_nx_eq hS
        subst e1
        exact ⟨⟨Nat.le_refl _, Nat.le_refl _⟩, fun _ k => jg_i2l hx hb hd k⟩
      · cases hS
    · cases hS
  case i2b =>
    split at hS
    · rename_i hn
      subst hn
      split at hS
      · rename_i x r
        have e1 := jm_nx_eq hS
        subst e1
        exact ⟨⟨Nat.le_refl _, Nat.le_refl _⟩, fun _ k => jg_i2b hx hb hd k⟩
      · cases hS
    · cases hS
  case i2c =>
    split at hS
    · rename_i hn
      subst hn
      split at hS
      · rename_i x r
        have e1 := jm_nx_eq hS
        subst e1
        exact ⟨⟨Nat.le_refl _, Nat.le_refl _⟩, fun _ k => jg_i2c hx hb hd k⟩
      · cases hS
    · cases hS
  case i2d =>
    split at hS
    · rename_i hn
      subst hn
      split at hS
      · rename_i x r
        have e1 := jm_nx_eq hS
        subst e1
        exact ⟨⟨Nat.le_refl _, Nat.le_refl _⟩, fun _ k => jg_i2d hx hb hd k⟩
      · cases hS
    · cases hS
  case l2i =>
    split at hS
    · rename_i hn
      subst hn
      split at hS
      · rename_i x r
        have e1 := jm_nx_eq hS
        subst e1
        exact ⟨⟨Nat.le_refl _, Nat.le_refl _⟩, fun _ k => jg_l2i hx hb hd k⟩
      · cases hS
    · cases hS
  case lneg =>
    split at hS
    · rename_i hn
      subst hn
      split at hS
      · rename_i x r
        have e1 := jm_nx_eq hS
        subst e1
        exact ⟨⟨Nat.le_refl _, Nat.le_refl _⟩, fun _ k => jg_lneg hx hb hd k⟩
      · cases hS
    · cases hS
  case idiv =>
    split at hS
    · rename_i hn
      subst hn
      split at hS
      · rename_i y x r
        split at hS
        · cases hS
        · rename_i hy
          have e1 := jm_nx_eq hS
          subst e1
          exact ⟨⟨Nat.le_refl _, Nat.le_refl _⟩, fun _ k => jg_idiv hx hb hd hy k⟩
      · cases hS
    · cases hS
  case irem =>
    split at hS
    · rename_i hn
      subst hn
      split at hS
      · rename_i y x r
        split at hS
        · cases hS
        · rename_i hy
          have e1 := jm_nx_eq hS
          subst e1
          exact ⟨⟨Nat.le_refl _, Nat.le_refl _⟩, fun _ k => jg_irem hx hb hd hy k⟩
      · cases hS
    · cases hS
  case ldiv =>
    split at hS
    · rename_i hn
      subst hn
      split at hS
      · rename_i y x r
        split at hS
        · cases hS
        · rename_i hy
          have e1 := jm_nx_eq hS
          subst e1
          exact ⟨⟨Nat.le_refl _, Nat.le_refl _⟩, fun _ k => jg_ldiv hx hb hd hy k⟩
      · cases hS
    · cases hS
  case lrem =>
    split at hS
    · rename_i hn
      subst hn
      split at hS
      · rename_i y x r
        split at hS
        · cases hS
        · rename_i hy
          have e1 := jm_nx_eq hS
          subst e1
          exact ⟨⟨Nat.le_refl _, Nat.le_refl _⟩, fun _ k => jg_lrem hx hb hd hy k⟩
      · cases hS
    · cases hS
  case ddiv =>
    split at hS
    · rename_i hn
      subst hn
      split at hS
      · rename_i y x r
        split at hS
        · rename_i hy
          have e1 := jm_nx_eq hS
          subst e1
          exact ⟨⟨Nat.le_refl _, Nat.le_refl _⟩, fun _ k => jg_ddiv hx hb hd hy k⟩
        · cases hS
      · cases hS
    · cases hS
  case dcmp op =>
    split at hS
    · rename_i hn
      subst hn
      split at hS
      · rename_i y x r
        have e1 := jm_nx_eq hS
        subst e1
        exact ⟨⟨Nat.le_refl _, Nat.le_refl _⟩, fun _ k => jg_dcmp hx hb hd k⟩
      · cases hS
    · cases hS
  case dup =>
    split at hS
    · rename_i hn
      subst hn
      split at hS
      · rename_i v r
        split at hS
        · rename_i hv
          have e1 := jm_nx_eq hS
          subst e1
          exact ⟨⟨Nat.le_refl _, Nat.le_refl _⟩, fun _ k => jg_dup hf hx hb hd hv k⟩
        · cases hS
      · cases hS
    · cases hS
  case dup2 =>
    split at hS
    · rename_i hn
      subst hn
      split at hS
      · rename_i v w r
        split at hS
        · rename_i hv
          have e1 := jm_nx_eq hS
          subst e1
          exact ⟨⟨Nat.le_refl _, Nat.le_refl _⟩, fun _ k => jg_dup2 hf hx hb hd hv.1 hv.2 k⟩
        · cases hS
      · cases hS
    · cases hS
  case pop =>
    split at hS
    · rename_i hn
      subst hn
      split at hS
      · rename_i v r
        split at hS
        · rename_i hv
          have e1 := jm_nx_eq hS
          subst e1
          exact ⟨⟨Nat.le_refl _, Nat.le_refl _⟩, fun _ k => jg_pop hf hx hb hd hv k⟩
        · cases hS
      · cases hS
    · cases hS
  case ifCond op off =>
    split at hS
    · rename_i hn
      subst hn
      split at hS
      · rename_i x r
        split at hS
        · rename_i hc
          obtain ⟨e2, e1⟩ := jm_jp_eq hS
          subst e1
          exact ⟨⟨Nat.le_refl _, Nat.le_refl _⟩, fun _ k => jg_ifCond hx hb hd e2 (fun _ => k) (fun q => absurd hc q)⟩
        · rename_i hc
          have e1 := jm_nx_eq hS
          subst e1
          refine ⟨⟨Nat.le_refl _, Nat.le_refl _⟩, fun _ k => ?_⟩
          intro H locs cells slots ls ha
          by_cases h9 : (0 : Int) ≤ (pc : Int) + off
          · exact jg_ifCond hx hb hd (Int.toNat_of_nonneg h9).symm (fun q => absurd q hc) (fun _ => k) H locs cells slots ls ha
          · exact jg_ifCondN hx hb hd hc k H locs cells slots ls ha
      · cases hS
    · cases hS
  case if_icmp op off =>
    split at hS
    · rename_i hn
      subst hn
      split at hS
      · rename_i y x r
        split at hS
        · rename_i hc
          obtain ⟨e2, e1⟩ := jm_jp_eq hS
          subst e1
          exact ⟨⟨Nat.le_refl _, Nat.le_refl _⟩, fun _ k => jg_icmp hx hb hd e2 (fun _ => k) (fun q => absurd hc q)⟩
        · rename_i hc
          have e1 := jm_nx_eq hS
          subst e1
          refine ⟨⟨Nat.le_refl _, Nat.le_refl _⟩, fun _ k => ?_⟩
          intro H locs cells slots ls ha
          by_cases h9 : (0 : Int) ≤ (pc : Int) + off
          · exact jg_icmp hx hb hd (Int.toNat_of_nonneg h9).symm (fun q => absurd q hc) (fun _ => k) H locs cells slots ls ha
          · exact jg_icmpN hx hb hd hc k H locs cells slots ls ha
      · cases hS
    · cases hS
  case goto off =>
    split at hS
    · rename_i hn
      subst hn
      obtain ⟨e2, e1⟩ := jm_jp_eq hS
      subst e1
      exact ⟨⟨Nat.le_refl _, Nat.le_refl _⟩, fun _ k => jg_goto hx hb hd e2 k⟩
    · cases hS
  case tableswitch d1 lo hi offs =>
    split at hS
    · rename_i x r
      split at hS
      · rename_i hq
        obtain ⟨e2, e1⟩ := jm_jp_eq hS
        subst e1
        exact ⟨⟨Nat.le_refl _, Nat.le_refl _⟩, fun _ k => jg_tableOut hx hb hd hq e2 k⟩
      · rename_i hq
        split at hS
        · rename_i off ho
          obtain ⟨e2, e1⟩ := jm_jp_eq hS
          subst e1
          exact ⟨⟨Nat.le_refl _, Nat.le_refl _⟩, fun _ k => jg_tableIn hx hb hd hq ho e2 k⟩
        · cases hS
    · cases hS
  case lookupswitch d1 ps =>
    split at hS
    · rename_i x r
      split at hS
      · rename_i hq
        obtain ⟨e2, e1⟩ := jm_jp_eq hS
        subst e1
        exact ⟨⟨Nat.le_refl _, Nat.le_refl _⟩, fun _ k => jg_lookup hx hb hd hq e2 k⟩
      · cases hS
    · cases hS
  case getfield k1 =>
    split at hS
    · rename_i hn
      subst hn
      split at hS
      · rename_i ci f t o1 a r hp
        split at hS
        · rename_i v hg
          have e1 := jm_nx_eq hS
          subst e1
          exact ⟨⟨Nat.le_refl _, Nat.le_refl _⟩, fun _ k => jg_getfield hx hb hown hts hC hp hg hd k⟩
        · cases hS
      · cases hS
    · cases hS
  case putfield k1 =>
    split at hS
    · rename_i hn
      subst hn
      split at hS
      · rename_i ci f t o1 v a r hp
        split at hS
        · rename_i hfin
          split at hS
          · rename_i h' hg
            have e1 := jm_nx_eq hS
            subst e1
            obtain ⟨-, fs, -, -, -, hq⟩ := jm_pf_inv hg
            subst hq
            exact ⟨⟨Nat.le_refl _, Nat.le_refl _⟩, fun _ k => jg_putfield hx hb hown hts hC hin hp hfin hg hd k⟩
          · cases hS
        · cases hS
      · cases hS
    · cases hS
  case getstatic k1 =>
    split at hS
    · rename_i hn
      subst hn
      split at hS
      · rename_i v hv
        have e1 := jm_nx_eq hS
        subst e1
        exact ⟨⟨Nat.le_refl _, Nat.le_refl _⟩, fun _ k => jg_getstatic hx hb hown hts hC hv hd k⟩
      · cases hS
    · cases hS
  case arraylength =>
    split at hS
    · rename_i hn
      subst hn
      split at hS
      · rename_i a r
        split at hS
        · rename_i x hg
          have e1 := jm_nx_eq hS
          subst e1
          exact ⟨⟨Nat.le_refl _, Nat.le_refl _⟩, fun _ k => jg_arraylength hx hb hC hg hd k⟩
        · cases hS
      · cases hS
    · cases hS
  case iaload =>
    split at hS
    · rename_i hn
      subst hn
      split at hS
      · rename_i i a r
        split at hS
        · rename_i x hg
          have e1 := jm_nx_eq hS
          subst e1
          exact ⟨⟨Nat.le_refl _, Nat.le_refl _⟩, fun _ k => jg_iaload hx hb hC hg hd k⟩
        · cases hS
      · cases hS
    · cases hS
  case caload =>
    split at hS
    · rename_i hn
      subst hn
      split at hS
      · rename_i i a r
        split at hS
        · rename_i x hg
          have e1 := jm_nx_eq hS
          subst e1
          exact ⟨⟨Nat.le_refl _, Nat.le_refl _⟩, fun _ k => jg_caload hx hb hC hg hd k⟩
        · cases hS
      · cases hS
    · cases hS
  case laload =>
    split at hS
    · rename_i hn
      subst hn
      split at hS
      · rename_i i a r
        split at hS
        · rename_i x hg
          have e1 := jm_nx_eq hS
          subst e1
          exact ⟨⟨Nat.le_refl _, Nat.le_refl _⟩, fun _ k => jg_laload hx hb hC hg hd k⟩
        · cases hS
      · cases hS
    · cases hS
  case aaload =>
    split at hS
    · rename_i hn
      subst hn
      split at hS
      · rename_i i a r
        split at hS
        · rename_i x hg
          have e1 := jm_nx_eq hS
          subst e1
          exact ⟨⟨Nat.le_refl _, Nat.le_refl _⟩, fun _ k => jg_aaload hx hb hC hg hd k⟩
        · cases hS
      · cases hS
    · cases hS
  case baload =>
    split at hS
    · rename_i hn
      subst hn
      split at hS
      · rename_i i a r
        split at hS
        · rename_i x hg
          have e1 := jm_nx_eq hS
          subst e1
          exact ⟨⟨Nat.le_refl _, Nat.le_refl _⟩, fun _ k => jg_baload hx hb hC hg hd k⟩
        · split at hS
          · rename_i x hg
            have e1 := jm_nx_eq hS
            subst e1
            exact ⟨⟨Nat.le_refl _, Nat.le_refl _⟩, fun _ k => jg_zaload hx hb hC hg hd k⟩
          · cases hS
      · cases hS
    · cases hS
  case iastore =>
    split at hS
    · rename_i hn
      subst hn
      split at hS
      · rename_i x i a r
        split at hS
        · rename_i h' hg
          have e1 := jm_nx_eq hS
          subst e1
          obtain ⟨-, n1, f, -, -, hq⟩ := jm_asi_inv hg
          subst hq
          exact ⟨⟨Nat.le_refl _, Nat.le_refl _⟩, fun _ k => jg_iastore hx hb hC hg hd k⟩
        · cases hS
      · cases hS
    · cases hS
  case castore =>
    split at hS
    · rename_i hn
      subst hn
      split at hS
      · rename_i x i a r
        split at hS
        · rename_i h' hg
          have e1 := jm_nx_eq hS
          subst e1
          obtain ⟨-, n1, f, -, -, hq⟩ := jm_asi_inv hg
          subst hq
          exact ⟨⟨Nat.le_refl _, Nat.le_refl _⟩, fun _ k => jg_castore hx hb hC hg hd k⟩
        · cases hS
      · cases hS
    · cases hS
  case lastore =>
    split at hS
    · rename_i hn
      subst hn
      split at hS
      · rename_i x i a r
        split at hS
        · rename_i h' hg
          have e1 := jm_nx_eq hS
          subst e1
          obtain ⟨-, n1, f, -, -, hq⟩ := jm_asl_inv hg
          subst hq
          exact ⟨⟨Nat.le_refl _, Nat.le_refl _⟩, fun _ k => jg_lastore hx hb hC hg hd k⟩
        · cases hS
      · cases hS
    · cases hS
  case aastore =>
    split at hS
    · rename_i hn
      subst hn
      split at hS
      · rename_i x i a r
        split at hS
        · rename_i h' hg
          have e1 := jm_nx_eq hS
          subst e1
          obtain ⟨-, -, t, n1, f, fs, -, -, -, -, hq⟩ := jm_asr_inv hg
          subst hq
          exact ⟨⟨Nat.le_refl _, Nat.le_refl _⟩, fun _ k => jg_aastore hx hb hC hg hd k⟩
        · cases hS
      · cases hS
    · cases hS
  case bastore =>
    split at hS
    · rename_i hn
      subst hn
      split at hS
      · rename_i x i a r
        split at hS
        · rename_i h' hg
          have e1 := jm_nx_eq hS
          subst e1
          obtain ⟨-, n1, f, -, -, hq⟩ := jm_asi_inv hg
          subst hq
          exact ⟨⟨Nat.le_refl _, Nat.le_refl _⟩, fun _ k => jg_bastore hx hb hC hg hd k⟩
        · split at hS
          · rename_i h' hg
            have e1 := jm_nx_eq hS
            subst e1
            obtain ⟨-, n1, f, -, -, hq⟩ := jm_asi_inv hg
            subst hq
            exact ⟨⟨Nat.le_refl _, Nat.le_refl _⟩, fun _ k => jg_zastore hx hb hC hg hd k⟩
          · cases hS
      · cases hS
    · cases hS
  case newarray t1 =>
    split at hS
    · rename_i hn
      subst hn
      split at hS
      · rename_i kk x r hk
        split at hS
        · rename_i h' hg
          have e1 := jm_nx_eq hS
          subst e1
          obtain ⟨-, -, hq⟩ := jm_newa_inv hg
          subst hq
          exact ⟨⟨Nat.le_succ _, Nat.le_add_right _ _⟩, fun hrm k => jg_newarray hN hx hb hts hC hk hg hd hrm k⟩
        · cases hS
      · cases hS
    · cases hS
  case anewarray k1 =>
    split at hS
    · rename_i hn
      subst hn
      split at hS
      · rename_i ci t x r hk
        split at hS
        · rename_i ht
          split at hS
          · rename_i h' hg
            have e1 := jm_nx_eq hS
            subst e1
            obtain ⟨-, -, hq⟩ := jm_newa_inv hg
            subst hq
            exact ⟨⟨Nat.le_succ _, Nat.le_add_right _ _⟩, fun hrm k => jg_anewarray hN hx hb hown hts hC hk ht hg hd hrm k⟩
          · cases hS
        · cases hS
      · cases hS
    · cases hS
  case new k1 =>
    split at hS
    · rename_i hn
      subst hn
      split at hS
      · rename_i ci t hk
        split at hS
        · rename_i hci
          split at hS
          · rename_i fs hfs
            have e1 := jm_nx_eq hS
            subst e1
            exact ⟨⟨Nat.le_succ _, Nat.le_add_right _ _⟩, fun hrm k => jg_new hN hx hb hown hts hC hk hci hfs hd hrm k⟩
          · cases hS
        · rename_i hci
          have hk' : jm_np M.2.2.2.2.2.1 k1 = some (100 + (ci - 100), t) := by rw [hk]; congr 2; omega
          have hS2 := jm_thr_eq hS
          subst hS2
          exact ⟨⟨Nat.le_succ _, Nat.le_add_right _ _⟩, fun hrm k => hThr _ _ _ _ _ _ _ _ hd hk' hS hrm k⟩
      · cases hS
    · cases hS
  case invokevirtual k1 =>
    split at hS
    · rename_i hn
      subst hn
      split at hS
      · rename_i y hk
        unfold jm_cv at hS
        simp only [] at hS
        split at hS
        · rename_i hn1
          split at hS
          · rename_i b rest hdr
            split at hS
            · rename_i hcb
              cases hres : call y (.ref b :: (st.take y.2.2.2.2.2.2.2).reverse) h with
              | none => rw [hres] at hS; cases hS
              | some res =>
                rw [hres] at hS
                have hmet := hcall _ _ _ _ (jm_okm_of hk (by decide)) hres
                obtain ⟨q1, q2⟩ := jm_ret_kx hfl hR hN hx hb hml hown hts hC hc23 hin htab hh22 hcall hRet hThr hOut hS
                rw [← q1]
                exact ⟨hmet.1, fun hrm k => jg_virt hR hN hx hb hml hown hts hC hc23 hk hn1 hdr hcb.1 hcb.2 hmet hd hrm (q2 k).1 (q2 k).2⟩
            · cases hS
          · cases hS
        · cases hS
      · cases hS
    · cases hS
  case invokestatic k1 =>
    split at hS
    · rename_i hn
      subst hn
      split at hS
      · rename_i st1 x9 st9 y hk
        unfold jm_cs at hS
        simp only [] at hS
        split at hS
        · rename_i hcb
          cases hres : call y (st1.take y.2.2.2.2.2.2.2).reverse h with
          | none => rw [hres] at hS; cases hS
          | some res =>
            rw [hres] at hS
            have hmet := hcall _ _ _ _ (jm_okm_of hk (by decide)) hres
            obtain ⟨q1, q2⟩ := jm_ret_kx hfl hR hN hx hb hml hown hts hC hc23 hin htab hh22 hcall hRet hThr hOut hS
            rw [← q1]
            exact ⟨hmet.1, fun hrm k => jg_stat hR hN hx hb hml hown hts hC (Or.inl rfl) hk hcb.1 hcb.2 hmet hd hrm (q2 k).1 (q2 k).2⟩
        · cases hS
      · rename_i st1 x9 st9 y hk
        unfold jm_cs at hS
        simp only [] at hS
        split at hS
        · rename_i hcb
          cases hres : call y (st1.take y.2.2.2.2.2.2.2).reverse h with
          | none => rw [hres] at hS; cases hS
          | some res =>
            rw [hres] at hS
            have hmet := hcall _ _ _ _ (jm_okm_of hk (by decide)) hres
            obtain ⟨q1, q2⟩ := jm_ret_kx hfl hR hN hx hb hml hown hts hC hc23 hin htab hh22 hcall hRet hThr hOut hS
            rw [← q1]
            exact ⟨hmet.1, fun hrm k => jg_stat hR hN hx hb hml hown hts hC (Or.inr rfl) hk hcb.1 hcb.2 hmet hd hrm (q2 k).1 (q2 k).2⟩
        · cases hS
      · rename_i y0 y x r hk
        split at hS
        · rename_i hcb
          have e1 := jm_nx_eq hS
          subst e1
          exact ⟨⟨Nat.le_refl _, Nat.le_refl _⟩, fun hrm k => jg_max hR8 hx hb hml hown hts hC hk hcb hrm hd k⟩
        · cases hS
      · rename_i y0 y x r hk
        split at hS
        · rename_i hcb
          have e1 := jm_nx_eq hS
          subst e1
          exact ⟨⟨Nat.le_refl _, Nat.le_refl _⟩, fun hrm k => jg_min hR8 hx hb hml hown hts hC hk hcb hrm hd k⟩
        · cases hS
      · rename_i y0 kk dp a sp a0 r hk
        split at hS
        · rename_i hcb
          split at hS
          · rename_i h' hg
            have e1 := jm_nx_eq hS
            subst e1
            obtain ⟨-, -, -, -, -, hq⟩ := jm_cpy_inv hg
            have hh : (h'.1 = h.1 ∧ h'.2.1 = h.2.1) := by
              rcases hq with ⟨n0, n1, f, g, -, -, -, -, rfl⟩ | ⟨n0, n1, f, g, -, -, -, -, rfl⟩ <;> exact ⟨rfl, rfl⟩
            exact ⟨⟨Nat.le_of_eq hh.1.symm, Nat.le_of_eq hh.2.symm⟩, fun hrm k => jg_arraycopy hR8 hx hb hml hown hts hC hk hcb hg hd k⟩
          · cases hS
        · cases hS
      · cases hS
    · cases hS
  case invokespecial k1 =>
    split at hS
    · rename_i hn
      subst hn
      split at hS
      · rename_i y hk
        unfold jm_ci at hS
        simp only [] at hS
        split at hS
        · rename_i hn1
          split at hS
          · rename_i b rest hdr
            split at hS
            · rename_i hcb
              split at hS
              · rename_i v h' hres
                have hmet := hcall _ _ _ _ (jm_okm_of hk (by decide)) hres
                have e1 := jm_nx_eq hS
                subst e1
                exact ⟨hmet.1, fun hrm k => jg_ctor hR hN hx hb hml hown hts hC hc23 (Or.inl rfl) hk hn1 hdr hcb.1 hcb.2 hmet hd hrm k⟩
              · cases hS
            · cases hS
          · cases hS
        · cases hS
      · rename_i y hk
        unfold jm_ci at hS
        simp only [] at hS
        split at hS
        · rename_i hn1
          split at hS
          · rename_i b rest hdr
            split at hS
            · rename_i hcb
              split at hS
              · rename_i v h' hres
                have hmet := hcall _ _ _ _ (jm_okm_of hk (by decide)) hres
                have e1 := jm_nx_eq hS
                subst e1
                exact ⟨hmet.1, fun hrm k => jg_ctor hR hN hx hb hml hown hts hC hc23 (Or.inr rfl) hk hn1 hdr hcb.1 hcb.2 hmet hd hrm k⟩
              · cases hS
            · cases hS
          · cases hS
        · cases hS
      · rename_i y hk
        split at hS
        · rename_i a r
          split at hS
          · rename_i hcb
            have e1 := jm_nx_eq hS
            subst e1
            exact ⟨⟨Nat.le_refl _, Nat.le_refl _⟩, fun hrm k => jg_objInit hR8 hx hb hml hown hts hC hk hcb.1 hcb.2 hd k⟩
          · cases hS
        · cases hS
      · cases hS
    · cases hS
  case ireturn =>
    split at hS
    · rename_i hn
      subst hn
      split at hS
      · rename_i ty x hty
        split at hS
        · rename_i hx1
          cases hS
          exact ⟨⟨Nat.le_refl _, Nat.le_refl _⟩, fun _ k => hRet _ _ _ _ _ (Or.inl ⟨hd, ty, x, hty, rfl, rfl, hx1⟩) k⟩
        · cases hS
      · cases hS
    · cases hS
  case lreturn =>
    split at hS
    · rename_i hn
      obtain ⟨rfl, hty⟩ := hn
      split at hS
      · rename_i x
        cases hS
        exact ⟨⟨Nat.le_refl _, Nat.le_refl _⟩, fun _ k => hRet _ _ _ _ _ (Or.inr (Or.inl ⟨hd, hty, x, rfl, rfl⟩)) k⟩
      · cases hS
    · cases hS
  case dreturn =>
    split at hS
    · rename_i hn
      obtain ⟨rfl, hty⟩ := hn
      split at hS
      · rename_i x
        cases hS
        exact ⟨⟨Nat.le_refl _, Nat.le_refl _⟩, fun _ k => hRet _ _ _ _ _ (Or.inr (Or.inr (Or.inl ⟨hd, hty, x, rfl, rfl⟩))) k⟩
      · cases hS
    · cases hS
  case areturn =>
    split at hS
    · rename_i hn
      subst hn
      split at hS
      · rename_i ty x hty
        split at hS
        · rename_i hx1
          cases hS
          exact ⟨⟨Nat.le_refl _, Nat.le_refl _⟩, fun _ k => hRet _ _ _ _ _ (Or.inr (Or.inr (Or.inr (Or.inl ⟨hd, ty, x, hty, hx1, rfl, rfl⟩)))) k⟩
        · cases hS
      · cases hS
    · cases hS
  case return_ =>
    split at hS
    · rename_i hn
      obtain ⟨rfl, hty, rfl⟩ := hn
      cases hS
      exact ⟨⟨Nat.le_refl _, Nat.le_refl _⟩, fun _ k => hRet _ _ _ _ _ (Or.inr (Or.inr (Or.inr (Or.inr ⟨hd, hty, rfl, rfl⟩)))) k⟩
    · cases hS
end JMO
