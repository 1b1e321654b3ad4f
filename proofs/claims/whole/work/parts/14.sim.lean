/-! ===== the simulation: any instruction; a body; a call ===== -/
def jm_hp : jm_S → jm_H
  | .inl q => q.2
  | .inr r => r.2
theorem jf_hh : ∀ c, c < 23 → ∀ y ∈ jm_mll c, y.2.2.2.2.1 ≠ [] → y.2.2.2.2.2.1 = 22 := by decide +kernel
section JMO
variable {X : jm_X} {p : Program} {lc : Launch} {e : Env} {R : Room} {s : State} {m : MethodId} {args : Array Value} {below : List Frame} {meth : Method} {c : Code} {nL : Nat} {h0 : jm_H} {Q : State → Prop}
variable {d : Nat} {M : jm_M}
/-- what comes behind an instruction -/
def jm_K (X : jm_X) (p : Program) (lc : Launch) (e : Env) (R : Room) (s : State) (m : MethodId) (args : Array Value) (below : List Frame) (meth : Method) (c : Code) (nL : Nat) (h0 : jm_H) (Q : State → Prop) (r0 : jm_R) : jm_S → Prop
  | .inl q => jm_go X p lc e R s m args below meth c nL h0 Q q.1.1 q.1.2.1 q.1.2.2 q.2
  | .inr r => r = r0
theorem jm_nx_eq {pc : Nat} {l : List (Option Value)} {st : List Value} {h : jm_H} {S : jm_S} (h1 : jm_nx pc l st h = some S) : S = .inl ((pc, l, st), h) := (Option.some.inj h1).symm
theorem jm_jp_eq {pc : Nat} {off : Int} {l : List (Option Value)} {st : List Value} {h : jm_H} {S : jm_S} (h1 : jm_jp pc off l st h = some S) : (pc : Int) + off = ((((pc : Int) + off).toNat : Nat) : Int) ∧ S = .inl ((((pc : Int) + off).toNat, l, st), h) := by
  unfold jm_jp at h1
  split at h1
  · rename_i hq
    exact ⟨(Int.toNat_of_nonneg hq).symm, jm_nx_eq h1⟩
  · cases h1
theorem jm_thr_eq {pc x : Nat} {st : List Value} {h : jm_H} {S : jm_S} (hS : jm_thr M pc x st h = some S) : S = .inr (.inr x, jm_gap h) := by
  unfold jm_thr at hS
  split at hS
  · split at hS
    · split at hS
      · split at hS
        · exact (Option.some.inj hS).symm
        · cases hS
      · cases hS
    · split at hS
      · split at hS
        · exact (Option.some.inj hS).symm
        · cases hS
      · cases hS
    · cases hS
  · cases hS
theorem jw_ifN {cc : ByteArray} {pc : Nat} {H : Heap} {locs : List Loc} {cells slots : Nat} {ls : Array Slot} {rest : List Value} (hx : p.tables.exec = Jvm.exec) (hb : c.code = cc) {x : Int32} {op : Jvm.ClassFile.Cond} {off : Int} (hd : decode cc pc = .ok (.ifCond op off, 3)) (hc : ¬ jm_cc op x 0 = true) (kf : W p lc e R s m args below meth c H locs cells slots Q (F0 m (pc + 3) ls rest)) : W p lc e R s m args below meth c H locs cells slots Q (F0 m pc ls (.int x :: rest)) := by
  intro T hT X1
  obtain ⟨t, a1, b1⟩ := kf T hT X1
  refine ⟨t, ?_, b1⟩
  cases op <;> simp only [jm_cc, decide_eq_true_eq, Classical.not_not, ge_iff_le, gt_iff_lt] at hc <;> jvm_step X1.here [X1.here.top, hx, hb, hd, Op.ifCond.holds, hc] <;> exact a1
theorem jw_icmpN {cc : ByteArray} {pc : Nat} {H : Heap} {locs : List Loc} {cells slots : Nat} {ls : Array Slot} {rest : List Value} (hx : p.tables.exec = Jvm.exec) (hb : c.code = cc) {x y : Int32} {op : Jvm.ClassFile.Cond} {off : Int} (hd : decode cc pc = .ok (.if_icmp op off, 3)) (hc : ¬ jm_cc op x y = true) (kf : W p lc e R s m args below meth c H locs cells slots Q (F0 m (pc + 3) ls rest)) : W p lc e R s m args below meth c H locs cells slots Q (F0 m pc ls (.int y :: .int x :: rest)) := by
  intro T hT X1
  obtain ⟨t, a1, b1⟩ := kf T hT X1
  refine ⟨t, ?_, b1⟩
  cases op <;> simp only [jm_cc, decide_eq_true_eq, Classical.not_not, ge_iff_le, gt_iff_lt] at hc <;> jvm_step X1.here [X1.here.top, hx, hb, hd, Op.if_icmp.holds, hc] <;> exact a1
theorem jg_ifCondN {cc : ByteArray} {pc : Nat} {l : List (Option Value)} {r : List Value} {h : jm_H} (hx : p.tables.exec = Jvm.exec) (hb : c.code = cc) {x : Int32} {op : Jvm.ClassFile.Cond} {off : Int} (hd : decode cc pc = .ok (.ifCond op off, 3)) (hc : ¬ jm_cc op x 0 = true) (kf : jm_go X p lc e R s m args below meth c nL h0 Q (pc + 3) l r h) : jm_go X p lc e R s m args below meth c nL h0 Q pc l (.int x :: r) h := fun H locs cells slots ls ha => jw_ifN hx hb hd hc (kf H locs cells slots ls ha)
theorem jg_icmpN {cc : ByteArray} {pc : Nat} {l : List (Option Value)} {r : List Value} {h : jm_H} (hx : p.tables.exec = Jvm.exec) (hb : c.code = cc) {x y : Int32} {op : Jvm.ClassFile.Cond} {off : Int} (hd : decode cc pc = .ok (.if_icmp op off, 3)) (hc : ¬ jm_cc op x y = true) (kf : jm_go X p lc e R s m args below meth c nL h0 Q (pc + 3) l r h) : jm_go X p lc e R s m args below meth c nL h0 Q pc l (.int y :: .int x :: r) h := fun H locs cells slots ls ha => jw_icmpN hx hb hd hc (kf H locs cells slots ls ha)
/-- behind a throw that a call hands out -/
theorem jm_ex_kx (hfl : lc.stackTraces = false) (hR : d + 9 ≤ R.frames ∧ 41 * d + 141 ≤ R.locals) (hN : X.N0 ≤ s.heap.size) (hx : p.tables.exec = Jvm.exec) (hb : c.code = M.2.1) (hml : c.maxLocals = nL) (hown : s.vm.findClass (jm_cl M.2.2.2.2.2.1) = some m.cls) (hts : ∀ w ∈ jm_ws, w.before args s = true) (hC : jm_cst X s s.heap) (hc23 : M.2.2.2.2.2.1 < 23) (hin : M.2.2.2.2.2.2.1 = 2 → meth.name = "<init>") (htab : M.2.2.2.2.1 ≠ [] → c.exceptionTable.toList = tableOf M.2.2.2.2.1) (hh22 : M.2.2.2.2.1 ≠ [] → M.2.2.2.2.2.1 = 22)
    {call : jm_M → List Value → jm_H → Option jm_R} (hcall : ∀ y vs h r, jm_okm y → call y vs h = some r → jm_met lc X d y vs h r) {r0 : jm_R}
    (hRet : ∀ pc l st h v, jm_rto M.2.1 M.2.2.2.1 pc st v → (.inl v, h) = r0 → jm_go X p lc e R s m args below meth c nL h0 Q pc l st h)
    (hThr : ∀ pc l st h k x t S, decode M.2.1 pc = .ok (.new k, 3) → jm_np M.2.2.2.2.2.1 k = some (100 + x, t) → jm_thr M pc x st h = some S → jm_rm R h0 (jm_gap h) → (.inr x, jm_gap h) = r0 → jm_go X p lc e R s m args below meth c nL h0 Q pc l st h)
    (hOut : ∀ x h' pc l rest, M.2.2.2.2.1 = [] → (.inr x, h') = r0 → jm_kx X p lc e R s m args below meth c nL h0 Q pc l rest x h') {pc : Nat} {l : List (Option Value)} {rest : List Value} {x : Nat} {h' : jm_H} {S : jm_S} (hS : jm_ex M pc l x h' = some S) : h' = jm_hp S ∧ (jm_K X p lc e R s m args below meth c nL h0 Q r0 S → jm_kx X p lc e R s m args below meth c nL h0 Q pc l rest x h') := by
  unfold jm_ex at hS
  split at hS
  · rename_i hq
    cases hS
    exact ⟨rfl, fun k => hOut x h' pc l rest hq k⟩
  · rename_i hq
    split at hS
    · rename_i t ht
      have h22 := hh22 hq
      rw [h22] at ht hown
      split at hS
      · rename_i k hd
        split at hS
        · rename_i hk
          have e1 := jm_nx_eq hS
          subst e1
          refine ⟨rfl, fun kk => jg_catch hx hb hown hts hC (htab hq) ht hk (fun H locs cells slots ls q hl k2 => ?_) kk⟩
          exact lv_astore_n hx hb hd rfl (jm_lr_has hl) (by rw [← hl.2.2.1]; exact hk) rfl k2
        · cases hS
      · rename_i k hd
        split at hS
        · rename_i hk
          have e1 := jm_nx_eq hS
          subst e1
          refine ⟨rfl, fun kk => jg_catch hx hb hown hts hC (htab hq) ht hk (fun H locs cells slots ls q hl k2 => ?_) kk⟩
          exact lv_astore hx hb hd (jm_lr_has hl) (by rw [← hl.2.2.1]; exact hk) rfl k2
        · cases hS
      · cases hS
    · cases hS
theorem jm_ret_kx (hfl : lc.stackTraces = false) (hR : d + 9 ≤ R.frames ∧ 41 * d + 141 ≤ R.locals) (hN : X.N0 ≤ s.heap.size) (hx : p.tables.exec = Jvm.exec) (hb : c.code = M.2.1) (hml : c.maxLocals = nL) (hown : s.vm.findClass (jm_cl M.2.2.2.2.2.1) = some m.cls) (hts : ∀ w ∈ jm_ws, w.before args s = true) (hC : jm_cst X s s.heap) (hc23 : M.2.2.2.2.2.1 < 23) (hin : M.2.2.2.2.2.2.1 = 2 → meth.name = "<init>") (htab : M.2.2.2.2.1 ≠ [] → c.exceptionTable.toList = tableOf M.2.2.2.2.1) (hh22 : M.2.2.2.2.1 ≠ [] → M.2.2.2.2.2.1 = 22)
    {call : jm_M → List Value → jm_H → Option jm_R} (hcall : ∀ y vs h r, jm_okm y → call y vs h = some r → jm_met lc X d y vs h r) {r0 : jm_R}
    (hRet : ∀ pc l st h v, jm_rto M.2.1 M.2.2.2.1 pc st v → (.inl v, h) = r0 → jm_go X p lc e R s m args below meth c nL h0 Q pc l st h)
    (hThr : ∀ pc l st h k x t S, decode M.2.1 pc = .ok (.new k, 3) → jm_np M.2.2.2.2.2.1 k = some (100 + x, t) → jm_thr M pc x st h = some S → jm_rm R h0 (jm_gap h) → (.inr x, jm_gap h) = r0 → jm_go X p lc e R s m args below meth c nL h0 Q pc l st h)
    (hOut : ∀ x h' pc l rest, M.2.2.2.2.1 = [] → (.inr x, h') = r0 → jm_kx X p lc e R s m args below meth c nL h0 Q pc l rest x h') {pc : Nat} {l : List (Option Value)} {rest : List Value} {res : jm_R} {S : jm_S} (hS : jm_ret M pc l rest (some res) = some S) : res.2 = jm_hp S ∧ (jm_K X p lc e R s m args below meth c nL h0 Q r0 S → (∀ v h', res = (.inl v, h') → jm_go X p lc e R s m args below meth c nL h0 Q (pc + 3) l (v.toList ++ rest) h') ∧ (∀ x h', res = (.inr x, h') → jm_kx X p lc e R s m args below meth c nL h0 Q pc l rest x h')) := by
  obtain ⟨res1, res2⟩ := res
  cases res1 with
  | inl v =>
    have e1 := jm_nx_eq hS
    subst e1
    exact ⟨rfl, fun k => ⟨fun v' h' q => (by cases q; exact k), fun x h' q => (by cases q)⟩⟩
  | inr x =>
    obtain ⟨q1, q2⟩ := jm_ex_kx hfl hR hN hx hb hml hown hts hC hc23 hin htab hh22 hcall hRet hThr hOut (rest := rest) hS
    exact ⟨q1, fun k => ⟨fun v' h' q => (by cases q), fun x' h' q => (by cases q; exact q2 k)⟩⟩
end JMO
