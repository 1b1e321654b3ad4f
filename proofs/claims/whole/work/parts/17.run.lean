/-! ===== the simulation: a body, and a call of any depth ===== -/
section JMP
variable {X : jm_X} {p : Program} {lc : Launch} {e : Env} {R : Room} {s : State} {m : MethodId} {args : Array Value} {below : List Frame} {meth : Method} {c : Code} {nL : Nat} {h0 : jm_H} {Q : State → Prop}
variable {d : Nat} {M : jm_M}
theorem jm_body (hfl : lc.stackTraces = false) (hR : d + 9 ≤ R.frames ∧ 41 * d + 141 ≤ R.locals) (hN : X.N0 ≤ s.heap.size) (hx : p.tables.exec = Jvm.exec) (hb : c.code = M.2.1) (hml : c.maxLocals = nL) (hown : s.vm.findClass (jm_cl M.2.2.2.2.2.1) = some m.cls) (hts : ∀ w ∈ jm_ws, w.before args s = true) (hC : jm_cst X s s.heap) (hc23 : M.2.2.2.2.2.1 < 23) (hin : M.2.2.2.2.2.2.1 = 2 → meth.name = "<init>") (htab : M.2.2.2.2.1 ≠ [] → c.exceptionTable.toList = tableOf M.2.2.2.2.1) (hh22 : M.2.2.2.2.1 ≠ [] → M.2.2.2.2.2.1 = 22)
    {call : jm_M → List Value → jm_H → Option jm_R} (hcall : ∀ y vs h r, jm_okm y → call y vs h = some r → jm_met lc X d y vs h r) {r0 : jm_R}
    (hRet : ∀ pc l st h v, jm_rto M.2.1 M.2.2.2.1 pc st v → (.inl v, h) = r0 → jm_go X p lc e R s m args below meth c nL h0 Q pc l st h)
    (hThr : ∀ pc l st h k x t S, decode M.2.1 pc = .ok (.new k, 3) → jm_np M.2.2.2.2.2.1 k = some (100 + x, t) → jm_thr M pc x st h = some S → jm_rm R h0 (jm_gap h) → (.inr x, jm_gap h) = r0 → jm_go X p lc e R s m args below meth c nL h0 Q pc l st h)
    (hOut : ∀ x h' pc l rest, M.2.2.2.2.1 = [] → (.inr x, h') = r0 → jm_kx X p lc e R s m args below meth c nL h0 Q pc l rest x h') : ∀ (n : Nat) (q : jm_C) (h : jm_H), jm_loop call M n q h = some r0 → (h.1 ≤ r0.2.1 ∧ h.2.1 ≤ r0.2.2.1) ∧ (jm_rm R h0 r0.2 → jm_go X p lc e R s m args below meth c nL h0 Q q.1 q.2.1 q.2.2 h) := by
  intro n
  induction n with
  | zero => intro q h hl; cases hl
  | succ n ih =>
    intro q h hl
    unfold jm_loop at hl
    cases hs : jm_step call M q h with
    | none => rw [hs] at hl; cases hl
    | some S =>
      rw [hs] at hl
      unfold jm_step at hs
      cases hdc : decode M.2.1 q.1 with
      | error er => rw [hdc] at hs; cases hs
      | ok z =>
        rw [hdc] at hs
        obtain ⟨i, k⟩ := z
        obtain ⟨g1, g2⟩ := jm_sim hfl hR hN hx hb hml hown hts hC hc23 hin htab hh22 hcall hRet hThr hOut hdc hs
        cases S with
        | inl z =>
          obtain ⟨i1, i2⟩ := ih z.1 z.2 hl
          have m1 : h.1 ≤ z.2.1 := g1.1
          have m2 : h.2.1 ≤ z.2.2.1 := g1.2
          refine ⟨⟨Nat.le_trans m1 i1.1, Nat.le_trans m2 i1.2⟩, fun hrm => g2 ⟨Nat.le_trans i1.1 hrm.1, Nat.le_trans i1.2 hrm.2⟩ (i2 hrm)⟩
        | inr z =>
          have hz : z = r0 := Option.some.inj hl
          subst hz
          exact ⟨g1, fun hrm => g2 hrm rfl⟩
end JMP
theorem jm_ent_args (X : jm_X) (hfc : X.fv.category = 1) : ∀ (vs : List Value) (k i : Nat) (v : Value), (jm_ent vs)[i]? = some (some v) → (k + i, jm_vc X v) ∈ lv_args k (vs.map (jm_vc X))
  | [], k, i, v, h => by simp [jm_ent] at h
  | w :: vs, k, i, v, h => by
    have two : ∀ (w : Value), jm_ent (w :: vs) = some w :: none :: jm_ent vs → (jm_vc X w).category = 2 → (jm_ent (w :: vs))[i]? = some (some v) → (k + i, jm_vc X v) ∈ lv_args k ((w :: vs).map (jm_vc X)) := by
      intro w e1 e2 h
      rw [e1] at h
      show (k + i, jm_vc X v) ∈ (k, jm_vc X w) :: lv_args (if (jm_vc X w).category = 2 then k + 2 else k + 1) (vs.map (jm_vc X))
      rw [if_pos e2]
      match i, h with
      | 0, h => cases h; exact List.mem_cons_self
      | 1, h => cases h
      | i + 2, h =>
        have := jm_ent_args X hfc vs (k + 2) i v (by simpa using h)
        rw [show k + (i + 2) = k + 2 + i by omega]
        exact List.mem_cons_of_mem _ this
    have one : ∀ (w : Value), jm_ent (w :: vs) = some w :: jm_ent vs → (jm_vc X w).category ≠ 2 → (jm_ent (w :: vs))[i]? = some (some v) → (k + i, jm_vc X v) ∈ lv_args k ((w :: vs).map (jm_vc X)) := by
      intro w e1 e2 h
      rw [e1] at h
      show (k + i, jm_vc X v) ∈ (k, jm_vc X w) :: lv_args (if (jm_vc X w).category = 2 then k + 2 else k + 1) (vs.map (jm_vc X))
      rw [if_neg e2]
      match i, h with
      | 0, h => cases h; exact List.mem_cons_self
      | i + 1, h =>
        have := jm_ent_args X hfc vs (k + 1) i v (by simpa using h)
        rw [show k + (i + 1) = k + 1 + i by omega]
        exact List.mem_cons_of_mem _ this
    by_cases hc : (jm_vc X w).category = 2
    · refine two w ?_ hc h
      cases w with
      | long x => rfl
      | double x => rfl
      | int x => cases hc
      | float x => cases hc
      | null => cases hc
      | retAddr x => cases hc
      | ref a =>
        exfalso
        have h3 : (jm_vc X (.ref a)).category = 2 := hc
        have h4 : (if a < 128 then (if a = 81 then X.fv else .ref (X.ka a)) else .ref (jm_ad X a)).category = 2 := h3
        split at h4
        · split at h4
          · exact absurd h4 (by rw [hfc]; decide)
          · cases h4
        · cases h4
    · refine one w ?_ hc h
      cases w with
      | long x => exact absurd rfl hc
      | double x => exact absurd rfl hc
      | int x => rfl
      | float x => rfl
      | null => rfl
      | retAddr x => rfl
      | ref a => rfl
theorem jm_ent_len (X : jm_X) (hfc : X.fv.category = 1) : ∀ vs : List Value, (lg_sl (vs.map (jm_vc X))).length = (jm_ent vs).length
  | [] => rfl
  | w :: vs => by
    have ih := jm_ent_len X hfc vs
    have e1 : lg_sl ((w :: vs).map (jm_vc X)) = (if (jm_vc X w).category = 2 then [Slot.val (jm_vc X w), Slot.second] else [Slot.val (jm_vc X w)]) ++ lg_sl (vs.map (jm_vc X)) := by simp [lg_sl]
    rw [e1, List.length_append, ih, jm_vc_cat X hfc w]
    cases w <;> simp [Value.category, jm_ent] <;> omega
theorem jm_lr_entry (X : jm_X) (hfc : X.fv.category = 1) (vs : List Value) {n : Nat} (h : (jm_ent vs).length ≤ n) : jm_lr X ((lg_sl (vs.map (jm_vc X)) ++ List.replicate (n - (lg_sl (vs.map (jm_vc X))).length) Slot.unset).toArray) n (jm_pad (jm_ent vs) n) := by
  have hl := lv_entry (vs.map (jm_vc X)) (n := n) (by rw [jm_ent_len X hfc]; exact h)
  refine ⟨hl.1, hl.2.1, by unfold jm_pad; rw [List.length_append, List.length_replicate]; omega, fun i v hv => ?_⟩
  unfold jm_pad at hv
  have h1 : (jm_ent vs)[i]? = some (some v) := by
    rcases Nat.lt_or_ge i (jm_ent vs).length with q | q
    · rw [List.getElem?_append_left q] at hv
      exact hv
    · rw [List.getElem?_append_right q] at hv
      have := List.mem_of_getElem? hv
      rw [List.mem_replicate] at this
      cases this.2
  have h2 := jm_ent_args X hfc vs 0 i v h1
  rw [Nat.zero_add] at h2
  exact hl.2.2 _ h2
theorem jm_mll_lt {c : Nat} {y : jm_M} (h : y ∈ jm_mll c) : c < 23 := by
  rcases Nat.lt_or_ge c 23 with q | q
  · exact q
  · obtain ⟨k, rfl⟩ : ∃ k, c = k + 23 := ⟨c - 23, by omega⟩
    exact absurd h List.not_mem_nil
/-- WHATEVER THE ABSTRACT MACHINE ANSWERS, THE REAL ONE DOES -/
theorem jm_run_met {lc : Launch} (hfl : lc.stackTraces = false) (X : jm_X) (F : Nat) : ∀ (d : Nat) (y : jm_M) (vs : List Value) (h : jm_H) (r : jm_R), jm_okm y → jm_run F d y vs h = some r → jm_met lc X d y vs h r := by
  intro d
  induction d with
  | zero => intro y vs h r _ hr; cases hr
  | succ d ih =>
    intro y vs h r hy hr
    unfold jm_run at hr
    split at hr
    · rename_i hlen
      obtain ⟨w1, w2, w3, w4⟩ := hy
      obtain ⟨o1, o2, o3, o4, o5, o6, o7⟩ := jm_mok_of w2
      have hc23 := jm_mll_lt w4
      have hh22 := jf_hh _ hc23 y w4
      -- what holds of any body of the method
      have mono : h.1 ≤ r.2.1 ∧ h.2.1 ≤ r.2.2.1 := by
        exact jm_loop_mono (fun y vs h r hy hr => (ih y vs h r hy hr).1) F _ h r hr
      have main : ∀ {p : Program} {e : Env} {s : State} {m : MethodId} {args : Array Value} {below : List Frame} {meth : Method} {c : Code} {s₁ : State}, BodyLoose p lc y.1 (headSpec (jm_cw y :: jm_ws) (jm_room (d + 1) h r.2)) y.2.1 y.2.2.1 y.2.2.2.1 e s m args below meth c s₁ → c.maxLocals = y.2.2.1 → c.exceptionTable.toList = tableOf y.2.2.2.2.1 → jm_Pc X vs h args s →
          W p lc e (jm_room (d + 1) h r.2) s m args below meth c s.heap [] 0 0 (vx_MQ below (jm_Qc X r) (jm_Xc X r) args s (r.2.1 - h.1) (r.2.2.1 - h.2.1) (jm_Z X)) (entryFrame m args y.2.2.1) := by
        intro p e s m args below meth c s₁ B hml htab hv
        obtain ⟨rfl, hP, hC, hN⟩ := hv
        have hts0 := atoms_spec (ws := jm_cw y :: jm_ws) B.pre
        have hts : ∀ w ∈ jm_ws, w.before (vs.map (jm_vc X)).toArray s = true := fun w hw => hts0 w (List.mem_cons_of_mem _ hw)
        have hown : s.vm.findClass (jm_cl y.2.2.2.2.2.1) = some m.cls := by rw [← o6]; exact findClass_of_methodNamed B.named
        have hfc := jm_fv_cat hC.2.1
        have hb := jm_body (e := e) (h0 := h) (Q := vx_MQ below (jm_Qc X r) (jm_Xc X r) (vs.map (jm_vc X)).toArray s (r.2.1 - h.1) (r.2.2.1 - h.2.1) (jm_Z X)) (R := jm_room (d + 1) h r.2) (d := d) hfl ⟨by show d + 9 ≤ d + 1 + 8; omega, by show 41 * d + 141 ≤ 41 * (d + 1) + 100; omega⟩ hN B.exec B.bytes hml hown hts hC hc23
          (fun q => by rw [(name_of_methodNamed B.named B.method).1]; exact (o7 q).1) (fun _ => htab) hh22 ih (r0 := r)
          (fun pc l st h1 v q1 q2 => by subst q2; exact jg_return B.exec B.bytes B.notSynchronized B.returns hC.2.1 q1)
          (fun pc l st h1 k x t S q1 q2 q3 q4 q5 => by
            subst q5
            have hh0 : y.2.2.2.2.1 = [] := by
              unfold jm_thr at q3
              split at q3
              · rename_i hq
                exact hq.1
              · cases q3
            rw [hh0] at htab
            exact (jg_throw hfl ⟨by show 8 ≤ d + 1 + 8; omega, by show 100 ≤ 41 * (d + 1) + 100; omega⟩ B.exec B.bytes hml B.notSynchronized (fun z hz => by rw [htab] at hz; exact absurd hz List.not_mem_nil) hown hts hC rfl rfl q1 q2 q3 q4).2)
          (fun x h1 pc l rest q1 q2 => by
            subst q2
            rw [q1] at htab
            exact jg_out B.notSynchronized (fun z hz => by rw [htab] at hz; exact absurd hz List.not_mem_nil))
          F _ _ hr
        have hgo := hb.2 ⟨by show r.2.1 ≤ h.1 + (r.2.1 - h.1); omega, by show r.2.2.1 ≤ h.2.1 + (r.2.2.1 - h.2.1); omega⟩
        rw [lg_entry_eq]
        exact hgo s.heap [] 0 0 _ ⟨hP, va_S.rf, Nat.zero_add _, Nat.zero_add _, jm_lr_entry X hfc vs hlen⟩
      refine ⟨mono, ?_⟩
      by_cases hh : y.2.2.2.2.1 = []
      · have hcw : jm_cw y = .code y.1 y.2.1 y.2.2.1 y.2.2.2.1 := by unfold jm_cw; rw [hh]
        rw [hcw] at main ⊢
        exact vx_ofW o2 rfl fun p e s m args below meth c s₁ B hml ht hv => main B hml (by
          rw [hh]
          cases hq : c.exceptionTable.toList with
          | nil => rfl
          | cons z zs => exact (ht z (by rw [hq]; exact List.mem_cons_self)).elim) hv
      · have hcw : jm_cw y = .codeWith y.1 y.2.1 y.2.2.1 y.2.2.2.1 y.2.2.2.2.1 := by
          unfold jm_cw
          split
          · rename_i hq; exact absurd hq hh
          · rfl
        rw [hcw] at main ⊢
        exact vx_ofWH o2 rfl fun p e s m args below meth c s₁ B hml hv => main B hml (vx_table (x := y.1) B (atoms_spec (ws := _ :: jm_ws) B.pre _ List.mem_cons_self)) hv
    · cases hr
