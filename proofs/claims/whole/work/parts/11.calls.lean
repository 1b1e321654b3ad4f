/-! ===== the simulation: calls, throws, catching ===== -/
/-- what is asked of a call, and what it brings -/
def jm_Pc (X : jm_X) (vs : List Value) (h : jm_H) : Array Value → State → Prop := va_Pc (vs.map (jm_vc X)) (fun U => jm_pic X h U.heap ∧ jm_cst X U U.heap ∧ X.N0 ≤ U.heap.size)
def jm_Qc (X : jm_X) (r : jm_R) : Array Value → State → Outcome → State → Prop := fun _ st o t => match r.1 with
  | .inl v => o = .returned (v.map (jm_vc X)) ∧ jm_pic X r.2 t.heap ∧ va_F (jm_Z X) st t
  | .inr _ => False
def jm_Xc (X : jm_X) (r : jm_R) : String → State → State → Prop := fun E st t => match r.1 with
  | .inl _ => False
  | .inr x => x ≤ 2 ∧ E = jm_exn x ∧ jm_pic X r.2 t.heap ∧ va_F (jm_Z X) st t
def jm_room (d : Nat) (h h' : jm_H) : Room := { frames := d + 8, cells := h'.1 - h.1, slots := h'.2.1 - h.2.1, locals := 41 * d + 100 }
/-- the contract of a call of the abstract machine -/
def jm_met (lc : Launch) (X : jm_X) (d : Nat) (y : jm_M) (vs : List Value) (h : jm_H) (r : jm_R) : Prop :=
  (h.1 ≤ r.2.1 ∧ h.2.1 ≤ r.2.2.1) ∧ vx_Met lc y.1 (jm_cw y :: jm_ws) (jm_room d h r.2) (jm_Pc X vs h) (jm_Qc X r) (jm_Xc X r) (r.2.1 - h.1) (r.2.2.1 - h.2.1) (jm_Z X)
def jm_okm (y : jm_M) : Prop := (∀ w ∈ jm_mwd y, w ∈ jm_ws) ∧ jm_mok y = true ∧ jm_cw y ∈ jm_ws ∧ y ∈ jm_mll y.2.2.2.2.2.1
theorem jm_okm_of {c i k : Nat} {y : jm_M} (h : jm_mp c i = some (k, y)) (hk : k < 10) : jm_okm y := by
  obtain ⟨h1, h2, h3, -⟩ := jf_call h hk
  exact ⟨h1, h2, h3, (jf_mi c _ (jf_mp_in h) hk).1⟩
theorem jm_vm_calling {s U : State} {g : JFrame} {mk : MethodId} {a : Array Value} : (U.calling g mk a).vm = U.vm := rfl
theorem jm_blind (X : jm_X) (vs : List Value) (h : jm_H) : FrameBlind (jm_Pc X vs h) := by
  intro a U g mk q
  obtain ⟨q1, q2, q3, q4⟩ := q
  have hS : va_S (jm_Z X) U.heap U.heap [] := va_S.rf
  exact ⟨q1, q2, jm_cst_to (U := U.calling g mk a) q3 hS (State.WarmedH.refl U), q4⟩
section JMK
variable {X : jm_X} {p : Program} {lc : Launch} {e : Env} {R : Room} {s : State} {m : MethodId} {args : Array Value} {below : List Frame} {meth : Method} {c : Code} {nL : Nat} {h0 : jm_H} {Q : State → Prop}
variable {cc : ByteArray} {pc : Nat} {l : List (Option Value)} {r : List Value} {h h' : jm_H} {cno : Nat}
/-- the state behind a call -/
theorem jm_at_call {H : Heap} {locs L : List Loc} {cells slots : Nat} {ls : Array Slot} {st₀ t T' : State} (ha : jm_at X s h0 h H locs cells slots ls nL l) (hm : h.1 ≤ h'.1 ∧ h.2.1 ≤ h'.2.1) (hp : jm_pic X h' t.heap) (hF : va_F (jm_Z X) st₀ t) (e0 : st₀.heap = H) (e1 : T'.heap = t.heap) (hL : ∀ q ∈ L, jm_Z X q.base) : jm_at X s h0 h' T'.heap (locs ++ L) (cells + (h'.1 - h.1)) (slots + (h'.2.1 - h.2.1)) ls nL l := by
  obtain ⟨a1, a2, a3, a4, a5⟩ := ha
  obtain ⟨-, -, k3⟩ := vx_keep e0 e1 a2 (fun q _ z => z) (fun q z => z) hL hF
  refine ⟨by rw [e1]; exact hp, k3, by omega, by omega, a5⟩
theorem jm_run_ret {H : Heap} {locs : List Loc} {cells slots : Nat} {ls : Array Slot} {st0 : List Value} {arr : Array Value} {v : Option Value} (ha : jm_at X s h0 h H locs cells slots ls nL l) (hm : h.1 ≤ h'.1 ∧ h.2.1 ≤ h'.2.1)
    (hr : vx_Run p lc e R s m args below meth c H locs cells slots (h'.1 - h.1) (h'.2.1 - h.2.1) (F0 m pc ls st0) (r.map (jm_vc X)) (jm_Qc X (.inl v, h') arr) (jm_Xc X (.inl v, h')) (jm_Z X))
    (kk : jm_go X p lc e R s m args below meth c nL h0 Q (pc + 3) l (v.toList ++ r) h') : W p lc e R s m args below meth c H locs cells slots Q (F0 m pc ls st0) := by
  intro T hT X1
  rcases hr T hT X1 with ⟨v', st₀, t, T', L, e0, X', hL, e1, e2, ⟨q1, q2, q3⟩, st⟩ | ⟨q, st₀, t, T', L, E, ce, e0, X', hL, e1, e2, hz, -⟩
  · cases q1
    have k1 := kk T'.heap (locs ++ L) _ _ ls (jm_at_call ha hm q2 q3 e0 e1 hL)
    rw [List.map_append] at k1
    have e5 : (v.toList).map (jm_vc X) = (v.map (jm_vc X)).toList := by cases v <;> rfl
    rw [e5] at k1
    obtain ⟨t2, a1, b1⟩ := k1 T' rfl X'
    exact ⟨t2, st t2 a1, b1⟩
  · exact hz.elim
theorem jm_run_thr {H : Heap} {locs : List Loc} {cells slots : Nat} {ls : Array Slot} {st0 : List Value} {arr : Array Value} {x : Nat} (ha : jm_at X s h0 h H locs cells slots ls nL l) (hm : h.1 ≤ h'.1 ∧ h.2.1 ≤ h'.2.1)
    (hr : vx_Run p lc e R s m args below meth c H locs cells slots (h'.1 - h.1) (h'.2.1 - h.2.1) (F0 m pc ls st0) (r.map (jm_vc X)) (jm_Qc X (.inr x, h') arr) (jm_Xc X (.inr x, h')) (jm_Z X))
    (kx : x ≤ 2 → ∀ (H1 : Heap) (locs1 : List Loc) (ce : Cell) (q : Addr), jm_at X s h0 h' H1 locs1 (cells + (h'.1 - h.1)) (slots + (h'.2.1 - h.2.1)) ls nL l → H1[q]? = some ce → ce.vm = .none → s.vm.findClass (jm_exn x) = some ce.cls → vx_W p lc e R s m args below meth c H1 locs1 (cells + (h'.1 - h.1)) (slots + (h'.2.1 - h.2.1)) Q (F0 m pc ls (r.map (jm_vc X))) q) : W p lc e R s m args below meth c H locs cells slots Q (F0 m pc ls st0) := by
  intro T hT X1
  rcases hr T hT X1 with ⟨v', st₀, t, T', L, e0, X', hL, e1, e2, hz, -⟩ | ⟨q, st₀, t, T', L, E, ce, e0, X', hL, e1, e2, ⟨q1, rfl, q2, q3⟩, hce, hcv, hcl, st⟩
  · exact hz.elim
  · obtain ⟨t2, a1, b1⟩ := kx q1 T'.heap (locs ++ L) ce q (jm_at_call ha hm q2 q3 e0 e1 hL) (by rw [e1]; exact hce) hcv hcl T' rfl X'
    exact ⟨t2, st.trans a1, b1⟩
theorem jm_good {y : jm_M} (hy : jm_cw y ∈ jm_ws) : GoodIn jm_ws (jm_cw y :: jm_ws) := by
  intro w hw
  have h1 : w ∈ jm_ws := by
    rcases List.mem_cons.mp hw with rfl | q
    · exact hy
    · exact q
  exact ⟨h1, good_of_word (List.mem_filter.mp h1).2⟩
theorem jm_mok_of {y : jm_M} (h1 : jm_mok y = true) : (parseMethodDescriptor y.1.desc).map (fun d => d.parameters.length) = some y.2.2.2.2.2.2.2 ∧ plainName y.1.cls = true ∧ y.1.cls ≠ "java/lang/invoke/MethodHandle" ∧ y.1.cls ≠ "java/lang/invoke/VarHandle" ∧ y.2.2.1 ≤ 22 ∧ y.1.cls = jm_cl y.2.2.2.2.2.1 ∧ (y.2.2.2.2.2.2.1 = 2 → y.1.name = "<init>" ∧ y.2.2.2.1 = none) := by
  unfold jm_mok at h1
  simp only [Bool.and_eq_true, decide_eq_true_eq, Bool.or_eq_true] at h1
  obtain ⟨⟨⟨⟨⟨⟨h1, h2⟩, h3⟩, h4⟩, h5⟩, h6⟩, h7⟩ := h1
  exact ⟨h1, h2, h3, h4, h5, h6, fun q => h7.resolve_left (fun z => z q)⟩
/-- the callee's premises at the call -/
theorem jm_pre {H : Heap} {locs : List Loc} {cells slots : Nat} {ls : Array Slot} {vs : List Value} (hN : X.N0 ≤ s.heap.size) (hC : jm_cst X s s.heap) (ha : jm_at X s h0 h H locs cells slots ls nL l) : ∀ U : State, U.heap = H → s.WarmedH U.vm → jm_Pc X vs h (vs.map (jm_vc X)).toArray U := by
  intro U hU hW
  refine ⟨rfl, by rw [hU]; exact ha.1, ?_, ?_⟩
  · rw [hU]
    exact jm_cst_to hC ha.2.1 hW
  · rw [hU]
    exact Nat.le_trans hN ha.2.1.1
/-- a receiver -/
theorem jm_recv {H : Heap} {locs : List Loc} {cells slots : Nat} {ls : Array Slot} {a : Nat} {C : String} (hC : jm_cst X s s.heap) (ha : jm_at X s h0 h H locs cells slots ls nL l) (hr : ∃ ci fs, h.2.2 a = some (.inr (ci, fs)) ∧ ((ci = 90 ∧ C = "java/lang/String") ∨ (ci < 13 ∧ C = (jm_vq ci).1))) : ∃ b, jm_vc X (.ref a) = .ref b ∧ ∃ cell : Cell, H[b]? = some cell ∧ cell.vm.isStatics = false ∧ s.vm.findClass C = some cell.cls := by
  obtain ⟨ci, fs, g1, g2⟩ := hr
  rcases Nat.lt_or_ge a 128 with q | q
  · rw [ha.1.2.2.2 a q] at g1
    obtain ⟨rfl, g3, -⟩ := jm_kon_obj g1
    rcases g2 with ⟨-, rfl⟩ | ⟨z, -⟩
    · exact ⟨_, jm_vc_k q (by omega), vk_recv hC.2.2.1 g3 ha.2.1⟩
    · omega
  · have hat := jm_pic_at ha.1 q g1
    rcases g2 with ⟨rfl, -⟩ | ⟨z, rfl⟩
    · obtain ⟨rr, z1, -⟩ := hat
      simp [vwCl] at z1
    · exact ⟨_, jm_vc_h q, va_recv hC.1 (jm_one hat) (jm_vq_some z) (q0 := 0) rfl⟩
theorem jm_c2i_ok : ∀ cn, cn < 23 → (jm_c2i cn = 90 → jm_cl cn = "java/lang/String") ∧ (jm_c2i cn < 13 → cn ≠ 10 → jm_cl cn = (jm_vq (jm_c2i cn)).1) := by decide +kernel
theorem jm_ob_of {a cn : Nat} (h2 : cn < 23) (h3 : cn ≠ 10) (h4 : jm_c2i cn = 90 ∨ jm_c2i cn < 13) (h1 : jm_ob h a cn = true) : ∃ ci fs, h.2.2 a = some (.inr (ci, fs)) ∧ ((ci = 90 ∧ jm_cl cn = "java/lang/String") ∨ (ci < 13 ∧ jm_cl cn = (jm_vq ci).1)) := by
  unfold jm_ob at h1
  split at h1
  · rename_i ci fs hc
    have h5 : ci = jm_c2i cn := of_decide_eq_true h1
    subst h5
    refine ⟨_, fs, hc, ?_⟩
    obtain ⟨q1, q2⟩ := jm_c2i_ok cn h2
    rcases h4 with z | z
    · exact Or.inl ⟨z, q1 z⟩
    · exact Or.inr ⟨z, q2 z h3⟩
  · cases h1
end JMK
