/-! ===== the simulation: the rows of the calls ===== -/
theorem jf_virt : ∀ c, c < 23 → ∀ q ∈ jm_mpl c, q.2.1 = 0 → q.2.2.2.2.2.2.2.1 < 23 ∧ q.2.2.2.2.2.2.2.1 ≠ 10 ∧ (jm_c2i q.2.2.2.2.2.2.2.1 = 90 ∨ jm_c2i q.2.2.2.2.2.2.2.1 < 13) := by decide +kernel
theorem jf_nest : ∀ c, c < 23 → ∀ q ∈ jm_mpl c, q.2.1 = 3 → c = 13 ∧ q.1 = 19 ∧ q.2.2.1 = yX12_init := by decide +kernel
section JML
variable {X : jm_X} {p : Program} {lc : Launch} {e : Env} {R : Room} {s : State} {m : MethodId} {args : Array Value} {below : List Frame} {meth : Method} {c : Code} {nL : Nat} {h0 : jm_H} {Q : State → Prop}
variable {cc : ByteArray} {pc d : Nat} {l : List (Option Value)} {r : List Value} {h h' : jm_H} {cno : Nat}
/-- what goes on where a call has thrown -/
def jm_kx (X : jm_X) (p : Program) (lc : Launch) (e : Env) (R : Room) (s : State) (m : MethodId) (args : Array Value) (below : List Frame) (meth : Method) (c : Code) (nL : Nat) (h0 : jm_H) (Q : State → Prop) (pc : Nat) (l : List (Option Value)) (rest : List Value) (x : Nat) (h' : jm_H) : Prop :=
  x ≤ 2 → ∀ (H1 : Heap) (locs1 : List Loc) (cells slots : Nat) (ls : Array Slot) (ce : Cell) (q : Addr), jm_at X s h0 h' H1 locs1 cells slots ls nL l → H1[q]? = some ce → ce.vm = .none → s.vm.findClass (jm_exn x) = some ce.cls → vx_W p lc e R s m args below meth c H1 locs1 cells slots Q (F0 m pc ls (rest.map (jm_vc X))) q
theorem jm_met_ret {y : jm_M} {vs : List Value} {v : Option Value} (hm : jm_met lc X d y vs h (.inl v, h')) : Met lc y.1 (jm_cw y :: jm_ws) (jm_room d h h') (jm_Pc X vs h) (jm_Qc X (.inl v, h')) (h'.1 - h.1) (h'.2.1 - h.2.1) (jm_Z X) := by
  intro p e a1 a2 a3 s m args below hf happ hP hK
  obtain ⟨n, o, q1, q2, q3, q4⟩ := hm.2 p e a1 a2 a3 s m args below hf happ hP hK
  refine ⟨n, o, q1, q2, q3, ?_⟩
  rcases q4 with q | ⟨q, -, E, ce, L, hz, -⟩
  · exact q
  · exact hz.elim
theorem jm_run_retM {H : Heap} {locs : List Loc} {cells slots : Nat} {ls : Array Slot} {st0 : List Value} {arr : Array Value} {v : Option Value} (ha : jm_at X s h0 h H locs cells slots ls nL l) (hm : h.1 ≤ h'.1 ∧ h.2.1 ≤ h'.2.1)
    (hr : va_Run p lc e R s m args below meth c H locs cells slots (h'.1 - h.1) (h'.2.1 - h.2.1) (F0 m pc ls st0) (r.map (jm_vc X)) (jm_Qc X (.inl v, h') arr) (jm_Z X))
    (kk : jm_go X p lc e R s m args below meth c nL h0 Q (pc + 3) l (v.toList ++ r) h') : W p lc e R s m args below meth c H locs cells slots Q (F0 m pc ls st0) := by
  intro T hT X1
  obtain ⟨v', st₀, t, T', L, e0, X', hL, e1, e2, ⟨q1, q2, q3⟩, st⟩ := hr T hT X1
  cases q1
  have k1 := kk T'.heap (locs ++ L) _ _ ls (jm_at_call ha hm q2 q3 e0 e1 hL)
  rw [List.map_append] at k1
  have e5 : (v.toList).map (jm_vc X) = (v.map (jm_vc X)).toList := by cases v <;> rfl
  rw [e5] at k1
  obtain ⟨t2, a1, b1⟩ := k1 T' rfl X'
  exact ⟨t2, st t2 a1, b1⟩
theorem jm_np_of {y : jm_M} (h1 : jm_mok y = true) : ∀ sig, parseMethodDescriptor y.1.desc = some sig → y.2.2.2.2.2.2.2 = sig.parameters.length := by
  intro sig hs
  have h2 := (jm_mok_of h1).1
  rw [hs] at h2
  exact (Option.some.inj h2).symm
theorem jm_split {st rest : List Value} {n b : Nat} (hdr : st.drop n = .ref b :: rest) : st = (st.take n).reverse.reverse ++ .ref b :: rest := by
  rw [List.reverse_reverse, ← hdr, List.take_append_drop]
theorem jm_cells {H : Heap} {locs : List Loc} {cells slots : Nat} {ls : Array Slot} (ha : jm_at X s h0 h H locs cells slots ls nL l) (hm : h.1 ≤ h'.1 ∧ h.2.1 ≤ h'.2.1) (hrm : jm_rm R h0 h') : cells + (h'.1 - h.1) ≤ R.cells ∧ slots + (h'.2.1 - h.2.1) ≤ R.slots := by
  have h1 := ha.2.2.1
  have h2 := ha.2.2.2.1
  have h3 := hrm.1
  have h4 := hrm.2
  constructor <;> omega
set_option maxHeartbeats 1000000 in
theorem jg_virt (hR : d + 9 ≤ R.frames ∧ 41 * d + 141 ≤ R.locals) (hN : X.N0 ≤ s.heap.size) (hx : p.tables.exec = Jvm.exec) (hb : c.code = cc) (hml : c.maxLocals = nL) (hown : s.vm.findClass (jm_cl cno) = some m.cls) (hts : ∀ w ∈ jm_ws, w.before args s = true) (hC : jm_cst X s s.heap) (hc23 : cno < 23) {k b : Nat} {y : jm_M} {st rest : List Value} {res : jm_R} (hk : jm_mp cno k = some (0, y)) (hn : y.2.2.2.2.2.2.2 ≤ st.length) (hdr : st.drop y.2.2.2.2.2.2.2 = .ref b :: rest) (hcat : jm_cat rest ≤ 8) (hob : jm_ob h b y.2.2.2.2.2.1 = true)
    (hmet : jm_met lc X d y (.ref b :: (st.take y.2.2.2.2.2.2.2).reverse) h res) (hd : decode cc pc = .ok (.invokevirtual k, 3)) (hrm : jm_rm R h0 res.2)
    (k1 : ∀ v h', res = (.inl v, h') → jm_go X p lc e R s m args below meth c nL h0 Q (pc + 3) l (v.toList ++ rest) h') (k2 : ∀ x h', res = (.inr x, h') → jm_kx X p lc e R s m args below meth c nL h0 Q pc l rest x h') : jm_go X p lc e R s m args below meth c nL h0 Q pc l st h := by
  intro H locs cells slots ls ha
  obtain ⟨w1, w2, w3, w4⟩ := jf_call hk (by decide)
  obtain ⟨o1, o2, o3, o4, o5, o6, -⟩ := jm_mok_of w2
  obtain ⟨v1, v2, v3⟩ := jf_virt cno hc23 _ (jf_mp_in hk) rfl
  simp only [jm_kok, Bool.and_eq_true, decide_eq_true_eq] at w4
  have hcw : jm_cw y = .code y.1 y.2.1 y.2.2.1 y.2.2.2.1 := by unfold jm_cw; rw [w4.2]
  have hwd : jm_mwd y = [.instanceMethod y.1, .selects y.1.cls y.1 y.1, .initialized y.1.cls] := by unfold jm_mwd; rw [w4.1]; rfl
  rw [hwd] at w1
  obtain ⟨b', hb', hcell⟩ := jm_recv (C := y.1.cls) hC ha (by rw [o6]; exact jm_ob_of v1 v2 v3 hob)
  have hcr := jm_cat_vc hC.2.1 rest
  have hM := hmet.2
  rw [hcw] at hM w3
  have hcells := jm_cells ha hmet.1 hrm
  have cw : CallW R s args (jm_cl cno) y.1.cls k y.1 y.2.1 y.2.2.1 y.2.2.2.1 (Cond.code y.1 y.2.1 y.2.2.1 y.2.2.2.1 :: jm_ws) (jm_room d h res.2) (res.2.1 - h.1) (res.2.2.1 - h.2.1) y.2.2.2.2.2.2.2 := by
    refine ⟨⟨rfl, rfl, ?_, ?_, pay_in hts (by rw [← hcw]; exact jm_good (by rw [hcw]; exact w3)), List.mem_cons_self, hts _ w3, hts _ (w1 _ (by simp)), ⟨o3, o4⟩, jm_np_of w2, hts _ (jf_link hk)⟩, hts _ (w1 _ (by simp)), hts _ (w1 _ (by simp))⟩
    · show d + 8 + 1 ≤ R.frames
      omega
    · show 8 + (y.2.2.1 + 11) + (41 * d + 100) ≤ R.locals
      omega
  have hpre := jm_pre (vs := .ref b :: (st.take y.2.2.2.2.2.2.2).reverse) hN hC ha
  rw [List.map_cons, hb'] at hpre
  have hrun := vx_runV (l := lc) (e := e) (below := below) (meth := meth) (locs := locs) (p := p) (rest := rest.map (jm_vc X)) (As := ((st.take y.2.2.2.2.2.2.2).reverse).map (jm_vc X)) (b := b') (g := F0 m pc ls (st.map (jm_vc X))) (cells := cells) (slots := slots) ⟨hx, hb, hml, hown, hts⟩ hM cw ⟨jm_blind X _ h, hcell, hpre⟩ rfl (by rw [List.length_map, List.length_reverse, List.length_take]; omega) ha.2.2.2.2.1 (by
      show st.map (jm_vc X) = _
      conv => lhs; rw [jm_split hdr]
      rw [List.map_append, List.map_cons, hb', List.map_reverse]) (lv_room (ls := ls) (m := m) (pc := pc) (by omega)) hd hcells
  obtain ⟨res1, res2⟩ := res
  cases res1 with
  | inl v => exact jm_run_ret ha hmet.1 hrun (k1 v res2 rfl)
  | inr x => exact jm_run_thr ha hmet.1 hrun (fun q H1 locs1 ce q1 a1 a2 a3 a4 => k2 x res2 rfl q H1 locs1 _ _ ls ce q1 a1 a2 a3 a4)
set_option maxHeartbeats 1000000 in
theorem jg_stat (hR : d + 9 ≤ R.frames ∧ 41 * d + 141 ≤ R.locals) (hN : X.N0 ≤ s.heap.size) (hx : p.tables.exec = Jvm.exec) (hb : c.code = cc) (hml : c.maxLocals = nL) (hown : s.vm.findClass (jm_cl cno) = some m.cls) (hts : ∀ w ∈ jm_ws, w.before args s = true) (hC : jm_cst X s s.heap) {k kd : Nat} {y : jm_M} {st : List Value} {res : jm_R} (hkd : kd = 1 ∨ kd = 4) (hk : jm_mp cno k = some (kd, y)) (hn : y.2.2.2.2.2.2.2 ≤ st.length) (hcat : jm_cat (st.drop y.2.2.2.2.2.2.2) ≤ 8)
    (hmet : jm_met lc X d y (st.take y.2.2.2.2.2.2.2).reverse h res) (hd : decode cc pc = .ok (.invokestatic k, 3)) (hrm : jm_rm R h0 res.2)
    (k1 : ∀ v h', res = (.inl v, h') → jm_go X p lc e R s m args below meth c nL h0 Q (pc + 3) l (v.toList ++ st.drop y.2.2.2.2.2.2.2) h') (k2 : ∀ x h', res = (.inr x, h') → jm_kx X p lc e R s m args below meth c nL h0 Q pc l (st.drop y.2.2.2.2.2.2.2) x h') : jm_go X p lc e R s m args below meth c nL h0 Q pc l st h := by
  intro H locs cells slots ls ha
  obtain ⟨w1, w2, w3, w4⟩ := jf_call hk (by rcases hkd with rfl | rfl <;> decide)
  obtain ⟨o1, o2, o3, o4, o5, o6, -⟩ := jm_mok_of w2
  have hlk : Cond.methodLink (jm_cl cno) k y.1 ∈ jm_ws := by
    have := jf_link hk
    rcases hkd with rfl | rfl <;> exact this
  have hkind : y.2.2.2.2.2.2.1 = 1 := by
    rcases hkd with rfl | rfl <;> simp only [jm_kok, Bool.and_eq_true, decide_eq_true_eq] at w4 <;> exact w4.1
  have hwd : jm_mwd y = [.static y.1, .initialized y.1.cls] := by unfold jm_mwd; rw [hkind]; rfl
  rw [hwd] at w1
  have hcr := jm_cat_vc hC.2.1 (st.drop y.2.2.2.2.2.2.2)
  have hM := hmet.2
  have hcells := jm_cells ha hmet.1 hrm
  have hpre := jm_pre (vs := (st.take y.2.2.2.2.2.2.2).reverse) hN hC ha
  have hfr : (jm_room d h res.2).frames + 1 ≤ R.frames := by show d + 8 + 1 ≤ R.frames; omega
  have hlo : 8 + (y.2.2.1 + 11) + (jm_room d h res.2).locals ≤ R.locals := by show 8 + (y.2.2.1 + 11) + (41 * d + 100) ≤ R.locals; omega
  have hst : st.map (jm_vc X) = (((st.take y.2.2.2.2.2.2.2).reverse).map (jm_vc X)).reverse ++ (st.drop y.2.2.2.2.2.2.2).map (jm_vc X) := by
    rw [List.map_reverse, List.reverse_reverse, ← List.map_append, List.take_append_drop]
  have hlen : (((st.take y.2.2.2.2.2.2.2).reverse).map (jm_vc X)).length = y.2.2.2.2.2.2.2 := by rw [List.length_map, List.length_reverse, List.length_take]; omega
  have hrun : vx_Run p lc e R s m args below meth c H locs cells slots (res.2.1 - h.1) (res.2.2.1 - h.2.1) (F0 m pc ls (st.map (jm_vc X))) ((st.drop y.2.2.2.2.2.2.2).map (jm_vc X)) (jm_Qc X res (((st.take y.2.2.2.2.2.2.2).reverse).map (jm_vc X)).toArray) (jm_Xc X res) (jm_Z X) := by
    rcases hkd with rfl | rfl
    · simp only [jm_kok, Bool.and_eq_true, decide_eq_true_eq] at w4
      have hcw : jm_cw y = .code y.1 y.2.1 y.2.2.1 y.2.2.2.1 := by unfold jm_cw; rw [w4.2]
      rw [hcw] at hM w3
      exact vx_runS (own := jm_cl cno) (index := k) (y := y.1) (bytes := y.2.1) (maxL := y.2.2.1) (ret := y.2.2.2.1) (n := y.2.2.2.2.2.2.2) ⟨hx, hb, hml, hown, hts⟩ hM ⟨⟨rfl, rfl, hfr, hlo, pay_in hts (by rw [← hcw]; exact jm_good (by rw [hcw]; exact w3)), List.mem_cons_self, hts _ w3, hts _ (w1 _ (by simp)), ⟨o3, o4⟩, jm_np_of w2, hts _ hlk⟩, hts _ (w1 _ (by simp))⟩ ⟨jm_blind X _ h, hpre⟩ rfl hlen ha.2.2.2.2.1 hst (lv_room (ls := ls) (m := m) (pc := pc) (by omega)) hd hcells
    · simp only [jm_kok, Bool.and_eq_true, decide_eq_true_eq, Bool.not_eq_true', decide_eq_false_iff_not] at w4
      have hcw : jm_cw y = .codeWith y.1 y.2.1 y.2.2.1 y.2.2.2.1 y.2.2.2.2.1 := by
        unfold jm_cw
        split
        · rename_i hq; exact absurd hq w4.2
        · rfl
      rw [hcw] at hM w3
      exact vx_runSX (own := jm_cl cno) (index := k) (y := y.1) (bytes := y.2.1) (maxL := y.2.2.1) (ret := y.2.2.2.1) (hh := y.2.2.2.2.1) (n := y.2.2.2.2.2.2.2) ⟨hx, hb, hml, hown, hts⟩ hM ⟨⟨rfl, rfl, hfr, hlo, pay_in hts (by rw [← hcw]; exact jm_good (by rw [hcw]; exact w3)), List.mem_cons_self⟩, hts _ w3, hts _ (w1 _ (by simp)), ⟨o3, o4⟩, jm_np_of w2, hts _ hlk, hts _ (w1 _ (by simp))⟩ ⟨jm_blind X _ h, hpre⟩ rfl hlen ha.2.2.2.2.1 hst (lv_room (ls := ls) (m := m) (pc := pc) (by omega)) hd hcells
  obtain ⟨res1, res2⟩ := res
  cases res1 with
  | inl v => exact jm_run_ret ha hmet.1 hrun (k1 v res2 rfl)
  | inr x => exact jm_run_thr ha hmet.1 hrun (fun q H1 locs1 ce q1 a1 a2 a3 a4 => k2 x res2 rfl q H1 locs1 _ _ ls ce q1 a1 a2 a3 a4)
set_option maxHeartbeats 1000000 in
theorem jg_ctor (hR : d + 9 ≤ R.frames ∧ 41 * d + 141 ≤ R.locals) (hN : X.N0 ≤ s.heap.size) (hx : p.tables.exec = Jvm.exec) (hb : c.code = cc) (hml : c.maxLocals = nL) (hown : s.vm.findClass (jm_cl cno) = some m.cls) (hts : ∀ w ∈ jm_ws, w.before args s = true) (hC : jm_cst X s s.heap) (hc23 : cno < 23) {k kd b : Nat} {y : jm_M} {st rest : List Value} {v : Option Value} (hkd : kd = 2 ∨ kd = 3) (hk : jm_mp cno k = some (kd, y)) (hn : y.2.2.2.2.2.2.2 ≤ st.length) (hdr : st.drop y.2.2.2.2.2.2.2 = .ref b :: rest) (hcat : jm_cat rest ≤ 8) (hb128 : 128 ≤ b)
    (hmet : jm_met lc X d y (.ref b :: (st.take y.2.2.2.2.2.2.2).reverse) h (.inl v, h')) (hd : decode cc pc = .ok (.invokespecial k, 3)) (hrm : jm_rm R h0 h')
    (k1 : jm_go X p lc e R s m args below meth c nL h0 Q (pc + 3) l (v.toList ++ rest) h') : jm_go X p lc e R s m args below meth c nL h0 Q pc l st h := by
  intro H locs cells slots ls ha
  obtain ⟨w1, w2, w3, w4⟩ := jf_call hk (by rcases hkd with rfl | rfl <;> decide)
  obtain ⟨o1, o2, o3, o4, o5, o6, o7⟩ := jm_mok_of w2
  have hkind : y.2.2.2.2.2.2.1 = 2 ∧ y.2.2.2.2.1 = [] := by
    rcases hkd with rfl | rfl <;> simp only [jm_kok, Bool.and_eq_true, decide_eq_true_eq] at w4 <;> exact w4
  obtain ⟨o8, o9⟩ := o7 hkind.1
  have hcw : jm_cw y = .code y.1 y.2.1 y.2.2.1 none := by unfold jm_cw; rw [hkind.2, o9]
  have hwd : jm_mwd y = [.instanceMethod y.1, .initialized y.1.cls] := by unfold jm_mwd; rw [hkind.1]; rfl
  rw [hwd] at w1
  have hcr := jm_cat_vc hC.2.1 rest
  have hM := jm_met_ret hmet
  rw [hcw] at hM w3
  have hcells := jm_cells ha hmet.1 hrm
  have hpre := jm_pre (vs := .ref b :: (st.take y.2.2.2.2.2.2.2).reverse) hN hC ha
  rw [List.map_cons, jm_vc_h hb128] at hpre
  have hfr : (jm_room d h h').frames + 1 ≤ R.frames := by show d + 8 + 1 ≤ R.frames; omega
  have hlo : 8 + (y.2.2.1 + 11) + (jm_room d h h').locals ≤ R.locals := by show 8 + (y.2.2.1 + 11) + (41 * d + 100) ≤ R.locals; omega
  have hst : st.map (jm_vc X) = (((st.take y.2.2.2.2.2.2.2).reverse).map (jm_vc X)).reverse ++ .ref (jm_ad X b) :: rest.map (jm_vc X) := by
    conv => lhs; rw [jm_split hdr]
    rw [List.map_append, List.map_cons, jm_vc_h hb128, List.map_reverse]
  have hlen : (((st.take y.2.2.2.2.2.2.2).reverse).map (jm_vc X)).length = y.2.2.2.2.2.2.2 := by rw [List.length_map, List.length_reverse, List.length_take]; omega
  have hpay : ∀ w ∈ Cond.code y.1 y.2.1 y.2.2.1 none :: jm_ws, ∀ (a' : Array Value) (U : State), s.WarmedH U.vm → w.before a' U = true := pay_in hts (by rw [← hcw]; exact jm_good (by rw [hcw]; exact w3))
  have hrun : va_Run p lc e R s m args below meth c H locs cells slots (h'.1 - h.1) (h'.2.1 - h.2.1) (F0 m pc ls (st.map (jm_vc X))) (rest.map (jm_vc X)) (jm_Qc X (.inl v, h') (Value.ref (jm_ad X b) :: ((st.take y.2.2.2.2.2.2.2).reverse).map (jm_vc X)).toArray) (jm_Z X) := by
    rcases hkd with rfl | rfl
    · exact va_runI (own := jm_cl cno) (index := k) (y := y.1) (bytes := y.2.1) (maxL := y.2.2.1) (n := y.2.2.2.2.2.2.2) ⟨hx, hb, hml, hown, hts⟩ hM ⟨⟨rfl, rfl, hfr, hlo, hpay, List.mem_cons_self, hts _ w3, hts _ (w1 _ (by simp)), ⟨o3, o4⟩, jm_np_of w2, hts _ (jf_link hk)⟩, o8, hts _ (w1 _ (by simp))⟩ ⟨jm_blind X _ h, hpre⟩ rfl hlen ha.2.2.2.2.1 hst (lv_room (ls := ls) (m := m) (pc := pc) (by omega)) hd hcells
    · obtain ⟨n1, n2, n3⟩ := jf_nest cno hc23 _ (jf_mp_in hk) rfl
      have n3' : y.1 = yX12_init := n3
      have n2' : k = 19 := n2
      have hnest : (Cond.methodLinkNest (jm_cl cno) k y.1 "MaskPlaysModel").before args s = true := by
        rw [n1, n2', n3']
        exact va_Nw.use rfl (hC.2.2.2.2.2.2.1 _ jf_mn)
      exact va_runIN (own := jm_cl cno) (index := k) (y := y.1) (host := "MaskPlaysModel") (bytes := y.2.1) (maxL := y.2.2.1) (n := y.2.2.2.2.2.2.2) ⟨hx, hb, hml, hown, hts⟩ hM ⟨⟨⟨rfl, rfl, hfr, hlo, hpay, List.mem_cons_self⟩, hts _ w3, hts _ (w1 _ (by simp)), ⟨o3, o4⟩, jm_np_of w2, hnest⟩, o8, hts _ (w1 _ (by simp))⟩ ⟨jm_blind X _ h, hpre⟩ rfl hlen ha.2.2.2.2.1 hst (lv_room (ls := ls) (m := m) (pc := pc) (by omega)) hd hcells
  exact jm_run_retM ha hmet.1 hrun k1
end JML
