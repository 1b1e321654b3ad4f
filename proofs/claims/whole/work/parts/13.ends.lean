/-! ===== the simulation: catching, throwing, going out, returning ===== -/
theorem jm_hd_split {cno pc x : Nat} : ∀ (hh : List (Nat × Nat × Nat × Nat)) {t : Nat}, jm_hd cno hh pc x = some t → ∃ pre z suf, hh = pre ++ z :: suf ∧ z.2.2.1 = t ∧ (z.1 ≤ pc ∧ pc < z.2.1) ∧ (∃ q, jm_np cno z.2.2.2 = some (100 + x, q)) ∧ ∀ w ∈ pre, ¬ (w.1 ≤ pc ∧ pc < w.2.1) ∨ ∃ y q, jm_np cno w.2.2.2 = some (y, q) ∧ y ≠ 100 + x ∧ 100 ≤ y
  | [], t, h => by simp [jm_hd] at h
  | (a, b, t1, k) :: l, t, h => by
    unfold jm_hd at h
    split at h
    · rename_i hc
      split at h
      · rename_i y q hy
        split at h
        · rename_i hyx
          cases h
          exact ⟨[], (a, b, t1, k), l, rfl, rfl, hc, ⟨q, by rw [hy, hyx]⟩, fun w hw => absurd hw List.not_mem_nil⟩
        · rename_i hyx
          split at h
          · rename_i h100
            obtain ⟨pre, z, suf, e1, e2, e3, e4, e5⟩ := jm_hd_split l h
            refine ⟨(a, b, t1, k) :: pre, z, suf, by rw [e1]; rfl, e2, e3, e4, fun w hw => ?_⟩
            rcases List.mem_cons.mp hw with rfl | hw
            · exact Or.inr ⟨y, q, hy, hyx, h100⟩
            · exact e5 w hw
          · cases h
      · cases h
    · rename_i hc
      obtain ⟨pre, z, suf, e1, e2, e3, e4, e5⟩ := jm_hd_split l h
      refine ⟨(a, b, t1, k) :: pre, z, suf, by rw [e1]; rfl, e2, e3, e4, fun w hw => ?_⟩
      rcases List.mem_cons.mp hw with rfl | hw
      · exact Or.inl hc
      · exact e5 w hw
theorem jm_un_len : ∀ (l : List (Option Value)) (i : Nat), (jm_un l i).length = l.length
  | [], _ => rfl
  | _ :: _, 0 => rfl
  | _ :: l, 1 => by simp [jm_un, jm_un_len l 0]
  | _ :: l, i + 2 => by simp [jm_un, jm_un_len l (i + 1)]
theorem jm_un_get : ∀ (l : List (Option Value)) (i j : Nat) (w : Value), (jm_un l i)[j]? = some (some w) → j ≠ i ∧ l[j]? = some (some w) ∧ (j + 1 = i → w.category = 1)
  | [], _, _, _, h => by simp [jm_un] at h
  | _ :: l, 0, 0, w, h => by simp [jm_un] at h
  | _ :: l, 0, j + 1, w, h => by simp [jm_un] at h; exact ⟨by omega, by simpa using h, by omega⟩
  | a :: l, 1, 0, w, h => by
    simp [jm_un] at h
    obtain ⟨h1, h2⟩ := jm_dm_some h
    exact ⟨by omega, by simp [h1], fun _ => h2⟩
  | a :: l, 1, j + 1, w, h => by
    simp [jm_un] at h
    obtain ⟨h1, h2, h3⟩ := jm_un_get l 0 j w h
    exact ⟨by omega, by simpa using h2, fun q => h3 (by omega)⟩
  | a :: l, i + 2, 0, w, h => by simp [jm_un] at h; exact ⟨by omega, by simp [h], by omega⟩
  | a :: l, i + 2, j + 1, w, h => by
    simp [jm_un] at h
    obtain ⟨h1, h2, h3⟩ := jm_un_get l (i + 1) j w h
    exact ⟨by omega, by simpa using h2, fun q => h3 (by omega)⟩
theorem jf_xl {k y t : Nat} (h : jm_np 22 k = some (y, t)) (hy : 100 ≤ y) : Cond.classLink (jm_cl 22) k (jm_exn (y - 100)) ∈ jm_ws ∧ k ≠ 0 := by
  have h1 := jf_np_in h
  have h2 : (k, y, t) = (8, 10, 0) ∨ (k, y, t) = (13, 100, 0) ∨ (k, y, t) = (19, 101, 0) ∨ (k, y, t) = (24, 102, 0) ∨ (k, y, t) = (99, 12, 0) := by
    have h3 : (k, y, t) ∈ jm_np22 := h1
    simpa [jm_np22] using h3
  rcases h2 with q | q | q | q | q <;> cases q
  · omega
  · exact ⟨jm_wsin (jt_5 (List.mem_of_getElem? (i := 70) rfl)) rfl, by decide⟩
  · exact ⟨jm_wsin (jt_5 (List.mem_of_getElem? (i := 98) rfl)) rfl, by decide⟩
  · exact ⟨jm_wsin (jt_5 (List.mem_of_getElem? (i := 122) rfl)) rfl, by decide⟩
  · omega
theorem jf_xt {k x t : Nat} (h : jm_np 11 k = some (100 + x, t)) : Cond.classLink (jm_cl 11) k (jm_exn x) ∈ jm_ws := by
  have h1 := jf_np_in h
  have h3 : (k, 100 + x, t) ∈ jm_np11 := h1
  simp only [jm_np11, List.mem_cons, List.not_mem_nil, or_false, Prod.mk.injEq] at h3
  have h4 : (k = 91 ∧ x = 0) ∨ (k = 102 ∧ x = 1) ∨ (k = 160 ∧ x = 2) := by omega
  rcases h4 with ⟨rfl, rfl⟩ | ⟨rfl, rfl⟩ | ⟨rfl, rfl⟩
  · exact jm_wsin (jt_5 (List.mem_of_getElem? (i := 75) rfl)) rfl
  · exact jm_wsin (jt_5 (List.mem_of_getElem? (i := 103) rfl)) rfl
  · exact jm_wsin (jt_4 (List.mem_of_getElem? (i := 130) rfl)) rfl
theorem jf_xi : ∀ x, x ≤ 2 → Cond.initialized (jm_exn x) ∈ jm_ws := by
  intro x hx
  match x, hx with
  | 0, _ => exact jm_wsin (jt_1 (List.mem_of_getElem? (i := 22) rfl)) rfl
  | 1, _ => exact jm_wsin (jt_1 (List.mem_of_getElem? (i := 23) rfl)) rfl
  | 2, _ => exact jm_wsin (jt_1 (List.mem_of_getElem? (i := 27) rfl)) rfl
  | _ + 3, h => omega
theorem jf_xc : ∀ x, x ≤ 2 → Cond.castable (jm_exn x) (jm_exn x) ∈ jm_xw := by
  intro x hx
  match x, hx with
  | 0, _ => exact List.mem_filter.mpr ⟨jt_5 (List.mem_of_getElem? (i := 77) rfl), rfl⟩
  | 1, _ => exact List.mem_filter.mpr ⟨jt_5 (List.mem_of_getElem? (i := 105) rfl), rfl⟩
  | 2, _ => exact List.mem_filter.mpr ⟨jt_4 (List.mem_of_getElem? (i := 132) rfl), rfl⟩
  | _ + 3, h => omega
def jm_xn : List String := ["java/lang/RuntimeException", "java/lang/Exception"]
theorem jm_wdec (L : List Cond) (h : L.all (fun w => decide (w ∈ lw_tbl) && (goodWord w || (w.onTables && w.keepsFace))) = true) : ∀ w ∈ L, w ∈ jm_ws ∨ w ∈ jm_xw := by
  intro w hw
  have h1 := List.all_eq_true.mp h w hw
  simp only [Bool.and_eq_true, decide_eq_true_eq, Bool.or_eq_true] at h1
  rcases h1.2 with q | q
  · exact Or.inl (jm_wsin h1.1 q)
  · exact Or.inr (List.mem_filter.mpr ⟨h1.1, by simpa using q⟩)
set_option maxRecDepth 100000 in
theorem jf_xa0 : ∀ w ∈ vx_atS (jm_cl 11) 95 (jm_exn 0) jm_xn, w ∈ jm_ws ∨ w ∈ jm_xw := jm_wdec _ (by decide +kernel)
set_option maxRecDepth 100000 in
theorem jf_xa1 : ∀ w ∈ vx_atS (jm_cl 11) 106 (jm_exn 1) jm_xn, w ∈ jm_ws ∨ w ∈ jm_xw := jm_wdec _ (by decide +kernel)
set_option maxRecDepth 100000 in
theorem jf_xa2 : ∀ w ∈ vx_atS (jm_cl 11) 164 (jm_exn 2) jm_xn, w ∈ jm_ws ∨ w ∈ jm_xw := jm_wdec _ (by decide +kernel)
theorem jf_xa : ∀ x, x ≤ 2 → ∀ w ∈ vx_atS (jm_cl 11) (jm_ic x) (jm_exn x) jm_xn, w ∈ jm_ws ∨ w ∈ jm_xw := by
  intro x hx
  match x, hx with
  | 0, _ => exact jf_xa0
  | 1, _ => exact jf_xa1
  | 2, _ => exact jf_xa2
  | _ + 3, h => omega
theorem jf_xg : ∀ x, x ≤ 2 → (vx_atS (jm_cl 11) (jm_ic x) (jm_exn x) jm_xn).all vx_ot = true := by
  intro x hx
  match x, hx with
  | 0, _ => decide +kernel
  | 1, _ => decide +kernel
  | 2, _ => decide +kernel
  | _ + 3, h => omega
section JMN
variable {X : jm_X} {p : Program} {lc : Launch} {e : Env} {R : Room} {s : State} {m : MethodId} {args : Array Value} {below : List Frame} {meth : Method} {c : Code} {nL : Nat} {h0 : jm_H} {Q : State → Prop}
variable {cc : ByteArray} {pc d : Nat} {l : List (Option Value)} {r : List Value} {h h' : jm_H} {cno : Nat}
theorem jm_lr_un {ls ls' : Array Slot} {i q : Nat} (hf : X.fv.category = 1) (hl : jm_lr X ls nL l) (h : lv_has ls' nL ((i, .ref q) :: (jm_lv X l).filter (fun q => !(q.1 == i) && !(q.1 + 1 == i && q.2.category == 2)))) : jm_lr X ls' nL (jm_un l i) := by
  refine ⟨h.1, h.2.1, by rw [jm_un_len]; exact hl.2.2.1, fun j w hj => ?_⟩
  obtain ⟨h1, h2, h3⟩ := jm_un_get l i j w hj
  refine h.2.2 (j, jm_vc X w) (List.mem_cons_of_mem _ (List.mem_filter.mpr ⟨jm_lv_mem.mpr ⟨w, h2, rfl⟩, ?_⟩))
  have hc := jm_vc_cat X hf w
  by_cases q : j + 1 = i
  · have := h3 q
    simp [h1, hc, this]
  · simp [h1, q]
/-- a throw caught by a handler of the method's own -/
theorem jg_catch (hx : p.tables.exec = Jvm.exec) (hb : c.code = cc) (hown : s.vm.findClass (jm_cl 22) = some m.cls) (hts : ∀ w ∈ jm_ws, w.before args s = true) (hC : jm_cst X s s.heap) {hh : List (Nat × Nat × Nat × Nat)} (htab : c.exceptionTable.toList = tableOf hh) {x t pc' : Nat} {k : Nat} {rest : List Value} (hhd : jm_hd 22 hh pc x = some t) (hk : k < l.length)
    (hrow : ∀ (H : Heap) (locs : List Loc) (cells slots : Nat) (ls : Array Slot) (q : Addr), jm_lr X ls nL l → (∀ ls' : Array Slot, lv_has ls' nL ((k, .ref q) :: (jm_lv X l).filter (fun q => !(q.1 == k) && !(q.1 + 1 == k && q.2.category == 2))) → W p lc e R s m args below meth c H locs cells slots Q (F0 m pc' ls' [])) → W p lc e R s m args below meth c H locs cells slots Q (F0 m t ls [.ref q]))
    (kk : jm_go X p lc e R s m args below meth c nL h0 Q pc' (jm_un l k) [] h') : jm_kx X p lc e R s m args below meth c nL h0 Q pc l rest x h' := by
  intro hx2 H1 locs1 cells slots ls ce q ha hce hcv hcl
  obtain ⟨pre, z, suf, e1, e2, e3, ⟨q4, e4⟩, e5⟩ := jm_hd_split hh hhd
  obtain ⟨l1, l2⟩ := jf_xl e4 (by omega)
  have e6 : 100 + x - 100 = x := by omega
  rw [e6] at l1
  refine vx_catch (own := jm_cl 22) (name := jm_exn x) (E := jm_exn x) hown (tableOf pre) ⟨z.1, z.2.1, z.2.2.1, z.2.2.2⟩ (tableOf suf) (by rw [htab, e1]; simp [tableOf]) (fun w hw => ?_) (by show (decide (z.1 ≤ pc) && decide (pc < z.2.1)) = true; simp [e3.1, e3.2]) l2 (hts _ l1) (va_Nw.use rfl (hC.2.2.2.2.2.2.2.2.2.2.2 _ (jf_xc x hx2))) hce hcv hcl ?_
  · unfold tableOf at hw
    obtain ⟨w', hw', rfl⟩ := List.mem_map.mp hw
    rcases e5 w' hw' with g | ⟨y, q, g1, g2, g3⟩
    · left
      show (decide (w'.1 ≤ pc) && decide (pc < w'.2.1)) = false
      rw [Bool.and_eq_false_iff, decide_eq_false_iff_not, decide_eq_false_iff_not]
      omega
    · right
      obtain ⟨m1, m2⟩ := jf_xl g1 g3
      have hy := (jm_nok_of g1).2
      exact ⟨m2, jm_exn (y - 100), hts _ m1, hC.2.2.2.2.2.2.2.2.2.2.1 x (y - 100) hx2 (by omega) (by omega)⟩
  · show W p lc e R s m args below meth c H1 locs1 cells slots Q (F0 m z.2.2.1 ls [.ref q])
    rw [e2]
    refine hrow H1 locs1 cells slots ls q ha.2.2.2.2 fun ls' hl' => ?_
    exact kk H1 locs1 cells slots ls' (jm_at_ls ha (jm_lr_un (jm_fv_cat hC.2.1) ha.2.2.2.2 hl'))
/-- the end of a body: what it owes -/
def jm_fq (X : jm_X) (below : List Frame) (args : Array Value) (s : State) (h0 : jm_H) (r0 : jm_R) : State → Prop := vx_MQ below (jm_Qc X r0) (jm_Xc X r0) args s (r0.2.1 - h0.1) (r0.2.2.1 - h0.2.1) (jm_Z X)
theorem jg_out (hlocks : meth.locks = false) (htab : ∀ x ∈ c.exceptionTable.toList, False) {x : Nat} {rest : List Value} : jm_kx X p lc e R s m args below meth c nL h0 (jm_fq X below args s h0 (.inr x, h')) pc l rest x h' := by
  intro hx2 H1 locs1 cells slots ls ce q ha hce hcv hcl
  obtain ⟨a1, a2, a3, a4, a5⟩ := ha
  refine vx_out (fun x hx => (htab x hx).elim) hlocks hce hcv hcl (fun t ht hal => ⟨hx2, rfl, by rw [ht]; exact a1, a2.F ht⟩) a2.2.2 ?_ ?_
  · show cells ≤ h'.1 - h0.1
    omega
  · show slots ≤ h'.2.1 - h0.2.1
    omega
/-- 'throw new E("..")' goes out -/
theorem jg_throw (hfl : lc.stackTraces = false) (hR : 8 ≤ R.frames ∧ 100 ≤ R.locals) (hx : p.tables.exec = Jvm.exec) (hb : c.code = cc) (hml : c.maxLocals = nL) (hlocks : meth.locks = false) (htab : ∀ x ∈ c.exceptionTable.toList, False) (hown : s.vm.findClass (jm_cl cno) = some m.cls) (hts : ∀ w ∈ jm_ws, w.before args s = true) (hC : jm_cst X s s.heap) {M : jm_M} (hM : M.2.1 = cc) (hMc : M.2.2.2.2.2.1 = cno) {k x t : Nat} {st : List Value} {S : jm_S} (hd : decode cc pc = .ok (.new k, 3)) (hk : jm_np cno k = some (100 + x, t)) (hS : jm_thr M pc x st h = some S) (hrm : jm_rm R h0 (jm_gap h)) : S = .inr (.inr x, jm_gap h) ∧ jm_go X p lc e R s m args below meth c nL h0 (jm_fq X below args s h0 (.inr x, jm_gap h)) pc l st h := by
  unfold jm_thr at hS
  simp only [hM, hMc] at hS
  split at hS
  · rename_i hq
    obtain ⟨-, q2, q3, q4⟩ := hq
    subst q2
    have hat : ∀ w ∈ vx_atS (jm_cl 11) (jm_ic x) (jm_exn x) jm_xn, w.before args s = true := fun w hw => by
      rcases jf_xa x q3 w hw with g | g
      · exact hts w g
      · have g2 := (List.mem_filter.mp g).2
        simp only [Bool.and_eq_true] at g2
        exact va_Nw.use g2.1 (hC.2.2.2.2.2.2.2.2.2.2.2 w g)
    have hfit : Bundle.fit (jm_exn x) = true := by
      match x, q3 with
      | 0, _ => decide +kernel
      | 1, _ => decide +kernel
      | 2, _ => decide +kernel
      | _ + 3, h => omega
    have hfitn : ∀ n ∈ jm_xn, Bundle.fit n = true := by decide +kernel
    have hgood : ∀ w ∈ Cond.classLink (jm_cl 11) k (jm_exn x) :: Cond.initialized (jm_exn x) :: vx_atS (jm_cl 11) (jm_ic x) (jm_exn x) jm_xn, vx_ot w = true := by
      intro w hw
      rcases List.mem_cons.mp hw with rfl | hw
      · rfl
      · rcases List.mem_cons.mp hw with rfl | hw
        · rfl
        · exact List.all_eq_true.mp (jf_xg x q3) w hw
    have hrm1 : h.1 + 1 ≤ h0.1 + R.cells := hrm.1
    have hrm2 : h.2.1 + 6 ≤ h0.2.1 + R.slots := hrm.2
    have hgo : ∀ (H : Heap) (locs : List Loc) (cells slots : Nat) (ls : Array Slot), jm_at X s h0 h H locs cells slots ls nL l → ∀ t : State, s.vm.Alike t.vm → t.heap.size = H.size + 1 → (∀ q : Nat, q < H.size → t.heap[q]? = H[q]?) → jm_Xc X (.inr x, jm_gap h) (jm_exn x) s t := by
      intro H locs cells slots ls ha t hal hz ho
      obtain ⟨a1, a2, a3, a4, a5⟩ := ha
      refine ⟨q3, rfl, ⟨?_, ?_, fun b eb hb hh => ?_, fun b hb => a1.2.2.2 b hb⟩, ?_, fun q g1 g2 => ?_⟩
      · have := a1.1
        show t.heap.size + 128 = X.N0 + (h.1 + 1)
        omega
      · have := a1.2.1
        show 128 ≤ h.1 + 1
        omega
      · obtain ⟨g1, g2⟩ := a1.2.2.1 b eb hb hh
        exact ⟨Nat.lt_succ_of_lt g1, g2.kept (ho _ g2.lt)⟩
      · have := a2.1
        omega
      · rw [ho q (Nat.lt_of_lt_of_le g1 a2.1)]
        exact a2.2.1 q g1 g2
    split at hS
    · rename_i k2 d3 d4
      split at hS
      · rename_i z9 j9 hs d6 d9
        split at hS
        · rename_i hji
          cases hS
          refine ⟨rfl, ?_⟩
          intro H locs cells slots ls ha
          obtain ⟨tx, ht⟩ := jm_sp_of hs (by decide)
          have hstr := hC.2.2.2.2.2.2.2.1 _ _ ht
          have hcr := jm_cat_vc hC.2.1 st
          have hc1 := ha.2.2.1
          have hc2 := ha.2.2.2.1
          rw [hji] at d6
          exact jx_throwS hx hb hfl (own := jm_cl 11) (cls := jm_exn x) (names := jm_xn) (ik := k) (ic := jm_ic x) hown hfit hfitn (hts _ (jf_xt hk)) (hts _ (jf_xi x q3)) hstr hat hgood hC.2.2.2.2.2.2.2.2.1.1 hC.2.2.2.2.2.2.2.2.1.2 ha.2.1 (ha.2.2.2.2.1.trans hml.symm) hd d3 d4 d6 d9 (fun z hz => (htab z hz).elim) (by show 2 + 3 < _; omega) (by show _ + (13 * 3 + 43) ≤ _; omega) (by omega) (by omega) hlocks (hgo H locs cells slots ls ha) ha.2.1.2.2 (by show cells + 1 ≤ (h.1 + 1) - h0.1; omega) (by show slots + 6 ≤ (h.2.1 + 6) - h0.2.1; omega)
        · cases hS
      · cases hS
    · rename_i k2 d3 d4
      split at hS
      · rename_i z9 j9 hs d6 d9
        split at hS
        · rename_i hji
          cases hS
          refine ⟨rfl, ?_⟩
          intro H locs cells slots ls ha
          obtain ⟨tx, ht⟩ := jm_sp_of hs (by decide)
          have hstr := hC.2.2.2.2.2.2.2.1 _ _ ht
          have hcr := jm_cat_vc hC.2.1 st
          have hc1 := ha.2.2.1
          have hc2 := ha.2.2.2.1
          rw [hji] at d6
          exact jx_throwSW hx hb hfl (own := jm_cl 11) (cls := jm_exn x) (names := jm_xn) (ik := k) (ic := jm_ic x) hown hfit hfitn (hts _ (jf_xt hk)) (hts _ (jf_xi x q3)) hstr hat hgood hC.2.2.2.2.2.2.2.2.1.1 hC.2.2.2.2.2.2.2.2.1.2 ha.2.1 (ha.2.2.2.2.1.trans hml.symm) hd d3 d4 d6 d9 (fun z hz => (htab z hz).elim) (by show 2 + 3 < _; omega) (by show _ + (13 * 3 + 43) ≤ _; omega) (by omega) (by omega) hlocks (hgo H locs cells slots ls ha) ha.2.1.2.2 (by show cells + 1 ≤ (h.1 + 1) - h0.1; omega) (by show slots + 6 ≤ (h.2.1 + 6) - h0.2.1; omega)
        · cases hS
      · cases hS
    · cases hS
  · cases hS
/-- returning -/
def jm_rto (cc : ByteArray) (ret : Option FieldType) (pc : Nat) (st : List Value) (v : Option Value) : Prop :=
  (decode cc pc = .ok (.ireturn, 1) ∧ ∃ ty x, ret = some ty ∧ st = [.int x] ∧ v = some (.int x) ∧ narrow ty (.int x) = .int x) ∨
  (decode cc pc = .ok (.lreturn, 1) ∧ ret = some .long ∧ ∃ x, st = [.long x] ∧ v = some (.long x)) ∨
  (decode cc pc = .ok (.dreturn, 1) ∧ ret = some .double ∧ ∃ x, st = [.double x] ∧ v = some (.double x)) ∨
  (decode cc pc = .ok (.areturn, 1) ∧ ∃ ty x, ret = some ty ∧ ty.isReference = true ∧ st = [.ref x] ∧ v = some (.ref x)) ∨
  (decode cc pc = .ok (.return_, 1) ∧ ret = none ∧ st = [] ∧ v = none)
theorem jg_return (hx : p.tables.exec = Jvm.exec) (hb : c.code = cc) (hlocks : meth.locks = false) {ret : Option FieldType} (hr : meth.sig.returnType = ret) (hf : X.fv = .null ∨ ∃ q, X.fv = .ref q) {st : List Value} {v : Option Value} (hq : jm_rto cc ret pc st v) : jm_go X p lc e R s m args below meth c nL h0 (jm_fq X below args s h0 (.inl v, h)) pc l st h := by
  intro H locs cells slots ls ha
  obtain ⟨a1, a2, a3, a4, a5⟩ := ha
  have e1 : cells = h.1 - h0.1 := by omega
  have e2 : slots = h.2.1 - h0.2.1 := by omega
  have hpost : ∀ t : State, t.heap = H → s.WarmedH t.vm → jm_Qc X (.inl v, h) args s (.returned (v.map (jm_vc X))) t := fun t ht hW => ⟨rfl, by rw [ht]; exact a1, a2.F ht⟩
  refine vx_ret ?_
  subst e1; subst e2; subst hr
  rcases hq with ⟨hd, ty, x, g1, rfl, rfl, g2⟩ | ⟨hd, g1, x, rfl, rfl⟩ | ⟨hd, g1, x, rfl, rfl⟩ | ⟨hd, ty, x, g1, g2, rfl, rfl⟩ | ⟨hd, g1, rfl, rfl⟩
  · exact W.zret hx hb g1 g2 hpost a2.2.2 hd hlocks
  · exact W.lret hx hb g1 hpost a2.2.2 hd hlocks
  · exact W.dret hx hb g1 hpost a2.2.2 hd hlocks
  · refine W.aret hx hb g1 ?_ (jm_vc_ref hf x) hpost a2.2.2 hd hlocks
    cases ty <;> simp [FieldType.isReference] at g2
    · exact Or.inl ⟨_, rfl⟩
    · exact Or.inr ⟨_, rfl⟩
  · exact W.vret hx hb g1 hpost a2.2.2 hd hlocks
end JMN
