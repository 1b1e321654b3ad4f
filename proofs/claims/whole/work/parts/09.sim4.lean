/-! ===== the simulation: objects made, constants, statics, natives ===== -/
def jm_nfB (ci : Nat) : Bool := match jm_nf ci with
  | some fs => decide (fs.length = (jm_vq ci).2.2) && (List.range (jm_vq ci).2.2).all (fun j => decide (defaultValue ((parseFieldDescriptor ((jm_vq ci).2.1 j).2.2.1).getD .int) = fs.getD j .null)) && fs.all (fun v => decide (v = .null ∨ v = .int 0 ∨ v = .long 0))
  | none => true
theorem jm_nfB_ok : ∀ ci, ci < 13 → jm_nfB ci = true := by decide +kernel
theorem jf_gs1 : Cond.fieldLink (jm_cl 14) 38 "java/lang/String" "COMPACT_STRINGS" "Z" ∈ jm_ws := jm_wsin (jt_1 (List.mem_of_getElem? (i := 186) rfl)) rfl
theorem jf_gs2 : Cond.fieldLink (jm_cl 14) 1053 "jdk/internal/util/Preconditions" "SIOOBE_FORMATTER" "Ljava/util/function/BiFunction;" ∈ jm_ws := jm_wsin (jt_1 (List.mem_of_getElem? (i := 202) rfl)) rfl
theorem jf_gs3 : Cond.fieldLink (jm_cl 13) 313 "MaskPlaysModel" "WORDS" "[Ljava/lang/String;" ∈ jm_ws := jm_wsin (jt_7 (List.mem_of_getElem? (i := 211) rfl)) rfl
theorem jf_mn : Cond.methodLinkNest (jm_cl 13) 19 yX12_init "MaskPlaysModel" ∈ jm_nw := jm_nwin (jt_6 (List.mem_of_getElem? (i := 210) rfl)) rfl
section JMJ
variable {X : jm_X} {p : Program} {lc : Launch} {e : Env} {R : Room} {s : State} {m : MethodId} {args : Array Value} {below : List Frame} {meth : Method} {c : Code} {nL : Nat} {h0 : jm_H} {Q : State → Prop}
variable {cc : ByteArray} {pc : Nat} {l : List (Option Value)} {r : List Value} {h : jm_H} {cno : Nat}
theorem jm_cat_vc (hf : X.fv = .null ∨ ∃ q, X.fv = .ref q) (r : List Value) : ((r.map (jm_vc X)).map fun v => v.category).sum = jm_cat r := by
  unfold jm_cat
  rw [List.map_map]
  congr 1
  exact List.map_congr_left fun v _ => jm_vc_cat X (jm_fv_cat hf) v
set_option maxHeartbeats 1000000 in
theorem jg_new (hN : X.N0 ≤ s.heap.size) (hx : p.tables.exec = Jvm.exec) (hb : c.code = cc) (hown : s.vm.findClass (jm_cl cno) = some m.cls) (hts : ∀ w ∈ jm_ws, w.before args s = true) (hC : jm_cst X s s.heap) {k ci t : Nat} {fs : List Value} (hk : jm_np cno k = some (ci, t)) (hci : ci < 100) (hfs : jm_nf ci = some fs) (hd : decode cc pc = .ok (.new k, 3)) (hr : jm_rm R h0 (jm_push h (.inr (ci, fs)) fs.length))
    (kk : jm_go X p lc e R s m args below meth c nL h0 Q (pc + 3) l (.ref h.1 :: r) (jm_push h (.inr (ci, fs)) fs.length)) : jm_go X p lc e R s m args below meth c nL h0 Q pc l r h := by
  intro H locs cells slots ls ha
  have i1 : ci < 13 := by
    have := (jm_nok_of hk).2
    omega
  have hB := jm_nfB_ok ci i1
  unfold jm_nfB at hB
  rw [hfs] at hB
  simp only [Bool.and_eq_true, decide_eq_true_eq, List.all_eq_true, List.mem_range] at hB
  obtain ⟨⟨b1, b2⟩, b3⟩ := hB
  obtain ⟨j1, j2, -⟩ := jm_cl_facts i1
  have hvq := jm_vq_some i1
  have hw := jf_nw hk
  have hw3 : jm_nwd cno (k, ci, t) = [.classLink (jm_cl cno) k (jm_vq ci).1, .instantiable (jm_vq ci).1 (jm_vq ci).2.2, .initialized (jm_vq ci).1] := if_pos hci
  rw [hw3] at hw
  have hKn := hC.1.1 ci _ hvq
  have hr1 : h.1 + 1 ≤ h0.1 + R.cells := hr.1
  have hr2 : h.2.1 + fs.length ≤ h0.2.1 + R.slots := hr.2
  have hc1 := ha.2.2.1
  have hc2 := ha.2.2.2.1
  have hsz := jm_ad_size ha.1
  refine W.newcK hx hb hown (hts _ (hw _ List.mem_cons_self)) (hts _ (hw _ (List.mem_cons_of_mem _ List.mem_cons_self))) (hts _ (hw _ (List.mem_cons_of_mem _ (List.mem_cons_of_mem _ List.mem_cons_self)))) rfl hd (by omega) (by rw [← b1]; omega) hKn.2.1 rfl fun H1 kC hkC e1 z1 o1 => ?_
  have k1 := kk H1 locs (cells + 1) (slots + fs.length) ls (jm_at_push hN ha ?_ z1 o1)
  · rw [List.map_cons, jm_vc_h ha.1.2.1, hsz] at k1
    rw [b1] at k1
    exact k1
  · rw [hsz]
    refine ⟨_, hvq, (u_born _ hts j1 hKn hkC e1 j2).to fun j hj => ?_⟩
    show defaultValue ((parseFieldDescriptor ((jm_vq ci).2.1 j).2.2.1).getD .int) = (fs.map (jm_vc X)).getD j .null
    rw [b2 j hj, List.getD_eq_getElem?_getD, List.getD_eq_getElem?_getD, List.getElem?_map]
    have hjl : j < fs.length := by rw [b1]; exact hj
    rw [List.getElem?_eq_getElem hjl]
    rcases b3 _ (List.getElem_mem hjl) with z | z | z <;> rw [z] <;> rfl
theorem jm_sp_of {k j : Nat} (hk : jm_sp cno k = some j) (hc : cno < 23) : ∃ tx, jm_tx[j]? = some (jm_cl cno, k, tx) := by
  unfold jm_sp at hk
  rw [Option.map_eq_some_iff] at hk
  obtain ⟨z, h1, h2⟩ := hk
  have h3 := List.mem_of_find?_eq_some h1
  have h4 := List.find?_some h1
  obtain ⟨q1, q2⟩ := z
  have h5 : q1 = k := by simpa using h4
  have h6 : q2 = j := h2
  rw [h5, h6] at h3
  have h7 := jf_sp cno hc _ h3
  unfold jm_sok at h7
  split at h7
  · rename_i z hz
    simp only [decide_eq_true_eq] at h7
    refine ⟨z.2.2, ?_⟩
    rw [hz, ← h7.1, ← h7.2]
  · cases h7
theorem jg_ldc (hx : p.tables.exec = Jvm.exec) (hb : c.code = cc) (hown : s.vm.findClass (jm_cl cno) = some m.cls) (hC : jm_cst X s s.heap) (hc23 : cno < 23) {k j : Nat} (hk : jm_sp cno k = some j) (hd : decode cc pc = .ok (.ldc k, 2))
    (kk : jm_go X p lc e R s m args below meth c nL h0 Q (pc + 2) l (.ref j :: r) h) : jm_go X p lc e R s m args below meth c nL h0 Q pc l r h := by
  intro H locs cells slots ls ha
  have k1 := kk H locs cells slots ls ha
  obtain ⟨tx, h1⟩ := jm_sp_of hk hc23
  have h2 := hC.2.2.2.2.2.2.2.1 j _ h1
  have h3 : j < 34 := (List.getElem?_eq_some_iff.mp h1).1
  rw [List.map_cons, jm_vc_k (by omega) (by omega)] at k1
  exact va_ldcS hx hb hown h2 hd k1
theorem jg_ldc2 (hx : p.tables.exec = Jvm.exec) (hb : c.code = cc) (hown : s.vm.findClass (jm_cl cno) = some m.cls) (hts : ∀ w ∈ jm_ws, w.before args s = true) {k : Nat} {v : Int64} (hk : jm_lp cno k = some v) (hd : decode cc pc = .ok (.ldc2_w k, 3))
    (kk : jm_go X p lc e R s m args below meth c nL h0 Q (pc + 3) l (.long v :: r) h) : jm_go X p lc e R s m args below meth c nL h0 Q pc l r h := fun H locs cells slots ls ha => lv_ldc2 hx hb hown (hts _ (jf_lw hk)) hd (kk H locs cells slots ls ha)
theorem jg_getstatic (hx : p.tables.exec = Jvm.exec) (hb : c.code = cc) (hown : s.vm.findClass (jm_cl cno) = some m.cls) (hts : ∀ w ∈ jm_ws, w.before args s = true) (hC : jm_cst X s s.heap) {k : Nat} {v : Value} (hk : jm_gs cno k = some v) (hd : decode cc pc = .ok (.getstatic k, 3))
    (kk : jm_go X p lc e R s m args below meth c nL h0 Q (pc + 3) l (v :: r) h) : jm_go X p lc e R s m args below meth c nL h0 Q pc l r h := by
  intro H locs cells slots ls ha
  have k1 := kk H locs cells slots ls ha
  obtain ⟨s1, s2, s3⟩ := hC.2.2.2.2.2.1
  unfold jm_gs at hk
  split at hk
  · rename_i q
    obtain ⟨rfl, rfl⟩ := q
    cases hk
    exact va_gets hx hb s1 ha.2.1 hown (hts _ jf_gs1) (fun _ z => z) hd k1
  · split at hk
    · rename_i q
      obtain ⟨rfl, rfl⟩ := q
      cases hk
      exact va_gets hx hb s2 ha.2.1 hown (hts _ jf_gs2) (fun _ z => z) hd k1
    · split at hk
      · rename_i q
        obtain ⟨rfl, rfl⟩ := q
        cases hk
        exact va_gets hx hb s3 ha.2.1 hown (hts _ jf_gs3) (fun _ z => z) hd k1
      · cases hk
theorem jg_objInit (hR : 8 ≤ R.frames ∧ 100 ≤ R.locals) (hx : p.tables.exec = Jvm.exec) (hb : c.code = cc) (hml : c.maxLocals = nL) (hown : s.vm.findClass (jm_cl cno) = some m.cls) (hts : ∀ w ∈ jm_ws, w.before args s = true) (hC : jm_cst X s s.heap) {k a : Nat} {y : jm_M} (hk : jm_mp cno k = some (10, y)) (hcat : jm_cat r ≤ 8) (ha128 : 128 ≤ a) (hd : decode cc pc = .ok (.invokespecial k, 3))
    (kk : jm_go X p lc e R s m args below meth c nL h0 Q (pc + 3) l r h) : jm_go X p lc e R s m args below meth c nL h0 Q pc l (.ref a :: r) h := by
  intro H locs cells slots ls ha
  rw [List.map_cons, jm_vc_h ha128]
  have hcr := jm_cat_vc hC.2.1 r
  refine W.objInit hx hb hown (hts _ (jf_link hk)) (hts _ (jf_nat _ (by simp))) (hts _ (jf_nat _ (by simp))) rfl (by rw [hml]; exact ha.2.2.2.2.1) rfl hd (by omega) (by show 2 * 0 + _ + 12 ≤ _; omega) ?_
  exact kk H locs cells slots ls ha
theorem jg_max (hR : 8 ≤ R.frames ∧ 100 ≤ R.locals) (hx : p.tables.exec = Jvm.exec) (hb : c.code = cc) (hml : c.maxLocals = nL) (hown : s.vm.findClass (jm_cl cno) = some m.cls) (hts : ∀ w ∈ jm_ws, w.before args s = true) (hC : jm_cst X s s.heap) {k : Nat} {x z : Int32} {y : jm_M} (hk : jm_mp cno k = some (11, y)) (hcat : jm_cat r ≤ 8) (hr : jm_rm R h0 h) (hd : decode cc pc = .ok (.invokestatic k, 3))
    (kk : jm_go X p lc e R s m args below meth c nL h0 Q (pc + 3) l (.int (if x < z then z else x) :: r) h) : jm_go X p lc e R s m args below meth c nL h0 Q pc l (.int z :: .int x :: r) h := by
  intro H locs cells slots ls ha
  have hcr := jm_cat_vc hC.2.1 r
  have hc1 := ha.2.2.1
  have hc2 := ha.2.2.2.1
  have hr1 := hr.1
  have hr2 := hr.2
  exact va_mmax hx hb (hml.trans ha.2.2.2.2.1.symm) hown (hts _ (jf_link hk)) (hts _ (jf_nat _ (by simp))) (hts _ (jf_nat _ (by simp))) (hts _ (jf_nat _ (by simp))) (by omega) (by omega) (by omega) (by omega) hd (kk H locs cells slots ls ha)
theorem jg_min (hR : 8 ≤ R.frames ∧ 100 ≤ R.locals) (hx : p.tables.exec = Jvm.exec) (hb : c.code = cc) (hml : c.maxLocals = nL) (hown : s.vm.findClass (jm_cl cno) = some m.cls) (hts : ∀ w ∈ jm_ws, w.before args s = true) (hC : jm_cst X s s.heap) {k : Nat} {x z : Int32} {y : jm_M} (hk : jm_mp cno k = some (12, y)) (hcat : jm_cat r ≤ 8) (hr : jm_rm R h0 h) (hd : decode cc pc = .ok (.invokestatic k, 3))
    (kk : jm_go X p lc e R s m args below meth c nL h0 Q (pc + 3) l (.int (if z < x then z else x) :: r) h) : jm_go X p lc e R s m args below meth c nL h0 Q pc l (.int z :: .int x :: r) h := by
  intro H locs cells slots ls ha
  have hcr := jm_cat_vc hC.2.1 r
  have hc1 := ha.2.2.1
  have hc2 := ha.2.2.2.1
  have hr1 := hr.1
  have hr2 := hr.2
  exact va_mmin hx hb (hml.trans ha.2.2.2.2.1.symm) hown (hts _ (jf_link hk)) (hts _ (jf_nat _ (by simp))) (hts _ (jf_nat _ (by simp))) (hts _ (jf_nat _ (by simp))) (by omega) (by omega) (by omega) (by omega) hd (kk H locs cells slots ls ha)
/-- System.arraycopy of numbers, with the whole heap behind it -/
theorem jm_copy (hx : p.tables.exec = Jvm.exec) (hb : c.code = cc) {H : Heap} {locs : List Loc} {cells slots : Nat} {ls : Array Slot} {rest : List Value} (hml : c.maxLocals = ls.size) {own : String} {index : Nat} (hown : s.vm.findClass own = some m.cls) (hlink : (Cond.methodLink own index arraycopyName).before args s = true) (hnat : (Cond.native arraycopyName).before args s = true) (hstat : (Cond.static arraycopyName).before args s = true) (hini : (Cond.initialized "java/lang/System").before args s = true)
    {α : Type} (mk : α → Value) {a0 a1 : Nat} {c0 c1 : ClassId} {n0 n1 : Nat} {f g : Nat → α} {ty : FieldType} (hc0 : H[a0]? = some (arrV c0 n0 (fun j => mk (f j)))) (hc1 : H[a1]? = some (arrV c1 n1 (fun j => mk (g j)))) (ht0 : ArrOfT s c0 ty) (ht1 : ArrOfT s c1 ty) (hprim : refKind ty = false)
    {sp dp n : Int32} (h1 : ¬ sp < 0) (h2 : ¬ dp < 0) (h3 : ¬ n < 0) (h4 : sp.toNatClampNeg + n.toNatClampNeg ≤ n0) (h5 : dp.toNatClampNeg + n.toNatClampNeg ≤ n1) (hfit : ∀ i, fits ty (mk (f i)) = true) (hmk : ∀ x, (∀ q, mk x ≠ .ref q) ∧ mk x ≠ .null)
    (hframes : 1 ≤ R.frames) (hlocals : (rest.map fun v => v.category).sum + (nativeFrameWords "java/lang/System" "arraycopy" 5 + 11) ≤ R.locals) (hd : decode cc pc = .ok (.invokestatic index, 3))
    (kk : ∀ (H1 : Heap) (locs1 : List Loc), H1[a1]? = some (arrV c1 n1 (fun j => mk (va_cpy f g sp.toNatClampNeg dp.toNatClampNeg n.toNatClampNeg j))) → H1.size = H.size → (∀ q : Nat, q ≠ a1 → H1[q]? = H[q]?) → (∀ z ∈ locs1, z ∈ locs ∨ z.base = a1) → W p lc e R s m args below meth c H1 locs1 cells slots Q (F0 m (pc + 3) ls rest)) : W p lc e R s m args below meth c H locs cells slots Q (F0 m pc ls (.int n :: .int dp :: .ref a1 :: .int sp :: .ref a0 :: rest)) := by
  have nn : ∀ z : Int32, ¬ z < 0 → z.toInt = (z.toNatClampNeg : Int) := by
    intro z hz
    have hz0 : (0 : Int) ≤ z.toInt := by
      have := Int32.not_lt.mp hz
      simpa using Int32.le_iff_toInt_le.mp this
    show z.toInt = ((z.toInt.toNat : Nat) : Int)
    omega
  intro T hT X1
  obtain ⟨-, k0, hk0, cm0, hkk0⟩ := ht0 n0 (fun j => mk (f j))
  obtain ⟨-, k1, hk1, cm1, hkk1⟩ := ht1 n1 (fun j => mk (g j))
  obtain ⟨vm', X', step⟩ := X1.arraycopy hx hown hlink hnat hstat hini (src := a0) (dst := a1) (cs := arrV c0 n0 (fun j => mk (f j))) (cd := arrV c1 n1 (fun j => mk (g j))) (srcPos := sp) (destPos := dp) (n := n) (by rw [hT]; exact hc0) (by rw [hT]; exact hc1)
    (fun _ h => by cases h) (fun _ h => by cases h) (fun h => by cases h) (fun h => by cases h) hk0 hk1 hkk0 hkk1 (by simp [hprim]) h1 h2 h3
    (by rw [nn sp h1, nn n h3]; show ¬ _ > ((arrV c0 n0 (fun j => mk (f j))).slots.size : Int); rw [arrV_size]; omega)
    (by rw [nn dp h2, nn n h3]; show ¬ _ > ((arrV c1 n1 (fun j => mk (g j))).slots.size : Int); rw [arrV_size]; omega)
    (fun vm₁ _ i hi => by
      have e : (arrV c0 n0 (fun j => mk (f j))).slots.getD (sp.toNatClampNeg + i) .null = mk (f (sp.toNatClampNeg + i)) := by
        rw [Array.getD_eq_getD_getElem?, arrV_read _ _ (by omega)]
        rfl
      obtain ⟨hm1, hm2⟩ := hmk (f (sp.toNatClampNeg + i))
      refine ⟨?_, ?_⟩
      · rw [e]
        exact hfit _
      · rw [e]
        cases hv : mk (f (sp.toNatClampNeg + i)) <;> first | trivial | (exact absurd hv (hm1 _)) | (exact absurd hv hm2))
    (g := F0 m pc ls (.int n :: .int dp :: .ref a1 :: .int sp :: .ref a0 :: rest)) rfl (by rw [hml]) (rest := rest) rfl (by rw [hb]; exact hd) hframes (by show 2 * 0 + _ + _ ≤ _; omega)
  have e1 : copied (arrV c0 n0 (fun j => mk (f j))) (arrV c1 n1 (fun j => mk (g j))) sp dp n = arrV c1 n1 (fun j => mk (va_cpy f g sp.toNatClampNeg dp.toNatClampNeg n.toNatClampNeg j)) := va_copied mk c0 c1 f g h4
  rw [e1] at X' step
  have hl : a1 < H.size := (Array.getElem?_eq_some_iff.mp hc1).1
  have hheap : ((T.setVm vm').setCell a1 (arrV c1 n1 (fun j => mk (va_cpy f g sp.toNatClampNeg dp.toNatClampNeg n.toNatClampNeg j)))).heap = H.setIfInBounds a1 (arrV c1 n1 (fun j => mk (va_cpy f g sp.toNatClampNeg dp.toNatClampNeg n.toNatClampNeg j))) := by rw [← hT]; rfl
  obtain ⟨t, b1, b2⟩ := kk _ _ (by simp [Array.getElem?_setIfInBounds, hl]) (by simp) (fun q hq => by simp [Array.getElem?_setIfInBounds, Ne.symm hq]) (fun z hz => by
      rcases List.mem_append.mp hz with h | h
      · exact Or.inl h
      · obtain ⟨w, -, hw⟩ := List.mem_map.mp h
        exact Or.inr (by rw [← hw])) _ hheap X'
  exact ⟨t, step t b1, b2⟩
theorem jm_cpy_inv {h' : jm_H} {a0 a : Nat} {sp dp n : Int32} (hg : jm_cpy h a0 sp a dp n = some h') : 128 ≤ a0 ∧ 128 ≤ a ∧ ¬ sp < 0 ∧ ¬ dp < 0 ∧ ¬ n < 0 ∧ ((∃ n0 n1 f g, h.2.2 a0 = some (.inl (0, n0, .inl f)) ∧ h.2.2 a = some (.inl (0, n1, .inl g)) ∧ sp.toNatClampNeg + n.toNatClampNeg ≤ n0 ∧ dp.toNatClampNeg + n.toNatClampNeg ≤ n1 ∧ h' = jm_set h a (.inl (0, n1, .inl (va_cpy f g sp.toNatClampNeg dp.toNatClampNeg n.toNatClampNeg)))) ∨ (∃ n0 n1 f g, h.2.2 a0 = some (.inl (1, n0, .inr (.inl f))) ∧ h.2.2 a = some (.inl (1, n1, .inr (.inl g))) ∧ sp.toNatClampNeg + n.toNatClampNeg ≤ n0 ∧ dp.toNatClampNeg + n.toNatClampNeg ≤ n1 ∧ h' = jm_set h a (.inl (1, n1, .inr (.inl (va_cpy f g sp.toNatClampNeg dp.toNatClampNeg n.toNatClampNeg)))))) := by
  unfold jm_cpy at hg
  split at hg
  · rename_i hq
    refine ⟨hq.1, hq.2.1, hq.2.2.1, hq.2.2.2.1, hq.2.2.2.2, ?_⟩
    split at hg
    · rename_i n0 f n1 g e1 e2
      split at hg
      · rename_i hz
        cases hg
        exact Or.inl ⟨n0, n1, f, g, e1, e2, hz.1, hz.2, rfl⟩
      · cases hg
    · rename_i n0 f n1 g e1 e2
      split at hg
      · rename_i hz
        cases hg
        exact Or.inr ⟨n0, n1, f, g, e1, e2, hz.1, hz.2, rfl⟩
      · cases hg
    · cases hg
  · cases hg
theorem jg_arraycopy (hR : 8 ≤ R.frames ∧ 100 ≤ R.locals) (hx : p.tables.exec = Jvm.exec) (hb : c.code = cc) (hml : c.maxLocals = nL) (hown : s.vm.findClass (jm_cl cno) = some m.cls) (hts : ∀ w ∈ jm_ws, w.before args s = true) (hC : jm_cst X s s.heap) {k a0 a : Nat} {sp dp n : Int32} {h' : jm_H} {y : jm_M} (hk : jm_mp cno k = some (13, y)) (hcat : jm_cat r ≤ 8) (hg : jm_cpy h a0 sp a dp n = some h') (hd : decode cc pc = .ok (.invokestatic k, 3))
    (kk : jm_go X p lc e R s m args below meth c nL h0 Q (pc + 3) l r h') : jm_go X p lc e R s m args below meth c nL h0 Q pc l (.int n :: .int dp :: .ref a :: .int sp :: .ref a0 :: r) h := by
  intro H locs cells slots ls ha
  have hcr := jm_cat_vc hC.2.1 r
  obtain ⟨g1, g2, g3, g4, g5, g6⟩ := jm_cpy_inv hg
  rw [List.map_cons, List.map_cons, List.map_cons, List.map_cons, List.map_cons, jm_vc_h g1, jm_vc_h g2]
  have hfw : nativeFrameWords "java/lang/System" "arraycopy" 5 + 11 ≤ 92 := by decide +kernel
  have hlocs : ∀ (H1 : Heap) (locs1 : List Loc), H1.size = H.size → (∀ q : Nat, q ≠ jm_ad X a → H1[q]? = H[q]?) → (∀ z ∈ locs1, z ∈ locs ∨ z.base = jm_ad X a) → va_S (jm_Z X) s.heap H1 locs1 := fun H1 locs1 z1 o1 hl =>
    ⟨Nat.le_trans ha.2.1.1 (by omega), fun q q1 q2 => by rw [o1 q (fun e => q2 (by rw [e]; exact jm_ad_Z g2))]; exact ha.2.1.2.1 q q1 q2, fun z hz => by
      rcases hl z hz with q | q
      · exact ha.2.1.2.2 z q
      · rw [q]; exact jm_ad_Z g2⟩
  rcases g6 with ⟨n0, n1, f, g, e1, e2, q1, q2, rfl⟩ | ⟨n0, n1, f, g, e1, e2, q1, q2, rfl⟩
  · refine jm_copy hx hb (hml.trans ha.2.2.2.2.1.symm) hown (hts _ (jf_link hk)) (hts _ (jf_nat _ (by simp))) (hts _ (jf_nat _ (by simp))) (hts _ (jf_nat _ (by simp))) (fun z => Value.int z) (jm_pic_at ha.1 g1 e1) (jm_pic_at ha.1 g2 e2) (hC.1.2 0 _ rfl).1 (hC.1.2 0 _ rfl).1 rfl g3 g4 g5 q1 q2 (fun _ => rfl) (fun _ => ⟨fun _ z => (by cases z), fun z => (by cases z)⟩) (by omega) (by omega) hd fun H1 locs1 z0 z1 o1 hl => ?_
    exact kk H1 locs1 cells slots ls ⟨jm_pic_set ha.1 g2 e2 z0 z1 o1, hlocs H1 locs1 z1 o1 hl, ha.2.2.1, ha.2.2.2.1, ha.2.2.2.2⟩
  · refine jm_copy hx hb (hml.trans ha.2.2.2.2.1.symm) hown (hts _ (jf_link hk)) (hts _ (jf_nat _ (by simp))) (hts _ (jf_nat _ (by simp))) (hts _ (jf_nat _ (by simp))) (fun z => Value.long z) (jm_pic_at ha.1 g1 e1) (jm_pic_at ha.1 g2 e2) (hC.1.2 1 _ rfl).1 (hC.1.2 1 _ rfl).1 rfl g3 g4 g5 q1 q2 (fun _ => rfl) (fun _ => ⟨fun _ z => (by cases z), fun z => (by cases z)⟩) (by omega) (by omega) hd fun H1 locs1 z0 z1 o1 hl => ?_
    exact kk H1 locs1 cells slots ls ⟨jm_pic_set ha.1 g2 e2 z0 z1 o1, hlocs H1 locs1 z1 o1 hl, ha.2.2.1, ha.2.2.2.1, ha.2.2.2.2⟩
end JMJ
