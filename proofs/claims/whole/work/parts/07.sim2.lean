/-! ===== the simulation: fields, arrays, makings ===== -/
def jm_tys (X : jm_X) : List (ClassId × FieldType) := [(X.cA 0, .int), (X.cA 1, .long), (X.cA 2, .byte), (X.cA 3, .boolean), (X.cA 4, .char), (X.cA 5, .object "MaskPlays$Part"), (X.cA 6, .object "MaskPlays$Note")]
/-- which throws are caught by no row of another class -/
def jm_exn : Nat → String := fun x => match x with
  | 0 => "java/lang/IllegalStateException"
  | 1 => "java/lang/IllegalArgumentException"
  | _ => "java/lang/IndexOutOfBoundsException"
/-- words that a warmer table keeps, though they are no good words: castable, declares .. -/
def jm_xw : List Cond := lw_tbl.filter fun w => w.onTables && w.keepsFace
theorem jm_xw_warm {s U : State} (hW : s.WarmedH U.vm) (h : ∀ w ∈ jm_xw, va_Nw w s) : ∀ w ∈ jm_xw, va_Nw w U := by
  intro w hw
  have h2 := (List.mem_filter.mp hw).2
  simp only [Bool.and_eq_true] at h2
  exact va_tabs h2.1 (rfl : (s.setVm U.vm).vm = U.vm) (Cond.before_shiftedFace (args := #[]) (State.Shifted.of_warmed hW) w h2.2 (h w hw))
/-- what is known of the machine's own things: classes, constants, statics, words of nest mates -/
def jm_cst (X : jm_X) (U : State) (H : Heap) : Prop :=
  va_K X.D vwCl (jm_tys X) U ∧ (X.fv = .null ∨ ∃ q, X.fv = .ref q) ∧
  vk_S 34 jm_tlen jm_tbyt X.ka (fun k => X.ka (40 + k)) (jm_Z X) U H ∧
  va_T (.object "java/lang/String") (X.ka 80) 20 (fun j => .ref (X.ka (jm_wd.getD j 0))) (jm_Z X) U H ∧
  (va_X (X.ka 82) X.sc.1 X.sc.2 U H ∧ ¬ jm_Z X (X.ka 82)) ∧
  (va_Z "java/lang/String" "COMPACT_STRINGS" "Z" (.int 1) (jm_Z X) U H ∧ va_Z "jdk/internal/util/Preconditions" "SIOOBE_FORMATTER" "Ljava/util/function/BiFunction;" X.fv (jm_Z X) U H ∧ va_Z "MaskPlaysModel" "WORDS" "[Ljava/lang/String;" (.ref (X.ka 80)) (jm_Z X) U H) ∧
  (∀ w ∈ jm_nw, va_Nw w U) ∧ (∀ (k : Nat) (q : String × Nat × String), jm_tx[k]? = some q → vk_R q.1 q.2.1 q.2.2 (X.ka k) U) ∧
  (vx_Zq Bundle.tN "UNASSIGNED_STACK" Bundle.steD (jm_Z X) U H ∧ vx_Zq Bundle.tN "SUPPRESSED_SENTINEL" Bundle.listD (jm_Z X) U H) ∧
  (va_AO "MaskPlays$Part" U ∧ va_AO "MaskPlays$Note" U) ∧
  (∀ x y : Nat, x ≤ 2 → y ≤ 2 → x ≠ y → va_Nc (jm_exn x) (jm_exn y) U) ∧ (∀ w ∈ jm_xw, va_Nw w U)
theorem jm_nw_warm {s U : State} (hW : s.WarmedH U.vm) (h : ∀ w ∈ jm_nw, va_Nw w s) : ∀ w ∈ jm_nw, va_Nw w U := by
  intro w hw
  have h1 := h w hw
  have h2 := (List.mem_filter.mp hw).2
  cases w <;> first | exact va_Nw.warmF hW h1 | exact va_Nw.warmM hW h1 | (exact absurd h2 (by simp [jm_isN]))
theorem jm_cst_to {X : jm_X} {s U : State} {H : Heap} {locs : List Loc} (h : jm_cst X s s.heap) (hS : va_S (jm_Z X) s.heap H locs) (hW : s.WarmedH U.vm) : jm_cst X U H := by
  obtain ⟨a1, a2, a3, a4, ⟨a5, a5'⟩, ⟨a6, a7, a8⟩, a9, a10, ⟨a11, a12⟩, ⟨a13, a14⟩, a15, a16⟩ := h
  have hal := hW.alike
  have hk := hS.2.1
  have a5q : X.ka 82 < s.heap.size := by
    obtain ⟨scr, q, -⟩ := a5
    exact (Array.getElem?_eq_some_iff.mp q).1
  exact ⟨va_K.moved hal a1, a2, (a3.kept hk).moved hal, (a4.kept hk).moved hal, ⟨(a5.kept (hk _ a5q a5')).moved hal, a5'⟩, ⟨(a6.kept hk).moved hal, (a7.kept hk).moved hal, (a8.kept hk).moved hal⟩,
    jm_nw_warm hW a9, fun k q hq => vk_R.warm hW (a10 k q hq), ⟨(a11.kept hk).moved hal, (a12.kept hk).moved hal⟩, ⟨va_AO.moved hal a13, va_AO.moved hal a14⟩, fun x y hx hy hn => va_Nc.moved hal (a15 x y hx hy hn), jm_xw_warm hW a16⟩
theorem jm_kon_obj {sc : Nat × (Nat → Int32)} {a c : Nat} {fs : List Value} (h : jm_kon sc a = some (.inr (c, fs))) : c = 90 ∧ a < 34 ∧ fs = [.ref (40 + a), .int 0] := by
  unfold jm_kon at h
  split at h
  · rename_i h1
    simp only [Option.some.injEq, Sum.inr.injEq, Prod.mk.injEq] at h
    exact ⟨h.1.symm, h1, h.2.symm⟩
  · split at h
    · simp at h
    · split at h
      · simp at h
      · split at h <;> simp at h
theorem jm_vc_h {X : jm_X} {a : Nat} (h : 128 ≤ a) : jm_vc X (.ref a) = .ref (jm_ad X a) := by
  show (if a < 128 then (if a = 81 then X.fv else .ref (X.ka a)) else .ref (jm_ad X a)) = _
  rw [if_neg (by omega)]
theorem jm_vc_k {X : jm_X} {a : Nat} (h : a < 128) (h1 : a ≠ 81) : jm_vc X (.ref a) = .ref (X.ka a) := by
  show (if a < 128 then (if a = 81 then X.fv else .ref (X.ka a)) else .ref (jm_ad X a)) = _
  rw [if_pos h, if_neg h1]
theorem jm_one {D : va_G} {q : Nat × va_E} {H : Heap} (h : va_at D vwCl q H) : va_P D vwCl [q] H := by
  intro k z hz
  have : k < 1 := (List.getElem?_eq_some_iff.mp hz).1
  have h0 : k = 0 := by omega
  subst h0
  cases hz
  exact h
theorem jm_vq_some {ci : Nat} (h : ci < 13) : vwCl[ci]? = some ((jm_vq ci).1, (jm_vq ci).2.1, (jm_vq ci).2.2) := by
  have h1 : ci < vwCl.length := h
  rw [List.getElem?_eq_getElem h1]
  have : jm_vq ci = vwCl[ci] := by
    unfold jm_vq
    rw [List.getD_eq_getElem?_getD, List.getElem?_eq_getElem h1]
    rfl
  rw [this]
theorem jm_cl_facts {ci : Nat} (h : ci < 13) : (∀ w ∈ u_ws (jm_vq ci).1 (jm_vq ci).2.1 (jm_vq ci).2.2, w ∈ jm_ws) ∧ (∀ k, k < (jm_vq ci).2.2 → parseFieldDescriptor ((jm_vq ci).2.1 k).2.2.1 = some ((fun k => (parseFieldDescriptor ((jm_vq ci).2.1 k).2.2.1).getD .int) k)) ∧ (∀ a, a < (jm_vq ci).2.2 → ∀ b, b < (jm_vq ci).2.2 → a ≠ b → ((jm_vq ci).2.1 a).2.1 ≠ ((jm_vq ci).2.1 b).2.1) := by
  have h0 := jm_vq_some h
  have h1 := jf_cl _ (List.mem_of_getElem? h0)
  unfold jm_clok at h1
  rw [List.all_eq_true] at h1
  refine ⟨jf_cw h0, fun k hk => ?_, fun a ha b hb hab => ?_⟩
  · have h2 := h1 k (List.mem_range.mpr hk)
    simp only [Bool.and_eq_true] at h2
    obtain ⟨z, hz⟩ := Option.isSome_iff_exists.mp h2.1
    simp only [hz, Option.getD_some]
  · have h2 := h1 a (List.mem_range.mpr ha)
    simp only [Bool.and_eq_true, List.all_eq_true] at h2
    have h3 := h2.2 b (List.mem_range.mpr hb)
    simp only [Bool.or_eq_true, decide_eq_true_eq] at h3
    exact h3.resolve_left hab
theorem jm_gf_inv {h : jm_H} {a ci f t : Nat} {v : Value} (hg : jm_gf h a ci f t = some v) : ∃ fs, h.2.2 a = some (.inr (ci, fs)) ∧ fs[f]? = some v ∧ jm_tk t v = true := by
  unfold jm_gf at hg
  split at hg
  · rename_i c fs hc
    split at hg
    · rename_i hci
      split at hg
      · rename_i w hw
        split at hg
        · rename_i ht
          cases hg
          exact ⟨fs, by rw [hc, hci], hw, ht⟩
        · cases hg
      · cases hg
    · cases hg
  · cases hg
theorem jm_pf_inv {h h' : jm_H} {a ci f t : Nat} {v : Value} (hg : jm_pf h a ci f t v = some h') : 128 ≤ a ∧ ∃ fs, h.2.2 a = some (.inr (ci, fs)) ∧ f < fs.length ∧ jm_tk t v = true ∧ h' = jm_set h a (.inr (ci, fs.set f v)) := by
  unfold jm_pf at hg
  split at hg
  · rename_i ha
    split at hg
    · rename_i c fs hc
      split at hg
      · rename_i hci
        cases hg
        exact ⟨ha, fs, by rw [hc, hci.1], hci.2.1, hci.2.2, by rw [hci.1]⟩
      · cases hg
    · cases hg
  · cases hg
section JMH
variable {X : jm_X} {p : Program} {lc : Launch} {e : Env} {R : Room} {s : State} {m : MethodId} {args : Array Value} {below : List Frame} {meth : Method} {c : Code} {nL : Nat} {h0 : jm_H} {Q : State → Prop}
variable {cc : ByteArray} {pc : Nat} {l : List (Option Value)} {r : List Value} {h : jm_H} {cno : Nat}
theorem jm_pic_at {H : Heap} {a : Nat} {ae : jm_AE} (hp : jm_pic X h H) (ha : 128 ≤ a) (h1 : h.2.2 a = some ae) : va_at X.D vwCl (jm_ad X a, jm_ce X ae) H := (hp.2.2.1 a ae ha h1).2
theorem jm_pic_set {H H' : Heap} {a : Nat} {e0 e1 : jm_AE} (hp : jm_pic X h H) (ha : 128 ≤ a) (h1 : h.2.2 a = some e0) (he : va_at X.D vwCl (jm_ad X a, jm_ce X e1) H') (hz : H'.size = H.size) (ho : ∀ q : Nat, q ≠ jm_ad X a → H'[q]? = H[q]?) : jm_pic X (jm_set h a e1) H' := by
  refine ⟨by rw [hz]; exact hp.1, hp.2.1, fun b eb hb hh => ?_, fun b hb => ?_⟩
  · have hh' : (if b = a then some e1 else h.2.2 b) = some eb := hh
    by_cases q : b = a
    · rw [if_pos q] at hh'
      cases hh'
      rw [q]
      exact ⟨(hp.2.2.1 a e0 ha h1).1, he⟩
    · rw [if_neg q] at hh'
      obtain ⟨g1, g2⟩ := hp.2.2.1 b eb hb hh'
      refine ⟨g1, g2.kept (ho _ ?_)⟩
      show jm_ad X b ≠ jm_ad X a
      unfold jm_ad
      omega
  · show (if b = a then some e1 else h.2.2 b) = _
    rw [if_neg (by omega)]
    exact hp.2.2.2 b hb
theorem jm_pic_push {H H' : Heap} {e1 : jm_AE} {n : Nat} (hp : jm_pic X h H) (he : va_at X.D vwCl (jm_ad X h.1, jm_ce X e1) H') (hz : H'.size = H.size + 1) (ho : ∀ q : Nat, q < H.size → H'[q]? = H[q]?) : jm_pic X (jm_push h e1 n) H' := by
  have h2 := hp.1
  have h3 := hp.2.1
  refine ⟨by show H'.size + 128 = X.N0 + (h.1 + 1); omega, by show 128 ≤ h.1 + 1; omega, fun b eb hb hh => ?_, fun b hb => ?_⟩
  · have hh' : (if b = h.1 then some e1 else h.2.2 b) = some eb := hh
    by_cases q : b = h.1
    · rw [if_pos q] at hh'
      cases hh'
      rw [q]
      exact ⟨Nat.lt_succ_self _, he⟩
    · rw [if_neg q] at hh'
      obtain ⟨g1, g2⟩ := hp.2.2.1 b eb hb hh'
      refine ⟨Nat.lt_succ_of_lt g1, g2.kept (ho _ ?_)⟩
      show jm_ad X b < H.size
      unfold jm_ad
      omega
  · show (if b = h.1 then some e1 else h.2.2 b) = _
    rw [if_neg (by omega)]
    exact hp.2.2.2 b hb
theorem jm_ad_Z {a : Nat} (ha : 128 ≤ a) : jm_Z X (jm_ad X a) := by
  show X.N0 ≤ X.N0 + (a - 128)
  omega
theorem jm_ad_size {H : Heap} (hp : jm_pic X h H) : jm_ad X h.1 = H.size := by
  have h2 := hp.1
  have h3 := hp.2.1
  unfold jm_ad
  omega
theorem jm_fw_link {k ci f t o : Nat} (hts : ∀ w ∈ jm_ws, w.before args s = true) (hp : jm_fp cno k = some (ci, f, t, o)) (ho : o ≠ 1) : (jm_fw cno (k, ci, f, t, o)).before args s = true := by
  obtain ⟨h1, h2⟩ := jf_fp cno _ (jf_fp_in hp)
  rcases h2 with h2 | h2
  · exact hts _ (jm_wsin h1 h2)
  · exfalso
    unfold jm_fw at h2
    split at h2
    · rename_i hq
      exact ho hq
    · split at h2
      · split at h2 <;> simp [jm_isN] at h2
      · simp [jm_isN] at h2
theorem jm_fw_nest {k ci f t : Nat} (hC : jm_cst X s s.heap) (hp : jm_fp cno k = some (ci, f, t, 1)) : (Cond.fieldLinkNest (jm_cl cno) k ((jm_vq ci).2.1 f).1 ((jm_vq ci).2.1 f).2.1 ((jm_vq ci).2.1 f).2.2.1 "MaskPlaysModel").before args s = true := by
  obtain ⟨h1, h2⟩ := jf_fp cno _ (jf_fp_in hp)
  exact va_Nw.use rfl (hC.2.2.2.2.2.2.1 _ (jm_nwin h1 rfl))
theorem jm_fok_of {k ci f t o : Nat} (hp : jm_fp cno k = some (ci, f, t, o)) : jm_fok cno (k, ci, f, t, o) = true := jf_fo cno _ (jf_fp_in hp)
theorem jm_fok_own {k ci f t o : Nat} (hp : jm_fp cno k = some (ci, f, t, o)) (hc : ci ≠ 90) : ci < 13 ∧ f < (jm_vq ci).2.2 ∧ (o = 2 → ((jm_vq ci).2.1 f).1 = jm_cl cno) := by
  have h1 := jm_fok_of hp
  unfold jm_fok at h1
  simp only [Bool.or_eq_true, Bool.and_eq_true, decide_eq_true_eq] at h1
  rcases h1 with ⟨h2, -⟩ | ⟨⟨⟨⟨h2, h3⟩, -⟩, h5⟩, -⟩
  · exact absurd h2 hc
  · refine ⟨h2, h3, fun q => ?_⟩
    simp only [q, decide_true, Bool.not_true, Bool.false_or, decide_eq_true_eq, Bool.false_eq_true, false_or] at h5
    exact h5
theorem jm_fok_ty {k ci f t o : Nat} {v : Value} (hf : X.fv = .null ∨ ∃ q, X.fv = .ref q) (hp : jm_fp cno k = some (ci, f, t, o)) (hc : ci ≠ 90) (ht : jm_tk t v = true) : ∃ ty, parseFieldDescriptor ((jm_vq ci).2.1 f).2.2.1 = some ty ∧ narrow ty (jm_vc X v) = jm_vc X v ∧ fits ty (jm_vc X v) = true := by
  have h1 := jm_fok_of hp
  unfold jm_fok at h1
  simp only [Bool.or_eq_true, Bool.and_eq_true, decide_eq_true_eq] at h1
  rcases h1 with ⟨h2, -⟩ | ⟨⟨⟨-, h4⟩, -⟩, -⟩
  · exact absurd h2 hc
  · have href : ∀ a, ∀ ty : FieldType, ((∃ n, ty = .object n) ∨ ∃ z, ty = .array z) → narrow ty (jm_vc X (.ref a)) = jm_vc X (.ref a) ∧ fits ty (jm_vc X (.ref a)) = true := by
      intro a ty hty
      rcases jm_vc_ref hf a with q | ⟨b, q⟩ <;> rw [q] <;> rcases hty with ⟨n, rfl⟩ | ⟨z, rfl⟩ <;> exact ⟨rfl, rfl⟩
    split at h4
    · rename_i ty hty
      refine ⟨_, hty, ?_⟩
      cases v <;> simp [jm_tk] at ht
      exact ⟨rfl, rfl⟩
    · rename_i ty hty
      refine ⟨_, hty, ?_⟩
      cases v <;> simp [jm_tk] at ht
      rcases ht with rfl | rfl <;> exact ⟨rfl, rfl⟩
    · rename_i ty hty
      refine ⟨_, hty, ?_⟩
      cases v <;> simp [jm_tk] at ht
      exact ⟨rfl, rfl⟩
    · rename_i ty n hty
      refine ⟨_, hty, ?_⟩
      cases v <;> simp [jm_tk] at ht
      exact href _ _ (Or.inl ⟨_, rfl⟩)
    · rename_i ty n hty
      refine ⟨_, hty, ?_⟩
      cases v <;> simp [jm_tk] at ht
      exact href _ _ (Or.inr ⟨_, rfl⟩)
    · cases h4
set_option maxHeartbeats 1000000 in
theorem jg_getfield (hx : p.tables.exec = Jvm.exec) (hb : c.code = cc) (hown : s.vm.findClass (jm_cl cno) = some m.cls) (hts : ∀ w ∈ jm_ws, w.before args s = true) (hC : jm_cst X s s.heap) {k ci f t o a : Nat} {v : Value} (hp : jm_fp cno k = some (ci, f, t, o)) (hg : jm_gf h a ci f t = some v) (hd : decode cc pc = .ok (.getfield k, 3))
    (kk : jm_go X p lc e R s m args below meth c nL h0 Q (pc + 3) l (v :: r) h) : jm_go X p lc e R s m args below meth c nL h0 Q pc l (.ref a :: r) h := by
  intro H locs cells slots ls ha
  have k1 := kk H locs cells slots ls ha
  obtain ⟨fs, g1, g2, g3⟩ := jm_gf_inv hg
  rw [List.map_cons] at k1 ⊢
  by_cases hc : ci = 90
  · subst hc
    have hk : a < 128 := by
      rcases Nat.lt_or_ge a 128 with q | q
      · exact q
      · obtain ⟨-, z⟩ := ha.1.2.2.1 a _ q g1
        obtain ⟨rr, z1, -⟩ := z
        simp [vwCl] at z1
    rw [ha.1.2.2.2 a hk] at g1
    obtain ⟨-, h34, rfl⟩ := jm_kon_obj g1
    rw [jm_vc_k hk (by omega)]
    have ho : o ≠ 1 ∧ f ≤ 1 := by
      have h1 := jm_fok_of hp
      unfold jm_fok at h1
      simp at h1
      exact ⟨by omega, by omega⟩
    have hlink := jm_fw_link hts hp ho.1
    obtain ⟨-, q2, q3, -⟩ := hC.2.2.1.1 a h34
    have hw : jm_fw cno (k, 90, f, t, o) = (if f = 0 then .fieldLink (jm_cl cno) k "java/lang/String" "value" "[B" else .fieldLink (jm_cl cno) k "java/lang/String" "coder" "B") := by
      unfold jm_fw
      split
      · rename_i hq; exact absurd hq ho.1
      · simp
    rw [hw] at hlink
    rcases (show f = 0 ∨ f = 1 by omega) with rfl | rfl
    · have : v = .ref (40 + a) := by simpa using g2.symm
      subst this
      rw [jm_vc_k (by omega) (by omega)] at k1
      exact vk_getf hx hb q3 ha.2.1 hown hlink (fun _ z => z) hd k1
    · have : v = .int 0 := by simpa using g2.symm
      subst this
      exact vk_getf hx hb q2 ha.2.1 hown hlink (fun _ z => z) hd k1
  · have hk : 128 ≤ a := by
      rcases Nat.lt_or_ge a 128 with q | q
      · rw [ha.1.2.2.2 a q] at g1
        exact absurd (jm_kon_obj g1).1 hc
      · exact q
    obtain ⟨i1, i2, -⟩ := jm_fok_own hp hc
    obtain ⟨j1, -, -⟩ := jm_cl_facts i1
    rw [jm_vc_h hk]
    have hat := jm_one (jm_pic_at ha.1 hk g1)
    have hv : (fs.map (jm_vc X))[f]? = some (jm_vc X v) := by rw [List.getElem?_map, g2]; rfl
    by_cases ho : o = 1
    · subst ho
      exact va_getN hx hb hts j1 hown hC.1 hat 0 (fs := fs.map (jm_vc X)) rfl (jm_vq_some i1) f i2 (jm_fw_nest hC hp) (fun _ z => z) hv hd k1
    · have hlink := jm_fw_link hts hp ho
      have hw : jm_fw cno (k, ci, f, t, o) = .fieldLink (jm_cl cno) k ((jm_vq ci).2.1 f).1 ((jm_vq ci).2.1 f).2.1 ((jm_vq ci).2.1 f).2.2.1 := by
        unfold jm_fw
        split
        · rename_i hq; exact absurd hq ho
        · rw [if_neg hc]
      rw [hw] at hlink
      exact va_get hx hb hts j1 hown hC.1 hat 0 (fs := fs.map (jm_vc X)) rfl (jm_vq_some i1) f i2 hlink (fun _ z => z) hv hd k1
theorem jm_fin_eq {ci f : Nat} (h : ci < 13) : jm_fin ci f = ((jm_vq ci).2.1 f).2.2.2 := by
  unfold jm_fin
  rw [jm_vq_some h]
set_option maxHeartbeats 1000000 in
theorem jg_putfield (hx : p.tables.exec = Jvm.exec) (hb : c.code = cc) (hown : s.vm.findClass (jm_cl cno) = some m.cls) (hts : ∀ w ∈ jm_ws, w.before args s = true) (hC : jm_cst X s s.heap) {kd : Nat} (hin : kd = 2 → meth.name = "<init>") {k ci f t o a : Nat} {v : Value} {h' : jm_H} (hp : jm_fp cno k = some (ci, f, t, o)) (hfin : jm_fin ci f = false ∨ (o = 2 ∧ kd = 2)) (hg : jm_pf h a ci f t v = some h') (hd : decode cc pc = .ok (.putfield k, 3))
    (kk : jm_go X p lc e R s m args below meth c nL h0 Q (pc + 3) l r h') : jm_go X p lc e R s m args below meth c nL h0 Q pc l (v :: .ref a :: r) h := by
  intro H locs cells slots ls ha
  obtain ⟨hk, fs, g1, g2, g3, rfl⟩ := jm_pf_inv hg
  have hc : ci ≠ 90 := by
    rintro rfl
    obtain ⟨-, z⟩ := ha.1.2.2.1 a _ hk g1
    obtain ⟨rr, z1, -⟩ := z
    simp [vwCl] at z1
  obtain ⟨i1, i2, i3⟩ := jm_fok_own hp hc
  obtain ⟨j1, j2, j3⟩ := jm_cl_facts i1
  obtain ⟨ty, t1, t2, t3⟩ := jm_fok_ty hC.2.1 hp hc g3
  rw [jm_fin_eq i1] at hfin
  rw [List.map_cons, List.map_cons, jm_vc_h hk]
  have hvq := jm_vq_some i1
  have hat : va_at X.D vwCl (jm_ad X a, .inr (ci, fs.map (jm_vc X))) H := jm_pic_at ha.1 hk g1
  obtain ⟨rr, r1, cell, q1, q2, q3, q4⟩ := hat
  have hr : rr = ((jm_vq ci).1, (jm_vq ci).2.1, (jm_vq ci).2.2) := Option.some.inj (r1.symm.trans hvq)
  subst hr
  have hap := va_apart (own := jm_cl cno) (D := X.D) (cl := vwCl) (tys := jm_tys X) hts j1 _ j2 j3 hC.1 hvq
  obtain ⟨hSl, hfc, kC, hkC, hkind⟩ := hC.1.1 ci _ hvq
  obtain ⟨cf, kf, fi, fd, hi, hsl⟩ := hSl f i2
  have hst := (u_facts hfc hkC (u_lays hts j1 i2) hi).1
  have hlen : f < (fs.map (jm_vc X)).length := by rw [List.length_map]; exact g2
  have done : ∀ H' : Heap, H'[jm_ad X a]? = some (cell.setSlot fd.slot (jm_vc X v)) → H'.size = H.size → (∀ q, q ≠ jm_ad X a → H'[q]? = H[q]?) → W p lc e R s m args below meth c H' (locs ++ [⟨jm_ad X a, fd.slot⟩]) cells slots Q (F0 m (pc + 3) ls (r.map (jm_vc X))) := by
    intro H' e1 e2 e3
    refine kk H' _ cells slots ls ⟨jm_pic_set ha.1 hk g1 ?_ e2 e3, ha.2.1.put e2 e3 (jm_ad_Z hk), ha.2.2.1, ha.2.2.2.1, ha.2.2.2.2⟩
    rw [hsl] at e1
    refine ⟨_, hvq, t_OB.to (V := updV (vp_V (fs.map (jm_vc X))) f (jm_vc X v)) ⟨_, e1, q2, q3, t_set q4 hap i2 _⟩ (fun j _ => ?_)⟩
    rw [List.map_set]
    exact vp_updV_set hlen (jm_vc X v) j
  have hlt : fd.slot < cell.slots.size := by rw [hsl]; exact k2_hasslot (q4 f i2)
  by_cases ho : o = 1
  · subst ho
    have hf0 : ((jm_vq ci).2.1 f).2.2.2 = false := hfin.resolve_right (fun z => absurd z.1 (by decide))
    have hlay := hts _ (j1 _ (u_in_lay i2))
    unfold u_lay at hlay
    rw [if_neg (by rw [hf0]; decide)] at hlay
    have h6 := u_store hfc hkC hkind hlay hi t1 t2 t3
    exact va_WputK hx hb hown (jm_fw_nest hC hp) hi hst (by rw [q2]; exact h6) q1 q3 hlt rfl rfl hd done
  · have hlink := jm_fw_link hts hp ho
    have hw : jm_fw cno (k, ci, f, t, o) = .fieldLink (jm_cl cno) k ((jm_vq ci).2.1 f).1 ((jm_vq ci).2.1 f).2.1 ((jm_vq ci).2.1 f).2.2.1 := by
      unfold jm_fw
      split
      · rename_i hq; exact absurd hq ho
      · rw [if_neg hc]
    rw [hw] at hlink
    have hlay := hts _ (j1 _ (u_in_lay i2))
    unfold u_lay at hlay
    by_cases hF : ((jm_vq ci).2.1 f).2.2.2 = true
    · rw [if_pos hF] at hlay
      obtain ⟨o2, k2⟩ := hfin.resolve_left (fun z => by rw [hF] at z; cases z)
      have hcf : m.cls = cf := by
        obtain ⟨_, _, c', _, _, _, -, -, hf', -, -, -, hown2, -⟩ := Cond.laysFinal_spec hlay
        have e1 : c' = cf := by have := hi.symm.trans hf'; simp at this; exact this.1.symm
        rw [i3 o2] at hown2
        rw [← e1]; exact Option.some.inj (hown.symm.trans hown2)
      have h6 := u_fits hfc hkC hkind (Or.inr hlay) hi t1 t2 t3
      exact W.putFinK hx hb hown hlink hi hst hcf (hin k2) (by rw [q2]; exact h6) q1 q3 hlt rfl rfl hd done
    · rw [if_neg hF] at hlay
      have h6 := u_store hfc hkC hkind hlay hi t1 t2 t3
      exact W.putK hx hb (f := fd) ⟨hown, hlink, ⟨_, _, _, hi⟩, hst⟩ (by rw [q2]; exact h6) q1 q3 hlt rfl rfl hd done
end JMH
