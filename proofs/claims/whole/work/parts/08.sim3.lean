/-! ===== the simulation: arrays, objects made, constants, natives ===== -/
theorem jm_ix_in {i : Int32} {n : Nat} (h : jm_ix i n = true) : vp_in i n := by
  unfold jm_ix at h
  simp only [Bool.not_eq_true', Bool.or_eq_false_iff, decide_eq_false_iff_not] at h
  rintro (q | q)
  · exact h.1 q
  · exact h.2 q
theorem jm_kon_arr {sc : Nat × (Nat → Int32)} {a t n : Nat} {f : (Nat → Int32) ⊕ (Nat → Int64) ⊕ (Nat → UInt32) ⊕ (Nat → UInt64) ⊕ (Nat → Option Nat)} (h : jm_kon sc a = some (.inl (t, n, f))) :
    (40 ≤ a ∧ a < 74 ∧ t = 2 ∧ n = jm_tlen.getD (a - 40) 0 ∧ f = .inl fun j => (jm_tbyt.getD (a - 40) []).getD j 0) ∨ (a = 80 ∧ t = 7 ∧ n = 20 ∧ f = .inr (.inr (.inr (.inr fun j => jm_wd[j]?)))) ∨ (a = 82 ∧ t = 0 ∧ n = sc.1 ∧ f = .inl sc.2) := by
  unfold jm_kon at h
  split at h
  · simp at h
  · split at h
    · rename_i h1
      simp only [Option.some.injEq, Sum.inl.injEq, Prod.mk.injEq] at h
      exact Or.inl ⟨h1.1, h1.2, h.1.symm, h.2.1.symm, h.2.2.symm⟩
    · split at h
      · rename_i h1
        simp only [Option.some.injEq, Sum.inl.injEq, Prod.mk.injEq] at h
        exact Or.inr (Or.inl ⟨h1, h.1.symm, h.2.1.symm, h.2.2.symm⟩)
      · split at h
        · rename_i h1
          simp only [Option.some.injEq, Sum.inl.injEq, Prod.mk.injEq] at h
          exact Or.inr (Or.inr ⟨h1, h.1.symm, h.2.1.symm, h.2.2.symm⟩)
        · simp at h
theorem jm_ali_inv {h : jm_H} {a t : Nat} {i x : Int32} (hg : jm_ali h a t i = some x) : ∃ n f, h.2.2 a = some (.inl (t, n, .inl f)) ∧ vp_in i n ∧ x = f i.toNatClampNeg := by
  unfold jm_ali at hg
  split at hg
  · rename_i t' n f hc
    split at hg
    · rename_i hq
      cases hg
      exact ⟨n, f, by rw [hc, hq.1], jm_ix_in hq.2, rfl⟩
    · cases hg
  · cases hg
theorem jm_all_inv {h : jm_H} {a : Nat} {i : Int32} {x : Int64} (hg : jm_all h a i = some x) : ∃ n f, h.2.2 a = some (.inl (1, n, .inr (.inl f))) ∧ vp_in i n ∧ x = f i.toNatClampNeg := by
  unfold jm_all at hg
  split at hg
  · rename_i n f hc
    split at hg
    · rename_i hq
      cases hg
      exact ⟨n, f, hc, jm_ix_in hq, rfl⟩
    · cases hg
  · cases hg
theorem jm_alr_inv {h : jm_H} {a : Nat} {i : Int32} {x : Nat} (hg : jm_alr h a i = some x) : ∃ t n f, h.2.2 a = some (.inl (t, n, .inr (.inr (.inr (.inr f))))) ∧ vp_in i n ∧ f i.toNatClampNeg = some x ∧ 5 ≤ t ∧ ((128 ≤ a ∧ t ≤ 6 ∧ 128 ≤ x) ∨ (a < 128 ∧ t = 7 ∧ x < 128)) := by
  unfold jm_alr at hg
  split at hg
  · rename_i t n f hc
    split at hg
    · rename_i hq
      split at hg
      · rename_i b hb
        split at hg
        · rename_i hz
          cases hg
          exact ⟨t, n, f, hc, jm_ix_in hq.1, hb, hq.2.1, hz⟩
        · cases hg
      · cases hg
    · cases hg
  · cases hg
theorem jm_asi_inv {h h' : jm_H} {a t : Nat} {i x : Int32} (hg : jm_asi h a t i x = some h') : 128 ≤ a ∧ ∃ n f, h.2.2 a = some (.inl (t, n, .inl f)) ∧ vp_in i n ∧ h' = jm_set h a (.inl (t, n, .inl (upd f i.toNatClampNeg (vp_nar (jm_ty t) x)))) := by
  unfold jm_asi at hg
  split at hg
  · rename_i t' n f hc
    split at hg
    · rename_i hq
      cases hg
      obtain ⟨q1, q2, q3⟩ := hq
      subst q2
      exact ⟨q1, n, f, hc, jm_ix_in q3, rfl⟩
    · cases hg
  · cases hg
theorem jm_asl_inv {h h' : jm_H} {a : Nat} {i : Int32} {x : Int64} (hg : jm_asl h a i x = some h') : 128 ≤ a ∧ ∃ n f, h.2.2 a = some (.inl (1, n, .inr (.inl f))) ∧ vp_in i n ∧ h' = jm_set h a (.inl (1, n, .inr (.inl (vp_updL f i.toNatClampNeg x)))) := by
  unfold jm_asl at hg
  split at hg
  · rename_i n f hc
    split at hg
    · rename_i hq
      cases hg
      exact ⟨hq.1, n, f, hc, jm_ix_in hq.2, rfl⟩
    · cases hg
  · cases hg
theorem jm_asr_inv {h h' : jm_H} {a b : Nat} {i : Int32} (hg : jm_asr h a i b = some h') : 128 ≤ a ∧ 128 ≤ b ∧ ∃ t n f fs, h.2.2 a = some (.inl (t, n, .inr (.inr (.inr (.inr f))))) ∧ h.2.2 b = some (.inr (jm_ec t, fs)) ∧ (t = 5 ∨ t = 6) ∧ vp_in i n ∧ h' = jm_set h a (.inl (t, n, .inr (.inr (.inr (.inr (va_up f i.toNatClampNeg (some b))))))) := by
  unfold jm_asr at hg
  split at hg
  · rename_i t n f cc fs hc hc2
    split at hg
    · rename_i hq
      cases hg
      obtain ⟨q1, q2, q3, q4, q5⟩ := hq
      subst q5
      exact ⟨q1, q2, t, n, f, fs, hc, hc2, q4, jm_ix_in q3, rfl⟩
    · cases hg
  · cases hg
theorem jm_len_inv {h : jm_H} {a n : Nat} (hg : jm_len h a = some n) : ∃ t f, h.2.2 a = some (.inl (t, n, f)) ∧ (t ≤ 6 ∨ a < 128) := by
  unfold jm_len at hg
  split at hg
  · rename_i t n f hc
    split at hg
    · rename_i hq
      cases hg
      exact ⟨t, f, hc, hq⟩
    · cases hg
  · cases hg
theorem jm_newa_inv {h h' : jm_H} {t : Nat} {n : Int32} (hg : jm_newa h t n = some h') : ¬ n < 0 ∧ n.toNatClampNeg ≤ 1000000 ∧ h' = jm_push h (.inl (t, n.toNatClampNeg, jm_zero t)) n.toNatClampNeg := by
  unfold jm_newa at hg
  split at hg
  · rename_i hq
    cases hg
    exact ⟨hq.1, hq.2, rfl⟩
  · cases hg
section JMI
variable {X : jm_X} {p : Program} {lc : Launch} {e : Env} {R : Room} {s : State} {m : MethodId} {args : Array Value} {below : List Frame} {meth : Method} {c : Code} {nL : Nat} {h0 : jm_H} {Q : State → Prop}
variable {cc : ByteArray} {pc : Nat} {l : List (Option Value)} {r : List Value} {h : jm_H} {cno : Nat}
theorem jm_ty_at {t : Nat} (ht : t ≤ 6) : (jm_tys X)[t]? = some (X.cA t, jm_ty t) := by
  match t, ht with
  | 0, _ => rfl
  | 1, _ => rfl
  | 2, _ => rfl
  | 3, _ => rfl
  | 4, _ => rfl
  | 5, _ => rfl
  | 6, _ => rfl
  | _ + 7, h => omega
theorem jm_arr_heap {H : Heap} {a t n : Nat} {f : (Nat → Int32) ⊕ (Nat → Int64) ⊕ (Nat → UInt32) ⊕ (Nat → UInt64) ⊕ (Nat → Option Nat)} (hp : jm_pic X h H) (h1 : h.2.2 a = some (.inl (t, n, f))) (hn : ¬ (t = 2 ∨ t = 7 ∨ t = 0)) : 128 ≤ a := by
  rcases Nat.lt_or_ge a 128 with q | q
  · rw [hp.2.2.2 a q] at h1
    rcases jm_kon_arr h1 with z | z | z
    · exact absurd (Or.inl z.2.2.1) hn
    · exact absurd (Or.inr (Or.inl z.2.1)) hn
    · exact absurd (Or.inr (Or.inr z.2.1)) hn
  · exact q
theorem jm_kdist (hC : jm_cst X s s.heap) : X.ka 82 < s.heap.size := by
  obtain ⟨scr, q, -⟩ := hC.2.2.2.2.1.1
  exact (Array.getElem?_eq_some_iff.mp q).1
theorem jg_iaload (hx : p.tables.exec = Jvm.exec) (hb : c.code = cc) (hC : jm_cst X s s.heap) {a : Nat} {i x : Int32} (hg : jm_ali h a 0 i = some x) (hd : decode cc pc = .ok (.iaload, 1))
    (kk : jm_go X p lc e R s m args below meth c nL h0 Q (pc + 1) l (.int x :: r) h) : jm_go X p lc e R s m args below meth c nL h0 Q pc l (.int i :: .ref a :: r) h := by
  intro H locs cells slots ls ha
  have k1 := kk H locs cells slots ls ha
  obtain ⟨n, f, g1, g2, rfl⟩ := jm_ali_inv hg
  rw [List.map_cons, List.map_cons]
  rcases Nat.lt_or_ge a 128 with q | q
  · rw [ha.1.2.2.2 a q] at g1
    rcases jm_kon_arr g1 with z | z | z
    · exact absurd z.2.2.1 (by decide)
    · exact absurd z.2.1 (by decide)
    · obtain ⟨rfl, -, rfl, hf⟩ := z
      have hf' : f = X.sc.2 := by simpa using hf
      subst hf'
      rw [jm_vc_k q (by decide)]
      exact va_sld hx hb hC.2.2.2.2.1.1 (jm_kdist hC) hC.2.2.2.2.1.2 ha.2.1 g2 hd k1
  · rw [jm_vc_h q]
    exact va_iald hx hb hC.1 (jm_one (jm_pic_at ha.1 q g1)) 0 0 rfl rfl g2 hd k1
theorem jg_baload (hx : p.tables.exec = Jvm.exec) (hb : c.code = cc) (hC : jm_cst X s s.heap) {a : Nat} {i x : Int32} (hg : jm_ali h a 2 i = some x) (hd : decode cc pc = .ok (.baload, 1))
    (kk : jm_go X p lc e R s m args below meth c nL h0 Q (pc + 1) l (.int x :: r) h) : jm_go X p lc e R s m args below meth c nL h0 Q pc l (.int i :: .ref a :: r) h := by
  intro H locs cells slots ls ha
  have k1 := kk H locs cells slots ls ha
  obtain ⟨n, f, g1, g2, rfl⟩ := jm_ali_inv hg
  rw [List.map_cons, List.map_cons]
  rcases Nat.lt_or_ge a 128 with q | q
  · rw [ha.1.2.2.2 a q] at g1
    rcases jm_kon_arr g1 with z | z | z
    · obtain ⟨q1, q2, -, rfl, hf⟩ := z
      have hf' : f = fun j => (jm_tbyt.getD (a - 40) []).getD j 0 := by simpa using hf
      subst hf'
      rw [jm_vc_k q (by omega)]
      obtain ⟨-, -, -, hT⟩ := hC.2.2.1.1 (a - 40) (by omega)
      have e1 : 40 + (a - 40) = a := by omega
      simp only [e1] at hT
      exact va_tb hx hb hT ha.2.1 g2 rfl hd k1
    · exact absurd z.2.1 (by decide)
    · exact absurd z.2.1 (by decide)
  · rw [jm_vc_h q]
    exact va_bald hx hb hC.1 (jm_one (jm_pic_at ha.1 q g1)) 0 2 rfl rfl g2 hd k1
theorem jg_zaload (hx : p.tables.exec = Jvm.exec) (hb : c.code = cc) (hC : jm_cst X s s.heap) {a : Nat} {i x : Int32} (hg : jm_ali h a 3 i = some x) (hd : decode cc pc = .ok (.baload, 1))
    (kk : jm_go X p lc e R s m args below meth c nL h0 Q (pc + 1) l (.int x :: r) h) : jm_go X p lc e R s m args below meth c nL h0 Q pc l (.int i :: .ref a :: r) h := by
  intro H locs cells slots ls ha
  have k1 := kk H locs cells slots ls ha
  obtain ⟨n, f, g1, g2, rfl⟩ := jm_ali_inv hg
  have q := jm_arr_heap ha.1 g1 (by decide)
  rw [List.map_cons, List.map_cons, jm_vc_h q]
  exact va_zald hx hb hC.1 (jm_one (jm_pic_at ha.1 q g1)) 0 3 rfl rfl g2 hd k1
theorem jg_caload (hx : p.tables.exec = Jvm.exec) (hb : c.code = cc) (hC : jm_cst X s s.heap) {a : Nat} {i x : Int32} (hg : jm_ali h a 4 i = some x) (hd : decode cc pc = .ok (.caload, 1))
    (kk : jm_go X p lc e R s m args below meth c nL h0 Q (pc + 1) l (.int x :: r) h) : jm_go X p lc e R s m args below meth c nL h0 Q pc l (.int i :: .ref a :: r) h := by
  intro H locs cells slots ls ha
  have k1 := kk H locs cells slots ls ha
  obtain ⟨n, f, g1, g2, rfl⟩ := jm_ali_inv hg
  have q := jm_arr_heap ha.1 g1 (by decide)
  rw [List.map_cons, List.map_cons, jm_vc_h q]
  exact va_cald hx hb hC.1 (jm_one (jm_pic_at ha.1 q g1)) 0 4 rfl rfl g2 hd k1
theorem jg_laload (hx : p.tables.exec = Jvm.exec) (hb : c.code = cc) (hC : jm_cst X s s.heap) {a : Nat} {i : Int32} {x : Int64} (hg : jm_all h a i = some x) (hd : decode cc pc = .ok (.laload, 1))
    (kk : jm_go X p lc e R s m args below meth c nL h0 Q (pc + 1) l (.long x :: r) h) : jm_go X p lc e R s m args below meth c nL h0 Q pc l (.int i :: .ref a :: r) h := by
  intro H locs cells slots ls ha
  have k1 := kk H locs cells slots ls ha
  obtain ⟨n, f, g1, g2, rfl⟩ := jm_all_inv hg
  have q := jm_arr_heap ha.1 g1 (by decide)
  rw [List.map_cons, List.map_cons, jm_vc_h q]
  exact va_lald hx hb hC.1 (jm_one (jm_pic_at ha.1 q g1)) 0 1 rfl rfl g2 hd k1
theorem jg_aaload (hx : p.tables.exec = Jvm.exec) (hb : c.code = cc) (hC : jm_cst X s s.heap) {a x : Nat} {i : Int32} (hg : jm_alr h a i = some x) (hd : decode cc pc = .ok (.aaload, 1))
    (kk : jm_go X p lc e R s m args below meth c nL h0 Q (pc + 1) l (.ref x :: r) h) : jm_go X p lc e R s m args below meth c nL h0 Q pc l (.int i :: .ref a :: r) h := by
  intro H locs cells slots ls ha
  have k1 := kk H locs cells slots ls ha
  obtain ⟨t, n, f, g1, g2, g3, g4, g5⟩ := jm_alr_inv hg
  rw [List.map_cons] at k1
  rw [List.map_cons, List.map_cons]
  rcases g5 with ⟨q, g6, g7⟩ | ⟨q, rfl, g7⟩
  · rw [jm_vc_h q]
    rw [jm_vc_h g7] at k1
    have hat := jm_one (jm_pic_at ha.1 q g1)
    have e1 : Value.ref (jm_ad X x) = va_rf (jm_cf X f i.toNatClampNeg) := by
      unfold jm_cf
      rw [g3]
      rfl
    rw [e1] at k1
    rcases (show t = 5 ∨ t = 6 by omega) with rfl | rfl
    · exact va_aldq hx hb hC.1 hat 0 5 rfl rfl g2 hd k1
    · exact va_aldq hx hb hC.1 hat 0 6 rfl rfl g2 hd k1
  · rw [ha.1.2.2.2 a q] at g1
    rcases jm_kon_arr g1 with z | z | z
    · exact absurd z.2.2.1 (by decide)
    · obtain ⟨rfl, -, rfl, hf⟩ := z
      have hf' : f = fun j => jm_wd[j]? := by simpa using hf
      subst hf'
      have hx81 : x ≠ 81 := by
        have h9 : x ∈ jm_wd := List.mem_of_getElem? g3
        have h8 : ∀ y ∈ jm_wd, y ≠ 81 := by decide
        exact h8 x h9
      rw [jm_vc_k q (by decide)]
      rw [jm_vc_k g7 hx81] at k1
      refine vb_tq hx hb hC.2.2.2.1 ha.2.1 g2 ?_ hd k1
      show Value.ref (X.ka (jm_wd.getD i.toNatClampNeg 0)) = _
      have h9 : jm_wd[i.toNatClampNeg]? = some x := g3
      rw [List.getD_eq_getElem?_getD, h9]
      rfl
    · exact absurd z.2.1 (by decide)
theorem jg_arraylength (hx : p.tables.exec = Jvm.exec) (hb : c.code = cc) (hC : jm_cst X s s.heap) {a n : Nat} (hg : jm_len h a = some n) (hd : decode cc pc = .ok (.arraylength, 1))
    (kk : jm_go X p lc e R s m args below meth c nL h0 Q (pc + 1) l (.int (Int32.ofNat n) :: r) h) : jm_go X p lc e R s m args below meth c nL h0 Q pc l (.ref a :: r) h := by
  intro H locs cells slots ls ha
  have k1 := kk H locs cells slots ls ha
  obtain ⟨t, f, g1, g2⟩ := jm_len_inv hg
  rw [List.map_cons]
  rcases Nat.lt_or_ge a 128 with q | q
  · rw [ha.1.2.2.2 a q] at g1
    rcases jm_kon_arr g1 with z | z | z
    · obtain ⟨q1, q2, -, rfl, -⟩ := z
      rw [jm_vc_k q (by omega)]
      obtain ⟨-, -, -, hT⟩ := hC.2.2.1.1 (a - 40) (by omega)
      have e1 : 40 + (a - 40) = a := by omega
      simp only [e1] at hT
      exact va_tlen hx hb hT ha.2.1 rfl hd k1
    · obtain ⟨rfl, -, rfl, -⟩ := z
      rw [jm_vc_k q (by decide)]
      exact va_tlen hx hb hC.2.2.2.1 ha.2.1 rfl hd k1
    · obtain ⟨rfl, -, rfl, -⟩ := z
      rw [jm_vc_k q (by decide)]
      exact va_slen hx hb hC.2.2.2.2.1.1 (jm_kdist hC) hC.2.2.2.2.1.2 ha.2.1 hd k1
  · rw [jm_vc_h q]
    have ht : t ≤ 6 := g2.resolve_right (by omega)
    have hl : (jm_ca X (n, f)).1 = n := by
      rcases f with f | f | f | f | f <;> rfl
    exact va_alen hx hb hC.1 (jm_one (jm_pic_at ha.1 q g1)) 0 t rfl (jm_ty_at ht) (by rw [hl]) hd k1
/-- behind a store in an array -/
theorem jm_at_put {H H1 : Heap} {locs : List Loc} {cells slots : Nat} {ls : Array Slot} {a k : Nat} {e0 e1 : jm_AE} (ha : jm_at X s h0 h H locs cells slots ls nL l) (hk : 128 ≤ a) (h1 : h.2.2 a = some e0) (he : va_at X.D vwCl (jm_ad X a, jm_ce X e1) H1) (z : H1.size = H.size) (o : ∀ q : Nat, q ≠ jm_ad X a → H1[q]? = H[q]?) : jm_at X s h0 (jm_set h a e1) H1 (locs ++ [⟨jm_ad X a, k⟩]) cells slots ls nL l :=
  ⟨jm_pic_set ha.1 hk h1 he z o, ha.2.1.put z o (jm_ad_Z hk), ha.2.2.1, ha.2.2.2.1, ha.2.2.2.2⟩
theorem jg_iastore (hx : p.tables.exec = Jvm.exec) (hb : c.code = cc) (hC : jm_cst X s s.heap) {a : Nat} {i x : Int32} {h' : jm_H} (hg : jm_asi h a 0 i x = some h') (hd : decode cc pc = .ok (.iastore, 1))
    (kk : jm_go X p lc e R s m args below meth c nL h0 Q (pc + 1) l r h') : jm_go X p lc e R s m args below meth c nL h0 Q pc l (.int x :: .int i :: .ref a :: r) h := by
  intro H locs cells slots ls ha
  obtain ⟨hk, n, f, g1, g2, rfl⟩ := jm_asi_inv hg
  rw [List.map_cons, List.map_cons, List.map_cons, jm_vc_h hk]
  refine W.iast hx hb (jm_pic_at ha.1 hk g1) ((hC.1.2 0 _ rfl).1 n (fun j => .int (f j))) (fun q => by cases q) (by show ¬ (i < 0 ∨ (arrV _ _ _).slots.size ≤ _); rw [arrV_size]; exact g2) rfl rfl hd fun H1 e1 z oq => ?_
  refine kk H1 _ cells slots ls (jm_at_put ha hk g1 ?_ z oq)
  show H1[_]? = some (vp_cell _ _)
  rw [e1]
  show some ((vp_cell _ (n, .inl f)).setSlot _ _) = some (vp_cell _ (n, .inl _))
  rw [vp_cell_i, vp_cell_i, arrV_store]
  congr 2
  funext q
  by_cases hq : q = i.toNatClampNeg
  · subst hq
    simp [updV, upd, vp_nar, jm_ty]
    try rfl
  · simp [updV, upd, hq]
theorem jg_bastore (hx : p.tables.exec = Jvm.exec) (hb : c.code = cc) (hC : jm_cst X s s.heap) {a : Nat} {i x : Int32} {h' : jm_H} (hg : jm_asi h a 2 i x = some h') (hd : decode cc pc = .ok (.bastore, 1))
    (kk : jm_go X p lc e R s m args below meth c nL h0 Q (pc + 1) l r h') : jm_go X p lc e R s m args below meth c nL h0 Q pc l (.int x :: .int i :: .ref a :: r) h := by
  intro H locs cells slots ls ha
  obtain ⟨hk, n, f, g1, g2, rfl⟩ := jm_asi_inv hg
  rw [List.map_cons, List.map_cons, List.map_cons, jm_vc_h hk]
  refine W.bast hx hb (jm_pic_at ha.1 hk g1) ((hC.1.2 2 _ rfl).1 n (fun j => .int (f j))) (fun q => by cases q) (by show ¬ (i < 0 ∨ (arrV _ _ _).slots.size ≤ _); rw [arrV_size]; exact g2) rfl rfl hd fun H1 e1 z oq => ?_
  refine kk H1 _ cells slots ls (jm_at_put ha hk g1 ?_ z oq)
  show H1[_]? = some (vp_cell _ _)
  rw [e1]
  show some ((vp_cell _ (n, .inl f)).setSlot _ _) = some (vp_cell _ (n, .inl _))
  rw [vp_cell_i, vp_cell_i, arrV_store]
  congr 2
  funext q
  by_cases hq : q = i.toNatClampNeg
  · subst hq
    simp [updV, upd, vp_nar, jm_ty]
    try rfl
  · simp [updV, upd, hq]
theorem jg_zastore (hx : p.tables.exec = Jvm.exec) (hb : c.code = cc) (hC : jm_cst X s s.heap) {a : Nat} {i x : Int32} {h' : jm_H} (hg : jm_asi h a 3 i x = some h') (hd : decode cc pc = .ok (.bastore, 1))
    (kk : jm_go X p lc e R s m args below meth c nL h0 Q (pc + 1) l r h') : jm_go X p lc e R s m args below meth c nL h0 Q pc l (.int x :: .int i :: .ref a :: r) h := by
  intro H locs cells slots ls ha
  obtain ⟨hk, n, f, g1, g2, rfl⟩ := jm_asi_inv hg
  rw [List.map_cons, List.map_cons, List.map_cons, jm_vc_h hk]
  refine W.zast hx hb (jm_pic_at ha.1 hk g1) ((hC.1.2 3 _ rfl).1 n (fun j => .int (f j))) (fun q => by cases q) (by show ¬ (i < 0 ∨ (arrV _ _ _).slots.size ≤ _); rw [arrV_size]; exact g2) rfl rfl hd fun H1 e1 z oq => ?_
  refine kk H1 _ cells slots ls (jm_at_put ha hk g1 ?_ z oq)
  show H1[_]? = some (vp_cell _ _)
  rw [e1]
  show some ((vp_cell _ (n, .inl f)).setSlot _ _) = some (vp_cell _ (n, .inl _))
  rw [vp_cell_i, vp_cell_i, arrV_store]
  congr 2
  funext q
  by_cases hq : q = i.toNatClampNeg
  · subst hq
    simp [updV, upd, vp_nar, jm_ty]
    try rfl
  · simp [updV, upd, hq]
theorem jg_castore (hx : p.tables.exec = Jvm.exec) (hb : c.code = cc) (hC : jm_cst X s s.heap) {a : Nat} {i x : Int32} {h' : jm_H} (hg : jm_asi h a 4 i x = some h') (hd : decode cc pc = .ok (.castore, 1))
    (kk : jm_go X p lc e R s m args below meth c nL h0 Q (pc + 1) l r h') : jm_go X p lc e R s m args below meth c nL h0 Q pc l (.int x :: .int i :: .ref a :: r) h := by
  intro H locs cells slots ls ha
  obtain ⟨hk, n, f, g1, g2, rfl⟩ := jm_asi_inv hg
  rw [List.map_cons, List.map_cons, List.map_cons, jm_vc_h hk]
  refine W.cast hx hb (jm_pic_at ha.1 hk g1) ((hC.1.2 4 _ rfl).1 n (fun j => .int (f j))) (fun q => by cases q) (by show ¬ (i < 0 ∨ (arrV _ _ _).slots.size ≤ _); rw [arrV_size]; exact g2) rfl rfl hd fun H1 e1 z oq => ?_
  refine kk H1 _ cells slots ls (jm_at_put ha hk g1 ?_ z oq)
  show H1[_]? = some (vp_cell _ _)
  rw [e1]
  show some ((vp_cell _ (n, .inl f)).setSlot _ _) = some (vp_cell _ (n, .inl _))
  rw [vp_cell_i, vp_cell_i, arrV_store]
  congr 2
  funext q
  by_cases hq : q = i.toNatClampNeg
  · subst hq
    simp [updV, upd, vp_nar, jm_ty]
    try rfl
  · simp [updV, upd, hq]
theorem jg_lastore (hx : p.tables.exec = Jvm.exec) (hb : c.code = cc) (hC : jm_cst X s s.heap) {a : Nat} {i : Int32} {x : Int64} {h' : jm_H} (hg : jm_asl h a i x = some h') (hd : decode cc pc = .ok (.lastore, 1))
    (kk : jm_go X p lc e R s m args below meth c nL h0 Q (pc + 1) l r h') : jm_go X p lc e R s m args below meth c nL h0 Q pc l (.long x :: .int i :: .ref a :: r) h := by
  intro H locs cells slots ls ha
  obtain ⟨hk, n, f, g1, g2, rfl⟩ := jm_asl_inv hg
  rw [List.map_cons, List.map_cons, List.map_cons, jm_vc_h hk]
  refine W.last hx hb (jm_pic_at ha.1 hk g1) ((hC.1.2 1 _ rfl).1 n (fun j => .long (f j))) (fun q => by cases q) (by show ¬ (i < 0 ∨ (arrV _ _ _).slots.size ≤ _); rw [arrV_size]; exact g2) rfl rfl hd fun H1 e1 z oq => ?_
  refine kk H1 _ cells slots ls (jm_at_put ha hk g1 ?_ z oq)
  show H1[_]? = some (vp_cell _ _)
  rw [e1]
  show some ((vp_cell _ (n, .inr (.inl f))).setSlot _ _) = some (vp_cell _ (n, .inr (.inl _)))
  rw [vp_cell_l, vp_cell_l, arrV_store]
  congr 2
  funext q
  by_cases hq : q = i.toNatClampNeg
  · subst hq
    simp [updV, vp_updL]
  · simp [updV, vp_updL, hq]
theorem jg_aastore (hx : p.tables.exec = Jvm.exec) (hb : c.code = cc) (hC : jm_cst X s s.heap) {a b : Nat} {i : Int32} {h' : jm_H} (hg : jm_asr h a i b = some h') (hd : decode cc pc = .ok (.aastore, 1))
    (kk : jm_go X p lc e R s m args below meth c nL h0 Q (pc + 1) l r h') : jm_go X p lc e R s m args below meth c nL h0 Q pc l (.ref b :: .int i :: .ref a :: r) h := by
  intro H locs cells slots ls ha
  obtain ⟨hk, hkb, t, n, f, fs, g1, g2, g3, g4, rfl⟩ := jm_asr_inv hg
  rw [List.map_cons, List.map_cons, List.map_cons, jm_vc_h hk, jm_vc_h hkb]
  have hec : jm_ec t < 13 ∧ (jm_tys X)[t]? = some (X.cA t, .object (jm_vq (jm_ec t)).1) := by
    rcases g3 with rfl | rfl
    · exact ⟨by decide, rfl⟩
    · exact ⟨by decide, rfl⟩
  obtain ⟨rr, hr, cellV, z1, z2, z3, -⟩ := jm_pic_at ha.1 hkb g2
  have hcls := (hC.1.1 _ _ (jm_vq_some hec.1)).2
  obtain ⟨kA, comp, k1, k2, k3, -⟩ := (hC.1.2 t _ hec.2).2
  have hcomp : comp = X.D.1 (jm_ec t) := Option.some.inj (k3.symm.trans hcls.1)
  subst hcomp
  obtain ⟨kC, hkC, -⟩ := id hcls.2
  have hlt : i.toNatClampNeg < n := Nat.not_le.mp fun q => g4 (Or.inr q)
  have hi0 : ¬ i < 0 := fun q => g4 (Or.inl q)
  refine W.aast hx hb (jm_pic_at ha.1 hk g1) (fun q h => by cases h) (fun h => by cases h) k1 k2 rfl hkC ⟨hi0, by show _ < (arrV _ _ _).slots.size; rw [arrV_size]; exact hlt⟩ z1 (fun q h => by rw [z3] at h; cases h) (by rw [z2]; exact hkC) (by rw [z2]; exact va_assign hcls) rfl rfl hd fun H1 e1 z oq => ?_
  refine kk H1 _ cells slots ls (jm_at_put ha hk g1 ?_ z oq)
  show H1[_]? = some (vp_cell _ _)
  rw [e1]
  show some ((vp_cell _ (n, .inr (.inr (.inr (.inr (jm_cf X f)))))).setSlot _ _) = some (vp_cell _ (n, .inr (.inr (.inr (.inr (jm_cf X _))))))
  rw [vp_cell_q, vp_cell_q, arrV_store]
  congr 2
  funext q
  by_cases hq : q = i.toNatClampNeg
  · subst hq
    simp [updV, jm_cf, va_up, va_rf]
  · simp [updV, jm_cf, va_up, hq]
/-- room for a making -/
def jm_rm (R : Room) (h0 h : jm_H) : Prop := h.1 ≤ h0.1 + R.cells ∧ h.2.1 ≤ h0.2.1 + R.slots
theorem jm_at_push {H H1 : Heap} {locs : List Loc} {cells slots : Nat} {ls : Array Slot} {e1 : jm_AE} {n : Nat} (hN : X.N0 ≤ s.heap.size) (ha : jm_at X s h0 h H locs cells slots ls nL l) (he : va_at X.D vwCl (jm_ad X h.1, jm_ce X e1) H1) (z : H1.size = H.size + 1) (o : ∀ q : Nat, q < H.size → H1[q]? = H[q]?) : jm_at X s h0 (jm_push h e1 n) H1 locs (cells + 1) (slots + n) ls nL l := by
  obtain ⟨a1, a2, a3, a4, a5⟩ := ha
  refine ⟨jm_pic_push a1 he z o, ⟨Nat.le_trans a2.1 (by omega), fun x h1 h2 => (o x (Nat.lt_of_lt_of_le h1 a2.1)).trans (a2.2.1 x h1 h2), a2.2.2⟩, ?_, ?_, a5⟩
  · show cells + 1 + h0.1 = h.1 + 1
    omega
  · show slots + n + h0.2.1 = h.2.1 + n
    omega
set_option maxHeartbeats 1000000 in
theorem jg_newarray (hN : X.N0 ≤ s.heap.size) (hx : p.tables.exec = Jvm.exec) (hb : c.code = cc) (hts : ∀ w ∈ jm_ws, w.before args s = true) (hC : jm_cst X s s.heap) {at_ : ArrayType} {t : Nat} {x : Int32} {h' : jm_H} (hk : jm_ak at_ = some t) (hg : jm_newa h t x = some h') (hd : decode cc pc = .ok (.newarray at_, 2)) (hr : jm_rm R h0 h')
    (kk : jm_go X p lc e R s m args below meth c nL h0 Q (pc + 2) l (.ref h.1 :: r) h') : jm_go X p lc e R s m args below meth c nL h0 Q pc l (.int x :: r) h := by
  intro H locs cells slots ls ha
  obtain ⟨g1, g2, rfl⟩ := jm_newa_inv hg
  have hr1 : h.1 + 1 ≤ h0.1 + R.cells := hr.1
  have hr2 : h.2.1 + x.toNatClampNeg ≤ h0.2.1 + R.slots := hr.2
  have hc1 := ha.2.2.1
  have hc2 := ha.2.2.2.1
  have hsz := jm_ad_size ha.1
  rw [List.map_cons]
  have main : ∀ (ty : FieldType), newarray.typeOf at_ = ty → (jm_tys X)[t]? = some (X.cA t, ty) → Cond.arrayClass ty ∈ jm_ws → componentBytes ty ≤ 8 → (∀ cA, vp_cell cA (jm_ca X (x.toNatClampNeg, jm_zero t)) = arrV cA x.toNatClampNeg (fun _ => defaultValue ty)) → (∀ cA, va_RA s cA ty ↔ s.vm.findClass ("[" ++ ty.toString) = some cA) → W p lc e R s m args below meth c H locs cells slots Q (F0 m pc ls (.int x :: r.map (jm_vc X))) := by
    intro ty hty htys hw hcb hz hra
    subst hty
    refine va_newaK hx hb (hts _ hw) rfl hd rfl g1 rfl (by have := Nat.mul_le_mul g2 hcb; omega) (by omega) (by omega) rfl fun H1 cA e1 z1 o1 hAr hNm => ?_
    have hcA : cA = X.cA t := by
      have h9 := (hC.1.2 t _ htys).2
      rw [hra] at h9
      exact Option.some.inj (hNm.symm.trans h9)
    subst hcA
    have k1 := kk H1 locs (cells + 1) (slots + x.toNatClampNeg) ls (jm_at_push hN ha ?_ z1 o1)
    · rw [List.map_cons, jm_vc_h ha.1.2.1, hsz] at k1
      exact k1
    · show H1[jm_ad X h.1]? = some (vp_cell (X.cA t) (jm_ca X (x.toNatClampNeg, jm_zero t)))
      rw [hz, hsz]
      exact e1
  cases at_ <;> simp only [jm_ak, Option.some.injEq, reduceCtorEq] at hk <;> subst hk
  · exact main .boolean rfl rfl (jf_ac _ (by decide)) (by decide) (fun _ => rfl) (fun _ => Iff.rfl)
  · exact main .char rfl rfl (jf_ac _ (by decide)) (by decide) (fun _ => rfl) (fun _ => Iff.rfl)
  · exact main .byte rfl rfl (jf_ac _ (by decide)) (by decide) (fun _ => rfl) (fun _ => Iff.rfl)
  · exact main .int rfl rfl (jf_ac _ (by decide)) (by decide) (fun _ => rfl) (fun _ => Iff.rfl)
  · exact main .long rfl rfl (jf_ac _ (by decide)) (by decide) (fun _ => rfl) (fun _ => Iff.rfl)
theorem jm_nok_of {k ci t : Nat} (hp : jm_np cno k = some (ci, t)) : (t = 0 ∨ (t = 5 ∧ ci = 3) ∨ (t = 6 ∧ ci = 2)) ∧ (ci < 13 ∨ (100 ≤ ci ∧ ci ≤ 102)) := by
  have h1 := jf_no cno _ (jf_np_in hp)
  unfold jm_nok at h1
  simpa [or_assoc] using h1
set_option maxHeartbeats 1000000 in
theorem jg_anewarray (hN : X.N0 ≤ s.heap.size) (hx : p.tables.exec = Jvm.exec) (hb : c.code = cc) (hown : s.vm.findClass (jm_cl cno) = some m.cls) (hts : ∀ w ∈ jm_ws, w.before args s = true) (hC : jm_cst X s s.heap) {k ci t : Nat} {x : Int32} {h' : jm_H} (hk : jm_np cno k = some (ci, t)) (ht : t = 5 ∨ t = 6) (hg : jm_newa h t x = some h') (hd : decode cc pc = .ok (.anewarray k, 3)) (hr : jm_rm R h0 h')
    (kk : jm_go X p lc e R s m args below meth c nL h0 Q (pc + 3) l (.ref h.1 :: r) h') : jm_go X p lc e R s m args below meth c nL h0 Q pc l (.int x :: r) h := by
  intro H locs cells slots ls ha
  obtain ⟨g1, g2, rfl⟩ := jm_newa_inv hg
  have hr1 : h.1 + 1 ≤ h0.1 + R.cells := hr.1
  have hr2 : h.2.1 + x.toNatClampNeg ≤ h0.2.1 + R.slots := hr.2
  have hc1 := ha.2.2.1
  have hc2 := ha.2.2.2.1
  have hsz := jm_ad_size ha.1
  rw [List.map_cons]
  have main : ∀ (C : String), (jm_tys X)[t]? = some (X.cA t, .object C) → va_AO C s → Cond.classLink (jm_cl cno) k C ∈ jm_ws → jm_zero t = .inr (.inr (.inr (.inr fun _ => none))) → W p lc e R s m args below meth c H locs cells slots Q (F0 m pc ls (.int x :: r.map (jm_vc X))) := by
    intro C htys hao hw hz
    refine W.anew hx hb hown (hts _ hw) (va_AO.use hao) rfl hd rfl g1 (by omega) (by omega) (by omega) fun cA kA comp f1 f2 f3 f4 => ?_
    have hcA : cA = X.cA t := by
      obtain ⟨_, _, _, _, _, h9⟩ := (hC.1.2 t _ htys).2
      exact Option.some.inj (f1.symm.trans h9)
    subst hcA
    generalize hH1 : H.push ({ cls := X.cA t, slots := Array.replicate x.toNatClampNeg .null, vm := .none } : Cell) = H1
    have z1 : H1.size = H.size + 1 := by rw [← hH1, Array.size_push]
    have e1 : H1[H.size]? = some (arrV (X.cA t) x.toNatClampNeg (fun _ => .null)) := by rw [← hH1, Array.getElem?_push_size, ← arrV_new]
    have o1 : ∀ q : Nat, q < H.size → H1[q]? = H[q]? := fun q hq => by rw [← hH1, Array.getElem?_push, if_neg (Nat.ne_of_lt hq)]
    have k1 := kk H1 locs (cells + 1) (slots + x.toNatClampNeg) ls (jm_at_push hN ha ?_ z1 o1)
    · rw [List.map_cons, jm_vc_h ha.1.2.1, hsz] at k1
      exact k1
    · show H1[jm_ad X h.1]? = some (vp_cell (X.cA t) (jm_ca X (x.toNatClampNeg, jm_zero t)))
      rw [hz, hsz]
      exact e1
  obtain ⟨q1, -⟩ := jm_nok_of hk
  have hw := jf_nw hk
  rcases ht with rfl | rfl
  · have hci : ci = 3 := by omega
    subst hci
    exact main "MaskPlays$Part" rfl hC.2.2.2.2.2.2.2.2.2.1.1 (hw _ (show _ ∈ [Cond.classLink (jm_cl cno) k (jm_vq 3).1, _, _] from List.mem_cons_self)) rfl
  · have hci : ci = 2 := by omega
    subst hci
    exact main "MaskPlays$Note" rfl hC.2.2.2.2.2.2.2.2.2.1.2 (hw _ (show _ ∈ [Cond.classLink (jm_cl cno) k (jm_vq 2).1, _, _] from List.mem_cons_self)) rfl
end JMI
