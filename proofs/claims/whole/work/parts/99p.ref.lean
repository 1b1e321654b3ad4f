/-! ===== LEVEL 3: the reference, settling: notes as read and as told ===== -/
theorem gDx_l {α : Type} {l t : List α} {i : Nat} {d : α} (h : i < l.length) : (l ++ t).getD i d = l.getD i d := by
  rw [List.getD_eq_getElem?_getD, List.getElem?_append_left h, ← List.getD_eq_getElem?_getD]
theorem gDx_r {α : Type} {l t : List α} {i : Nat} {d : α} : (l ++ t).getD (l.length + i) d = t.getD i d := by
  rw [List.getD_eq_getElem?_getD, List.getElem?_append_right (by omega), show l.length + i - l.length = i by omega, ← List.getD_eq_getElem?_getD]
theorem zGn_r {T : List aK4} {ps : List Nat} {l : Nat} {o1 o2 : List aI} {x : zNl} {nt : aN} (h : zGn T ps (l + o1.length) o2 x nt) : zGn T ps l (o1 ++ o2) x nt := by
  obtain ⟨a1, a2, a3, a4, a5, a6, a7, a8, a9, a10, a11⟩ := h
  refine ⟨a1, a2, a3, a4, a5, a6, a7, by omega, a9, by rw [List.length_append]; omega, fun j hj => ?_⟩
  rw [← a11 j hj, show x.2.2.2.1 - l + j = o1.length + (x.2.2.2.1 - (l + o1.length) + j) by omega]
  exact gDx_r
theorem zBN_line {T : List aK4} {M : Nat → Nat} {n i : Nat} {B B1 : aB} (hT : gT T) (hi : i ≤ 400) (hR : (uLine T n i).1 = true) (h : qLn T M (uLine T n i) i B = .inr B1) (hk : ¬ (uK T i = 0 ∨ uK T i = 1)) : B1.2.1 = B.2.1 ∧ B1.2.2.2 = B.2.2.2 ++ [qnt T B.2.1 (uLine T n i) i] ∧ (∀ o ∈ zop (uLine T n i).2.2.1, zGo T B.2.1 o) ∧ ∀ l, zGn T B.2.1 l (zop (uLine T n i).2.2.1) (uK T i, i + 1, i + 3, l, l + (zop (uLine T n i).2.2.1).length) (qnt T B.2.1 (uLine T n i) i) := by
  have S := q_shape hR
  have g14' := g14_line hR
  have gl := gp_line (n := n) hT hi
  have k0 : uK T i = 4 ∨ uK T i = 5 ∨ uK T i = 7 := by
    rcases S with ⟨c, -⟩ | ⟨c, -⟩ | ⟨w, hw, -⟩
    · exact absurd (Or.inl c) hk
    · exact absurd (Or.inr c) hk
    · omega
  obtain ⟨e, e1, e2, e3, e4, e5, e6, e7, e8⟩ := sh_note hT S k0 gl.2.1
  unfold qLn at h
  rw [if_neg (by omega), if_neg (by omega)] at h
  by_cases c16 : 16 ≤ B.2.2.2.length
  · rw [if_pos c16] at h; cases h
  rw [if_neg c16] at h
  cases hq : qNm T B.2.1 400 (i + 1) with
  | some j => rw [hq] at h; cases h
  | none =>
    rw [hq] at h
    cases h
    have nn := qNm_none e1 400 (i + 1) hq (by omega) (by omega) e7
    have lt4 : ∀ u, uK T u = 35 → u < 400 := fun u hu => (hT.2 u (by omega) (by omega)).1
    have ezt : zts (qnt T B.2.1 (uLine T n i) i).2.2.2 = zop (uLine T n i).2.2.1 := by
      unfold qnt zop
      show zts (if (uLine T n i).2.2.1 = [] then none else some (uLine T n i).2.2.1.dropLast) = _
      split <;> rfl
    refine ⟨rfl, rfl, fun o ho => ?_, fun l => ?_⟩
    · rcases e8 with e8 | ⟨t, t1, -, t3⟩
      · rw [e8] at ho
        cases ho
      · have eo : zop (uLine T n i).2.2.1 = t := by
          rw [t1]
          unfold zop
          rw [if_neg (by simp), List.dropLast_concat]
        rw [eo] at ho
        obtain ⟨g1, g2, g3, g4⟩ := t3 o ho
        refine ⟨fun z => ?_, fun z => ?_⟩
        · obtain ⟨x1, x2, x3⟩ := g3 z
          exact ⟨x3, lt4 _ x3, nn _ x1 x2 x3⟩
        · obtain ⟨x1, x2, x3⟩ := g4 z
          exact ⟨g14' o (by rw [t1]; exact List.mem_append_left _ ho) z, x3, lt4 _ x3, nn _ x1 x2 x3⟩
    · unfold zGn
      rw [ezt]
      refine ⟨rfl, e5, lt4 _ e5, nn (i + 1) (Nat.le_refl _) (show i + 1 < e by omega) e5, rfl, fun z => ?_, fun z => ?_, Nat.le_refl _, rfl, Nat.le_refl _, fun j hj => ?_⟩
      · have z : uK T i = 5 := z
        obtain ⟨x1, x2⟩ := e6 z
        refine ⟨x2, lt4 _ x2, nn _ (by show i + 1 ≤ i + 3; omega) (by show i + 3 < e; omega) x2, ?_⟩
        show qpl T B.2.1 (if uK T i = 5 then i + 3 else i + 1) = qpl T B.2.1 (i + 3)
        rw [if_pos z]
      · have z : uK T i ≠ 5 := z
        show qpl T B.2.1 (if uK T i = 5 then i + 3 else i + 1) = qpl T B.2.1 (i + 1)
        rw [if_neg z]
      · show (zop (uLine T n i).2.2.1).getD (l - l + j) oI0 = _
        rw [show l - l + j = j by omega]
theorem zGo_pre {T : List aK4} {ps ps' : List Nat} {o : aI} (h : zPre ps ps') (H : zGo T ps o) : zGo T ps' o :=
  ⟨fun z => ⟨(H.1 z).1, (H.1 z).2.1, (zPre_pl h (H.1 z).2.2).2⟩, fun z => ⟨(H.2 z).1, (H.2 z).2.1, (H.2 z).2.2.1, (zPre_pl h (H.2 z).2.2.2).2⟩⟩
theorem zGn_pre {T : List aK4} {ps ps' : List Nat} {l : Nat} {os : List aI} {x : zNl} {nt : aN} (h : zPre ps ps') (H : zGn T ps l os x nt) : zGn T ps' l os x nt := by
  obtain ⟨a1, a2, a3, a4, a5, a6, a7, a8⟩ := H
  refine ⟨a1, a2, a3, (zPre_pl h a4).2, a5.trans (zPre_pl h a4).1.symm, fun z => ?_, fun z => (a7 z).trans (zPre_pl h a4).1.symm, a8⟩
  obtain ⟨b1, b2, b3, b4⟩ := a6 z
  exact ⟨b1, b2, (zPre_pl h b3).2, b4.trans (zPre_pl h b3).1.symm⟩
theorem zBN {T : List aK4} {M : Nat → Nat} (hT : gT T) : ∀ f n i l B B', (401 ≤ f + i ∨ f = 400 ∧ i = 0) → i ≤ 400 → (uBk T f n i).1 = true → qBk T M f n i B = .inr B' → (∀ o ∈ zbo T f n i, zGo T B'.2.1 o) ∧ ∃ L, B'.2.2.2 = B.2.2.2 ++ L ∧ L.length = (zbn T f n i l).length ∧ ∀ k, k < L.length → zGn T B'.2.1 l (zbo T f n i) ((zbn T f n i l).getD k zn0) (L.getD k n0) := by
  intro f
  induction f with
  | zero => intro n i l B B' hf hi; omega
  | succ f ih =>
    intro n i l B B' hf hi hU hq
    by_cases c : uK T i = 37
    · have e1 : zbo T (f + 1) n i = [] := by unfold zbo; rw [if_pos c]
      have e2 : zbn T (f + 1) n i l = [] := by unfold zbn; rw [if_pos c]
      have e3 : qBk T M (f + 1) n i B = .inr B := by unfold qBk; rw [if_pos c]
      rw [e3] at hq
      cases hq
      rw [e1, e2]
      exact ⟨fun o ho => (by cases ho), [], (List.append_nil _).symm, rfl, fun k hk => (by cases hk)⟩
    · have e : uBk T (f + 1) n i = ub (uLine T n i) (uBk T f (n + (cF (uLine T n i).2.2.1).length)) := by
        conv => lhs; unfold uBk
        rw [if_neg c]
      have e3 : zbo T (f + 1) n i = zop (uLine T n i).2.2.1 ++ zbo T f (n + (cF (uLine T n i).2.2.1).length) (uLine T n i).2.1 := by
        conv => lhs; unfold zbo
        rw [if_neg c]
      have e4 : zbn T (f + 1) n i l = (if uK T i = 0 ∨ uK T i = 1 then [] else [(uK T i, i + 1, i + 3, l, l + (zop (uLine T n i).2.2.1).length)]) ++ zbn T f (n + (cF (uLine T n i).2.2.1).length) (uLine T n i).2.1 (l + (zop (uLine T n i).2.2.1).length) := by
        conv => lhs; unfold zbn
        rw [if_neg c]
      rw [e] at hU
      obtain ⟨u1, u2, u3, u4, u5⟩ := ub_ok hU
      obtain ⟨w, w1, w2, w3, w4⟩ := line_e hT hi u1
      have gl := gp_line (n := n) hT hi
      unfold qBk at hq
      rw [if_neg c] at hq
      cases hv : qLn T M (uLine T n i) i B with
      | inl y => rw [hv] at hq; cases hq
      | inr B1 =>
        rw [hv] at hq
        have hq : qBk T M f (n + (cF (uLine T n i).2.2.1).length) (uLine T n i).2.1 B1 = .inr B' := hq
        have pre := qBk_pre hq
        obtain ⟨I1, L, I2, I3, I4⟩ := ih (n + (cF (uLine T n i).2.2.1).length) (uLine T n i).2.1 (l + (zop (uLine T n i).2.2.1).length) B1 B' (by rw [w1]; omega) gl.2.1 u2 hq
        rw [e3, e4]
        by_cases hk : uK T i = 0 ∨ uK T i = 1
        · rw [if_pos hk]
          have eo : zop (uLine T n i).2.2.1 = [] := by
            rcases q_shape u1 with ⟨-, -, -, x⟩ | ⟨-, -, -, -, -, x⟩ | ⟨w, hw, -⟩
            · rw [x]; rfl
            · rw [x]; rfl
            · omega
          have en : B1.2.2.2 = B.2.2.2 := by
            unfold qLn at hv
            by_cases c0 : uK T i = 0
            · rw [if_pos c0] at hv
              split at hv
              · cases hv
              split at hv
              · cases hv
              · cases hv; rfl
            · rw [if_neg c0, if_pos (hk.resolve_left c0)] at hv
              split at hv
              · cases hv
              split at hv
              · cases hv
              split at hv
              · cases hv
              · split at hv
                · cases hv
                · cases hv; rfl
          rw [eo] at I3 I4 ⊢
          rw [en] at I2
          exact ⟨I1, L, I2, I3, I4⟩
        · rw [if_neg hk]
          obtain ⟨p1, p2, p3, p4⟩ := zBN_line hT hi u1 hv hk
          rw [p1] at pre
          refine ⟨fun o ho => ?_, qnt T B.2.1 (uLine T n i) i :: L, ?_, ?_, fun k hk' => ?_⟩
          · rcases List.mem_append.mp ho with x | x
            · exact zGo_pre pre (p3 o x)
            · exact I1 o x
          · rw [I2, p2, List.append_assoc]
            rfl
          · show L.length + 1 = (zbn T f _ _ _).length + 1
            rw [I3]
          · cases k with
            | zero =>
              obtain ⟨a1, a2, a3, a4, a5, a6, a7, a8, a9, a10, a11⟩ := zGn_pre pre (p4 l)
              refine ⟨a1, a2, a3, a4, a5, a6, a7, a8, a9, ?_, fun j hj => ?_⟩
              · rw [List.length_append]
                have : l + (zop (uLine T n i).2.2.1).length ≤ l + (zop (uLine T n i).2.2.1).length := a10
                show l + (zop (uLine T n i).2.2.1).length ≤ _
                omega
              · have a9' : l + (zop (uLine T n i).2.2.1).length = l + (zts (qnt T B.2.1 (uLine T n i) i).2.2.2).length := a9
                have hj' : j < (zts (qnt T B.2.1 (uLine T n i) i).2.2.2).length := hj
                refine Eq.trans ?_ (a11 j hj)
                refine gDx_l ?_
                show l - l + j < _
                omega
            | succ k =>
              have hk2 : k < L.length := by
                have : k + 1 < L.length + 1 := hk'
                omega
              exact zGn_r (I4 k hk2)
