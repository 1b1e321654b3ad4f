/-! ===== LEVEL 3: the reference, all tokens ===== -/
/-- what reading tokens looks at -/
def zC0 (h : jm_H) (m b : Nat) (tp : List Nat) (sc : Nat × (Nat → Int32)) : Prop := zB h m ∧ zbR h b ∧ jr_I h m 12 2 0 = some (Int32.ofNat tp.length) ∧ zTq h m tp ∧ kO h sc
theorem kbl_n {tp : List Nat} : ∀ f i, i + f = tp.length → ¬ (bt tp (kbl tp f i) = 32 ∨ bt tp (kbl tp f i) = 10)
  | 0, i, h => by
    show ¬ (bt tp i = 32 ∨ bt tp i = 10)
    rw [bt_end (by omega)]
    omega
  | f + 1, i, h => by
    have er : kbl tp (f + 1) i = if bt tp i = 32 ∨ bt tp i = 10 then kbl tp f (i + 1) else i := rfl
    rw [er]
    by_cases c : bt tp i = 32 ∨ bt tp i = 10
    · rw [if_pos c]
      exact kbl_n f (i + 1) (by omega)
    · rw [if_neg c]
      exact c
theorem ktk_p {tp : List Nat} {i : Nat} {q : aK4 × Nat} (h : ktk tp i = some q) : q.1.2.1 = i := by
  unfold ktk at h
  split at h
  · split at h
    · cases h; rfl
    · cases h
  · split at h
    · split at h
      · cases h; rfl
      · cases h
    · cases e : ksy (bt tp i) (bt tp (i + 1)) with
      | none => rw [e] at h; cases h
      | some k => rw [e] at h; cases h; rfl
section ZU
variable {h h' h1 h2 : jm_H} {d m a b n t k p q pc idx : Nat} {U V W F : Nat → Prop} {tp : List Nat} {sc : Nat × (Nat → Int32)} {KD FR KD' FR' : Nat → Int32} {VL VL' : Nat → Int64} {T : List aK4}
theorem zTq_z (H : zTq h m tp) (A : zS m U F h h') (p : ¬ U (m + 1)) : zTq h' m tp := by
  obtain ⟨TP, t1, t2⟩ := H
  exact ⟨TP, aC_z t1 A (by omega) p, t2⟩
theorem zC0_z (H : zC0 h m b tp sc) (A : zS m U F h h') (hm : 128 ≤ m) (hbm : b = m + 2 ∨ m + 36 ≤ b) (p : ∀ c, U c → jn (b + 1) 18 c) (q : ∀ k, F k → zr k = 0 ∧ k ≠ 2) : zC0 h' m b tp sc :=
  ⟨zB_tr H.1 A (fun k z => (q k z).1), zbR_z H.2.1 A (by omega) (fun z => by have := p _ z; unfold jn at this; omega), (zS_I A fun z => (q 2 z).2 rfl).trans H.2.2.1, zTq_z H.2.2.2.1 A (fun z => by have := p _ z; unfold jn at this; omega), kO_tr H.2.2.2.2 (zS_jS A) fun c z => z.elim (fun e => by omega) fun y => by have := p _ y; unfold jn at this; omega⟩
/-- one token more -/
theorem zTK_add {c : aK4} (H : zTK h b T KD FR VL) (hl : T.length < 401) (A1 : aC h' (b + 1) 0 401 KD') (A2 : aC h' (b + 2) 0 401 FR') (L : lC h' (b + 4) 401 VL') (k1 : ∀ j, j ≠ T.length → KD' j = KD j) (k2 : KD' T.length = Int32.ofNat (zki c.1)) (f1 : ∀ j, j ≠ T.length → FR' j = FR j) (f2 : FR' T.length = Int32.ofNat c.2.1) (v1 : ∀ j, j ≠ T.length → VL' j = VL j) (v2 : c.1 = 36 → VL' T.length = Int64.ofNat c.2.2.2) (v3 : c.1 ≤ 19 ∨ c.1 = 35 → VL' T.length = Int64.ofNat c.2.2.1) : zTK h' b (T ++ [c]) KD' FR' VL' := by
  obtain ⟨a1, a2, a3, a4, a5⟩ := H
  refine ⟨A1, A2, L, by rw [List.length_append, List.length_singleton]; omega, fun i hi => ?_⟩
  rw [List.length_append, List.length_singleton] at hi
  by_cases e : i = T.length
  · subst e
    have eg : (T ++ [c]).getD T.length (0, 0, 0, 0) = c := by
      rw [List.getD_eq_getElem?_getD, List.getElem?_append_right (Nat.le_refl _), Nat.sub_self]
      rfl
    rw [eg]
    exact ⟨k2, f2, v2, v3⟩
  · have eg : (T ++ [c]).getD i (0, 0, 0, 0) = T.getD i (0, 0, 0, 0) := by
      rw [List.getD_eq_getElem?_getD, List.getElem?_append_left (by omega), ← List.getD_eq_getElem?_getD]
    rw [eg, k1 i e, f1 i e, v1 i e]
    exact a5 i (by omega)
def zcU (b c : Nat) : Prop := c = b + 1 ∨ c = b + 2 ∨ c = b + 4
theorem z_blanks {o : Option Value} {r : jm_R} {i3 : Int32} (hl : tp.length ≤ 2000) (C : zC0 h m b tp sc) : ∀ (f i : Nat), i + f = tp.length → kX13_cutIntoTokens_11 (d + 8) m b (Int32.ofNat (kbl tp f i)) i3 o h = some r → kX13_cutIntoTokens_11 (d + 8) m b (Int32.ofNat i) i3 o h = some r := by
  obtain ⟨B0, RB, e2, Tq, O⟩ := C
  intro f
  induction f with
  | zero => intro i hi H; exact H
  | succ f ih =>
    intro i hi H
    have hb := bt_bz Tq i
    have er : kbl tp (f + 1) i = if bt tp i = 32 ∨ bt tp i = 10 then kbl tp f (i + 1) else i := rfl
    rw [er] at H
    by_cases c : bt tp i = 32 ∨ bt tp i = 10
    · rw [if_pos c] at H
      have q32 : (Int32.ofInt (bt tp i) = 32) ↔ bt tp i = 32 := jw_zL2 (k := 32) hb.1 hb.2 (by omega)
      have q10 : (Int32.ofInt (bt tp i) = 10) ↔ bt tp i = 10 := jw_zL2 (k := 10) hb.1 hb.2 (by omega)
      apply gX13_cutIntoTokens_11
      simp only [jm_O_eq (zB_ob B0), z_byteOf (d := d + 7) (i := i) (by omega) hl B0 e2 Tq, jc_I_eq, q32, q10, jw_add1]
      by_cases c1 : bt tp i = 32
      · rw [if_pos c1]
        exact ih (i + 1) (by omega) H
      · rw [if_neg c1, if_pos (c.resolve_left c1)]
        exact ih (i + 1) (by omega) H
    · rw [if_neg c] at H
      exact H
theorem z_cut_loop (hm : 128 ≤ m) (hbm : b = m + 2 ∨ m + 36 ≤ b) (hl : tp.length ≤ 2000) : ∀ (r i : Nat) (T : List aK4) (KD FR : Nat → Int32) (VL : Nat → Int64) (h : jm_H) (o : Option Value), T.length + r = 401 → 0 < r → i ≤ tp.length → zC0 h m b tp sc → zTK h b T KD FR VL → jF (kX13_cutIntoTokens_4 (d + 8) m b (Int32.ofNat i) (Int32.ofNat T.length) o h) (.inl none) fun h' => zS m (zcU b) (fun _ => False) h h' ∧ ∃ KD' FR' VL', zTK h' b (T ++ ktks tp r i) KD' FR' VL' := by
  intro r
  induction r with
  | zero => intro i T KD FR VL h o _ h0; omega
  | succ r ih =>
    intro i T KD FR VL h o hT h0 hi C K
    have hT4 : T.length < 401 := by omega
    refine jE_of (fun r => gX13_cutIntoTokens_4) ?_
    rw [if_neg (by rw [show (400 : Int32) = Int32.ofNat 400 from rfl, jw_lt (by omega) (by omega)]; omega)]
    refine jE_of (fun r0 => z_blanks (d := d) hl C (tp.length - i) i (by omega)) ?_
    have hkb := kbl_b (tp := tp) (tp.length - i) i
    have hkn := kbl_n (tp := tp) (tp.length - i) i (by omega)
    have er : ktks tp (r + 1) i = (if tp.length ≤ kbl tp (tp.length - i) i then [(37, tp.length, 0, 0)] else if r = 0 then [(38, kbl tp (tp.length - i) i, 0, 0)] else match ktk tp (kbl tp (tp.length - i) i) with
      | none => [(38, kbl tp (tp.length - i) i, 0, 0)]
      | some q => q.1 :: ktks tp r q.2) := rfl
    rw [er]
    generalize kbl tp (tp.length - i) i = p at *
    have hp : p ≤ tp.length := by omega
    obtain ⟨B0, RB, e2, Tq, O⟩ := C
    have hb := bt_bz Tq p
    have q32 : (Int32.ofInt (bt tp p) = 32) ↔ bt tp p = 32 := jw_zL2 (k := 32) hb.1 hb.2 (by omega)
    have q10 : (Int32.ofInt (bt tp p) = 10) ↔ bt tp p = 10 := jw_zL2 (k := 10) hb.1 hb.2 (by omega)
    obtain ⟨a1, a2, a3, a4, a5⟩ := K
    refine jE_of (fun r => gX13_cutIntoTokens_11) ?_
    simp only [jm_O_eq (zB_ob B0), z_byteOf (d := d + 7) (i := p) (by omega) hl B0 e2 Tq, jc_I_eq, q32, q10]
    rw [if_neg (fun z => hkn (Or.inl z)), if_neg (fun z => hkn (Or.inr z))]
    simp only [z_endOf (d := d + 6) hp hl B0 e2 Tq, jc_I_eq]
    obtain ⟨h1, e1, F1, A2⟩ := z_asi (m := m) (i := T.length) (x := Int32.ofNat p) a2 (by omega) hT4 (by omega)
    rw [nar0] at A2
    have C0 : zC0 h m b tp sc := ⟨B0, RB, e2, Tq, O⟩
    have C1 := zC0_z C0 F1 hm hbm (fun c z => by unfold jn; omega) (fun k z => z.elim)
    obtain ⟨B1, RB1, e21, Tq1, O1⟩ := C1
    simp only [zbR_1 RB, Option.bind_some, e1, zbR_0 RB1, jm_O_eq (zB_ob B1)]
    obtain ⟨k, VL', kb, run, v1, k33, k32, kq⟩ := z_kindOf (d := d + 1) hbm hp hT4 hl B1 RB1 e21 Tq1 (lC_z a3 F1 (by omega) (by omega)) O1
    refine jE_I run ?_
    rintro h2 ⟨F2, L2⟩
    have C2 := zC0_z ⟨B1, RB1, e21, Tq1, O1⟩ F2 hm hbm (fun c z => by unfold jn; omega) (fun k z => z.elim)
    have A22 := aC_z A2 F2 (by omega) (by omega)
    have A12 := aC_z (aC_z a1 F1 (by omega) (by omega)) F2 (by omega) (by omega)
    obtain ⟨h3, e3, F3, A13⟩ := z_asi (m := m) (i := T.length) (x := Int32.ofNat k) A12 (by omega) hT4 (by omega)
    rw [nar0] at A13
    have C3 := zC0_z C2 F3 hm hbm (fun c z => by unfold jn; omega) (fun k z => z.elim)
    have A23 := aC_z A22 F3 (by omega) (by omega)
    have L3 := lC_z L2 F3 (by omega) (by omega)
    have F13 : zS m (zcU b) (fun _ => False) h h3 := zS_2 F1 (zS_2 F2 F3 (W := zcU b) (K := fun _ => False) (fun c z => by unfold zcU; omega) (fun c z => by unfold zcU; omega) (fun k z => z) (fun k z => z)) (fun c z => by unfold zcU; omega) (fun c z => z) (fun k z => z) (fun k z => z)
    obtain ⟨B3, RB3, e23, Tq3, O3⟩ := C3
    have kd3 : ∀ j, j ≠ T.length → upd KD T.length (Int32.ofNat k) j = KD j := fun j hj => if_neg hj
    have fr3 : ∀ j, j ≠ T.length → upd FR T.length (Int32.ofNat p) j = FR j := fun j hj => if_neg hj
    have K0 : zTK h b T KD FR VL := ⟨a1, a2, a3, a4, a5⟩
    have q33 : (Int32.ofNat k = 33) ↔ k = 33 := jw_eqL (b := 33) (by omega) (by omega)
    have qk32 : (Int32.ofNat k = 32) ↔ k = 32 := jw_eqL (b := 32) (by omega) (by omega)
    have r3 : jm_ali h3 (b + 1) 0 (Int32.ofNat T.length) = some (Int32.ofNat k) := by
      rw [aC_at A13 hT4 (by omega)]
      exact congrArg some (if_pos rfl)
    simp only [e3, Option.bind_some]
    -- an end: the last token
    have stop : ∀ c : aK4, k = zki c.1 → c.2.1 = p → (c.1 = 37 ∨ c.1 = 38) → jF (kX13_cutIntoTokens_92 (d + 8) m b (some (.int (Int32.ofNat p))) (Int32.ofNat T.length) (Int32.ofNat (zend tp p)) h3) (.inl none) fun h' => zS m (zcU b) (fun _ => False) h h' ∧ ∃ KD' FR' VL', zTK h' b (T ++ [c]) KD' FR' VL' := by
      intro c hk hc hc2
      have hkk : k = 33 ∨ k = 32 := by
        rcases hc2 with e | e
        · left; rw [hk, e]; rfl
        · right; rw [hk, e]; rfl
      refine jE_of (fun r => gX13_cutIntoTokens_92) ?_
      simp only [zbR_0 RB3, Option.bind_some, r3, qk32, q33]
      have fin : zTK h3 b (T ++ [c]) (upd KD T.length (Int32.ofNat k)) (upd FR T.length (Int32.ofNat p)) VL' := zTK_add K0 hT4 A13 A23 L3 kd3 (by rw [show upd KD T.length (Int32.ofNat k) T.length = Int32.ofNat k from if_pos rfl, hk]) fr3 (by rw [show upd FR T.length (Int32.ofNat p) T.length = Int32.ofNat p from if_pos rfl, hc]) v1 (fun z => by omega) (fun z => by omega)
      by_cases c1 : k = 32
      · rw [if_pos c1]
        exact jF_end ⟨F13, _, _, _, fin⟩
      · rw [if_neg c1, if_pos (hkk.resolve_right c1)]
        exact jF_end ⟨F13, _, _, _, fin⟩
    by_cases cl : tp.length ≤ p
    · rw [if_pos cl]
      have hk := k33 (by omega)
      have := stop (37, tp.length, 0, 0) (by rw [hk]; rfl) (by show tp.length = p; omega) (Or.inl rfl)
      by_cases c400 : Int32.ofNat T.length = 400
      · rw [if_pos c400]
        simp only [zbR_0 RB3, Option.bind_some, r3, q33]
        rw [if_pos hk]
        exact this
      · rw [if_neg c400]
        exact this
    · rw [if_neg cl]
      have e400 : (Int32.ofNat T.length = 400) ↔ T.length = 400 := jw_eqL (b := 400) (by omega) (by omega)
      by_cases c400 : T.length = 400
      · -- the token that would be the 401st
        have r0 : r = 0 := by omega
        rw [if_pos r0, if_pos (e400.mpr c400)]
        have hk33 : k ≠ 33 := by
          cases eq : ktk tp p with
          | none => rw [k32 (by omega) eq]; omega
          | some q =>
            obtain ⟨g1, -⟩ := kq q (by omega) eq
            have hk6 := (ktk_k (by omega) eq).1
            intro z
            have e37 : zki q.1.1 = zki 37 := by rw [← g1, z]; rfl
            have := (zki_inj q.1.1 (by omega) 37 (by omega)).mp e37
            omega
        simp only [zbR_0 RB3, Option.bind_some, r3, q33]
        rw [if_neg hk33]
        obtain ⟨h4, e4, F4, A14⟩ := z_asi (m := m) (i := T.length) (x := (32 : Int32)) A13 (by omega) hT4 (by omega)
        rw [nar0] at A14
        have RB4 := zbR_z RB3 F4 (by omega) (by omega)
        have r4 : jm_ali h4 (b + 1) 0 (Int32.ofNat T.length) = some 32 := by
          rw [aC_at A14 hT4 (by omega)]
          exact congrArg some (if_pos rfl)
        rw [e4, Option.bind_some]
        refine jE_of (fun r => gX13_cutIntoTokens_92) ?_
        simp only [zbR_0 RB4, Option.bind_some, r4, if_true]
        refine jF_end ⟨zS_2 F13 F4 (fun c z => z) (fun c z => by unfold zcU; omega) (fun k z => z) (fun k z => z), _, _, _, zTK_add (c := (38, p, 0, 0)) K0 hT4 A14 (aC_z A23 F4 (by omega) (by omega)) (lC_z L3 F4 (by omega) (by omega)) (fun j hj => (if_neg hj).trans (kd3 j hj)) (if_pos rfl) fr3 (if_pos rfl) v1 (fun z => by simp at z) (fun z => by simp at z)⟩
      · rw [if_neg (fun z => c400 (e400.mp z)), if_neg (show ¬ r = 0 by omega)]
        cases eq : ktk tp p with
        | none =>
          have hk := k32 (by omega) eq
          exact stop (38, p, 0, 0) (by rw [hk]; rfl) rfl (Or.inr rfl)
        | some q =>
          obtain ⟨g1, g2, g3, g4⟩ := kq q (by omega) eq
          have hk6 := (ktk_k (by omega) eq).1
          have hq2 := ktk_b (by omega) eq
          have hk33 : k ≠ 33 := by
            intro z
            have e37 : zki q.1.1 = zki 37 := by rw [← g1, z]; rfl
            have := (zki_inj q.1.1 (by omega) 37 (by omega)).mp e37
            omega
          have hk32 : k ≠ 32 := by
            intro z
            have e37 : zki q.1.1 = zki 38 := by rw [← g1, z]; rfl
            have := (zki_inj q.1.1 (by omega) 38 (by omega)).mp e37
            omega
          refine jE_of (fun r => gX13_cutIntoTokens_92) ?_
          simp only [zbR_0 RB3, Option.bind_some, r3, qk32, q33, jw_add1]
          rw [if_neg hk32, if_neg hk33, g4]
          have K3 : zTK h3 b (T ++ [q.1]) (upd KD T.length (Int32.ofNat k)) (upd FR T.length (Int32.ofNat p)) VL' := zTK_add K0 hT4 A13 A23 L3 kd3 (by rw [show upd KD T.length (Int32.ofNat k) T.length = Int32.ofNat k from if_pos rfl, g1]) fr3 (by rw [show upd FR T.length (Int32.ofNat p) T.length = Int32.ofNat p from if_pos rfl, ktk_p eq]) v1 g2 g3
          have := ih q.2 (T ++ [q.1]) _ _ _ h3 (some (.int (Int32.ofNat q.2))) (by rw [List.length_append, List.length_singleton]; omega) (by omega) (by omega) ⟨B3, RB3, e23, Tq3, O3⟩ K3
          rw [List.length_append, List.length_singleton] at this
          refine jF_mono this fun h4 ⟨F4, KD4, FR4, VL4, K4⟩ => ⟨zS_tr F13 F4, KD4, FR4, VL4, ?_⟩
          rw [List.append_assoc] at K4
          exact K4
theorem z_cut (hm : 128 ≤ m) (hbm : b = m + 2 ∨ m + 36 ≤ b) (hl : tp.length ≤ 2000) (C : zC0 h m b tp sc) (A1 : aC h (b + 1) 0 401 KD) (A2 : aC h (b + 2) 0 401 FR) (L : lC h (b + 4) 401 VL) : jF (jm_D (d + 9) mX13_cutIntoTokens [.ref m, .ref b] h) (.inl none) fun h' => zS m (zcU b) (fun _ => False) h h' ∧ ∃ KD' FR' VL', zTK h' b (ktks tp 401 0) KD' FR' VL' := by
  refine jE_of (fun r => gX13_cutIntoTokens) ?_
  have := z_cut_loop (d := d) (b := b) hm hbm hl 401 0 [] KD FR VL h none (by simp) (by omega) (by omega) C ⟨A1, A2, L, by simp, fun i hi => absurd hi (Nat.not_lt_zero _)⟩
  exact this
end ZU
