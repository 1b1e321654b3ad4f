/-! ===== LEVEL 3: the reference, a step ===== -/
theorem ry_ra_low {l : List Int} {tg : Nat → Bool} {s a b : Nat} : ∀ j, j ≤ s + 2 → ry_ra l tg s a b j = (l, 0)
  | 0, _ => rfl
  | j + 1, h => by
    have ih := ry_ra_low (l := l) (tg := tg) (s := s) (a := a) (b := b) j (by omega)
    unfold ry_ra
    rw [if_neg (fun z => by omega), ih]
theorem zN_s {k : Nat} : zN (some k) = Int32.ofNat k := rfl
section ZT
variable {h h' h1 h2 : jm_H} {d m a b n t k : Nat} {U V W F G K : Nat → Prop} {l u : List Int}
theorem z_renameAll_loop {s : Nat} {o1 : Option Value} (hl : l.length ≤ 150) (hw : gW l) (hQ : ry_Q l s) (ha : ry_n l (s + 1) = a) (hb : ry_n l s = b) : ∀ (f j : Nat) (h : jm_H), j + f = a → s + 2 ≤ j → zK h m (ry_ra l (ry_tg l (s + 1) a) s a b j).1 → zT h m (s + 2) a (ry_tg l (s + 1) a) → jF (kX13_renameAll_37 (d + 4) m o1 (Int32.ofNat a) (Int32.ofNat b) (Int32.ofNat (ry_ra l (ry_tg l (s + 1) a) s a b j).2) (Int32.ofNat j) h) (.inl (some (.int (Int32.ofNat (ry_ra l (ry_tg l (s + 1) a) s a b a).2)))) fun h' => zS m (fun c => c = m + 27) (fun _ => False) h h' ∧ zK h' m (ry_ra l (ry_tg l (s + 1) a) s a b a).1 ∧ zT h' m (s + 2) a (ry_tg l (s + 1) a) := by
  obtain ⟨g1, g2, g3, g4, g5, g6⟩ := ry_Q_geo hQ
  rw [ha] at g1 g2 g4 g6
  rw [hb] at g4 g5 g6
  have hP := hQ.1
  intro f
  induction f with
  | zero =>
    intro j h hj hs H T
    have : j = a := by omega
    subst this
    refine jE_of (fun r => gX13_renameAll_37) ?_
    rw [if_neg (by rw [jw_lt (by omega) (by omega)]; omega)]
    exact jF_end ⟨zS_rf, H, T⟩
  | succ f ih =>
    intro j h hj hs H T
    have hjl : j < l.length := by omega
    have hsr := ry_ra_s (l := l) (tg := ry_tg l (s + 1) a) (s := s) (a := a) (b := b) (by omega) j
    have hwr := ry_ra_gW (l := l) (tg := ry_tg l (s + 1) a) (s := s) (a := a) (b := b) hw hl (by omega) j
    have hhi := fun i (q : a ≤ i ∨ i < s + 2) => ry_ra_hi (l := l) (tg := ry_tg l (s + 1) a) (s := s) (a := a) (b := b) (i := i) hP (by omega) g3 g2 q j
    have er : ry_ra l (ry_tg l (s + 1) a) s a b (j + 1) = if s + 2 ≤ j ∧ j < a ∧ (ry_ra l (ry_tg l (s + 1) a) s a b j).1.getD j 0 < 0 ∧ ry_ht (ry_tg l (s + 1) a) (j + 1) (ry_n l j) = true ∧ ry_on l a b (-(ry_ra l (ry_tg l (s + 1) a) s a b j).1.getD j 0) = true then (ry_rn (ry_ra l (ry_tg l (s + 1) a) s a b j).1 j (ry_z (ry_fz (ry_ra l (ry_tg l (s + 1) a) s a b j).1 j a b)), (ry_ra l (ry_tg l (s + 1) a) s a b j).2 + 1) else ry_ra l (ry_tg l (s + 1) a) s a b j := rfl
    have nx := ih (j + 1)
    rw [er] at nx
    generalize ry_ra l (ry_tg l (s + 1) a) s a b j = R at *
    obtain ⟨r, c0⟩ := R
    simp only [] at *
    have hlen : r.length = l.length := hsr.1.symm
    have hgr := gW_gN hwr
    have hPr := (ry_s_P hsr).mp hP
    have hn := ry_n_le (l := l) (i := j) (by omega)
    have hn2 := ry_n_lt (l := l) (i := j) hjl
    have hne := ry_nest hP (show s + 1 < l.length by omega) (show s + 1 < j by omega) (by rw [ha]; omega)
    rw [ha] at hne
    have hc := ry_t_le (l := l) (m := 0) (a := 0) 0
    refine jE_of (fun r => gX13_renameAll_37) ?_
    rw [if_pos (by rw [jw_lt (by omega) (by omega)]; omega)]
    simp only [zB_18 H.1, Option.bind_some, zW_at H.2 (show j < r.length by omega), ln_neg (hgr j), jw_add1]
    by_cases c1 : r.getD j 0 < 0
    · rw [if_pos c1]
      simp only [f_end H.2.2 (by omega) hgr hPr (show j < r.length by omega), jc_I_eq, jm_O_eq (zB_ob H.1), ← ry_s_n hsr, z_has (d := d + 3) (a := j + 1) (b := ry_n l j) hne (by omega) (by omega) (by omega) H.1 T]
      by_cases c2 : ry_ht (ry_tg l (s + 1) a) (j + 1) (ry_n l j) = true
      · rw [jp_T c2, if_neg (by decide)]
        have gx : (-(r.getD j 0)).natAbs < q10 := by rw [Int.natAbs_neg]; exact hgr j
        simp only [zB_18 H.1, Option.bind_some, zW_at H.2 (show j < r.length by omega), jm_O_eq (zB_ob H.1), ln_ng, z_open (d := d + 1) (show r.length ≤ 301 by omega) hgr hPr gx (show b ≤ r.length by omega) (show a ≤ b by omega) H, jc_I_eq]
        have eo : ry_on r a b (-(r.getD j 0)) = ry_on l a b (-(r.getD j 0)) := (ry_on_hi hsr (by omega) fun i q => (hhi i (Or.inl q)).symm).symm
        by_cases c3 : ry_on l a b (-(r.getD j 0)) = true
        · rw [eo, jp_T c3, if_neg (by decide)]
          refine jE_V (z_rename (d := d) (by omega) hgr hPr (by omega) c1 (by omega) (by omega) H) ?_
          rintro h1 ⟨F1, H1⟩
          rw [if_pos ⟨hs, by omega, c1, c2, c3⟩] at nx
          simp only [] at nx
          exact jF_mono (nx h1 (by omega) (by omega) H1 (zT_z T F1 (by omega))) fun h2 ⟨F2, q⟩ => ⟨zS_tr F1 F2, q⟩
        · rw [eo, jp_F c3, if_pos rfl]
          rw [if_neg (fun z => c3 z.2.2.2.2)] at nx
          exact nx h (by omega) (by omega) H T
      · rw [jp_F c2, if_pos rfl]
        rw [if_neg (fun z => c2 z.2.2.2.1)] at nx
        exact nx h (by omega) (by omega) H T
    · rw [if_neg c1]
      rw [if_neg (fun z => c1 z.2.2.1)] at nx
      exact nx h (by omega) (by omega) H T
/-- the cells that a step writes -/
def zU (m c : Nat) : Prop := c = m + 27 ∨ c = m + 28 ∨ c = m + 30
theorem z_renameAll {s : Nat} (hl : l.length ≤ 150) (hw : gW l) (hQ : ry_Q l s) (H : zK h m l) : jF (jm_D (d + 5) mX13_renameAll [.ref m, .int (Int32.ofNat s)] h) (.inl (some (.int (Int32.ofNat (ry_sc l s))))) fun h' => zS m (zU m) (fun _ => False) h h' ∧ zK h' m (ry_sr l s) ∧ zT h' m (s + 2) (ry_n l (s + 1)) (ry_tg l (s + 1) (ry_n l (s + 1))) := by
  obtain ⟨g1, g2, g3, g4, g5, g6⟩ := ry_Q_geo hQ
  have hP := hQ.1
  have hg := gW_gN hw
  refine jE_of (fun r => gX13_renameAll) ?_
  have e2 : Int32.ofNat s + 2 = Int32.ofNat (s + 2) := jw_addL
  simp only [zB_18 H.1, Option.bind_some, e2, f_end H.2.2 (by omega) hg hP g3, jc_I_eq, g2]
  simp only [zB_18 H.1, Option.bind_some, f_end H.2.2 (by omega) hg hP (show ry_n l (s + 1) < l.length by omega), jc_I_eq, jm_O_eq (zB_ob H.1), jw_add1, ← g6]
  refine jE_I (z_mark (d := d + 1) hl hg hP (by omega) (by omega) H) ?_
  rintro h1 ⟨F1, T1⟩
  have H1 := zK_0 H F1 (by omega)
  have := z_renameAll_loop (d := d) (m := m) (o1 := some (.int (Int32.ofNat s))) hl hw hQ rfl rfl (ry_n l (s + 1) - (s + 2)) (s + 2) h1 (by omega) (Nat.le_refl _) (by rw [ry_ra_low _ (Nat.le_refl _)]; exact H1) T1
  rw [ry_ra_low _ (Nat.le_refl _)] at this
  refine jF_mono this ?_
  rintro h2 ⟨F2, H2, T2⟩
  exact ⟨zS_2 F1 F2 (fun c z => Or.inr (Or.inr z)) (fun c z => Or.inl z) (fun _ z => z) (fun _ z => z), H2, T2⟩
/-! rows put together -/
theorem vR_nil {g : Nat → Int64} (L : lC h a n g) : vR h a n [] := ⟨g, L, Nat.zero_le _, fun i hi => absurd hi (Nat.not_lt_zero _)⟩
theorem vR_take {j : Nat} (H : vR h a n l) : vR h a n (l.take j) := by
  obtain ⟨g, L, hl, hV⟩ := H
  refine ⟨g, L, by rw [List.length_take]; omega, fun i hi => ?_⟩
  rw [List.length_take] at hi
  rw [hV i (by omega), List.getD_eq_getElem?_getD, List.getD_eq_getElem?_getD, List.getElem?_take_of_lt (by omega)]
theorem gD_app1 {v : List Int} {i : Nat} (hi : i < l.length) : (l ++ v).getD i 0 = l.getD i 0 := by
  rw [List.getD_eq_getElem?_getD, List.getD_eq_getElem?_getD, List.getElem?_append_left hi]
theorem gD_app2 {v : List Int} {i : Nat} (hi : l.length ≤ i) : (l ++ v).getD i 0 = v.getD (i - l.length) 0 := by
  rw [List.getD_eq_getElem?_getD, List.getD_eq_getElem?_getD, List.getElem?_append_right hi]
theorem gD_drop {i j : Nat} : (l.drop j).getD i 0 = l.getD (j + i) 0 := by
  rw [List.getD_eq_getElem?_getD, List.getD_eq_getElem?_getD, List.getElem?_drop]
theorem gD_take {i j : Nat} (hi : i < j) : (l.take j).getD i 0 = l.getD i 0 := by
  rw [List.getD_eq_getElem?_getD, List.getD_eq_getElem?_getD, List.getElem?_take_of_lt hi]
/-- one element more -/
theorem vR_add {x : Int} (H : vR h a n l) (p : a ≠ m) (hi : l.length < n) (hn : n < 2147483648) : ∃ h', jm_asl h a (Int32.ofNat l.length) (Int64.ofInt x) = some h' ∧ zS m (fun c => c = a) (fun _ => False) h h' ∧ vR h' a n (l ++ [x]) := by
  obtain ⟨g, L, hl, hV⟩ := H
  obtain ⟨h', e, F, L'⟩ := z_asl (m := m) (x := Int64.ofInt x) L p hi hn
  refine ⟨h', e, F, _, L', by rw [List.length_append]; simp only [List.length_singleton]; omega, fun i hi => ?_⟩
  rw [List.length_append, List.length_singleton] at hi
  by_cases c : i = l.length
  · subst c
    rw [gD_app2 (Nat.le_refl _), Nat.sub_self, show vp_updL g l.length (Int64.ofInt x) l.length = Int64.ofInt x from if_pos rfl]
    rfl
  · rw [gD_app1 (by omega), show vp_updL g l.length (Int64.ofInt x) i = g i from if_neg c]
    exact hV i (by omega)
/-- a row behind a row -/
theorem vR_cat {n1 s : Nat} {g : Nat → Int64} (H : vR h a n l) (A : lC h b n1 g) (e : ∀ i, i < u.length → g (s + i) = Int64.ofInt (u.getD i 0)) (p : a ≠ m) (h1 : s + u.length ≤ n1) (h2 : l.length + u.length ≤ n) (hn : n < 2147483648) (hn1 : n1 < 2147483648) : ∃ h', jm_cpy h b (Int32.ofNat s) a (Int32.ofNat l.length) (Int32.ofNat u.length) = some h' ∧ zS m (fun c => c = a) (fun _ => False) h h' ∧ vR h' a n (l ++ u) := by
  obtain ⟨f, L, hl, hV⟩ := H
  obtain ⟨h', e1, F, L'⟩ := z_cpL (m := m) A L p h1 h2 hn1 hn
  refine ⟨h', e1, F, _, L', by rw [List.length_append]; exact h2, fun i hi => ?_⟩
  rw [List.length_append] at hi
  by_cases c : i < l.length
  · rw [va_cpyF (by omega), gD_app1 c]
    exact hV i c
  · rw [va_cpyT (by omega) (by omega), gD_app2 (by omega)]
    exact e (i - l.length) (by omega)
/-- out of another row -/
theorem vR_catR {n1 s k : Nat} (H : vR h a n l) (A : vR h b n1 u) (p : a ≠ m) (h1 : s + k ≤ u.length) (h2 : l.length + k ≤ n) (hn : n < 2147483648) (hn1 : n1 < 2147483648) : ∃ h', jm_cpy h b (Int32.ofNat s) a (Int32.ofNat l.length) (Int32.ofNat k) = some h' ∧ zS m (fun c => c = a) (fun _ => False) h h' ∧ vR h' a n (l ++ (u.drop s).take k) := by
  obtain ⟨g, L, hl, hV⟩ := A
  have ek : ((u.drop s).take k).length = k := by rw [List.length_take, List.length_drop]; omega
  have := vR_cat (m := m) (s := s) (u := (u.drop s).take k) H L (fun i hi => by
    rw [ek] at hi
    rw [gD_take hi, gD_drop]
    exact hV (s + i) (by omega)) p (by omega) (by omega) hn hn1
  rw [ek] at this
  exact this
/-- a row copied to the beginning -/
theorem vR_cp {n1 : Nat} {g : Nat → Int64} (L : lC h a n g) (A : vR h b n1 u) (p : a ≠ m) (h2 : u.length ≤ n) (hn : n < 2147483648) (hn1 : n1 < 2147483648) : ∃ h', jm_cpy h b 0 a 0 (Int32.ofNat u.length) = some h' ∧ zS m (fun c => c = a) (fun _ => False) h h' ∧ vR h' a n u := by
  have := vR_catR (m := m) (s := 0) (k := u.length) (vR_nil L) A p (by omega) (by simpa using h2) hn hn1
  simpa using this
/-! the step -/
theorem z_take_loop {s : Nat} {o1 : Option Value} {x2 : Int32} (hl : l.length ≤ 150) (hQ : ry_Q l s) (hz : ry_sz l s ≤ 150) : ∀ (f j : Nat) (h : jm_H), j + f = ry_n l (s + 1) → s + 2 ≤ j → zK h m (ry_sr l s) → zT h m (s + 2) (ry_n l (s + 1)) (ry_tg l (s + 1) (ry_n l (s + 1))) → vR h (m + 28) 301 (ry_bu (ry_sr l s) (ry_tg l (s + 1) (ry_n l (s + 1))) s (ry_n l (s + 1)) (ry_n l s) j) → jF (kX13_takeOff_54 d m o1 x2 (Int32.ofNat (ry_n l (s + 1))) (Int32.ofNat (ry_n l s)) (Int32.ofNat (ry_bu (ry_sr l s) (ry_tg l (s + 1) (ry_n l (s + 1))) s (ry_n l (s + 1)) (ry_n l s) j).length) (Int32.ofNat j) h) (.inl (some (.int x2))) fun h' => zS m (zU m) (fun k => k = 19) h h' ∧ zK h' m (ry_st l s) := by
  obtain ⟨g1, g2, g3, g4, g5, g6⟩ := ry_Q_geo hQ
  have hlen := ry_sr_len hQ
  have hmid := fun j (q : j ≤ l.length) => ry_st_mid (l := l) (k := s) (j := j) hQ hz q
  have hT := fun i => ry_tg_at (l := l) (m := s + 1) (a := ry_n l (s + 1)) (i := i)
  intro f
  induction f with
  | zero =>
    intro j h hj hs H T M
    have : j = ry_n l (s + 1) := by omega
    subst this
    have eall : ry_st l s = ry_bu (ry_sr l s) (ry_tg l (s + 1) (ry_n l (s + 1))) s (ry_n l (s + 1)) (ry_n l s) (ry_n l (s + 1)) ++ (ry_sr l s).drop (ry_n l s) := by
      unfold ry_st
      rw [← hlen]
      exact ry_bu_all (fun i q => (hT i q).2.1) (by omega) (by omega) (by omega)
    have elen := hmid l.length (Nat.le_refl _)
    have hm := hmid (ry_n l (s + 1)) (by omega)
    rw [show ry_bu (ry_sr l s) (ry_tg l (s + 1) (ry_n l (s + 1))) s (ry_n l (s + 1)) (ry_n l s) l.length = ry_st l s from rfl] at elen
    rw [eall] at elen ⊢
    generalize ry_bu (ry_sr l s) (ry_tg l (s + 1) (ry_n l (s + 1))) s (ry_n l (s + 1)) (ry_n l s) (ry_n l (s + 1)) = w at *
    refine jE_of (fun r => gX13_takeOff_54) ?_
    rw [if_neg (by rw [jw_lt (by omega) (by omega)]; omega)]
    simp only [zB_18 H.1, zB_20 H.1, H.2.1, Option.bind_some, hlen, jw_sub g5]
    obtain ⟨h1, e1, F1, M1⟩ := vR_catR (m := m) (s := ry_n l s) (k := l.length - ry_n l s) M H.2.2 (by omega) (by rw [hlen]; omega) (by rw [List.length_append, List.length_drop, hlen] at elen; omega) (by omega) (by omega)
    have ed : ((ry_sr l s).drop (ry_n l s)).take (l.length - ry_n l s) = (ry_sr l s).drop (ry_n l s) := List.take_of_length_le (by rw [List.length_drop, hlen]; exact Nat.le_refl _)
    rw [ed] at M1
    have H1 := zK_0 H F1 (by omega)
    simp only [e1, Option.bind_some, H1.2.1, hlen, jw_add]
    rw [jw_sub (show ry_n l s ≤ w.length + l.length by omega)]
    have en : w.length + l.length - ry_n l s = (w ++ (ry_sr l s).drop (ry_n l s)).length := by rw [List.length_append, List.length_drop, hlen]; omega
    rw [en]
    obtain ⟨h2, e2, F2, q2⟩ := z_pfI (Int32.ofNat (w ++ (ry_sr l s).drop (ry_n l s)).length) H1.1 (show 19 < 31 by omega)
    have B2 := zB_tr H1.1 F2 (fun k z => by rw [z]; rfl)
    have M2 := vR_z M1 F2 (by omega) id
    simp only [e2, Option.bind_some, zB_20 B2, zB_18 B2, q2]
    obtain ⟨g, L⟩ := zB_l (o := 27) (n := 301) B2 (Or.inr ⟨by omega, by omega⟩) rfl
    obtain ⟨h3, e3, F3, M3⟩ := vR_cp (m := m) L M2 (by omega) (by omega) (by omega) (by omega)
    rw [e3, Option.bind_some]
    refine jF_end ⟨?_, zB_tr B2 F3 (fun _ z => z.elim), (zS_I F3 id).trans q2, M3⟩
    exact zS_2 F1 (zS_2 F2 F3 (W := zU m) (K := fun k => k = 19) (fun c z => z.elim) (fun c z => Or.inl z) (fun k z => z) (fun k z => z.elim)) (fun c z => Or.inr (Or.inl z)) (fun c z => z) (fun k z => z.elim) (fun k z => z)
  | succ f ih =>
    intro j h hj hs H T M
    obtain ⟨TG, t1, t2⟩ := T
    have hjl : j < l.length := by omega
    have hm1 := hmid (j + 1) (by omega)
    have eb : ry_bu (ry_sr l s) (ry_tg l (s + 1) (ry_n l (s + 1))) s (ry_n l (s + 1)) (ry_n l s) (j + 1) = ry_bu (ry_sr l s) (ry_tg l (s + 1) (ry_n l (s + 1))) s (ry_n l (s + 1)) (ry_n l s) j ++ ry_pc (ry_sr l s) (ry_tg l (s + 1) (ry_n l (s + 1))) s (ry_n l (s + 1)) (ry_n l s) j := rfl
    have nx := ih (j + 1)
    rw [eb] at nx hm1
    have hmj := hmid j (by omega)
    generalize ry_bu (ry_sr l s) (ry_tg l (s + 1) (ry_n l (s + 1))) s (ry_n l (s + 1)) (ry_n l s) j = w at *
    refine jE_of (fun r => gX13_takeOff_54) ?_
    rw [if_pos (by rw [jw_lt (by omega) (by omega)]; omega)]
    simp only [zB_22 H.1, Option.bind_some, aC_at t1 (show j < 301 by omega) (by omega), t2 j hs (by omega)]
    by_cases c : ry_tg l (s + 1) (ry_n l (s + 1)) j = true
    · have ep : ry_pc (ry_sr l s) (ry_tg l (s + 1) (ry_n l (s + 1))) s (ry_n l (s + 1)) (ry_n l s) j = ((ry_sr l s).drop (ry_n l (s + 1))).take (ry_n l s - ry_n l (s + 1)) := if_pos c
      rw [ep] at nx hm1
      have ek : (((ry_sr l s).drop (ry_n l (s + 1))).take (ry_n l s - ry_n l (s + 1))).length = ry_n l s - ry_n l (s + 1) := by rw [List.length_take, List.length_drop, hlen]; omega
      rw [List.length_append, ek] at hm1
      rw [if_pos c, if_neg (by decide)]
      simp only [zB_18 H.1, zB_20 H.1, Option.bind_some, jw_sub (show ry_n l (s + 1) ≤ ry_n l s by omega), jw_add, jw_add1]
      obtain ⟨h1, e1, F1, M1⟩ := vR_catR (m := m) (s := ry_n l (s + 1)) (k := ry_n l s - ry_n l (s + 1)) M H.2.2 (by omega) (by rw [hlen]; omega) (by omega) (by omega) (by omega)
      rw [e1, Option.bind_some]
      have nx' := nx h1 (by omega) (by omega) (zK_0 H F1 (by omega)) ⟨TG, aC_z t1 F1 (by omega) (by omega), t2⟩ M1
      rw [List.length_append, ek] at nx'
      exact jF_mono nx' fun h2 ⟨F2, q⟩ => ⟨zS_2 F1 F2 (fun c z => Or.inr (Or.inl z)) (fun c z => z) (fun k z => z.elim) (fun k z => z), q⟩
    · have ep : ry_pc (ry_sr l s) (ry_tg l (s + 1) (ry_n l (s + 1))) s (ry_n l (s + 1)) (ry_n l s) j = [(ry_sr l s).getD j 0] := by
        unfold ry_pc
        rw [if_neg c, if_neg (by omega)]
      rw [ep] at nx hm1
      rw [List.length_append, List.length_singleton] at hm1
      rw [if_neg c, if_pos rfl]
      simp only [zB_18 H.1, zB_20 H.1, Option.bind_some, zW_at H.2 (show j < (ry_sr l s).length by omega), jw_add1]
      obtain ⟨h1, e1, F1, M1⟩ := vR_add (m := m) (x := (ry_sr l s).getD j 0) M (by omega) (by omega) (by omega)
      rw [e1, Option.bind_some]
      have nx' := nx h1 (by omega) (by omega) (zK_0 H F1 (by omega)) ⟨TG, aC_z t1 F1 (by omega) (by omega), t2⟩ M1
      rw [List.length_append, List.length_singleton] at nx'
      exact jF_mono nx' fun h2 ⟨F2, q⟩ => ⟨zS_2 F1 F2 (fun c z => Or.inr (Or.inl z)) (fun c z => z) (fun k z => z.elim) (fun k z => z), q⟩
theorem z_take {s : Nat} (hR : gR l) (hs : ry_r l = some s) (hz : ry_sz l s ≤ 150) (H : zK h m l) : jF (jm_D (d + 6) mX13_takeOff [.ref m] h) (.inl (some (.int (Int32.ofNat (ry_sc l s))))) fun h' => zS m (zU m) (fun k => k = 19) h h' ∧ zK h' m (ry_st l s) := by
  obtain ⟨hP, hw, hl⟩ := hR
  have hg := gW_gN hw
  have hQ := ry_r_Q hP hs
  obtain ⟨g1, g2, g3, g4, g5, g6⟩ := ry_Q_geo hQ
  refine jE_of (fun r => gX13_takeOff) ?_
  simp only [jm_O_eq (zB_ob H.1), z_next (d := d + 4) H hP hg, jc_I_eq, hs, zN_s]
  refine jE_I (z_renameAll (d := d) hl hw hQ H) ?_
  rintro h1 ⟨F1, H1, T1⟩
  have hsr := ry_sr_s hQ
  have hlen := ry_sr_len hQ
  have hP1 := (ry_s_P hsr).mp hP
  have hg1 : gN (ry_sr l s) := gW_gN (ry_ra_gW hw hl (by omega) _)
  have e2 : Int32.ofNat s + 2 = Int32.ofNat (s + 2) := jw_addL
  simp only [zB_18 H1.1, Option.bind_some, e2, f_end H1.2.2 (by omega) hg1 hP1 (show s + 2 < (ry_sr l s).length by omega), jc_I_eq, ← ry_s_n hsr, g2]
  simp only [zB_18 H1.1, Option.bind_some, f_end H1.2.2 (by omega) hg1 hP1 (show ry_n l (s + 1) < (ry_sr l s).length by omega), jc_I_eq, ← ry_s_n hsr, zB_20 H1.1, ← g6]
  obtain ⟨g, L⟩ := zB_l (o := 28) (n := 301) H1.1 (Or.inr ⟨by omega, by omega⟩) rfl
  obtain ⟨h2, e3, F2, M2⟩ := vR_catR (m := m) (s := 0) (k := s) (vR_nil L) H1.2.2 (by omega) (by omega) (by simp only [List.length_nil]; omega) (by omega) (by omega)
  have e3' : jm_cpy h1 (m + 27) 0 (m + 28) 0 (Int32.ofNat s) = some h2 := e3
  rw [e3', Option.bind_some]
  rw [List.drop_zero, List.nil_append] at M2
  have H2 := zK_0 H1 F2 (by omega)
  have hT := fun i => ry_tg_at (l := l) (m := s + 1) (a := ry_n l (s + 1)) (i := i)
  have eb : ry_bu (ry_sr l s) (ry_tg l (s + 1) (ry_n l (s + 1))) s (ry_n l (s + 1)) (ry_n l s) (s + 2) = (ry_sr l s).take s := ry_bu_2 (fun i q => (hT i q).1) (by omega) (by omega)
  have := z_take_loop (d := d + 5) (m := m) (o1 := some (.int (Int32.ofNat s))) (x2 := Int32.ofNat (ry_sc l s)) hl hQ hz (ry_n l (s + 1) - (s + 2)) (s + 2) h2 (by omega) (Nat.le_refl _) H2 (zT_z T1 F2 (by omega)) (by rw [eb]; exact M2)
  rw [eb, List.length_take, Nat.min_eq_left (by omega)] at this
  refine jF_mono this ?_
  rintro h3 ⟨F3, q⟩
  exact ⟨zS_2 F1 (zS_2 F2 F3 (W := zU m) (K := fun k => k = 19) (fun c z => Or.inr (Or.inl z)) (fun c z => z) (fun k z => z.elim) (fun k z => z)) (fun c z => z) (fun c z => z) (fun k z => z.elim) (fun k z => z), q⟩
end ZT
