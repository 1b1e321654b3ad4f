/-! ===== LEVEL 3: the reference, sums, both and tests ===== -/
section ZG
variable {h h' h1 h2 : jm_H} {d D m b i q k : Nat} {T : List aK4} {mu al : Nat → Int32} {s s1 : zSt} {o : Option jm_R} {R : uR} {f : Nat → uR} {kk : jm_H → Option jm_R} {mk : Int}
/-- sums -/
theorem z_sum {P : Nat → uR} (Y : zHy m b T) (hP : zLv m b T mk D mX13_isProduct q P) (gP : ∀ a, a ≤ 400 → gp 0 a (P a)) : zLv m b T mk (D + 1 + 1) mX13_isSum q (uSu T P) := by
  intro d hd h i s H hs hmk hos hi4
  obtain ⟨d, rfl⟩ : ∃ e, d = e + 1 + 1 := ⟨d - 2, by omega⟩
  refine zQr_of (fun r => gX13_isSum) ?_
  rw [jm_O_eq (zRd_ob H)]
  have g1 := gP i hi4
  have K := Y.2.2.2
  have lp := z_loop (K := fun o h => kX13_isSum_10 (d + 1) m b o h) (ks := [26, 27]) (P := P) (y := mX13_isProduct) (D := D) (d := d) (mk := mk) (q := q) Y (by simp) hP gP (by omega) (fun o h i s H c => by
      have hl := zRd_lt H
      have c1 : ¬ uK T i = 26 := fun z => c (by rw [z]; exact List.mem_cons_self)
      have c2 : ¬ uK T i = 27 := fun z => c (by rw [z]; exact List.mem_cons_of_mem _ List.mem_cons_self)
      apply gX13_isSum_10
      simp only [zbR_0 (zRd_bR H), H.2.1, Option.bind_some, zRd_kind H hl.1]
      rw [if_neg (show ¬ Int32.ofNat (zki (uK T i)) = 43 from fun z => c1 ((zki_eq (K i) (show 26 < 39 by omega)).mp z)), if_neg (show ¬ Int32.ofNat (zki (uK T i)) = 45 from fun z => c2 ((zki_eq (K i) (show 27 < 39 by omega)).mp z))]) (fun o h i s H c => by
      have hl := zRd_lt H
      have c' : uK T i = 26 ∨ uK T i = 27 := by simpa using c
      obtain ⟨h1, e1, F1, H1, hi⟩ := z_skip Y (show uK T i ≤ 36 by omega) rfl H
      refine ⟨h1, some (.int (Int32.ofNat (zo (uK T i, 0, 0)).1)), F1, H1, fun r z => ?_⟩
      have go : kX13_isSum_59 (d + 1) m b o (Int32.ofNat (zo (uK T i, 0, 0)).1) h = some r := by
        apply gX13_isSum_59
        simp only [H.2.1, Option.bind_some, jw_add1, e1, jm_O_eq (zRd_ob H1)]
        exact z
      apply gX13_isSum_10
      simp only [zbR_0 (zRd_bR H), H.2.1, Option.bind_some, zRd_kind H hl.1]
      rcases c' with e | e
      · rw [e] at go ⊢
        rw [if_pos (show Int32.ofNat (zki 26) = 43 from rfl), if_pos (show Int32.ofNat (zki 26) = 43 from rfl)]
        exact go
      · rw [e] at go ⊢
        rw [if_neg (show ¬ Int32.ofNat (zki 27) = 43 by decide), if_pos (show Int32.ofNat (zki 27) = 45 from rfl), if_neg (show ¬ Int32.ofNat (zki 27) = 43 by decide)]
        exact go)
  refine zQr_seq (gp_le g1) (hP (d + 1) (by omega) h i s H hs hmk hos hi4) fun h2 s2 c2 n2 H2 => ⟨(zle_gp (gp_rep Y.2.2.1 (by simp) gP 400 _ g1.2.1)).2, ?_⟩
  refine lp 400 _ s2 h2 none (by omega) H2 (n2.1.trans hs) (n2.2.1.trans hmk) ?_ g1.2.1
  have := gp_os g1 c2
  rw [n2.2.2.1, List.length_append]
  omega
theorem z_eatN {k : Nat} (Y : zHy m b T) (hk : k ≤ 36) (hi : uK T i ≠ k) (H : zRd h m b T i s) : jm_D (d + 1) mX13_eat [.ref m, .ref b, .int (Int32.ofNat (zki k))] h = some (.inl (some (.int 0)), h) := by
  have hl := zRd_lt H
  apply gX13_eat
  simp only [zbR_0 (zRd_bR H), H.2.1, Option.bind_some, zRd_kind H hl.1, zki_eq (Y.2.2.2 i) (show k < 39 by omega)]
  rw [if_neg hi]
theorem z_eatY {k : Nat} (Y : zHy m b T) (hk : k ≤ 36) (hi : uK T i = k) (H : zRd h m b T i s) : ∃ h1, jm_D (d + 1) mX13_eat [.ref m, .ref b, .int (Int32.ofNat (zki k))] h = some (.inl (some (.int 1)), h1) ∧ zS m (zRU b) zRF h h1 ∧ zRd h1 m b T (i + 1) s := by
  have hl := zRd_lt H
  obtain ⟨h1, e1, F1, H1, hi4⟩ := z_skip Y hk hi H
  refine ⟨h1, ?_, F1, H1⟩
  apply gX13_eat
  simp only [zbR_0 (zRd_bR H), H.2.1, Option.bind_some, zRd_kind H hl.1, zki_eq (Y.2.2.2 i) (show k < 39 by omega)]
  rw [if_pos hi, jw_add1, e1, Option.bind_some]
/-- both -/
theorem z_both {P : Nat → uR} (Y : zHy m b T) (hP : zLv m b T mk D mX13_isSingle q P) (gP : ∀ a, a ≤ 400 → gp 0 a (P a)) : zLv m b T mk (D + 1 + 1) mX13_isBoth q (uBo T P) := by
  intro d hd h i s H hs hmk hos hi4
  obtain ⟨d, rfl⟩ : ∃ e, d = e + 1 + 1 := ⟨d - 2, by omega⟩
  refine zQr_of (fun r => gX13_isBoth) ?_
  rw [jm_O_eq (zRd_ob H)]
  have g1 := gP i hi4
  have lp := z_loop (K := fun _ h => kX13_isBoth_10 (d + 1) m b h) (ks := [16]) (P := P) (y := mX13_isSingle) (D := D) (d := d) (mk := mk) (q := q) Y (by simp) hP gP (by omega) (fun o h i s H c => by
      have c1 : ¬ uK T i = 16 := fun z => c (by rw [z]; exact List.mem_cons_self)
      apply gX13_isBoth_10
      have e : jm_D (d + 1) mX13_eat [.ref m, .ref b, .int 16] h = some (.inl (some (.int 0)), h) := z_eatN (k := 16) Y (by omega) c1 H
      rw [jm_O_eq (zRd_ob H), e, jc_I_eq, if_pos rfl]) (fun o h i s H c => by
      have c' : uK T i = 16 := by simpa using c
      obtain ⟨h1, e1, F1, H1⟩ := z_eatY (d := d) (k := 16) Y (by omega) c' H
      refine ⟨h1, none, F1, H1, fun r z => ?_⟩
      apply gX13_isBoth_10
      have e : jm_D (d + 1) mX13_eat [.ref m, .ref b, .int 16] h = some (.inl (some (.int 1)), h1) := e1
      rw [jm_O_eq (zRd_ob H), e, jc_I_eq, if_neg (by decide), jm_O_eq (zRd_ob H1)]
      rw [c'] at z
      exact z)
  refine zQr_seq (gp_le g1) (hP (d + 1) (by omega) h i s H hs hmk hos hi4) fun h2 s2 c2 n2 H2 => ⟨(zle_gp (gp_rep Y.2.2.1 (by simp) gP 400 _ g1.2.1)).2, ?_⟩
  refine lp 400 _ s2 h2 none (by omega) H2 (n2.1.trans hs) (n2.2.1.trans hmk) ?_ g1.2.1
  have := gp_os g1 c2
  rw [n2.2.2.1, List.length_append]
  omega
/-- tests -/
theorem z_test {P : Nat → uR} (Y : zHy m b T) (hP : zLv m b T mk D mX13_isBoth q P) (gP : ∀ a, a ≤ 400 → gp 0 a (P a)) : zLv m b T mk (D + 1 + 1) mX13_isTest q (uTe T P) := by
  intro d hd h i s H hs hmk hos hi4
  obtain ⟨d, rfl⟩ : ∃ e, d = e + 1 + 1 := ⟨d - 2, by omega⟩
  refine zQr_of (fun r => gX13_isTest) ?_
  rw [jm_O_eq (zRd_ob H)]
  have g1 := gP i hi4
  have lp := z_loop (K := fun _ h => kX13_isTest_10 (d + 1) m b h) (ks := [17]) (P := P) (y := mX13_isBoth) (D := D) (d := d) (mk := mk) (q := q) Y (by simp) hP gP (by omega) (fun o h i s H c => by
      have c1 : ¬ uK T i = 17 := fun z => c (by rw [z]; exact List.mem_cons_self)
      apply gX13_isTest_10
      have e : jm_D (d + 1) mX13_eat [.ref m, .ref b, .int 17] h = some (.inl (some (.int 0)), h) := z_eatN (k := 17) Y (by omega) c1 H
      rw [jm_O_eq (zRd_ob H), e, jc_I_eq, if_pos rfl]) (fun o h i s H c => by
      have c' : uK T i = 17 := by simpa using c
      obtain ⟨h1, e1, F1, H1⟩ := z_eatY (d := d) (k := 17) Y (by omega) c' H
      refine ⟨h1, none, F1, H1, fun r z => ?_⟩
      apply gX13_isTest_10
      have e : jm_D (d + 1) mX13_eat [.ref m, .ref b, .int 17] h = some (.inl (some (.int 1)), h1) := e1
      rw [jm_O_eq (zRd_ob H), e, jc_I_eq, if_neg (by decide), jm_O_eq (zRd_ob H1)]
      rw [c'] at z
      exact z)
  refine zQr_seq (gp_le g1) (hP (d + 1) (by omega) h i s H hs hmk hos hi4) fun h2 s2 c2 n2 H2 => ⟨(zle_gp (gp_rep Y.2.2.1 (by simp) gP 400 _ g1.2.1)).2, ?_⟩
  refine lp 400 _ s2 h2 none (by omega) H2 (n2.1.trans hs) (n2.2.1.trans hmk) ?_ g1.2.1
  have := gp_os g1 c2
  rw [n2.2.2.1, List.length_append]
  omega
end ZG
