/-! ===== LEVEL 3: the reference, loops of tests ===== -/
section ZG
variable {h h' h1 h2 : jm_H} {d D m b i q k : Nat} {T : List aK4} {mu al : Nat → Int32} {s s1 : zSt} {o : Option jm_R} {R : uR} {f : Nat → uR} {kk : jm_H → Option jm_R} {mk : Int}
theorem zow_0 {k : Nat} (h : k ≠ 36) : zow (k, 0, 0) = 0 := if_neg h
theorem zoq_0 {k : Nat} (h : ¬ (10 ≤ k ∧ k ≤ 14)) : zoq (k, 0, 0) = -1 := if_neg h
theorem z_loop {K : Option Value → jm_H → Option jm_R} {ks : List Nat} {P : Nat → uR} {y : jm_M} (Y : zHy m b T) (hks : ∀ k ∈ ks, k ≤ 36 ∧ ¬ (10 ≤ k ∧ k ≤ 14) ∧ k ≠ 35 ∧ k ≠ 36) (hP : zLv m b T mk D y q P) (gP : ∀ a, a ≤ 400 → gp 0 a (P a)) (hD : D ≤ d + 1)
    (st : ∀ o h i s, zRd h m b T i s → uK T i ∉ ks → K o h = some (.inl (some (.int 1)), h))
    (go : ∀ o h i s, zRd h m b T i s → uK T i ∈ ks → ∃ h1 o', zS m (zRU b) zRF h h1 ∧ zRd h1 m b T (i + 1) s ∧ ∀ r, jc_I (jm_D (d + 1) y [.ref m, .ref b] h1) (fun x h2 => if x = 0 then some (.inl (some (.int 0)), h2) else jm_O h2 m 13 (jc_V (jm_D (d + 1) mX13_order [.ref m, .ref b, .int (Int32.ofNat (zo (uK T i, 0, 0)).1), .int 0, .int (-1)] h2) (fun h3 => K o' h3) jx)) jx = some r → K o h = some r) :
    ∀ (f i : Nat) (s : zSt) (h : jm_H) (o2 : Option Value), 400 ≤ f + i → zRd h m b T i s → s.1 = 8 - q → s.2.1 = mk → s.2.2.1.length ≤ i → i ≤ 400 → zQr (K o2 h) h m b T mu5 (alc mk) i s (uRep T ks P f i) := by
  intro f
  induction f with
  | zero =>
    intro i s h o2 hf H hs hmk hos hi
    have c : uK T i ∉ ks := fun z => by
      have := zHy_n Y (i := i) (hks _ z).1
      omega
    rw [st o2 h i s H c]
    exact zQr_T (R := ug i) H zS_rf rfl zNx_0
  | succ f ih =>
    intro i s h o2 hf H hs hmk hos hi
    unfold uRep
    by_cases c : uK T i ∈ ks
    · rw [if_pos c]
      obtain ⟨k1, k2, k3, k4⟩ := hks _ c
      have hn := zHy_n Y (i := i) k1
      obtain ⟨h1, o', F1, H1, g⟩ := go o2 h i s H c
      have g1 := gP (i + 1) (by omega)
      have gr : ∀ a, a ≤ 400 → gp 0 a (uRep T ks P f a) := fun a ha => gp_rep Y.2.2.1 (fun k hk => ⟨(hks k hk).1, (hks k hk).2.1⟩) gP f a ha
      refine zQr_of g (zQr_fr F1 (zQr_sk k3 (zle_ub (zle_gp g1) fun a ha => zle_ub (zle_ue ha) fun a ha => zle_gp (gr a ha)).2 ?_))
      refine zQr_seq (gp_le g1) (hP (d + 1) hD h1 (i + 1) s H1 hs hmk (by omega) (by omega)) fun h2 s2 c2 n2 H2 => ⟨(zle_ub (zle_ue g1.2.1) fun a ha => zle_gp (gr a ha)).2, ?_⟩
      have l2 : s2.2.2.1.length + 1 ≤ (P (i + 1)).2.1 := by
        have := gp_os g1 c2
        rw [n2.2.2.1, List.length_append]
        omega
      have := g1.2.1
      rw [jm_O_eq (zRd_ob H2)]
      refine z_putO (d := d) (o := (uK T i, 0, 0)) rfl (by rw [zow_0 k4]; rfl) (by rw [zoq_0 k2]; rfl) Y (by omega) H2 (fun h3 H3 => ?_) (gp_le (gr _ g1.2.1))
      exact ih _ _ h3 o' (by have := g1.1; omega) H3 (n2.1.trans hs) (n2.2.1.trans hmk) (by show (s2.2.2.1 ++ [_]).length ≤ _; rw [List.length_append]; exact l2) g1.2.1
    · rw [if_neg c, st o2 h i s H c]
      exact zQr_T (R := ug i) H zS_rf rfl zNx_0
/-- products -/
theorem z_prod {P : Nat → uR} (Y : zHy m b T) (hP : zLv m b T mk D mX13_isValue q P) (gP : ∀ a, a ≤ 400 → gp 0 a (P a)) : zLv m b T mk (D + 1 + 1) mX13_isProduct q (uPr T P) := by
  intro d hd h i s H hs hmk hos hi4
  obtain ⟨d, rfl⟩ : ∃ e, d = e + 1 + 1 := ⟨d - 2, by omega⟩
  refine zQr_of (fun r => gX13_isProduct) ?_
  rw [jm_O_eq (zRd_ob H)]
  have g1 := gP i hi4
  have K := Y.2.2.2
  have lp := z_loop (K := fun o h => kX13_isProduct_10 (d + 1) m b o h) (ks := [28, 29]) (P := P) (y := mX13_isValue) (D := D) (d := d) (mk := mk) (q := q) Y (by simp) hP gP (by omega) (fun o h i s H c => by
      have hl := zRd_lt H
      have c1 : ¬ uK T i = 28 := fun z => c (by rw [z]; exact List.mem_cons_self)
      have c2 : ¬ uK T i = 29 := fun z => c (by rw [z]; exact List.mem_cons_of_mem _ List.mem_cons_self)
      apply gX13_isProduct_10
      simp only [zbR_0 (zRd_bR H), H.2.1, Option.bind_some, zRd_kind H hl.1]
      rw [if_neg (show ¬ Int32.ofNat (zki (uK T i)) = 42 from fun z => c1 ((zki_eq (K i) (show 28 < 39 by omega)).mp z)), if_neg (show ¬ Int32.ofNat (zki (uK T i)) = 47 from fun z => c2 ((zki_eq (K i) (show 29 < 39 by omega)).mp z))]) (fun o h i s H c => by
      have hl := zRd_lt H
      have c' : uK T i = 28 ∨ uK T i = 29 := by simpa using c
      obtain ⟨h1, e1, F1, H1, hi⟩ := z_skip Y (show uK T i ≤ 36 by omega) rfl H
      refine ⟨h1, some (.int (Int32.ofNat (zo (uK T i, 0, 0)).1)), F1, H1, fun r z => ?_⟩
      have go : kX13_isProduct_59 (d + 1) m b o (Int32.ofNat (zo (uK T i, 0, 0)).1) h = some r := by
        apply gX13_isProduct_59
        simp only [H.2.1, Option.bind_some, jw_add1, e1, jm_O_eq (zRd_ob H1)]
        exact z
      apply gX13_isProduct_10
      simp only [zbR_0 (zRd_bR H), H.2.1, Option.bind_some, zRd_kind H hl.1]
      rcases c' with e | e
      · rw [e] at go ⊢
        rw [if_pos (show Int32.ofNat (zki 28) = 42 from rfl), if_pos (show Int32.ofNat (zki 28) = 42 from rfl)]
        exact go
      · rw [e] at go ⊢
        rw [if_neg (show ¬ Int32.ofNat (zki 29) = 42 by decide), if_pos (show Int32.ofNat (zki 29) = 47 from rfl), if_neg (show ¬ Int32.ofNat (zki 29) = 42 by decide)]
        exact go)
  refine zQr_seq (gp_le g1) (hP (d + 1) (by omega) h i s H hs hmk hos hi4) fun h2 s2 c2 n2 H2 => ⟨(zle_gp (gp_rep Y.2.2.1 (by simp) gP 400 _ g1.2.1)).2, ?_⟩
  refine lp 400 _ s2 h2 none (by omega) H2 (n2.1.trans hs) (n2.2.1.trans hmk) ?_ g1.2.1
  have := gp_os g1 c2
  rw [n2.2.2.1, List.length_append]
  omega
end ZG
