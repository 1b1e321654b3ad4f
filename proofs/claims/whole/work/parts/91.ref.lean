/-! ===== LEVEL 3: the reference, single tests, all levels ===== -/
section ZG
variable {h h' h1 h2 : jm_H} {d D m b i q k : Nat} {T : List aK4} {mu al : Nat → Int32} {s s1 : zSt} {o : Option jm_R} {R : uR} {f : Nat → uR} {kk : jm_H → Option jm_R} {mk : Int} {G Z Sf : Nat → uR}
theorem uSin_13 (c : uK T i = 13) : uSin T q G Z Sf i = ub (ut T 35 (i + 1)) fun a => ue (13, a - 1, 0) a := if_pos c
theorem uSin_14 (c : uK T i = 14) : uSin T q G Z Sf i = ub (ut T 35 (i + 1)) fun a => ub (ut T 35 a) fun a => ue (14, a - 2, a - 1) a := by
  unfold uSin
  rw [if_neg (show ¬ uK T i = 13 by omega), if_pos c]
theorem uSin_15 (c : uK T i = 15) : uSin T q G Z Sf i = if q = 0 then uf i else ub (G (i + 1)) (ue (15, 0, 0)) := by
  unfold uSin
  rw [if_neg (show ¬ uK T i = 13 by omega), if_neg (show ¬ uK T i = 14 by omega), if_pos c]
theorem uSin_22 (c : uK T i = 22) : uSin T q G Z Sf i = if q = 0 then uf i else ub (Z (i + 1)) (ut T 23) := by
  unfold uSin
  rw [if_neg (show ¬ uK T i = 13 by omega), if_neg (show ¬ uK T i = 14 by omega), if_neg (show ¬ uK T i = 15 by omega), if_pos c]
theorem uSin_o (c : uK T i ≠ 13 ∧ uK T i ≠ 14 ∧ uK T i ≠ 15 ∧ uK T i ≠ 22) : uSin T q G Z Sf i = uCp T Sf i := by
  unfold uSin
  rw [if_neg c.1, if_neg c.2.1, if_neg c.2.2.1, if_neg c.2.2.2]
  rfl
/-- an order that asks, and its two names -/
theorem z_ask2 (Y : zHy m b T) (hm : s.2.1 = mk) (hl : s.2.2.1.length < 800) (H : zRd h m b T i s) : zQr (jc_V (jm_D (d + 2) mX13_order [.ref m, .ref b, .int 14, .int 0, .int (Int32.ofNat i)] h) (fun h33 => jm_O h33 m 13 (jc_I (jm_D (d + 2) mX13_name [.ref m, .ref b, .int 5] h33) (fun x37 h35 => (if x37 = 0 then some (.inl (some (.int 0)), h35) else jm_O h35 m 13 (jc_I (jm_D (d + 2) mX13_name [.ref m, .ref b, .int 5] h35) (fun x41 h39 => (if x41 = 0 then some (.inl (some (.int 0)), h39) else some (.inl (some (.int 1)), h39))) jx))) jx)) jx) h m b T mu5 (alc mk) i s (ub (ut T 35 i) fun a => ub (ut T 35 a) fun a => ue (14, a - 2, a - 1) a) := by
  refine jE_V (z_order (d := d + 1) (o := (14, i, i + 1)) rfl rfl (show Int32.ofNat i = Int32.ofInt (i : Int) from jw_in.symm) H Y.1 Y.2.1 hl) ?_
  rintro h1 ⟨F1, H1⟩
  rw [jm_O_eq (zRd_ob H1)]
  have A := z_name (d := d) (s := (s.1, s.2.1, s.2.2.1 ++ [(14, i, i + 1)], s.2.2.2)) (mu := mu5) (al := alc mk) (x := 5) Y rfl (show alc mk i = Int32.ofInt s.2.1 by rw [hm]; rfl) H1
  have B := zQr_seq (f := ut T 35) (kk := fun h35 => jm_O h35 m 13 (jc_I (jm_D (d + 2) mX13_name [.ref m, .ref b, .int 5] h35) (fun x41 h39 => (if x41 = 0 then some (.inl (some (.int 0)), h39) else some (.inl (some (.int 1)), h39))) jx)) ut_le A fun h2 s2 c2 n2 H2 => ⟨ut_le, by
    rw [jm_O_eq (zRd_ob H2)]
    exact zQr_last (z_name (d := d) (mu := mu5) (al := alc mk) (x := 5) Y rfl (show alc mk _ = Int32.ofInt s2.2.1 by rw [n2.2.1]; show _ = Int32.ofInt s.2.1; rw [hm]; rfl) H2)⟩
  obtain ⟨v, h2, e2, rfl, F2, s2, X2, n2⟩ := B
  rw [e2]
  by_cases c : uK T i = 35
  · have e : ut T 35 i = ug (i + 1) := if_pos c
    rw [e] at X2 n2 ⊢
    have e1 : ∀ f : Nat → uR, ub (ug (i + 1)) f = f (i + 1) := fun f => rfl
    rw [e1] at X2 n2 ⊢
    rw [e1]
    by_cases c' : uK T (i + 1) = 35
    · have e' : ut T 35 (i + 1) = ug (i + 1 + 1) := if_pos c'
      rw [e'] at X2 n2 ⊢
      obtain ⟨p1, p2, p3, p4, p5, p6, p7⟩ := n2 rfl
      refine jE_end ⟨rfl, zS_tr F1 F2, s2, X2, fun _ => ⟨p1, p2, ?_, p4, p5, p6, p7⟩⟩
      rw [p3]
      show (s.2.2.1 ++ [(14, i, i + 1)]) ++ [] = s.2.2.1 ++ ([] ++ [(14, i + 1 + 1 - 2, i + 1 + 1 - 1)])
      rw [List.append_nil]
      rfl
    · have e' : ut T 35 (i + 1) = uf (i + 1) := if_neg c'
      rw [e'] at X2 n2 ⊢
      exact jE_end ⟨rfl, zS_tr F1 F2, s2, X2, fun z => (by cases z)⟩
  · have e : ut T 35 i = uf i := if_neg c
    rw [e] at X2 n2 ⊢
    have e1 : ∀ f : Nat → uR, ub (uf i) f = uf i := fun f => ub_F (fun z => by cases z)
    rw [e1] at X2 n2 ⊢
    rw [e1]
    exact jE_end ⟨rfl, zS_tr F1 F2, s2, X2, fun z => (by cases z)⟩
theorem z_single (Y : zHy m b T) (hq : q ≤ 8) (hG : q ≠ 0 → zLv m b T mk (D + 2) mX13_isSingle (q - 1) G) (hZ : q ≠ 0 → zLv m b T mk (D + 2) mX13_isTest (q - 1) Z) (hS : zLv m b T mk D mX13_isSum q Sf) (gG : ∀ a, a ≤ 400 → gp 0 a (G a)) (gZ : ∀ a, a ≤ 400 → gp 0 a (Z a)) (gS : ∀ a, a ≤ 400 → gp 0 a (Sf a)) : zLv m b T mk (D + 3) mX13_isSingle q (uSin T q G Z Sf) := by
  intro d hd h i s H hs hmk hos hi4
  obtain ⟨d, rfl⟩ : ∃ e, d = e + 3 := ⟨d - 3, by omega⟩
  have hl := zRd_lt H
  have hK := Y.2.2.2
  refine zQr_of (fun r => gX13_isSingle) ?_
  simp only [zbR_0 (zRd_bR H), H.2.1, Option.bind_some, zRd_kind H hl.1]
  have n : ∀ k, k < 39 → uK T i ≠ k → ¬ Int32.ofNat (zki (uK T i)) = Int32.ofNat (zki k) := fun k hk c z => c ((zki_eq (hK i) hk).mp z)
  by_cases c13 : uK T i = 13
  · rw [uSin_13 c13, if_pos (show Int32.ofNat (zki (uK T i)) = 13 by rw [c13]; rfl)]
    obtain ⟨h1, e1, F1, H1, hi⟩ := z_skip Y (by omega) c13 H
    simp only [jw_add1, e1, Option.bind_some, H1.2.1, jm_O_eq (zRd_ob H1)]
    refine zQr_fr F1 (zQr_sk (by omega) (zle_ub (zle_t Y.2.2.1 (by omega) (by omega)) (fun a ha => zle_ue ha)).2 ?_)
    exact z_askN (d := d) (k := 13) (by omega) rfl Y hmk (by omega) H1
  rw [if_neg (show ¬ Int32.ofNat (zki (uK T i)) = 13 from n 13 (by omega) c13)]
  by_cases c14 : uK T i = 14
  · rw [uSin_14 c14, if_pos (show Int32.ofNat (zki (uK T i)) = 14 by rw [c14]; rfl)]
    obtain ⟨h1, e1, F1, H1, hi⟩ := z_skip Y (by omega) c14 H
    simp only [jw_add1, e1, Option.bind_some, H1.2.1, jm_O_eq (zRd_ob H1)]
    refine zQr_fr F1 (zQr_sk (by omega) (zle_ub (zle_t Y.2.2.1 (by omega) (by omega)) (fun a ha => zle_ub (zle_t Y.2.2.1 (by omega) ha) (fun a ha => zle_ue ha))).2 ?_)
    exact z_ask2 (d := d) Y hmk (by omega) H1
  rw [if_neg (show ¬ Int32.ofNat (zki (uK T i)) = 14 from n 14 (by omega) c14)]
  by_cases c15 : uK T i = 15
  · rw [uSin_15 c15, if_pos (show Int32.ofNat (zki (uK T i)) = 15 by rw [c15]; rfl), jm_O_eq (zRd_ob H)]
    rcases z_deep (d := d) (k := 15) Y (by omega) (by omega) hq hs c15 H with ⟨q0, e⟩ | ⟨q0, h1, e, F1, H1⟩
    · have e' : jm_D (d + 2) mX13_deeper [.ref m, .ref b, .int 15] h = some (.inl (some (.int 0)), h) := e
      rw [e', jc_I_eq, if_pos rfl, if_pos q0]
      exact zQr_F (R := uf i) H zS_rf rfl
    · have e' : jm_D (d + 2) mX13_deeper [.ref m, .ref b, .int 15] h = some (.inl (some (.int 1)), h1) := e
      rw [e', jc_I_eq, if_neg (by decide), if_neg q0, jm_O_eq (zRd_ob H1)]
      have hi := zHy_n Y (i := i) (by omega)
      have g1 := gG (i + 1) (by omega)
      refine z_nest (q := q) (f := ue (15, 0, 0)) (by omega) (gp_le g1) hs F1 (hG q0 (d + 2) (by omega) h1 (i + 1) _ H1 rfl hmk (by show s.2.2.1.length ≤ i + 1; omega) (by omega)) fun h2 s2 z1 z2 H2 => ⟨ue_b, ?_⟩
      have g2 := gp_os g1 z1
      have g3 := g1.2.1
      exact z_backO (d := d + 1) (o := (15, 0, 0)) rfl rfl rfl Y ⟨hq, q0⟩ (s := (8 - q, s2)) rfl (by show s2.2.1.length < 800; rw [z2, List.length_append]; omega) H2
  rw [if_neg (show ¬ Int32.ofNat (zki (uK T i)) = 15 from n 15 (by omega) c15)]
  by_cases c22 : uK T i = 22
  · rw [uSin_22 c22, if_pos (show Int32.ofNat (zki (uK T i)) = 91 by rw [c22]; rfl), jm_O_eq (zRd_ob H)]
    rcases z_deep (d := d) (k := 22) Y (by omega) (by omega) hq hs c22 H with ⟨q0, e⟩ | ⟨q0, h1, e, F1, H1⟩
    · have e' : jm_D (d + 2) mX13_deeper [.ref m, .ref b, .int 91] h = some (.inl (some (.int 0)), h) := e
      rw [e', jc_I_eq, if_pos rfl, if_pos q0]
      exact zQr_F (R := uf i) H zS_rf rfl
    · have e' : jm_D (d + 2) mX13_deeper [.ref m, .ref b, .int 91] h = some (.inl (some (.int 1)), h1) := e
      rw [e', jc_I_eq, if_neg (by decide), if_neg q0, jm_O_eq (zRd_ob H1)]
      have hi := zHy_n Y (i := i) (by omega)
      have g1 := gZ (i + 1) (by omega)
      refine z_nest (q := q) (by omega) (gp_le g1) hs F1 (hZ q0 (d + 2) (by omega) h1 (i + 1) _ H1 rfl hmk (by show s.2.2.1.length ≤ i + 1; omega) (by omega)) fun h2 s2 z1 z2 H2 => ⟨ut_le, ?_⟩
      rw [jm_O_eq (zRd_ob H2)]
      exact zQr_last (z_shut (d := d) (k := 23) Y (by omega) (by omega) ⟨hq, q0⟩ (s := (8 - q, s2)) rfl H2)
  rw [if_neg (show ¬ Int32.ofNat (zki (uK T i)) = 91 from n 22 (by omega) c22), uSin_o ⟨c13, c14, c15, c22⟩, jm_O_eq (zRd_ob H)]
  exact zQr_Y (z_cmp Y hS gS (d + 2) (by omega) h i s H hs hmk hos hi4)
/-- all levels -/
theorem z_lev (Y : zHy m b T) : ∀ q, q ≤ 8 → zLv m b T mk (4 + 8 * q) mX13_isValue q (uLev T q).1 ∧ zLv m b T mk (8 + 8 * q) mX13_isSum q (uLev T q).2.1 ∧ zLv m b T mk (11 + 8 * q) mX13_isSingle q (uLev T q).2.2.1 ∧ zLv m b T mk (15 + 8 * q) mX13_isTest q (uLev T q).2.2.2 := by
  have hT := Y.2.2.1
  have up : ∀ (q D : Nat) (L : uL), q ≤ 8 → (q ≠ 0 → zLv m b T mk D mX13_isValue (q - 1) L.1 ∧ zLv m b T mk D mX13_isSum (q - 1) L.2.1 ∧ zLv m b T mk (D + 10) mX13_isSingle (q - 1) L.2.2.1 ∧ zLv m b T mk (D + 10) mX13_isTest (q - 1) L.2.2.2) → ((∀ a, a ≤ 400 → gp 0 a (L.1 a)) ∧ (∀ a, a ≤ 400 → gp 0 a (L.2.1 a)) ∧ (∀ a, a ≤ 400 → gp 0 a (L.2.2.1 a)) ∧ (∀ a, a ≤ 400 → gp 0 a (L.2.2.2 a))) → zLv m b T mk (D + 4) mX13_isValue q (uUp T q L).1 ∧ zLv m b T mk (D + 8) mX13_isSum q (uUp T q L).2.1 ∧ zLv m b T mk (D + 11) mX13_isSingle q (uUp T q L).2.2.1 ∧ zLv m b T mk (D + 15) mX13_isTest q (uUp T q L).2.2.2 := by
    intro q D L hq hL hg
    have g1 : ∀ a, a ≤ 400 → gp 0 a (uVal T q L.1 L.2.1 a) := fun a ha => gp_val hT (fun z => hg.1) (fun z => hg.2.1) ha
    have g2 : ∀ a, a ≤ 400 → gp 0 a (uPr T (uVal T q L.1 L.2.1) a) := fun a ha => gp_bb (c' := 0) (g1 a ha) (fun b _ hb => gp_rep hT (by simp) g1 400 b hb) (Nat.zero_le _)
    have g3 : ∀ a, a ≤ 400 → gp 0 a (uSu T (uPr T (uVal T q L.1 L.2.1)) a) := fun a ha => gp_bb (c' := 0) (g2 a ha) (fun b _ hb => gp_rep hT (by simp) g2 400 b hb) (Nat.zero_le _)
    have g4 : ∀ a, a ≤ 400 → gp 0 a (uSin T q L.2.2.1 L.2.2.2 (uSu T (uPr T (uVal T q L.1 L.2.1))) a) := fun a ha => gp_sin hT (fun z => hg.2.2.1) (fun z => hg.2.2.2) g3 ha
    have g5 : ∀ a, a ≤ 400 → gp 0 a (uBo T (uSin T q L.2.2.1 L.2.2.2 (uSu T (uPr T (uVal T q L.1 L.2.1)))) a) := fun a ha => gp_bb (c' := 0) (g4 a ha) (fun b _ hb => gp_rep hT (by simp) g4 400 b hb) (Nat.zero_le _)
    have v := z_value (q := q) Y hq (fun z => (hL z).1) (fun z => (hL z).2.1) hg.1 hg.2.1
    have p := z_prod Y v g1
    have s := z_sum Y p g2
    have si := z_single Y hq (fun z => (hL z).2.2.1) (fun z => (hL z).2.2.2) s hg.2.2.1 hg.2.2.2 g3
    have bo := z_both Y si g4
    exact ⟨v, s, si, z_test Y bo g5⟩
  intro q
  have gf : ∀ a, a ≤ 400 → gp 0 a (uf a) := fun a ha => gp_f ha
  induction q with
  | zero => exact fun hq => up 0 0 (uf, uf, uf, uf) hq (fun z => absurd rfl z) ⟨gf, gf, gf, gf⟩
  | succ q ih =>
    intro hq
    obtain ⟨i1, i2, i3, i4⟩ := ih (by omega)
    have := up (q + 1) (8 + 8 * q) (uLev T q) hq (fun _ => ⟨zLv_up i1 (by omega), i2, zLv_up i3 (by omega), zLv_up i4 (by omega)⟩) (gp_lev hT q)
    obtain ⟨j1, j2, j3, j4⟩ := this
    exact ⟨zLv_up j1 (by omega), zLv_up j2 (by omega), zLv_up j3 (by omega), zLv_up j4 (by omega)⟩
end ZG
