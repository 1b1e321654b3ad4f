/-! ===== LEVEL 3: the reference, notes' lines, all of them ===== -/
section ZL
variable {h h' h1 h2 : jm_H} {d D m b i q k n a idx : Nat} {T : List aK4} {mu al : Nat → Int32} {s s1 : zSt} {o : Option jm_R} {R : uR} {f : Nat → uR} {kk : jm_H → Option jm_R} {mk : Int} {NL : List zNl} {NK WH TO BG EN : Nat → Int32}
theorem uN97_m {X : Nat → Int32} (h : (uN97 T k n a).1 = true) : ∀ j, uK T j ≠ 8 → um X (uN97 T k n a).2.2.2 j = X j := by
  unfold uN97 at h ⊢
  intro j hj
  split
  · rw [ut_n]
    rfl
  · rename_i c
    rw [if_neg c] at h
    by_cases c8 : uK T a = 8
    · cases c1 : ((uLev T 8).2.2.2 (a + 1)).1 with
      | false =>
        rw [(wh_f c8 c1).1] at h
        cases h
      | true =>
        rw [wh_t c8 c1]
        exact if_neg (fun z => hj (by rw [z]; exact c8))
    · rw [(wh_n c8).1] at h
      cases h
theorem uN97_le (hT : gT T) (ha : a ≤ 400) : zle a (uN97 T k n a) := by
  unfold uN97
  split
  · exact zle_t hT (by omega) ha
  · exact zle_ub (zle_gp (gp_wh hT ha)) fun a ha => zle_t hT (by omega) ha
theorem uLine_4 (c : uK T i = 4) : uLine T n i = ub (ut T 35 (i + 1)) (uN97 T 4 n) := by
  unfold uLine uN97
  rw [if_neg (by omega), if_neg (by omega), if_pos c]
  congr 1
  funext a
  by_cases c : uK T a = 24
  · rw [if_pos c, if_pos ⟨rfl, c⟩]
  · rw [if_neg c, if_neg (fun z => c z.2)]
theorem uLine_7 (c : uK T i = 7) : uLine T n i = ub (ut T 35 (i + 1)) (uN97 T 7 n) := by
  unfold uLine uN97
  rw [if_neg (by omega), if_neg (by omega), if_neg (by omega), if_neg (by omega), if_pos c]
  congr 1
theorem uLine_5 (c : uK T i = 5) : uLine T n i = ub (ut T 35 (i + 1)) fun a => ub (ut T 6 a) fun a => ub (ut T 35 a) (uN97 T 5 n) := by
  unfold uLine uN97
  rw [if_neg (by omega), if_neg (by omega), if_neg (by omega), if_pos c]
  congr 1
theorem line_24 (hT : gT T) (hk : uK T i = 4 ∨ uK T i = 5 ∨ uK T i = 7) (hi : i ≤ 400) (h : (uLine T n i).1 = true) : uK T ((uLine T n i).2.1 - 1) = 24 ∧ ∀ u, i ≤ u → u + 1 < (uLine T n i).2.1 → uK T u ≠ 24 := by
  obtain ⟨e, e1, e2, e3, e4, e5, e6, e7, -⟩ := sh_note hT (q_shape h) hk (gp_line (n := n) hT hi).2.1
  rw [e3]
  refine ⟨by rw [Nat.add_sub_cancel]; exact e1, fun u a1 a2 => ?_⟩
  by_cases c : u = i
  · rw [c]; omega
  · exact e7 u (by omega) (by omega)
theorem z_lineN (Y : zHy m b T) (hz : zls T i = i) (hk : uK T i = 4 ∨ uK T i = 5 ∨ uK T i = 7) (hs : s.1 = 0) (hm : s.2.1 = -1) (hos : s.2.2.1.length ≤ i) (hX : ∀ j, i ≤ j → s.2.2.2.2.1 j = 0) (hn : s.2.2.2.1 = NL.length) (hnn : NL.length ≤ i) (HN : zRn h b NL) (H : zRd h m b T i s) : zLq (kX13_isLine_132 (d + 81) m b (Int32.ofNat (uK T i)) h) h m b T i s NL (uLine T n i) := by
  have hT := Y.2.2.1
  obtain ⟨NK, WH, TO, BG, EN, a1, a2, a3, a4, a5, a6⟩ := HN
  have H5 : zN5 h b NK WH TO BG EN := ⟨a1, a2, a3, a4, a5⟩
  have h15 : min NL.length 15 ≤ 15 := Nat.min_le_right _ _
  have hi := (zHy_n Y (i := i) (by omega)).1
  have L24 := line_24 (n := n) hT hk (by omega)
  have em : (if Int32.ofNat s.2.2.2.1 < 15 then Int32.ofNat s.2.2.2.1 else 15) = Int32.ofNat (min NL.length 15) := by rw [← hn]; exact z_min15 (by omega)
  refine zLq_of (fun r => gX13_isLine_132) ?_
  rw [jm_O_eq (zRd_ob H)]
  -- the call, as it answers
  have wrap : ∀ {o}, zLq o h m b T i s NL (uLine T n i) → zLq (jc_I o (fun x72 h70 => (if x72 = 0 then some (.inl (some (.int 0)), h70) else some (.inl (some (.int 1)), h70))) jx) h m b T i s NL (uLine T n i) := by
    intro o W
    obtain ⟨v, h2, rfl, rfl, q⟩ := W
    rw [jc_I_eq]
    by_cases c : (uLine T n i).1 = true
    · rw [if_pos c, if_neg (by decide)]
      exact jE_end ⟨by rw [if_pos c], q⟩
    · rw [if_neg c, if_pos rfl]
      exact jE_end ⟨by rw [if_neg c], q⟩
  refine wrap (zLq_of (fun r => gX13_isNote) ?_)
  obtain ⟨h1, e1, F1, H1⟩ := zRd_w3 6 H Y.1 Y.2.1 (show i < 401 by omega)
  obtain ⟨h2, e2, F2, H2, -⟩ := z_skip Y (show uK T i ≤ 36 by omega) rfl H1
  obtain ⟨h3, e3, F3, N3, H3⟩ := zN5_1 (Int32.ofNat (uK T i)) Y (zN5_r Y H5 (zS_tr F1 F2)) h15 H2
  obtain ⟨h4, e4, F4, N4, H4⟩ := zN5_2 (Int32.ofNat (i + 1)) Y N3 h15 H3
  simp only [zRd_I (k := 12) H rfl, Option.bind_some, zRd_R (k := 2) (x := b + 3) H rfl, H.2.1, e1, H1.2.1, jw_add1, e2, zRd_R (k := 13) (x := b + 11) H2 rfl, em, e3, zRd_R (k := 14) (x := b + 12) H3 rfl, H3.2.1, e4, jm_O_eq (zRd_ob H4)]
  have FA : zS m (zLU b) zRF h h4 := zS_tr (zLU_of (zS_tr F1 F2)) (zS_tr F3 F4)
  have N0 : zNx T i (i + 1) mu5 (alc (-1)) [] [] (s.1, s.2.1, s.2.2.1, s.2.2.2.1, upd s.2.2.2.2.1 i 6, s.2.2.2.2.2) (s.1, s.2.1, s.2.2.1, s.2.2.2.1, upd s.2.2.2.2.1 i 6, s.2.2.2.2.2) := zNx_s (by omega)
  have A := z_name (d := d + 78) (s := (s.1, s.2.1, s.2.2.1, s.2.2.2.1, upd s.2.2.2.2.1 i 6, s.2.2.2.2.2)) (mu := mu5) (al := alc (-1)) (x := 5) Y rfl (show alc (-1) (i + 1) = Int32.ofInt s.2.1 by rw [hm]; rfl) H4
  rcases zQr_el A with ⟨c, h5, s5, e5, F5, H5'⟩ | ⟨c, h5, s5, e5, F5, H5', P5⟩
  · have eu : (uLine T n i).1 = false ∧ (uLine T n i).2.1 = (ut T 35 (i + 1)).2.1 := by
      rcases hk with hk | hk | hk
      · rw [uLine_4 hk, ub_F (by rw [c]; decide)]; exact ⟨c, rfl⟩
      · rw [uLine_5 hk, ub_F (by rw [c]; decide)]; exact ⟨c, rfl⟩
      · rw [uLine_7 hk, ub_F (by rw [c]; decide)]; exact ⟨c, rfl⟩
    rw [e5, jc_I_eq, if_pos rfl]
    exact zLq_F (by rw [eu.2]; exact H5') (zS_tr FA (zLU_of F5)) eu.1
  rw [e5, jc_I_eq, if_neg (by decide)]
  obtain ⟨k1, x1⟩ := ut_s c
  rw [x1] at P5 H5'
  have H5'' : zRd h5 m b T (i + 1 + 1) s5 := H5'
  have hi2 := zHy_n Y (i := i + 1) (by omega)
  have FB : zS m (zLU b) zRF h h5 := zS_tr FA (zLU_of F5)
  have N5 := zN5_r Y N4 F5
  have NA : zNx T i (i + 1 + 1) mu5 (alc (-1)) [] [] (s.1, s.2.1, s.2.2.1, s.2.2.2.1, upd s.2.2.2.2.1 i 6, s.2.2.2.2.2) s5 := zNx_tr N0 P5 (by omega) (Nat.le_succ _)
  have hs5 : s5.1 = 0 := NA.1.trans hs
  have hm5 : s5.2.1 = -1 := NA.2.1.trans hm
  have hos5 : s5.2.2.1 = s.2.2.1 := NA.2.2.1.trans (List.append_nil _)
  by_cases c5 : uK T i = 5
  · rw [if_pos (show Int32.ofNat (uK T i) = 5 by rw [c5]; rfl), jm_O_eq (zRd_ob H5'')]
    have eu5 : uLine T n i = ub (ut T 6 (i + 1 + 1)) fun a => ub (ut T 35 a) (uN97 T 5 n) := by rw [uLine_5 c5, ub_ts k1]
    by_cases c6 : uK T (i + 1 + 1) = 6
    · obtain ⟨h6, e6, F6, H6⟩ := z_eatY (d := d + 79) (k := 6) Y (by omega) c6 H5''
      have e6' : jm_D (d + 80) mX13_eat [.ref m, .ref b, .int 6] h5 = some (.inl (some (.int 1)), h6) := e6
      have hi3 := zHy_n Y (i := i + 1 + 1) (by omega)
      rw [ub_ts c6] at eu5
      obtain ⟨h7, e7, F7, N7, H7⟩ := zN5_3 (Int32.ofNat (i + 1 + 1 + 1)) Y (zN5_r Y N5 F6) h15 H6
      rw [e6', jc_I_eq, if_neg (by decide)]
      simp only [zRd_R (k := 15) (x := b + 13) H6 rfl, Option.bind_some, H6.2.1, e7, jm_O_eq (zRd_ob H7)]
      have FC : zS m (zLU b) zRF h h7 := zS_tr FB (zS_tr (zLU_of F6) F7)
      have N1 : zNx T (i + 1 + 1) (i + 1 + 1 + 1) mu5 (alc (-1)) [] [] s5 s5 := zNx_s (by omega)
      have A8 := z_name (d := d + 78) (mu := mu5) (al := alc (-1)) (x := 5) Y rfl (show alc (-1) (i + 1 + 1 + 1) = Int32.ofInt s5.2.1 by rw [hm5]; rfl) H7
      rcases zQr_el A8 with ⟨c8, h8, s8, e8, F8, H8⟩ | ⟨c8, h8, s8, e8, F8, H8, P8⟩
      · rw [e8, jc_I_eq, if_pos rfl, eu5, ub_F (by rw [c8]; decide)]
        exact zLq_F H8 (zS_tr FC (zLU_of F8)) c8
      · obtain ⟨k8, x8⟩ := ut_s c8
        rw [x8] at P8 H8
        have H8' : zRd h8 m b T (i + 1 + 1 + 1 + 1) s8 := H8
        have hi4 := zHy_n Y (i := i + 1 + 1 + 1) (by omega)
        have NB := zNx_tr (zNx_tr NA N1 (by omega) (Nat.le_succ _)) P8 (by omega) (Nat.le_succ _)
        have hs8 : s8.1 = 0 := NB.1.trans hs
        have hm8 : s8.2.1 = -1 := NB.2.1.trans hm
        have hos8 : s8.2.2.1 = s.2.2.1 := NB.2.2.1.trans (List.append_nil _)
        have W := z_97 (d := d) (n := n) Y hk h15 hs8 hm8 (by rw [hos8]; omega) (show i + 1 + 1 + 1 + 1 ≤ 400 by omega) (zN5_r Y N7 F8) H8'
        rw [ub_ts k8, ← c5] at eu5
        rw [e8, jc_I_eq, if_neg (by decide)]
        rw [eu5] at L24 ⊢
        exact z_lineN1 Y hz hk (by omega) (uN97_le hT (show i + 1 + 1 + 1 + 1 ≤ 400 by omega)).2 hX hn L24 (fun z => uN97_m z) hs hm a6 (fun _ => if_pos rfl) (fun j hj => if_neg hj) ⟨NB.1, NB.2.1, NB.2.2.1, congrArg (· + 1) NB.2.2.2.1, NB.2.2.2.2⟩ (zS_tr FC (zLU_of F8)) W
    · have e6 := z_eatN (d := d + 79) (k := 6) Y (by omega) c6 H5''
      have e6' : jm_D (d + 80) mX13_eat [.ref m, .ref b, .int 6] h5 = some (.inl (some (.int 0)), h5) := e6
      rw [e6', jc_I_eq, if_pos rfl, eu5, show ut T 6 (i + 1 + 1) = uf (i + 1 + 1) from if_neg c6, ub_F (fun z => by cases z)]
      exact zLq_F (R := uf (i + 1 + 1)) H5'' FB rfl
  · rw [if_neg (show ¬ Int32.ofNat (uK T i) = 5 from fun z => c5 ((jw_eq (by omega) (show 5 < 2147483648 by omega)).mp z))]
    have eu : uLine T n i = uN97 T (uK T i) n (i + 1 + 1) := by
      rcases hk with hk | hk | hk
      · rw [uLine_4 hk, ub_ts k1, hk]
      · exact absurd hk c5
      · rw [uLine_7 hk, ub_ts k1, hk]
    have W := z_97 (d := d) (n := n) Y hk h15 hs5 hm5 (by rw [hos5]; omega) (show i + 1 + 1 ≤ 400 by omega) N5 H5''
    rw [eu] at L24 ⊢
    exact z_lineN1 Y hz hk (by omega) (uN97_le hT (show i + 1 + 1 ≤ 400 by omega)).2 hX hn L24 (fun z => uN97_m z) hs hm a6 (fun z => absurd z c5) (fun j _ => rfl) ⟨NA.1, NA.2.1, NA.2.2.1, congrArg (· + 1) NA.2.2.2.1, NA.2.2.2.2⟩ FB W
end ZL
