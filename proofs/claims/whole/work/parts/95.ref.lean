/-! ===== LEVEL 3: the reference, a play's line ===== -/
section ZL
variable {h h' h1 h2 : jm_H} {d D m b i q k n : Nat} {T : List aK4} {mu al : Nat → Int32} {s s1 : zSt} {o : Option jm_R} {R : uR} {f : Nat → uR} {kk : jm_H → Option jm_R} {mk : Int} {NL : List zNl}
theorem z_lineP (Y : zHy m b T) (hz : zls T i = i) (hk : uK T i = 1) (hs : s.1 = 0) (hX : ∀ j, i ≤ j → s.2.2.2.2.1 j = 0) (hn : s.2.2.2.1 = NL.length) (HN : zRn h b NL) (H : zRd h m b T i s) : zLq ((jr_I h m 12 5 0).bind fun x12 => (jm_pf h m 12 5 0 (.int (x12 + 1))).bind fun h14 => (jm_pf h14 m 12 7 0 (.int (-1))).bind fun h16 => jm_O h16 m 13 (jc_I (jm_D (d + 21) mX13_name [.ref m, .ref b, .int 2] h16) (fun x20 h18 => (if x20 = 0 then some (.inl (some (.int 0)), h18) else jm_O h18 m 13 (jc_I (jm_D (d + 21) mX13_eat [.ref m, .ref b, .int 2] h18) (fun x24 h22 => (if x24 = 0 then some (.inl (some (.int 0)), h22) else jm_O h22 m 13 (jc_I (jm_D (d + 21) mX13_isPart [.ref m, .ref b] h22) (fun x28 h26 => (if x28 = 0 then some (.inl (some (.int 0)), h26) else (jr_R h26 b 11 2 2).bind fun a30 => (jr_I h26 m 12 5 0).bind fun x32 => (jm_asi h26 a30 0 x32 7).bind fun h34 => jm_O h34 m 13 (jc_I (jm_D (d + 21) mX13_eat [.ref m, .ref b, .int 59] h34) (fun x38 h36 => jm_Y .boolean x38 (some (.inl (some (.int x38)), h36))) jx))) jx))) jx))) jx)) h m b T i s NL (uLine T n i) := by
  have eu : uLine T n i = ub (ut T 35 (i + 1)) fun a => ub (ut T 2 a) fun a => ub (uPart T 8 a) (ut T 24) := by
    unfold uLine
    rw [if_neg (by omega), if_pos hk]
  obtain ⟨h1, e1, F1, H1, hi⟩ := z_skip Y (by omega) hk H
  obtain ⟨h2, e2, F2, H2⟩ := zRd_7 (-1) H1 Y.2.1
  have e2' : jm_pf h1 m 12 7 0 (.int (-1)) = some h2 := e2
  simp only [H.2.1, Option.bind_some, jw_add1, e1, e2', jm_O_eq (zRd_ob H2)]
  rw [eu]
  have FA := zS_tr F1 F2
  have z1 : zmk T (i + 1) = [] := zmk_1 hk
  let muP : Nat → Int32 := fun j => if j = i + 1 then 2 else mu4 T j
  have A := z_name (d := d + 19) (mu := muP) (al := al4 T) (x := 2) Y (show muP (i + 1) = 2 from if_pos rfl) (show al4 T (i + 1) = Int32.ofInt (-1) by unfold al4; rw [z1]; rfl) H2
  rcases zQr_el A with ⟨c, h3, s3, e3, F3, H3⟩ | ⟨c, h3, s3, e3, F3, H3, N3⟩
  · rw [e3, jc_I_eq, if_pos rfl, ub_F (by rw [c]; decide)]
    exact zLq_F H3 (zLU_of (zS_tr FA F3)) c
  rw [e3, jc_I_eq, if_neg (by decide)]
  obtain ⟨k1, x1⟩ := ut_s c
  rw [x1] at N3 H3 ⊢
  show zLq _ h m b T i s NL (ub (ut T 2 (i + 1 + 1)) fun a => ub (uPart T 8 a) (ut T 24))
  have H3' : zRd h3 m b T (i + 1 + 1) s3 := H3
  have N3' : zNx T (i + 1) (i + 1 + 1) muP (al4 T) [] [] (s.1, -1, s.2.2) s3 := N3
  have FB := zS_tr FA F3
  rw [jm_O_eq (zRd_ob H3')]
  by_cases c2 : uK T (i + 1 + 1) = 2
  · obtain ⟨h4, e4, F4, H4⟩ := z_eatY (d := d + 20) (k := 2) Y (by omega) c2 H3'
    have e4' : jm_D (d + 21) mX13_eat [.ref m, .ref b, .int 2] h3 = some (.inl (some (.int 1)), h4) := e4
    rw [e4', jc_I_eq, if_neg (by decide), ub_ts c2, jm_O_eq (zRd_ob H4)]
    have hi2 := zHy_n Y (i := i + 1 + 1) (by omega)
    have z2 : zmk T (i + 1 + 1) = [] := (zmk_s (j := i + 1) (by omega)).trans z1
    have z3 : zmk T (i + 1 + 1 + 1) = [] := (zmk_s (j := i + 1 + 1) (by omega)).trans z2
    have FC := zS_tr FB F4
    have P := z_parts Y 8 (Nat.le_refl _) (d + 21) (by omega) h4 (i + 1 + 1 + 1) s3 H4 (N3'.1.trans hs) (by rw [N3'.2.1, z3]; rfl) (by omega) (by rw [Nat.add_sub_cancel]; omega)
    have P' := zQr_cg (mu' := muP) (al' := al4 T) P (fun j a1 _ _ => by show mu4 T j = if j = i + 1 then 2 else mu4 T j; rw [if_neg (by omega)]) (fun j _ _ _ => rfl)
    have gp8 := gp_part Y.2.2.1 8 (i + 1 + 1 + 1) (by omega)
    rcases zQr_el P' with ⟨c5, h5, s5, e5, F5, H5⟩ | ⟨c5, h5, s5, e5, F5, H5, N5⟩
    · rw [e5, jc_I_eq, if_pos rfl, ub_F (by rw [c5]; decide)]
      exact zLq_F H5 (zLU_of (zS_tr FC F5)) c5
    rw [e5, jc_I_eq, if_neg (by decide), ub_T c5]
    have gs8 := gs_part 8 (i + 1 + 1 + 1) c5
    have N4 : zNx T (i + 1 + 1) (i + 1 + 1 + 1) muP (al4 T) [] [] s3 s3 := zNx_s (by omega)
    have N0 : zNx T i (i + 1) muP (al4 T) [] [] (s.1, -1, s.2.2) (s.1, -1, s.2.2) := zNx_s (by omega)
    have NA := zNx_tr (zNx_tr (zNx_tr N0 N3' (by omega) (by omega)) N4 (by omega) (by omega)) N5 (by omega) gp8.1
    generalize uPart T 8 (i + 1 + 1 + 1) = R at *
    obtain ⟨R1, e, Ro, Rm⟩ := R
    have h400 : e ≤ 400 := gp8.2.1
    have hge : i + 1 + 1 + 1 ≤ e := gp8.1
    have hro : Ro = [] := gs8.2.2
    have h24 : ∀ u, i ≤ u → u < e → uK T u ≠ 24 := fun u a1 a2 => by
      by_cases a3 : i + 1 + 1 + 1 ≤ u
      · exact gs8.2.1 u a3 a2
      · rcases (by omega : u = i ∨ u = i + 1 ∨ u = i + 1 + 1) with rfl | rfl | rfl <;> omega
    have hl := zls_in hz h24
    have H5' : zRd h5 m b T e s5 := H5
    obtain ⟨h6, e6, F6, H6⟩ := zRd_w3 7 H5' Y.1 Y.2.1 (show e < 401 by omega)
    rw [zRd_R (k := 2) (x := b + 3) H5' rfl, Option.bind_some, H5'.2.1, Option.bind_some, e6, Option.bind_some, jm_O_eq (zRd_ob H6)]
    have FD := zS_tr FC (zS_tr F5 F6)
    show zLq _ h m b T i s NL ((ut T 24 e).1, (ut T 24 e).2.1, Ro ++ (ut T 24 e).2.2.1, Rm ++ (ut T 24 e).2.2.2)
    by_cases c7 : uK T e = 24
    · obtain ⟨h7, e7, F7, H7⟩ := z_eatY (d := d + 20) (k := 24) Y (by omega) c7 H6
      have e7' : jm_D (d + 21) mX13_eat [.ref m, .ref b, .int 59] h6 = some (.inl (some (.int 1)), h7) := e7
      have x7 : ut T 24 e = ug (e + 1) := if_pos c7
      rw [e7', jc_I_eq, x7]
      have FE := zS_tr FD F7
      refine jE_end ⟨rfl, zLU_of FE, _, H7, fun _ => ⟨NL, zRn_r Y HN FE, ?_, ?_⟩⟩
      · exact NA.2.2.2.1.trans hn
      · obtain ⟨p1, p2, p3, p4, p5, p6, p7⟩ := NA
        refine ⟨p1.trans hs, p2, ?_, fun j => ?_, fun j k35 => ?_, fun j _ => ?_, ?_⟩
        · show s5.2.2.1 = s.2.2.1 ++ zop (Ro ++ [])
          rw [hro]
          have p3' : s5.2.2.1 = s.2.2.1 ++ ([] ++ [] ++ [] ++ Ro) := p3
          rw [p3', hro]
          rfl
        · show upd s5.2.2.2.2.1 e 7 j = if i ≤ j ∧ j < e + 1 then zme T j else s.2.2.2.2.1 j
          have p5' : zMA T i e muP s.2.2.2.2.1 s5.2.2.2.2.1 := p5
          by_cases cj : j = e
          · subst cj
            rw [show upd s5.2.2.2.2.1 j 7 j = 7 from if_pos rfl, if_pos ⟨by omega, by omega⟩]
            unfold zme
            rw [hl j (by omega) (Nat.le_refl _), if_neg (by omega), if_pos hk, if_neg (by omega), if_pos c7]
          · rw [show upd s5.2.2.2.2.1 e 7 j = s5.2.2.2.2.1 j from if_neg cj, zMA_line p5' hX (g := zme T) (fun j a1 a2 => ?_) j]
            · by_cases cc : i ≤ j ∧ j < e
              · rw [if_pos cc, if_pos ⟨cc.1, by omega⟩]
              · rw [if_neg cc, if_neg (by omega)]
            · unfold zme
              rw [hl j a1 (by omega), if_neg (by omega), if_pos hk]
              by_cases c35 : uK T j = 35
              · rw [if_pos c35, if_pos c35]
              · rw [if_neg c35, if_neg c35, if_neg (h24 j a1 a2)]
        · show s5.2.2.2.2.2.1 j = if i ≤ j ∧ j < e + 1 then zar T j else s.2.2.2.2.2.1 j
          have p6' : zMA T i e (al4 T) s.2.2.2.2.2.1 s5.2.2.2.2.2.1 := p6
          rw [zMA_al p6' (g := zar T) (fun j a1 a2 _ => by unfold zar; rw [hl j a1 (by omega), if_pos hk]) j k35]
          by_cases cc : i ≤ j ∧ j < e
          · rw [if_pos cc, if_pos ⟨cc.1, by omega⟩]
          · by_cases ce : j = e
            · rw [ce] at k35; omega
            · rw [if_neg cc, if_neg (by omega)]
        · show s5.2.2.2.2.2.2 j = um s.2.2.2.2.2.2 (Rm ++ []) j
          rw [List.append_nil Rm]
          exact congrFun p7 j
        · rw [if_pos (Or.inr hk)]
    · have e7 := z_eatN (d := d + 20) (k := 24) Y (by omega) c7 H6
      have e7' : jm_D (d + 21) mX13_eat [.ref m, .ref b, .int 59] h6 = some (.inl (some (.int 0)), h6) := e7
      have x7 : ut T 24 e = uf e := if_neg c7
      rw [e7', jc_I_eq, x7]
      exact zLq_F (R := (false, e, Ro ++ [], Rm ++ [])) H6 (zLU_of FD) rfl
  · have e4 := z_eatN (d := d + 20) (k := 2) Y (by omega) c2 H3'
    have e4' : jm_D (d + 21) mX13_eat [.ref m, .ref b, .int 2] h3 = some (.inl (some (.int 0)), h3) := e4
    have x4 : ut T 2 (i + 1 + 1) = uf (i + 1 + 1) := if_neg c2
    rw [e4', jc_I_eq, if_pos rfl, x4, ub_F (fun z => by cases z)]
    exact zLq_F (R := uf (i + 1 + 1)) H3' (zLU_of FB) rfl
end ZL
