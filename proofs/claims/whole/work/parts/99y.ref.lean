/-! ===== LEVEL 3: the reference, a new model ===== -/
def zmdL : List (Nat × Nat) := [(1, 1800), (0, 12), (0, 12), (1, 1800), (0, 12), (0, 12), (1, 301), (1, 301), (1, 301), (3, 301), (0, 4000), (0, 301), (0, 301), (0, 800)]
def zmd (h : jm_H) (a k : Nat) : Prop := ∀ j, j < k → h.2.2 (a + j) = some (.inl ((zmdL.getD j (0, 0)).1, (zmdL.getD j (0, 0)).2, jm_zero (zmdL.getD j (0, 0)).1))
section ZN
variable {h h' h1 h2 h0 : jm_H} {d p k n a m b : Nat} {Q : (Option Value ⊕ Nat) → jm_H → Prop} {sc : Nat × (Nat → Int32)}
theorem i_st3 {t L idx S : Nat} {c : Int32} {fs : List Value} {kk : jm_H → Option jm_R} (hpa : p < a) (n0 : h0.1 = a) (H0 : jA (fun a => a = p) k S h0 h) (O : oC h p 12 fs) (hA : zmd h a k) (e : ¬ c < 0 ∧ c.toNatClampNeg ≤ 1000000) (em : c.toNatClampNeg = L) (hsp : zmdL.getD k (0, 0) = (t, L)) (hi : idx < fs.length) (g : ∀ h2, jA (fun a => a = p) (k + 1) (S + L) h0 h2 → oC h2 p 12 (fs.set idx (.ref (a + k))) → zmd h2 a (k + 1) → jE (kk h2) Q) : jE (jl_newa h t c fun a h' => (jm_pf h' p 12 idx 2 (.ref a)).bind fun h2 => kk h2) Q := by
  have n1 : h.1 = a + k := by rw [H0.1, n0]
  refine jE_newa (m := L) e em fun h1 F1 A1 => ?_
  obtain ⟨h2, e2, F2, O2⟩ := oC_w (k := idx) (t := 2) (v := .ref h.1) (oC_A O F1 id (by omega)) hi rfl
  rw [e2, Option.bind_some]
  have V : jA (fun a => a = p) 1 L h h1 := jA_mn F1 fun _ _ z => z.elim
  have G : jA (fun a => a = p) 0 0 h1 h2 := jA_S (jS_mn F2 fun a ha => by unfold jn at ha; omega)
  have GG : jA (fun a => a = p) 1 L h h2 := jA_tr V G
  rw [n1] at O2 A1
  refine g h2 (jA_tr H0 GG) O2 fun j hj => ?_
  by_cases cj : j = k
  · subst cj
    rw [hsp]
    exact (G.2.2 (a + j) (by rw [F1.1]; omega) (by omega)).trans A1
  · exact (GG.2.2 (a + j) (by omega) (by omega)).trans (hA j (by omega))
theorem zNB_zD (N : zNB h b) : zD h b aB0 := by
  obtain ⟨n0, n1, n2, n3, n4, n5, n6, n7, n8, n9, n10, n11, n12, n13, n14, n15, n16, n17, n18⟩ := N
  exact ⟨⟨0, n0⟩, ⟨_, n7, fun i hi => absurd hi (Nat.not_lt_zero _)⟩, ⟨_, n9, fun p hp => absurd hp (Nat.not_lt_zero _)⟩, ⟨_, n10, fun p hp => absurd hp (Nat.not_lt_zero _)⟩, ⟨_, _, _, _, _, _, _, n11, n12, n13, n14, n15, n16, n17, fun n hn => absurd hn (Nat.not_lt_zero _)⟩, gB_0⟩
set_option maxHeartbeats 2000000 in
theorem i_X13 (n0 : h.1 = p + 1) (O : oC h p 12 [.int 0, .null, .int 0, .int 0, .null, .int 0, .int 0, .int 0, .null, .null, .null, .null, .null, .null, .int 0, .int 0, .int 0, .int 0, .null, .int 0, .null, .null, .null, .null, .int 0, .null, .null, .null, .int 0, .int 0, .long 0]) : jF (jm_D (d + 2) mX13_init [.ref p] h) (.inl none) fun h' => jA (fun a => a = p) 34 18994 h h' ∧ zI h' p (p + 2) aB0 ((aB0.2.2.1, fun _ => 0), 0, 0) [] (-1) ∧ jr_I h' p 12 0 0 = some 0 := by
  have hp := O.2
  refine jE_of (fun r => gX13_init) ?_
  rw [jm_U_q hp]
  refine jE_newa (m := 2000) (by decide) rfl fun h1 F1 A1 => ?_
  rw [n0] at A1 ⊢
  have n1 : h1.1 = p + 2 := by rw [F1.1, n0]
  obtain ⟨h2, e2, F2, O2⟩ := oC_w (k := 1) (t := 2) (v := .ref (p + 1)) (oC_A O F1 id (by omega)) (by simp) rfl
  obtain ⟨h3, e3, F3, O3⟩ := oC_w (k := 3) (t := 0) (v := .int (-1)) O2 (by simp) rfl
  rw [e2, Option.bind_some, e3, Option.bind_some]
  have n3 : h3.1 = p + 2 := by rw [F3.1, F2.1, n1]
  have W : ∀ {g1 g2 : jm_H}, jS (jn p 1) g1 g2 → jA (fun a => a = p) 0 0 g1 g2 := fun F => jA_S (jS_mn F fun a ha => by unfold jn at ha; omega)
  have J3 : jA (fun a => a = p) 1 2000 h h3 := jA_tr (jA_tr (jA_mn F1 fun _ _ z => z.elim) (W F2)) (W F3)
  have A3 : h3.2.2 (p + 1) = some (.inl (0, 2000, jm_zero 0)) := ((W F3).2.2 (p + 1) (by rw [F2.1]; omega) (by omega)).trans (((W F2).2.2 (p + 1) (by omega) (by omega)).trans A1)
  refine jE_new (by omega) fun h4 F4 O4 => ?_
  rw [n3] at O4 ⊢
  have n4 : h4.1 = p + 2 + 1 := by rw [F4.1, n3]
  rw [jm_U_q (show 128 ≤ p + 2 by omega)]
  refine jE_V (i_X12 (d := d) n4 O4) ?_
  rintro h5 ⟨F5, N5⟩
  have n5 : h5.1 = p + 21 := by rw [F5.1, n4]
  have O5 : oC h5 p 12 [.int 0, .ref (p + 1), .int 0, .int (-1), .null, .int 0, .int 0, .int 0, .null, .null, .null, .null, .null, .null, .int 0, .int 0, .int 0, .int 0, .null, .int 0, .null, .null, .null, .null, .int 0, .null, .null, .null, .int 0, .int 0, .long 0] := oC_A (oC_A O3 F4 id (by omega)) F5 (by omega) (by omega)
  have J5 : jA (fun a => a = p) 20 8740 h h5 := jA_tr2 (jA_tr J3 (jA_mn F4 fun _ _ z => z.elim)) F5 (fun c c1 c2 => by omega)
  have A5 : h5.2.2 (p + 1) = some (.inl (0, 2000, jm_zero 0)) := (F5.2.2 (p + 1) (by omega) (by omega)).trans ((F4.2.2 (p + 1) (by omega) id).trans A3)
  obtain ⟨h6, e6, F6, O6⟩ := oC_w (k := 4) (t := 2) (v := .ref (p + 2)) O5 (by simp) rfl
  rw [e6, Option.bind_some]
  have J6 : jA (fun a => a = p) 20 8740 h h6 := jA_tr J5 (W F6)
  have n6 : h6.1 = p + 21 := by rw [F6.1, n5]
  have O6' : oC h6 p 12 [.int 0, .ref (p + 1), .int 0, .int (-1), .ref (p + 2), .int 0, .int 0, .int 0, .null, .null, .null, .null, .null, .null, .int 0, .int 0, .int 0, .int 0, .null, .int 0, .null, .null, .null, .null, .int 0, .null, .null, .null, .int 0, .int 0, .long 0] := O6
  clear O6 O5 O3 O2 O4 O
  have Z0 : jA (fun a => a = p) 0 0 h6 h6 := jA_S jS_rf
  have hpa : p < p + 21 := by omega
  refine i_st3 hpa n6 Z0 O6' (fun j hj => absurd hj (Nat.not_lt_zero _)) (by decide) rfl rfl (by simp) fun g1 G1 P1' S1 => ?_
  have P1 : oC g1 p 12 [.int 0, .ref (p + 1), .int 0, .int (-1), .ref (p + 2), .int 0, .int 0, .int 0, .ref (p + 21 + 0), .null, .null, .null, .null, .null, .int 0, .int 0, .int 0, .int 0, .null, .int 0, .null, .null, .null, .null, .int 0, .null, .null, .null, .int 0, .int 0, .long 0] := P1'
  clear P1'
  refine i_st3 hpa n6 G1 P1 S1 (by decide) rfl rfl (by simp) fun g2 G2 P2' S2 => ?_
  have P2 : oC g2 p 12 [.int 0, .ref (p + 1), .int 0, .int (-1), .ref (p + 2), .int 0, .int 0, .int 0, .ref (p + 21 + 0), .ref (p + 21 + 1), .null, .null, .null, .null, .int 0, .int 0, .int 0, .int 0, .null, .int 0, .null, .null, .null, .null, .int 0, .null, .null, .null, .int 0, .int 0, .long 0] := P2'
  clear P2'
  refine i_st3 hpa n6 G2 P2 S2 (by decide) rfl rfl (by simp) fun g3 G3 P3' S3 => ?_
  have P3 : oC g3 p 12 [.int 0, .ref (p + 1), .int 0, .int (-1), .ref (p + 2), .int 0, .int 0, .int 0, .ref (p + 21 + 0), .ref (p + 21 + 1), .ref (p + 21 + 2), .null, .null, .null, .int 0, .int 0, .int 0, .int 0, .null, .int 0, .null, .null, .null, .null, .int 0, .null, .null, .null, .int 0, .int 0, .long 0] := P3'
  clear P3'
  refine i_st3 hpa n6 G3 P3 S3 (by decide) rfl rfl (by simp) fun g4 G4 P4' S4 => ?_
  have P4 : oC g4 p 12 [.int 0, .ref (p + 1), .int 0, .int (-1), .ref (p + 2), .int 0, .int 0, .int 0, .ref (p + 21 + 0), .ref (p + 21 + 1), .ref (p + 21 + 2), .ref (p + 21 + 3), .null, .null, .int 0, .int 0, .int 0, .int 0, .null, .int 0, .null, .null, .null, .null, .int 0, .null, .null, .null, .int 0, .int 0, .long 0] := P4'
  clear P4'
  refine i_st3 hpa n6 G4 P4 S4 (by decide) rfl rfl (by simp) fun g5 G5 P5' S5 => ?_
  have P5 : oC g5 p 12 [.int 0, .ref (p + 1), .int 0, .int (-1), .ref (p + 2), .int 0, .int 0, .int 0, .ref (p + 21 + 0), .ref (p + 21 + 1), .ref (p + 21 + 2), .ref (p + 21 + 3), .ref (p + 21 + 4), .null, .int 0, .int 0, .int 0, .int 0, .null, .int 0, .null, .null, .null, .null, .int 0, .null, .null, .null, .int 0, .int 0, .long 0] := P5'
  clear P5'
  refine i_st3 hpa n6 G5 P5 S5 (by decide) rfl rfl (by simp) fun g6 G6 P6' S6 => ?_
  have P6 : oC g6 p 12 [.int 0, .ref (p + 1), .int 0, .int (-1), .ref (p + 2), .int 0, .int 0, .int 0, .ref (p + 21 + 0), .ref (p + 21 + 1), .ref (p + 21 + 2), .ref (p + 21 + 3), .ref (p + 21 + 4), .ref (p + 21 + 5), .int 0, .int 0, .int 0, .int 0, .null, .int 0, .null, .null, .null, .null, .int 0, .null, .null, .null, .int 0, .int 0, .long 0] := P6'
  clear P6'
  refine i_st3 hpa n6 G6 P6 S6 (by decide) rfl rfl (by simp) fun g7 G7 P7' S7 => ?_
  have P7 : oC g7 p 12 [.int 0, .ref (p + 1), .int 0, .int (-1), .ref (p + 2), .int 0, .int 0, .int 0, .ref (p + 21 + 0), .ref (p + 21 + 1), .ref (p + 21 + 2), .ref (p + 21 + 3), .ref (p + 21 + 4), .ref (p + 21 + 5), .int 0, .int 0, .int 0, .int 0, .ref (p + 21 + 6), .int 0, .null, .null, .null, .null, .int 0, .null, .null, .null, .int 0, .int 0, .long 0] := P7'
  clear P7'
  refine i_st3 hpa n6 G7 P7 S7 (by decide) rfl rfl (by simp) fun g8 G8 P8' S8 => ?_
  have P8 : oC g8 p 12 [.int 0, .ref (p + 1), .int 0, .int (-1), .ref (p + 2), .int 0, .int 0, .int 0, .ref (p + 21 + 0), .ref (p + 21 + 1), .ref (p + 21 + 2), .ref (p + 21 + 3), .ref (p + 21 + 4), .ref (p + 21 + 5), .int 0, .int 0, .int 0, .int 0, .ref (p + 21 + 6), .int 0, .ref (p + 21 + 7), .null, .null, .null, .int 0, .null, .null, .null, .int 0, .int 0, .long 0] := P8'
  clear P8'
  refine i_st3 hpa n6 G8 P8 S8 (by decide) rfl rfl (by simp) fun g9 G9 P9' S9 => ?_
  have P9 : oC g9 p 12 [.int 0, .ref (p + 1), .int 0, .int (-1), .ref (p + 2), .int 0, .int 0, .int 0, .ref (p + 21 + 0), .ref (p + 21 + 1), .ref (p + 21 + 2), .ref (p + 21 + 3), .ref (p + 21 + 4), .ref (p + 21 + 5), .int 0, .int 0, .int 0, .int 0, .ref (p + 21 + 6), .int 0, .ref (p + 21 + 7), .ref (p + 21 + 8), .null, .null, .int 0, .null, .null, .null, .int 0, .int 0, .long 0] := P9'
  clear P9'
  refine i_st3 hpa n6 G9 P9 S9 (by decide) rfl rfl (by simp) fun g10 G10 P10' S10 => ?_
  have P10 : oC g10 p 12 [.int 0, .ref (p + 1), .int 0, .int (-1), .ref (p + 2), .int 0, .int 0, .int 0, .ref (p + 21 + 0), .ref (p + 21 + 1), .ref (p + 21 + 2), .ref (p + 21 + 3), .ref (p + 21 + 4), .ref (p + 21 + 5), .int 0, .int 0, .int 0, .int 0, .ref (p + 21 + 6), .int 0, .ref (p + 21 + 7), .ref (p + 21 + 8), .ref (p + 21 + 9), .null, .int 0, .null, .null, .null, .int 0, .int 0, .long 0] := P10'
  clear P10'
  refine i_st3 hpa n6 G10 P10 S10 (by decide) rfl rfl (by simp) fun g11 G11 P11' S11 => ?_
  have P11 : oC g11 p 12 [.int 0, .ref (p + 1), .int 0, .int (-1), .ref (p + 2), .int 0, .int 0, .int 0, .ref (p + 21 + 0), .ref (p + 21 + 1), .ref (p + 21 + 2), .ref (p + 21 + 3), .ref (p + 21 + 4), .ref (p + 21 + 5), .int 0, .int 0, .int 0, .int 0, .ref (p + 21 + 6), .int 0, .ref (p + 21 + 7), .ref (p + 21 + 8), .ref (p + 21 + 9), .ref (p + 21 + 10), .int 0, .null, .null, .null, .int 0, .int 0, .long 0] := P11'
  clear P11'
  refine i_st3 hpa n6 G11 P11 S11 (by decide) rfl rfl (by simp) fun g12 G12 P12' S12 => ?_
  have P12 : oC g12 p 12 [.int 0, .ref (p + 1), .int 0, .int (-1), .ref (p + 2), .int 0, .int 0, .int 0, .ref (p + 21 + 0), .ref (p + 21 + 1), .ref (p + 21 + 2), .ref (p + 21 + 3), .ref (p + 21 + 4), .ref (p + 21 + 5), .int 0, .int 0, .int 0, .int 0, .ref (p + 21 + 6), .int 0, .ref (p + 21 + 7), .ref (p + 21 + 8), .ref (p + 21 + 9), .ref (p + 21 + 10), .int 0, .ref (p + 21 + 11), .null, .null, .int 0, .int 0, .long 0] := P12'
  clear P12'
  refine i_st3 hpa n6 G12 P12 S12 (by decide) rfl rfl (by simp) fun g13 G13 P13' S13 => ?_
  have P13 : oC g13 p 12 [.int 0, .ref (p + 1), .int 0, .int (-1), .ref (p + 2), .int 0, .int 0, .int 0, .ref (p + 21 + 0), .ref (p + 21 + 1), .ref (p + 21 + 2), .ref (p + 21 + 3), .ref (p + 21 + 4), .ref (p + 21 + 5), .int 0, .int 0, .int 0, .int 0, .ref (p + 21 + 6), .int 0, .ref (p + 21 + 7), .ref (p + 21 + 8), .ref (p + 21 + 9), .ref (p + 21 + 10), .int 0, .ref (p + 21 + 11), .ref (p + 21 + 12), .null, .int 0, .int 0, .long 0] := P13'
  clear P13'
  refine i_st3 hpa n6 G13 P13 S13 (by decide) rfl rfl (by simp) fun g14 G14 P14' S14 => ?_
  have P14 : oC g14 p 12 [.int 0, .ref (p + 1), .int 0, .int (-1), .ref (p + 2), .int 0, .int 0, .int 0, .ref (p + 21 + 0), .ref (p + 21 + 1), .ref (p + 21 + 2), .ref (p + 21 + 3), .ref (p + 21 + 4), .ref (p + 21 + 5), .int 0, .int 0, .int 0, .int 0, .ref (p + 21 + 6), .int 0, .ref (p + 21 + 7), .ref (p + 21 + 8), .ref (p + 21 + 9), .ref (p + 21 + 10), .int 0, .ref (p + 21 + 11), .ref (p + 21 + 12), .ref (p + 21 + 13), .int 0, .int 0, .long 0] := P14'
  clear P14'
  have J : jA (fun a => a = p) 34 18994 h g14 := jA_tr J6 G14
  have FB : ∀ c, p + 1 ≤ c → c < p + 21 → g14.2.2 c = h5.2.2 c := fun c c1 c2 => (G14.2.2 c (by omega) (by omega)).trans ((W F6).2.2 c (by omega) (by omega))
  have A14 : g14.2.2 (p + 1) = some (.inl (0, 2000, jm_zero 0)) := (FB (p + 1) (by omega) (by omega)).trans A5
  have D14 : zD g14 (p + 2) aB0 := zD_eq (zNB_zD N5) (fun c c1 c2 => FB c (by omega) (by omega))
  refine jF_end ⟨J, ⟨⟨⟨hp, fun o ho => ?_, fun k hk => ?_⟩, oC_R P14 rfl, D14, ⟨Nat.zero_le _, fun p hp => absurd hp (Nat.not_lt_zero _), ⟨fun _ => 0, ⟨S14 0 (by omega), by omega⟩, fun p hp => absurd hp (Nat.not_lt_zero _)⟩, ⟨fun _ => 0, ⟨S14 1 (by omega), by omega, by omega⟩, fun p hp => absurd hp (Nat.not_lt_zero _)⟩, fun _ => 0, ⟨S14 2 (by omega), by omega, by omega⟩, fun p hp => absurd hp (Nat.not_lt_zero _)⟩, oC_I P14 rfl, oC_I P14 rfl, Or.inl rfl⟩, fun p hp => absurd hp (Nat.not_lt_zero _), oC_I P14 rfl, oC_I P14 rfl, Nat.zero_le _, fun _ => 0, ⟨A14, by omega, by omega⟩, fun i hi => absurd hi (Nat.not_lt_zero _)⟩, oC_I P14 rfl⟩
  · by_cases o0 : o = 0
    · subst o0
      rw [show p + 0 = p from rfl, P14.1]
      rfl
    · by_cases o1 : o = 1
      · subst o1
        rw [A14]
        rfl
      · obtain ⟨j, rfl⟩ : ∃ j, o = 21 + j := ⟨o - 21, by omega⟩
        have hj : j < 14 := by omega
        rw [← Nat.add_assoc, S14 j hj]
        rcases (by omega : j = 0 ∨ j = 1 ∨ j = 2 ∨ j = 3 ∨ j = 4 ∨ j = 5 ∨ j = 6 ∨ j = 7 ∨ j = 8 ∨ j = 9 ∨ j = 10 ∨ j = 11 ∨ j = 12 ∨ j = 13) with rfl | rfl | rfl | rfl | rfl | rfl | rfl | rfl | rfl | rfl | rfl | rfl | rfl | rfl <;> rfl
  · have hk28 : k < 28 := by
      by_cases c : k < 28
      · exact c
      · unfold zr at hk
        rw [List.getD_eq_getElem?_getD, List.getElem?_eq_none (by show 28 ≤ k; omega)] at hk
        exact absurd hk (by decide)
    rcases (by omega : k = 0 ∨ k = 1 ∨ k = 2 ∨ k = 3 ∨ k = 4 ∨ k = 5 ∨ k = 6 ∨ k = 7 ∨ k = 8 ∨ k = 9 ∨ k = 10 ∨ k = 11 ∨ k = 12 ∨ k = 13 ∨ k = 14 ∨ k = 15 ∨ k = 16 ∨ k = 17 ∨ k = 18 ∨ k = 19 ∨ k = 20 ∨ k = 21 ∨ k = 22 ∨ k = 23 ∨ k = 24 ∨ k = 25 ∨ k = 26 ∨ k = 27) with rfl | rfl | rfl | rfl | rfl | rfl | rfl | rfl | rfl | rfl | rfl | rfl | rfl | rfl | rfl | rfl | rfl | rfl | rfl | rfl | rfl | rfl | rfl | rfl | rfl | rfl | rfl | rfl <;> first | exact oC_R P14 rfl | exact absurd hk (by decide)
end ZN
