/-! ===== LEVEL 3: the reference, a new book ===== -/
def zspL : List (Nat × Nat) := [(0, 401), (0, 401), (0, 401), (1, 401), (0, 401), (0, 401), (1, 8), (1, 12), (1, 1800), (0, 12), (0, 16), (0, 16), (0, 16), (0, 16), (0, 16), (0, 800), (0, 800), (0, 800)]
section ZN
variable {h h' h1 h2 h0 : jm_H} {d p k n : Nat} {Q : (Option Value ⊕ Nat) → jm_H → Prop}
def zsp (h : jm_H) (p k : Nat) : Prop := ∀ j, j < k → h.2.2 (p + 1 + j) = some (.inl ((zspL.getD j (0, 0)).1, (zspL.getD j (0, 0)).2, jm_zero (zspL.getD j (0, 0)).1))
theorem i_st {t L idx S : Nat} {c : Int32} {fs : List Value} {kk : jm_H → Option jm_R} (n0 : h0.1 = p + 1) (H0 : jA (fun a => a = p) k S h0 h) (O : oC h p 11 fs) (hA : zsp h p k) (e : ¬ c < 0 ∧ c.toNatClampNeg ≤ 1000000) (em : c.toNatClampNeg = L) (hsp : zspL.getD k (0, 0) = (t, L)) (hi : idx < fs.length) (g : ∀ h2, jA (fun a => a = p) (k + 1) (S + L) h0 h2 → oC h2 p 11 (fs.set idx (.ref (p + 1 + k))) → zsp h2 p (k + 1) → jE (kk h2) Q) : jE (jl_newa h t c fun a h' => (jm_pf h' p 11 idx 2 (.ref a)).bind fun h2 => kk h2) Q := by
  have n1 : h.1 = p + 1 + k := by rw [H0.1, n0]
  refine jE_newa (m := L) e em fun h1 F1 A1 => ?_
  obtain ⟨h2, e2, F2, O2⟩ := oC_w (k := idx) (t := 2) (v := .ref h.1) (oC_A O F1 id (by omega)) hi rfl
  rw [e2, Option.bind_some]
  have V : jA (fun a => a = p) 1 L h h1 := jA_mn F1 fun _ _ z => z.elim
  have G : jA (fun a => a = p) 0 0 h1 h2 := jA_S (jS_mn F2 fun a ha => by unfold jn at ha; omega)
  have GG : jA (fun a => a = p) 1 L h h2 := jA_tr V G
  rw [n1] at O2 A1
  refine g h2 (jA_tr H0 GG) O2 fun j hj => ?_
  by_cases cj : j = k
  · subst cj
    rw [hsp]
    exact (G.2.2 (p + 1 + j) (by rw [F1.1]; omega) (by omega)).trans A1
  · exact (GG.2.2 (p + 1 + j) (by omega) (by omega)).trans (hA j (by omega))
set_option maxHeartbeats 1000000 in
theorem i_X12 (n0 : h.1 = p + 1) (O : oC h p 11 [.null, .null, .null, .null, .null, .null, .int 0, .null, .int 0, .null, .null, .null, .int 0, .null, .null, .null, .null, .null, .null, .null, .int 0, .null]) : jF (jm_D (d + 1) mX12_init [.ref p] h) (.inl none) fun h' => jA (fun a => a = p) 18 6718 h h' ∧ zNB h' p := by
  have hp := O.2
  refine jE_of (fun r => gX12_init) ?_
  rw [jm_U_q hp]
  have Z0 : jA (fun a => a = p) 0 0 h h := jA_S jS_rf
  refine i_st n0 Z0 O (fun j hj => absurd hj (Nat.not_lt_zero _)) (by decide) rfl rfl (by simp) fun h1 G1 O1 S1 => ?_
  refine i_st n0 G1 O1 S1 (by decide) rfl rfl (by simp) fun h2 G2 O2 S2 => ?_
  refine i_st n0 G2 O2 S2 (by decide) rfl rfl (by simp) fun h3 G3 O3 S3 => ?_
  refine i_st n0 G3 O3 S3 (by decide) rfl rfl (by simp) fun h4 G4 O4 S4 => ?_
  refine i_st n0 G4 O4 S4 (by decide) rfl rfl (by simp) fun h5 G5 O5 S5 => ?_
  refine i_st n0 G5 O5 S5 (by decide) rfl rfl (by simp) fun h6 G6 O6 S6 => ?_
  refine i_st n0 G6 O6 S6 (by decide) rfl rfl (by simp) fun h7 G7 O7 S7 => ?_
  refine i_st n0 G7 O7 S7 (by decide) rfl rfl (by simp) fun h8 G8 O8 S8 => ?_
  refine i_st n0 G8 O8 S8 (by decide) rfl rfl (by simp) fun h9 G9 O9 S9 => ?_
  refine i_st n0 G9 O9 S9 (by decide) rfl rfl (by simp) fun h10 G10 O10 S10 => ?_
  refine i_st n0 G10 O10 S10 (by decide) rfl rfl (by simp) fun h11 G11 O11 S11 => ?_
  refine i_st n0 G11 O11 S11 (by decide) rfl rfl (by simp) fun h12 G12 O12 S12 => ?_
  refine i_st n0 G12 O12 S12 (by decide) rfl rfl (by simp) fun h13 G13 O13 S13 => ?_
  refine i_st n0 G13 O13 S13 (by decide) rfl rfl (by simp) fun h14 G14 O14 S14 => ?_
  refine i_st n0 G14 O14 S14 (by decide) rfl rfl (by simp) fun h15 G15 O15 S15 => ?_
  refine i_st n0 G15 O15 S15 (by decide) rfl rfl (by simp) fun h16 G16 O16 S16 => ?_
  refine i_st n0 G16 O16 S16 (by decide) rfl rfl (by simp) fun h17 G17 O17 S17 => ?_
  refine i_st n0 G17 O17 S17 (by decide) rfl rfl (by simp) fun h18 G18 O18 S18 => ?_
  have ia : ∀ {j L : Nat}, j < 18 → zspL.getD j (0, 0) = (0, L) → aC h18 (p + 1 + j) 0 L (fun _ => 0) := fun hj e => by
    have := S18 _ hj
    rw [e] at this
    exact ⟨this, by omega, by omega⟩
  have il : ∀ {j L : Nat}, j < 18 → zspL.getD j (0, 0) = (1, L) → lC h18 (p + 1 + j) L (fun _ => 0) := fun hj e => by
    have := S18 _ hj
    rw [e] at this
    exact ⟨this, by omega⟩
  refine jF_end ⟨G18, O18, ia (j := 0) (by omega) rfl, ia (j := 1) (by omega) rfl, ia (j := 2) (by omega) rfl, il (j := 3) (by omega) rfl, ia (j := 4) (by omega) rfl, ia (j := 5) (by omega) rfl, il (j := 6) (by omega) rfl, il (j := 7) (by omega) rfl, il (j := 8) (by omega) rfl, ia (j := 9) (by omega) rfl, ia (j := 10) (by omega) rfl, ia (j := 11) (by omega) rfl, ia (j := 12) (by omega) rfl, ia (j := 13) (by omega) rfl, ia (j := 14) (by omega) rfl, ia (j := 15) (by omega) rfl, ia (j := 16) (by omega) rfl, ia (j := 17) (by omega) rfl⟩
end ZN
