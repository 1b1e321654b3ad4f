/-! ===== LEVEL 3: the law: one round, and all rounds ===== -/
section ZL
variable {h h' h1 : jm_H} {d x b n s k : Nat} {B : aB} {G G' : aG} {tp tp' : List Nat} {er : Int} {sc : Nat × (Nat → Int32)} {Z : Nat → Int64} {i4 t v w w1 w2 w3 w4 w5 : Int32} {o5 o6 o7 o8 : Option Value} {Q : (Option Value ⊕ Nat) → jm_H → Prop}
theorem l_step (S : lI h x b B G tp er sc Z) (A1 : lA sc (i4 + 1) w1) (A2 : lA sc (i4 + 2) w2) (A3 : lA sc (i4 + 3) w3) (A4 : lA sc (i4 + 4) w4) (A5 : lA sc (i4 + 5) w5) (g : lG (d + 90) sc x i4 h Q) : jE (kL_law_40 (d + 90) 82 x (x + 369) (x + 404) i4 o5 o6 o7 o8 w h) Q := by
  by_cases c : w.toInt < 0 ∨ 35 < w.toInt
  · exact jE_of (fun r => gL_law_40_x c) (g _ _ _ _ _ ⟨_, _, _, _, _, _, S⟩ (by omega) (by omega))
  by_cases c0 : w.toInt = 0
  · exact jE_of (fun r => gL_law_40_0 c0) (l_feed S A1 A2 A3 A4 A5 g)
  by_cases c1 : w.toInt = 1
  · exact jE_of (fun r => gL_law_40_1 c1) (l_trim S A1 g)
  by_cases c2 : w.toInt = 2
  · exact jE_of (fun r => gL_law_40_2 c2) (l_teach S g)
  by_cases c3 : w.toInt = 3
  · exact jE_of (fun r => gL_law_40_3 c3) (l_errorAt S g)
  by_cases c4 : w.toInt = 4
  · exact jE_of (fun r => gL_law_40_4 c4) (l_actors S g)
  by_cases c5 : w.toInt = 5
  · exact jE_of (fun r => gL_law_40_5 c5) (l_plays S g)
  by_cases c6 : w.toInt = 6
  · exact jE_of (fun r => gL_law_40_6 c6) (l_notes S g)
  by_cases c7 : w.toInt = 7
  · exact jE_of (fun r => gL_law_40_7 c7) (l_evenings S g)
  by_cases c8 : w.toInt = 8
  · exact jE_of (fun r => gL_law_40_8 c8) (l_carried S g)
  by_cases c9 : w.toInt = 9
  · exact jE_of (fun r => gL_law_40_9 c9) (l_tapeBytes S g)
  by_cases c10 : w.toInt = 10
  · exact jE_of (fun r => gL_law_40_10 c10) (l_sizeOf S A1 g)
  by_cases c11 : w.toInt = 11
  · exact jE_of (fun r => gL_law_40_11 c11) (l_masksIn S A1 g)
  by_cases c12 : w.toInt = 12
  · exact jE_of (fun r => gL_law_40_12 c12) (l_scenesIn S A1 g)
  by_cases c13 : w.toInt = 13
  · exact jE_of (fun r => gL_law_40_13 c13) (l_mostMasksAround S A1 g)
  by_cases c14 : w.toInt = 14
  · exact jE_of (fun r => gL_law_40_14 c14) (l_standsIn S A1 A2 g)
  by_cases c15 : w.toInt = 15
  · exact jE_of (fun r => gL_law_40_15 c15) (l_stepsDone S A1 g)
  by_cases c16 : w.toInt = 16
  · exact jE_of (fun r => gL_law_40_16 c16) (l_isFinished S A1 g)
  by_cases c17 : w.toInt = 17
  · exact jE_of (fun r => gL_law_40_17 c17) (l_canStep S A1 g)
  by_cases c18 : w.toInt = 18
  · exact jE_of (fun r => gL_law_40_18 c18) (l_textLength S A1 g)
  by_cases c19 : w.toInt = 19
  · exact jE_of (fun r => gL_law_40_19 c19) (l_letterAt S A1 A2 g)
  by_cases c20 : w.toInt = 20
  · exact jE_of (fun r => gL_law_40_20 c20) (l_nextSceneAt S A1 g)
  by_cases c21 : w.toInt = 21
  · exact jE_of (fun r => gL_law_40_21 c21) (l_renamedByStep S A1 g)
  by_cases c22 : w.toInt = 22
  · exact jE_of (fun r => gL_law_40_22 c22) (l_isSame S A1 A2 g)
  by_cases c23 : w.toInt = 23
  · exact jE_of (fun r => gL_law_40_23 c23) (l_isAsTold S A1 g)
  by_cases c24 : w.toInt = 24
  · exact jE_of (fun r => gL_law_40_24 c24) (l_doStep S A1 g)
  by_cases c25 : w.toInt = 25
  · exact jE_of (fun r => gL_law_40_25 c25) (l_give S A1 A2 g)
  by_cases c26 : w.toInt = 26
  · exact jE_of (fun r => gL_law_40_26 c26) (l_renew S A1 g)
  by_cases c27 : w.toInt = 27
  · exact jE_of (fun r => gL_law_40_27 c27) (l_passEvenings S A1 g)
  by_cases c28 : w.toInt = 28
  · exact jE_of (fun r => gL_law_40_28 c28) (l_stepsToFinish S A1 g)
  by_cases c29 : w.toInt = 29
  · exact jE_of (fun r => gL_law_40_29 c29) (l_sizeAfterSteps S A1 A2 g)
  by_cases c30 : w.toInt = 30
  · exact jE_of (fun r => gL_law_40_30 c30) (l_endSame S A1 A2 g)
  by_cases c31 : w.toInt = 31
  · exact jE_of (fun r => gL_law_40_31 c31) (l_sizeAfterEvenings S A1 A2 g)
  by_cases c32 : w.toInt = 32
  · exact jE_of (fun r => gL_law_40_32 c32) (l_eveningsUntilFinished S A1 g)
  by_cases c33 : w.toInt = 33
  · exact jE_of (fun r => gL_law_40_33 c33) (l_bestGift S A1 g)
  by_cases c34 : w.toInt = 34
  · exact jE_of (fun r => gL_law_40_34 c34) (l_meanSize S g)
  by_cases c35 : w.toInt = 35
  · exact jE_of (fun r => gL_law_40_35 c35) (l_digest S g)
  exact absurd c (by omega)
theorem lA_at {i : Nat} (hi : i < sc.1) (hL : sc.1 ≤ 3072) : lA sc (Int32.ofNat i) (sc.2 i) := by
  intro h K
  unfold jm_ali
  rw [K 82 (by omega)]
  unfold jm_kon
  rw [if_neg (by omega), if_neg (by omega), if_neg (by omega), if_pos rfl]
  simp only [jw_ix hi (show sc.1 < 2147483648 by omega), jw_n (show i < 2147483648 by omega)]
  rw [if_pos ⟨trivial, trivial⟩]
theorem l_len (K : kO h sc) : jm_len h 82 = some sc.1 := by
  unfold jm_len
  rw [K 82 (by omega)]
  rfl
theorem l_loop (hL : sc.1 ≤ 3072) : ∀ (f k : Nat) (h : jm_H) (o5 o6 o7 o8 : Option Value), 6 * (k + f) ≤ sc.1 → sc.1 < 6 * (k + f) + 6 → lS h x sc → jE (kL_law_23 (d + 90) 82 x (x + 369) (x + 404) (Int32.ofNat (6 * k)) o5 o6 o7 o8 h) (fun v h' => v = .inl (some (.int 1)) ∧ h'.1 ≤ h.1 + 19 * f ∧ h'.2.1 ≤ h.2.1 + 6740 * f) := by
  intro f
  induction f with
  | zero =>
    rintro k h o5 o6 o7 o8 h1 h2 ⟨b, B, G, tp, er, Z, S⟩
    refine jE_of (fun r => gL_law_23) ?_
    rw [l_len (kO_C S.1), Option.bind_some]
    have e : Int32.ofNat sc.1 - 6 = Int32.ofInt ((sc.1 : Int) - 6) := by
      rw [show (6 : Int32) = Int32.ofInt 6 from rfl, ← Int32.ofInt_eq_ofNat, ← Int32.ofInt_sub]
    refine jE_if (fun _ => jE_end ⟨rfl, by omega, by omega⟩) (fun z => ?_)
    rw [e, Int32.lt_iff_toInt_lt, jw_z (by omega) (by omega), jw_i (by omega)] at z
    omega
  | succ f ih =>
    rintro k h o5 o6 o7 o8 h1 h2 ⟨b, B, G, tp, er, Z, S⟩
    refine jE_of (fun r => gL_law_23) ?_
    rw [l_len (kO_C S.1), Option.bind_some]
    have e : Int32.ofNat sc.1 - 6 = Int32.ofInt ((sc.1 : Int) - 6) := by
      rw [show (6 : Int32) = Int32.ofInt 6 from rfl, ← Int32.ofInt_eq_ofNat, ← Int32.ofInt_sub]
    refine jE_if (fun z => ?_) (fun _ => ?_)
    · rw [e, Int32.lt_iff_toInt_lt, jw_z (by omega) (by omega), jw_i (by omega)] at z
      omega
    rw [lA_at (i := 6 * k) (by omega) hL h (kO_C S.1), Option.bind_some]
    have A1 : lA sc (Int32.ofNat (6 * k) + 1) (sc.2 (6 * k + 1)) := by
      rw [jw_add1]
      exact lA_at (by omega) hL
    have A2 : lA sc (Int32.ofNat (6 * k) + 2) (sc.2 (6 * k + 2)) := by
      rw [jw_addL (b := 2)]
      exact lA_at (by omega) hL
    have A3 : lA sc (Int32.ofNat (6 * k) + 3) (sc.2 (6 * k + 3)) := by
      rw [jw_addL (b := 3)]
      exact lA_at (by omega) hL
    have A4 : lA sc (Int32.ofNat (6 * k) + 4) (sc.2 (6 * k + 4)) := by
      rw [jw_addL (b := 4)]
      exact lA_at (by omega) hL
    have A5 : lA sc (Int32.ofNat (6 * k) + 5) (sc.2 (6 * k + 5)) := by
      rw [jw_addL (b := 5)]
      exact lA_at (by omega) hL
    refine l_step S A1 A2 A3 A4 A5 ?_
    intro h3 p5 p6 p7 p8 S3 n1 n2
    refine jE_of (fun r => gL_law_1982) ?_
    rw [jw_addL (b := 6), show 6 * k + 6 = 6 * (k + 1) by omega]
    refine jE_mono (ih (k + 1) h3 p5 p6 p7 p8 (by omega) (by omega) S3) ?_
    rintro v h4 ⟨z1, z2, z3⟩
    exact ⟨z1, by omega, by omega⟩
/-- THE LAW HOLDS, of the abstract machine -/
theorem l_law (hL : sc.1 ≤ 3072) : jE (jm_D 91 mL_law [.ref 82] (jm_h0 sc.1 sc.2)) (fun v h' => v = .inl (some (.int 1)) ∧ h'.1 ≤ 128 + 160642 ∧ h'.2.1 ≤ 8614180) := by
  have K : kO (jm_h0 sc.1 sc.2) sc := fun a ha => rfl
  refine l_start (d := 84) (x := 128) rfl (by omega) K ?_
  intro h1 F C I L
  have n1 := F.1
  have n2 := F.2.1
  have n0 : (jm_h0 sc.1 sc.2).1 = 128 := rfl
  have n00 : (jm_h0 sc.1 sc.2).2.1 = 0 := rfl
  refine jE_mono (l_loop (d := 0) (x := 128) hL (sc.1 / 6) 0 h1 none none none none (by omega) (by omega) ⟨_, _, _, _, _, _, C, I, L, Or.inl rfl, by omega, by omega⟩) ?_
  rintro v h4 ⟨z1, z2, z3⟩
  exact ⟨z1, by omega, by omega⟩
end ZL
