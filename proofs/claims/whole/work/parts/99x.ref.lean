/-! ===== LEVEL 3: the reference, teach ===== -/
section ZT
variable {h h' h1 h2 : jm_H} {d m a b n t k p q pc i : Nat} {U V W F : Nat → Prop} {S : aS} {B : aB} {G : aG} {tp tp' : List Nat} {er er' : Int} {sc : Nat × (Nat → Int32)}
theorem zI_w (I : zI h m b B G tp er) (A : zS m U F h h') (p : ∀ c, U c → ¬ zAt m b c) (q : ∀ k, F k → zr k = 0 ∧ k ≠ 4 ∧ k ≠ 14 ∧ k ≠ 15) (t2 : jr_I h' m 12 2 0 = some (Int32.ofNat tp'.length)) (t3 : jr_I h' m 12 3 0 = some (Int32.ofInt er')) (T : zTp h' m tp') : zI h' m b B G tp' er' := by
  obtain ⟨⟨B0, a2, a3, a4, a5, a6, a7⟩, c1, c2, c3, c4, -⟩ := I
  have nU : ∀ c, zAt m b c → ¬ U c := fun c z y => p c y z
  exact ⟨⟨zB_tr B0 A (fun k z => (q k z).1), (zS_R A (fun z => (q 4 z).2.1 rfl)).trans a2, zD_eq a3 (fun c d1 d2 => zS_at A (by omega) (nU c (Or.inr (Or.inr (Or.inr ⟨d1, by omega⟩))))), zG_z a4 A (fun c z => by unfold jn at z; omega) (fun c z => nU c (Or.inr (Or.inr (Or.inl (by unfold jn at z ⊢; omega))))), (zS_I A (fun z => (q 14 z).2.2.1 rfl)).trans a5, (zS_I A (fun z => (q 15 z).2.2.2 rfl)).trans a6, a7⟩, c1, t2, t3, T⟩
theorem zTp_z (H : zTp h m tp) (A : zS m U F h h') (p : ¬ U (m + 1)) : zTp h' m tp := by
  obtain ⟨l, TP, c5, c6⟩ := H
  exact ⟨l, TP, aC_z c5 A (by omega) p, c6⟩
theorem zTp_0 (H : zTp h m tp) : zTp h m [] := by
  obtain ⟨l, TP, c5, c6⟩ := H
  exact ⟨Nat.zero_le _, TP, c5, fun i hi => absurd hi (Nat.not_lt_zero _)⟩
theorem zS_jA (A : zS m U F h h') : jA (fun c => c = m ∨ U c) 0 0 h h' := jA_S (zS_jS A)
set_option maxHeartbeats 1000000 in
theorem m_teach (hm36 : m + 36 ≤ h.1) (hb19 : b + 19 ≤ h.1) (K : kO h sc) (I : zI h m b B G tp er) : jE (jm_D (d + 86) mX13_teach [.ref m] h) fun v h' => match aTe tp with
    | .inl e => v = .inl (some (.int (Int32.ofNat e.1))) ∧ jA (fun c => jn m 35 c) 19 6740 h h' ∧ zI h' m b B G [] (e.2 : Int) ∧ jr_I h' m 12 0 0 = some 0
    | .inr B' => v = .inl (some (.int 0)) ∧ jA (fun c => jn m 35 c) 19 6740 h h' ∧ zI h' m h.1 B' ((B'.2.2.1, fun _ => 0), 0, 0) [] (-1) ∧ jr_I h' m 12 0 0 = some 0 := by
  have hm := I.1.1.1
  have hl := I.2.2.2.2.1
  refine jE_of (fun r => gX13_teach) ?_
  obtain ⟨h1, e1, F1, q1⟩ := z_pfI (k := 0) 0 I.1.1 (by omega)
  have B1 := zB_tr I.1.1 F1 (fun k z => by rw [z]; rfl)
  obtain ⟨h3, e3, F3, q3⟩ := z_pfI (k := 3) (-1) B1 (by omega)
  have F13 : zS m (fun _ => False) (fun k => k = 0 ∨ k = 3) h h3 := zS_2 F1 F3 (fun c z => z) (fun c z => z) (fun k z => Or.inl z) (fun k z => Or.inr z)
  have I3 : zI h3 m b B G tp (-1) := zI_w I F13 (fun c z => z.elim) (fun k z => by rcases z with z | z <;> subst z <;> exact ⟨rfl, by omega, by omega, by omega⟩) ((zS_I F13 (by omega)).trans I.2.2.1) q3 (zTp_z I.2.2.2.2 F13 id)
  have T3 : jr_I h3 m 12 0 0 = some 0 := (zS_I F3 (by omega)).trans q1
  rw [e1, Option.bind_some, e3, Option.bind_some]
  have c3 : h3.1 = h.1 := F13.1
  have hat : ∀ c, zAt m b c → c < h3.1 := fun c z => by unfold zAt jn at z; omega
  refine jE_new (by omega) fun h6 F6 O6 => ?_
  rw [jm_U_q (show 128 ≤ h3.1 by omega)]
  have n6 : h6.1 = h3.1 + 1 := F6.1
  have I6 : zI h6 m b B G tp (-1) := zI_eq I3 fun c z => F6.2.2 c (hat c z) id
  have T6 : jr_I h6 m 12 0 0 = some 0 := ((jr_eq (F6.2.2 m (by omega) id)).1).trans T3
  refine jE_V (i_X12 (d := d + 84) n6 O6) ?_
  rintro h9 ⟨F9, N9⟩
  have n9 : h9.1 = h3.1 + 19 := by rw [F9.1, n6]
  have I9 : zI h9 m b B G tp (-1) := zI_eq I6 fun c z => F9.2.2 c (by have := hat c z; omega) (by have := hat c z; omega)
  have T9 : jr_I h9 m 12 0 0 = some 0 := ((jr_eq (F9.2.2 m (by omega) (by omega))).1).trans T6
  have J3 : jA (fun c => jn m 35 c) 0 0 h h3 := jA_mn (zS_jA F13) fun c _ z => z.elim (fun z => by unfold jn; omega) (fun z => False.elim z)
  have J6 : jA (fun c => jn m 35 c) 1 22 h h6 := jA_tr2 J3 F6 fun c _ z => z.elim
  have J9 : jA (fun c => jn m 35 c) 19 6740 h h9 := jA_tr2 J6 F9 fun c z y => by omega
  have K9 : kO h9 sc := kO_A K J9 (fun c z => by unfold jn at z; omega) (by omega)
  obtain ⟨nb, hnb⟩ : ∃ nb, nb = h3.1 := ⟨_, rfl⟩
  rw [← hnb] at N9 ⊢
  have C9 : zC0 h9 m nb tp sc := ⟨I9.1.1, ⟨_, _, _, _, N9.1⟩, I9.2.2.1, I9.2.2.2.2.2, K9⟩
  rw [jm_O_eq (zB_ob I9.1.1)]
  have R := z_read (d := d + 1) hm (Or.inr (show m + 36 ≤ nb by omega)) hl C9 N9
  have hnat : ∀ c, jn nb 19 c → ¬ zAt m b c := fun c z y => by have := hat c y; unfold jn at z; omega
  cases eA : aTe tp with
  | inl e =>
    rw [eA] at R
    obtain ⟨v, h11, e11, rfl, F11, q11, r1, r2⟩ := R
    have e11' : jm_D (d + 85) mX13_read [.ref m, .ref nb] h9 = _ := e11
    rw [e11', jc_I_eq]
    obtain ⟨h14, e14, F14, q14⟩ := z_pfI (k := 2) 0 (zB_tr I9.1.1 F11 (fun k z => by unfold zRX zRW at z; rcases z with (z | z | z | z | z | z) | z <;> rw [z] <;> rfl)) (by omega)
    rw [e14, Option.bind_some, if_pos (show (0 : Int32) < Int32.ofNat e.1 by rw [show (0 : Int32) = Int32.ofNat 0 from rfl, jw_lt (by omega) (by omega)]; exact r1)]
    have FF : zS m (jn nb 19) (fun k => zRX k ∨ k = 2) h9 h14 := zS_2 F11 F14 (fun c z => z) (fun c z => z.elim) (fun k z => Or.inl z) (fun k z => Or.inr z)
    refine jE_end ⟨rfl, jA_tr2 J9 (zS_jA FF) (fun c c1 c2 => by unfold jn at c2 ⊢; omega), zI_w I9 FF hnat (fun k z => by unfold zRX zRW at z; rcases z with ((z | z | z | z | z | z) | z) | z <;> subst z <;> exact ⟨rfl, by omega, by omega, by omega⟩) q14 ?_ (zTp_0 (zTp_z I9.2.2.2.2 FF (fun z => by unfold jn at z; omega))), (zS_I FF (by unfold zRX zRW; omega)).trans T9⟩
    rw [jw_in]
    exact (zS_I F14 (by omega)).trans q11
  | inr B' =>
    rw [eA] at R
    obtain ⟨v, h11, e11, rfl, F11, D11⟩ := R
    have e11' : jm_D (d + 85) mX13_read [.ref m, .ref nb] h9 = _ := e11
    rw [e11', jc_I_eq]
    obtain ⟨h14, e14, F14, q14⟩ := z_pfI (k := 2) 0 (zB_tr I9.1.1 F11 (fun k z => by unfold zRW at z; rcases z with z | z | z | z | z | z <;> rw [z] <;> rfl)) (by omega)
    have FF : zS m (jn nb 19) (fun k => zRW k ∨ k = 2) h9 h14 := zS_2 F11 F14 (fun c z => z) (fun c z => z.elim) (fun k z => Or.inl z) (fun k z => Or.inr z)
    have B14 := zB_tr I9.1.1 FF (fun k z => by unfold zRW at z; rcases z with (z | z | z | z | z | z) | z <;> rw [z] <;> rfl)
    obtain ⟨h17, e17, F17, q17⟩ := z_pfR (k := 4) nb B14 (by omega)
    have B17 := zB_tr B14 F17 (fun k z => by rw [z]; rfl)
    have FG : zS m (jn nb 19) (fun k => (zRW k ∨ k = 2) ∨ k = 4) h9 h17 := zS_2 FF F17 (fun c z => z) (fun c z => z.elim) (fun k z => Or.inl z) (fun k z => Or.inr z)
    rw [e14, Option.bind_some, if_neg (by decide), e17, Option.bind_some]
    have D17 : zD h17 nb B' := zD_eq (zD_eq D11 (fun c p1 p2 => zS_at F14 (by omega) id)) (fun c p1 p2 => zS_at F17 (by omega) id)
    obtain ⟨-, -, -, g4, -⟩ := I9.1
    have g0 : zG h17 (m + 21) 0 (B'.2.2.1, fun _ => 0) := by
      obtain ⟨a1, a2, ⟨NW, n1, n2⟩, ⟨MN, m1, m2⟩, ST, s1, s2⟩ := g4
      exact ⟨Nat.zero_le _, fun p hp => absurd hp (Nat.not_lt_zero _), ⟨NW, lC_z n1 FG (by omega) (by unfold jn; omega), fun p hp => absurd hp (Nat.not_lt_zero _)⟩, ⟨MN, aC_z m1 FG (by omega) (by unfold jn; omega), fun p hp => absurd hp (Nat.not_lt_zero _)⟩, ST, aC_z s1 FG (by omega) (by unfold jn; omega), fun p hp => absurd hp (Nat.not_lt_zero _)⟩
    obtain ⟨v, h20, e20, rfl, F20, B20, r4, D20, G20, r14, r15⟩ := z_t42 (d := d + 84) (o1 := some (.ref nb)) (b := nb) (B := B') (S := (B'.2.2.1, fun _ => 0)) (Or.inr (show m + 36 ≤ nb by omega)) (fun p => ⟨rfl, rfl⟩) B'.2.1.length 0 h17 (some (.int 0)) (by omega) B17 q17 D17 g0
    have e20' : kX13_teach_42 (d + 85) m (some (.ref nb)) (some (.int 0)) 0 h17 = _ := e20
    rw [e20']
    have gS' : gS B' ((B'.2.2.1, fun _ => 0) : aS) := fun p hp => D20.2.2.2.2.2.2.2.2.2.2.1 p hp
    have t2 : jr_I h20 m 12 2 0 = some 0 := (zS_I F20 (by unfold zTV; omega)).trans ((zS_I F17 (by omega)).trans q14)
    have t3 : jr_I h20 m 12 3 0 = some (-1) := (zS_I F20 (by unfold zTV; omega)).trans ((zS_I FG (by unfold zRW; omega)).trans I9.2.2.2.1)
    have Tp : zTp h20 m [] := zTp_0 (zTp_z (zTp_z I9.2.2.2.2 FG (fun z => by unfold jn at z; omega)) F20 (fun z => by unfold zTW jn at z; omega))
    rw [← c3, ← hnb]
    refine jE_end ⟨rfl, jA_tr2 (jA_tr2 J9 (zS_jA FG) (fun c c1 c2 => by unfold jn at c2 ⊢; omega)) (zS_jA F20) (fun c c1 c2 => by unfold zTW jn at c2; unfold jn; omega), ⟨⟨B20, r4, D20, G20, r14, r15, Or.inr (by omega)⟩, gS', t2, t3, Tp⟩, ?_⟩
    exact (zS_I F20 (by unfold zTV; omega)).trans ((zS_I FG (by unfold zRW; omega)).trans T9)
end ZT
