/-! ===== LEVEL 3: the reference, read ===== -/
section ZN
variable {h h' h1 h2 : jm_H} {d D m b i q k n a e p j E c29 : Nat} {T : List aK4} {A : zA3} {nt oc : Nat} {as ps : List Nat} {W : Nat → List Int} {r : List Int} {M : Nat → Nat} {os : List aI} {NL : List zNl} {B : aB} {tp : List Nat} {sc : Nat × (Nat → Int32)} {s : zSt}
def zRX (k : Nat) : Prop := zRW k ∨ k = 3
theorem uP_in {ln j : Nat} (hj : j < T.length) : uP T ln j = (T.getD j (0, 0, 0, 0)).2.1 := by
  unfold uP
  rw [if_pos hj]
  exact congrArg (fun z : aK4 => z.2.1) (gD hj (37, 0, 0, 0) (0, 0, 0, 0))
/-- errors lie at tokens -/
theorem z_read (hm : 128 ≤ m) (hb : b = m + 2 ∨ m + 36 ≤ b) (hl : tp.length ≤ 2000) (C : zC0 h m b tp sc) (N : zNB h b) : jE (jm_D (d + 84) mX13_read [.ref m, .ref b] h) fun v h' => match aTe tp with
    | .inl e => v = .inl (some (.int (Int32.ofNat e.1))) ∧ zS m (jn b 19) zRX h h' ∧ jr_I h' m 12 3 0 = some (Int32.ofNat e.2) ∧ 0 < e.1 ∧ e.1 < 6
    | .inr B => v = .inl (some (.int 0)) ∧ zS m (jn b 19) zRW h h' ∧ zD h' b B := by
  obtain ⟨n0, n1, n2, n3, n4, n5, n6, n7, n8, n9, n10, n11, n12, n13, n14, n15, n16, n17, n18⟩ := N
  have C' := C
  obtain ⟨c1, c2, c3, c4, c5⟩ := C
  obtain ⟨hK, hpos, hEnd, h35⟩ := ktks_K (tp := tp)
  obtain ⟨hT, hNm, -⟩ := ktks_T (tp := tp)
  refine jE_of (fun r => gX13_read) ?_
  rw [jm_O_eq (zB_ob c1)]
  refine jE_V (z_cut (d := d + 74) hm hb hl C' n1 n2 n4) ?_
  rintro h1 ⟨F1, TK⟩
  have B1 := zB_tr c1 F1 (fun k z => z.elim)
  obtain ⟨h2, e2, G2, q2⟩ := z_pfI (k := 5) 0 B1 (by omega)
  have B2 := zB_tr B1 G2 (fun k z => by rw [z]; rfl)
  obtain ⟨h3, e3, G3, q3⟩ := z_pfI (k := 6) 0 B2 (by omega)
  have B3 := zB_tr B2 G3 (fun k z => by rw [z]; rfl)
  obtain ⟨h4, e4, G4, q4⟩ := z_pfI (k := 7) (-1) B3 (by omega)
  have B4 := zB_tr B3 G4 (fun k z => by rw [z]; rfl)
  obtain ⟨h5, e5, G5, q5⟩ := z_pfI (k := 29) 0 B4 (by omega)
  have B5 := zB_tr B4 G5 (fun k z => by rw [z]; rfl)
  simp only [e2, e3, e4, e5, Option.bind_some, jm_O_eq (zB_ob B5)]
  have FF : zS m (fun _ => False) zRW h1 h5 := zS_tr (zS_mn G2 (fun c z => z) (fun k z => by unfold zRW; omega)) (zS_tr (zS_mn G3 (fun c z => z) (fun k z => by unfold zRW; omega)) (zS_tr (zS_mn G4 (fun c z => z) (fun k z => by unfold zRW; omega)) (zS_mn G5 (fun c z => z) (fun k z => by unfold zRW; omega))))
  have FA : zS m (zcU b) zRW h h5 := zS_2 F1 FF (fun c z => z) (fun c z => z.elim) (fun k z => z.elim) (fun k z => z)
  have tA : ∀ {j t n f}, (j = 3 ∨ 5 ≤ j) → j ≤ 18 → aC h (b + j) t n f → aC h5 (b + j) t n f := fun h1 h2 z => aC_z z FA (by omega) (by unfold zcU; omega)
  have tL : ∀ {j n f}, (j = 3 ∨ 5 ≤ j) → j ≤ 18 → lC h (b + j) n f → lC h5 (b + j) n f := fun h1 h2 z => lC_z z FA (by omega) (by unfold zcU; omega)
  have TK5 : ∃ KD FR VL, zTK h5 b (ktks tp 401 0) KD FR VL := by
    obtain ⟨KD, FR, VL, k1, k2, k3, k4⟩ := TK
    exact ⟨KD, FR, VL, aC_z k1 FF (by omega) id, aC_z k2 FF (by omega) id, lC_z k3 FF (by omega) id, k4⟩
  have r5 : jr_I h5 m 12 5 0 = some (Int32.ofNat 0) := (zS_I G5 (by omega)).trans ((zS_I G4 (by omega)).trans ((zS_I G3 (by omega)).trans q2))
  have r6 : jr_I h5 m 12 6 0 = some (Int32.ofNat 0) := (zS_I G5 (by omega)).trans ((zS_I G4 (by omega)).trans q3)
  have r7 : jr_I h5 m 12 7 0 = some (Int32.ofInt (-1)) := (zS_I G5 (by omega)).trans q4
  have H5 : zRd h5 m b (ktks tp 401 0) 0 (0, -1, [], 0, (fun _ => 0), (fun _ => 0), (fun _ => 0)) := ⟨B5, r5, r6, r7, oC_z n0 FA (by omega) (by unfold zcU; omega), TK5, tA (by omega) (by omega) n3, tA (by omega) (by omega) n5, tA (by omega) (by omega) n6, ⟨Nat.zero_le _, _, _, _, tA (by omega) (by omega) n16, tA (by omega) (by omega) n17, tA (by omega) (by omega) n18, fun k hk => absurd hk (Nat.not_lt_zero _)⟩, hpos⟩
  have N5 : zRn h5 b [] := ⟨_, _, _, _, _, tA (by omega) (by omega) n11, tA (by omega) (by omega) n12, tA (by omega) (by omega) n13, tA (by omega) (by omega) n14, tA (by omega) (by omega) n15, fun _ n hn => absurd hn (Nat.not_lt_zero _)⟩
  have Y : zHy m b (ktks tp 401 0) := ⟨hm, hb, hT, hK⟩
  obtain ⟨v, h6, e6, rfl, F6, s6, H6, X6⟩ := z_isBook (d := d) Y 400 0 0 (0, -1, [], 0, (fun _ => 0), (fun _ => 0), (fun _ => 0)) [] h5 (Or.inr ⟨rfl, rfl⟩) (Nat.zero_le _) rfl rfl rfl (Nat.zero_le _) (fun j _ => rfl) rfl (Nat.zero_le _) N5 H5
  have e7 : jm_D (d + 83) mX13_isBook [.ref m, .ref b] h5 = _ := gX13_isBook e6
  rw [e7, jc_I_eq]
  have FB : zS m (jn b 19) zRW h h6 := zS_2 FA F6 (fun c z => by unfold zcU at z; unfold jn; omega) (fun c z => by unfold zLU zRU at z; unfold jn; omega) (fun k z => z) (fun k z => by unfold zRF at z; unfold zRW; omega)
  have hl6 := zRd_lt H6
  cases cU : (uBk (ktks tp 401 0) 400 0 0).1 with
  | false =>
    have eA : aTe tp = .inl (1, uP (ktks tp 401 0) tp.length (uBk (ktks tp 401 0) 400 0 0).2.1) := by
      unfold aTe
      rw [cU, if_neg (by decide)]
    rw [eA, if_pos (show (if false = true then (1 : Int32) else 0) = 0 from rfl)]
    have ek : jm_ali h6 (b + 2) 0 (Int32.ofNat (uBk (ktks tp 401 0) 400 0 0).2.1) = some (Int32.ofNat (uP (ktks tp 401 0) tp.length (uBk (ktks tp 401 0) 400 0 0).2.1)) := by
      obtain ⟨-, -, -, -, -, ⟨KD, FR, VL, k1, k2, k3, k4, k5⟩, -⟩ := H6
      rw [aC_at k2 (by omega) (by omega), (k5 _ hl6.1).2.1, uP_in hl6.1]
    obtain ⟨h7, e8, G8, q8⟩ := z_pfI (k := 3) (Int32.ofNat (uP (ktks tp 401 0) tp.length (uBk (ktks tp 401 0) 400 0 0).2.1)) H6.1 (by omega)
    simp only [zRd_R (k := 1) (x := b + 2) H6 rfl, H6.2.1, Option.bind_some, ek, e8]
    exact jE_end ⟨rfl, zS_2 FB G8 (fun c z => z) (fun c z => z.elim) (fun k z => Or.inl z) (fun k z => Or.inr z), q8, by decide, by decide⟩
  | true =>
    rw [if_neg (by decide)]
    obtain ⟨NL', hN', X'⟩ := X6 cU
    have F5 : zS m (zLU b) zRF h5 h6 := F6
    have g29 : jr_I h6 m 12 29 0 = some 0 := (zS_I F5 (by unfold zRF; omega)).trans q5
    rcases z_readB (d := d + 78) hm hb rfl cU rfl H6 hN' X' g29 (lC_z (tL (by omega) (by omega) n7) F5 (by omega) (by unfold zLU zRU; omega)) (lC_z (tL (by omega) (by omega) n8) F5 (by omega) (by unfold zLU zRU; omega)) (lC_z (tL (by omega) (by omega) n9) F5 (by omega) (by unfold zLU zRU; omega)) (aC_z (tA (by omega) (by omega) n10) F5 (by omega) (by unfold zLU zRU; omega)) with ⟨x, y1, y2⟩ | ⟨B', y1, y2⟩
    · have eA : aTe tp = .inl (x.1, uP (ktks tp 401 0) tp.length x.2) := by
        unfold aTe
        rw [cU, if_pos rfl, y1]
      rw [eA]
      obtain ⟨h7, e8, F7, q7⟩ := y2 none
      have e8' : kX13_read_50 (d + 83) m b 0 none h6 = _ := e8
      rw [e8']
      exact jE_end ⟨rfl, zS_2 FB F7 (fun c z => z) (fun c z => by unfold zTU at z; unfold jn; omega) (fun k z => Or.inl z) (fun k z => by unfold zTF at z; unfold zRX zRW; omega), by rw [q7.1, uP_in q7.2.1], q7.2.2⟩
    · have eA : aTe tp = .inr (qFi (ktks tp 401 0) B') := by
        unfold aTe
        rw [cU, if_pos rfl, y1]
      rw [eA]
      obtain ⟨h7, e8, F7, D7⟩ := y2 none
      have e8' : kX13_read_50 (d + 83) m b 0 none h6 = _ := e8
      rw [e8']
      exact jE_end ⟨rfl, zS_tr FB F7, D7⟩
end ZN
