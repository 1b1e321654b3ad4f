/-! ===== LEVEL 3: MaskPlays, teach ===== -/
def aB0 : aB := ([], [], fun _ => [], [])
/-- what teaching a tape does: an error and its place, or a playbook -/
def aTe (tp : List Nat) : (Nat × Nat) ⊕ aB :=
  if (uBk (ktks tp 401 0) 400 0 0).1 = true then match qBk (ktks tp 401 0) (uM (uBk (ktks tp 401 0) 400 0 0).2.2.2) 400 0 0 aB0 with
    | .inl e => .inl (e.1, uP (ktks tp 401 0) tp.length e.2)
    | .inr B => .inr (qFi (ktks tp 401 0) B)
  else .inl (1, uP (ktks tp 401 0) tp.length (uBk (ktks tp 401 0) 400 0 0).2.1)
section CT
variable {h h' : jm_H} {d x bb ln i pt : Nat} {T : List aK4} {MK : Nat → Int32} {B : aB} {G : aG} {tp : List Nat} {er : Int} {sc : Nat × (Nat → Int32)} {M : Nat → Nat} {st : List Nat}
theorem qGo_b {as ps : List Nat} {W : Nat → List Int} : ∀ {f : Nat} {s : aQ}, (∀ e, qGo T M as ps W f s = .inl e → e.2 ≤ s.2.2 + 2 * f) ∧ ∀ s', qGo T M as ps W f s = .inr s' → s'.2.2 ≤ s.2.2 + 2 * f
  | 0, s => ⟨fun e h => (by cases h), fun s' h => by cases h; exact Nat.le_refl _⟩
  | f + 1, s => by
    unfold qGo
    split
    · exact ⟨fun e h => (by cases h), fun s' h => by cases h; omega⟩
    have st1 : (∀ e, qOn T M as ps W s = .inl e → e.2 ≤ s.2.2 + 1) ∧ ∀ s', qOn T M as ps W s = .inr s' → s'.2.2 ≤ s.2.2 + 2 := by
      unfold qOn
      split
      · split
        · exact ⟨fun e h => by cases h; exact Nat.le_refl _, fun s' h => (by cases h)⟩
        · exact ⟨fun e h => (by cases h), fun s' h => by cases h; exact Nat.le_refl _⟩
      split
      · exact ⟨fun e h => (by cases h), fun s' h => by cases h; exact Nat.le_succ _⟩
      split
      · exact ⟨fun e h => (by cases h), fun s' h => by cases h; exact Nat.le_succ _⟩
      split
      · split
        · exact ⟨fun e h => (by cases h), fun s' h => by cases h; exact Nat.le_succ _⟩
        split
        · exact ⟨fun e h => (by cases h), fun s' h => by cases h; exact Nat.le_succ _⟩
        · exact ⟨fun e h => by cases h; exact Nat.le_succ _, fun s' h => (by cases h)⟩
      · exact ⟨fun e h => (by cases h), fun s' h => by cases h; exact Nat.le_succ _⟩
    cases hq : qOn T M as ps W s with
    | inl e' =>
      have := st1.1 e' hq
      exact ⟨fun e h => by cases h; omega, fun s' h => (by cases h)⟩
    | inr s' =>
      have := st1.2 s' hq
      obtain ⟨g1, g2⟩ := qGo_b (as := as) (ps := ps) (W := W) (f := f) (s := s')
      exact ⟨fun e h => by have := g1 e h; omega, fun s2 h => by have := g2 s2 h; omega⟩
theorem qNm_b {ps : List Nat} : ∀ {f j p : Nat}, qNm T ps f j = some p → p ≤ j + f
  | 0, j, p, h => by cases h
  | f + 1, j, p, h => by
    unfold qNm at h
    split at h
    · cases h
    split at h
    · cases h; omega
    · have := qNm_b h; omega
theorem qLn_b {R : uR} {e : Nat × Nat} (h : qLn T M R i B = .inl e) : e.2 ≤ i + 1000 := by
  unfold qLn at h
  split at h
  · split at h
    · cases h; show i + 1 ≤ _; omega
    split at h
    · cases h; show i + 1 ≤ _; omega
    · cases h
  split at h
  · split at h
    · cases h; show i + 1 ≤ _; omega
    split at h
    · cases h; show i + 1 ≤ _; omega
    obtain ⟨g1, g2⟩ := qGo_b (T := T) (M := M) (as := B.1) (ps := B.2.1) (W := B.2.2.1) (f := 400) (s := ([], [], i + 3))
    cases hq : qGo T M B.1 B.2.1 B.2.2.1 400 ([], [], i + 3) with
    | inl e' =>
      rw [hq] at h
      cases h
      have : e.2 ≤ i + 3 + 2 * 400 := g1 e hq
      omega
    | inr s =>
      rw [hq] at h
      have h' : (if 150 < s.2.1.length then Sum.inl (5, s.2.2) else Sum.inr (B.1, B.2.1 ++ [uW T (i + 1)], aup B.2.2.1 B.2.1.length s.2.1, B.2.2.2)) = (Sum.inl e : (Nat × Nat) ⊕ aB) := h
      have : s.2.2 ≤ i + 3 + 2 * 400 := g2 s hq
      split at h'
      · cases h'; show s.2.2 ≤ _; omega
      · cases h'
  split at h
  · cases h; show i ≤ _; omega
  cases hq : qNm T B.2.1 400 (i + 1) with
  | some p => rw [hq] at h; cases h; have := qNm_b hq; show p ≤ _; omega
  | none => rw [hq] at h; cases h
theorem qBk_b (hT : gT T) : ∀ (f n i : Nat) (B : aB) (e : Nat × Nat), i ≤ 400 → qBk T M f n i B = .inl e → e.2 ≤ 1400
  | 0, n, i, B, e, hi, h => by cases h
  | f + 1, n, i, B, e, hi, h => by
    unfold qBk at h
    split at h
    · cases h
    cases hq : qLn T M (uLine T n i) i B with
    | inl e' =>
      rw [hq] at h
      cases h
      have := qLn_b hq
      omega
    | inr B' =>
      rw [hq] at h
      exact qBk_b hT f _ _ B' e (gp_line hT hi).2.1 h
theorem t_firstError {bb0 i0 : Nat} {MA : Nat → Int64} (hb : bb = x + 1 ∨ bb = x + 112) (hN : gTn T) (hT : gT T) (hK : ∀ j, uK T j < 2147483648) (hP : (uBk T 400 0 0).1 = true) (hM : ∀ j, uK T j = 22 → MK j = Int32.ofNat (M j) ∧ M j ≤ 400) (hm : ∀ m ∈ (uBk T 400 0 0).2.2.2, M m.1 = m.2 ∧ (uK T m.1 = 8 → MK m.1 = Int32.ofNat m.2))
    (H1 : oC h (x + 217) 6 [.ref (x + 105), .ref (x + 218), .int (Int32.ofNat st.length), .int (Int32.ofNat pt), .ref bb0, .int (Int32.ofNat i0)]) (H2 : lC h (x + 218) 8 MA) (H3 : (∀ k, k < st.length → MA k = nm (st.getD (st.length - 1 - k) 0 : Nat)) ∧ ∀ w ∈ st, w < q10)
    (R : kR h x ln T MK) (K : bC h bb [] [] 0 (cF (uBk T 400 0 0).2.2.1)) (P : ∀ p, p < 12 → ∃ l, pU h (bb + 13 + 5 * p) l) (N : ∀ n, n < 16 → ∃ x1 x2 x3 x4, oC h (bb + 73 + n) 2 [.int x1, .int x2, .int x3, .int x4]) : jE (jm_D (d + 9) mX6_firstError [.ref (x + 217), .ref bb] h) (xF x bb ln T h (qBk T M 400 0 0 aB0)) := by
  refine jE_of (fun r => gX6_firstError) ?_
  obtain ⟨h1, e1, F1, X1⟩ := oC_w (k := 4) (t := 2) (v := .ref bb) H1 (by simp) rfl
  obtain ⟨h2, e2, F2, X2⟩ := oC_w (k := 5) (t := 0) (v := .int 0) X1 (by simp) rfl
  have F : jS (jn (x + 217) 1) h h2 := jS_tr F1 F2
  simp only [e1, e2, Option.bind_some]
  have D2 : ∀ y, jn (x + 217) 1 y → jn bb 89 y → False := fun y y1 y2 => by unfold jn at y1 y2; omega
  have HB : xB h2 x bb ln T MK aB0 (cF (uBk T 400 0 0).2.2.1) := by
    refine ⟨kR_tr R F fun y y1 y2 => by unfold jn at y1 y2; omega, bC_tr K F fun y y1 y2 => D2 y y1 (by unfold jn at y2 ⊢; omega), fun p hp => ?_, fun p hp => absurd hp (Nat.not_lt_zero _), fun n hn => ?_, fun n hn => absurd hn (Nat.not_lt_zero _), fun j hj => absurd hj (Nat.not_lt_zero _), fun j hj => absurd hj (Nat.not_lt_zero _)⟩
    · obtain ⟨l, hl⟩ := P p hp
      exact ⟨l, pU_tr hl F fun y y1 y2 => D2 y y1 (by unfold jn at y2 ⊢; omega)⟩
    · obtain ⟨x1, x2, x3, x4, hx⟩ := N n hn
      exact ⟨x1, x2, x3, x4, oC_tr hx F fun z => D2 _ z (by unfold jn; omega)⟩
  have HH : tH h2 x bb st pt 0 := ⟨X2, MA, lC_tr H2 F (by unfold jn; omega), H3.1, H3.2⟩
  obtain ⟨v, h3, e3, F3, Q3⟩ := t_book_loop (d := d) (cs := cF (uBk T 400 0 0).2.2.1) hb hN hT hK 400 0 0 0 aB0 MK [] h2 (some (.ref bb)) none st pt rfl hP rfl rfl (fun o ho => (by cases ho)) (fun o ho => (by cases ho)) ⟨Nat.zero_le _, Nat.zero_le _, Nat.zero_le _, fun j hj => absurd hj (Nat.not_lt_zero _), fun j hj => absurd hj (Nat.not_lt_zero _), fun p hp => absurd hp (Nat.not_lt_zero _), fun n hn => (by cases hn)⟩ hM hm (by omega) HH HB
  have e3' : kX6_firstError_12 (d + 8) (x + 217) (some (.ref bb)) 0 none h2 = some (v, h3) := e3
  rw [e3']
  exact jE_end ⟨jS_tr (jS_mn F fun a ha => Or.inl (by unfold jn at ha; omega)) F3, Q3⟩
/-- what teach may change -/
def wT (x a : Nat) : Prop := a = x ∨ jn (x + 1) 89 a ∨ jn (x + 105) 7 a ∨ jn (x + 112) 89 a ∨ jn (x + 216) 3 a
end CT
/-! ===== LEVEL 3: MaskPlays, teach, feed, trim ===== -/
def yT (x sp a : Nat) : Prop := a = x ∨ jn (x + 105) 7 a ∨ jn sp 89 a ∨ jn (x + 216) 3 a
section CT
variable {h h' : jm_H} {d x bb ln i pt : Nat} {T : List aK4} {MK : Nat → Int32} {B : aB} {G : aG} {tp : List Nat} {er : Int} {sc : Nat × (Nat → Int32)} {M : Nat → Nat} {st : List Nat}
theorem t_read {cn ln : Int32} {KD PL : Nat → Int32} {WD : Nat → Int64} {VL MK : Nat → Int32} (hx : 128 ≤ x) (hl : tp.length ≤ 2000) (kt : kT h x cn ln KD PL WD VL MK) (A : kA h x tp) (K : kO h sc) : jF (jm_D (d + 9) mX9_read [.ref (x + 105), .int (Int32.ofNat tp.length)] h) (.inl none) fun h' => jS (jn (x + 105) 7) h h' ∧ ∃ MK', kR h' x tp.length (ktks tp 401 0) MK' ∧ ∀ j, j < (ktks tp 401 0).length → MK' j = 0 := by
  refine jE_of (fun r => gX9_read) ?_
  obtain ⟨KW, q1, q2, q3, q4, q5, q6, q7, q8⟩ := kt
  obtain ⟨h1, e1, F1, X1⟩ := oC_w (k := 8) (t := 0) (v := .int (Int32.ofNat tp.length)) q1 (by simp) rfl
  obtain ⟨h2, e2, F2, X2⟩ := oC_w (k := 6) (t := 0) (v := .int 0) X1 (by simp) rfl
  have F : jS (jn (x + 105) 1) h h2 := jS_tr F1 F2
  simp only [e1, e2, Option.bind_some]
  have R : kR h2 x tp.length [] MK := ⟨KD, PL, WD, VL, ⟨KW, X2, lC_tr q2 F (by unfold jn; omega), q3, aC_tr q4 F (by unfold jn; omega), aC_tr q5 F (by unfold jn; omega), lC_tr q6 F (by unfold jn; omega), aC_tr q7 F (by unfold jn; omega), aC_tr q8 F (by unfold jn; omega)⟩, Nat.zero_le _, fun j hj => absurd hj (Nat.not_lt_zero _)⟩
  obtain ⟨v, h3, e3, rfl, F3, MK3, R3, Z3⟩ := k_read_loop (d := d) (sc := sc) K A hl hx 401 0 [] MK (some (.int (Int32.ofNat tp.length))) none h2 (kO_tr K F fun y hy => by unfold jn at hy; omega) (kA_tr A F (by unfold jn; omega)) R rfl (by omega) (Nat.zero_le _) (fun j hj => absurd hj (Nat.not_lt_zero _))
  have e3' : kX9_read_14 (d + 8) (x + 105) (some (.int (Int32.ofNat tp.length))) 0 0 none h2 = some (.inl none, h3) := e3
  rw [e3']
  exact jF_end ⟨jS_tr (jS_mn F fun a ha => by unfold jn at ha ⊢; omega) F3, MK3, R3, Z3⟩
theorem bA_bZ {b : Nat} (H : bA h b B) : bZ h b := by
  obtain ⟨cs, a1, a2, -, a4, -⟩ := H
  exact ⟨_, _, _, cs, a1, a2, a4⟩
theorem xB_bZ {cs : List (Nat × Nat)} (H : xB h x bb ln T MK B cs) : bZ h bb := ⟨_, _, _, cs, H.2.1, H.2.2.1, H.2.2.2.2.1⟩
theorem kZ_of {gb : Nat} {ga : Int32} (R : kR h x ln T MK) (H : oC h (x + 216) 1 [.ref (x + 105), .ref gb, .int ga]) (K : ∃ st pt bb i, tH h x bb st pt i) : kZ h x := by
  obtain ⟨KD, PL, WD, VL, a1, -⟩ := R
  obtain ⟨st, pt, b, i, c1, MA, c2, c3, c4⟩ := K
  exact ⟨⟨_, _, KD, PL, WD, VL, MK, a1⟩, ⟨gb, ga, H⟩, st, pt, b, i, MA, c1, c2, c3, c4⟩
theorem c_teach (H : CI h x B G tp er sc) : jF (jm_D (d + 72) mX11_teach [.ref x] h) (.inl (some (.int (match aTe tp with | .inl e => Int32.ofNat e.1 | .inr _ => 0)))) fun h' => jS (jn x 369) h h' ∧ match aTe tp with
    | .inl e => CI h' x B G [] (e.2 : Int) sc
    | .inr B' => CI h' x B' ((B'.2.2.1, fun _ => 0), 0, 0) [] (-1) sc := by
  obtain ⟨⟨bk, sp, TP, b1, b2, b3, b4, b5, b6, ⟨⟨cn, ln, KD, PL, WD, VL, MK, kt⟩, ⟨gb, ga, kg⟩, st, pt, tb, ti, MA, k1, k2, k3, k4⟩, b8⟩, A, C, g⟩ := H
  have hx : 128 ≤ x := b2.2
  have hb : sp = x + 1 ∨ sp = x + 112 := by omega
  obtain ⟨hT, hN, hK⟩ := ktks_T (tp := tp)
  refine jE_of (fun r => gX11_teach) ?_
  have er1 : jr_I h x 10 1 0 = some (Int32.ofNat tp.length) := oC_I b2 rfl
  have ob9 : jm_ob h (x + 105) 9 = true := by
    obtain ⟨KW, q1, -⟩ := id kt
    exact oC_ob q1 rfl
  simp only [oC_R b2 (k := 3) rfl, er1, Option.bind_some, jm_O_eq ob9]
  refine jE_V (t_read (d := d + 62) hx b4.1 kt ⟨TP, b3, b4⟩ b8) ?_
  rintro h1 ⟨F1, MK1, R1, Z1⟩
  -- the tape is empty
  have o1 := oC_tr b2 F1 (by unfold jn; omega)
  obtain ⟨h2, e2, F2, o2⟩ := oC_w (k := 1) (t := 0) (v := .int 0) o1 (by simp [CF]) rfl
  have o2' : oC h2 x 10 (CF x bk sp 0 er) := o2
  obtain ⟨as0, ps0, nc0, cs0, z1, z2, z3⟩ := b6
  have f12 : jS (yT x sp) h h2 := jS_tr (jS_mn F1 fun a ha => Or.inr (Or.inl ha)) (jS_mn F2 fun a ha => Or.inl (by unfold jn at ha; omega))
  have D12 : ∀ y, (jn (x + 105) 7 y ∨ jn x 1 y) → jn sp 89 y → False := fun y y1 y2 => by unfold jn at y1 y2; omega
  have F12 : jS (fun y => jn (x + 105) 7 y ∨ jn x 1 y) h h2 := jS_tr (jS_mn F1 fun a ha => Or.inl ha) (jS_mn F2 fun a ha => Or.inr ha)
  have z1' := bC_tr z1 F12 fun y y1 y2 => D12 y y1 (by unfold jn at y2 ⊢; omega)
  simp only [e2, oC_R o2' (k := 7) rfl, Option.bind_some, jm_O_eq (bC_ob z1')]
  refine jE_V (b_clear z1') ?_
  rintro h3 ⟨F3, K3⟩
  have f13 : jS (yT x sp) h h3 := jS_tr f12 (jS_mn F3 fun a ha => Or.inr (Or.inr (Or.inl (by unfold jn at ha ⊢; omega))))
  have F13 : jS (fun y => jn (x + 105) 7 y ∨ jn x 1 y ∨ jn sp 1 y) h h3 := jS_tr (jS_mn F12 fun a ha => ha.elim Or.inl fun z => Or.inr (Or.inl z)) (jS_mn F3 fun a ha => Or.inr (Or.inr ha))
  have o3 := oC_tr o2' F3 (by unfold jn; omega)
  have R3 := kR_tr (kR_tr R1 F2 fun y y1 y2 => by unfold jn at y1 y2; omega) F3 fun y y1 y2 => by unfold jn at y1 y2; omega
  have kg3 := oC_tr kg F13 (by unfold jn; omega)
  have P3 : ∀ p, p < 12 → ∃ l, pU h3 (sp + 13 + 5 * p) l := fun p hp => by
    obtain ⟨l, hl⟩ := z2 p hp
    exact ⟨l, pU_tr hl F13 fun y y1 y2 => by unfold jn at y1 y2; omega⟩
  have N3 : ∀ n, n < 16 → ∃ x1 x2 x3 x4, oC h3 (sp + 73 + n) 2 [.int x1, .int x2, .int x3, .int x4] := fun n hn => by
    obtain ⟨x1, x2, x3, x4, hz⟩ := z3 n hn
    exact ⟨x1, x2, x3, x4, oC_tr hz F13 fun z => by unfold jn at z; omega⟩
  have k13 := oC_tr k1 F13 (by unfold jn; omega)
  have k23 := lC_tr k2 F13 (by unfold jn; omega)
  simp only [oC_R o3 (k := 4) rfl, oC_R o3 (k := 7) rfl, Option.bind_some, jm_O_eq (oC_ob kg3 (cn := 1) rfl)]
  obtain ⟨v4, h4, e4, rfl, MK4, cs4, X4, F4, Q4⟩ := u_book (d := d + 70) hT hb hK (by omega) kg3 R3 K3
  have e4' : jm_D (d + 71) mX1_firstWrongToken [.ref (x + 216), .ref sp] h3 = some (.inl (some (.int (uA (uBk (ktks tp 401 0) 400 0 0)))), h4) := e4
  rw [e4', jc_I_eq]
  have F4' : jS (yT x sp) h3 h4 := jS_mn F4 fun a ha => by
    rcases ha with z | z | z
    · exact Or.inr (Or.inr (Or.inr (by unfold jn; omega)))
    · exact Or.inr (Or.inl z)
    · exact Or.inr (Or.inr (Or.inl (by unfold jn at z ⊢; omega)))
  have f14 := jS_tr f13 F4'
  have DU : ∀ y, uU x sp y → y = x + 216 ∨ jn (x + 105) 7 y ∨ jn sp 7 y := fun y z => z
  have o4 := oC_tr o3 F4 (fun z => by have := DU _ z; unfold jn at this; omega)
  have P4 : ∀ p, p < 12 → ∃ l, pU h4 (sp + 13 + 5 * p) l := fun p hp => by
    obtain ⟨l, hl⟩ := P3 p hp
    exact ⟨l, pU_tr hl F4 fun y y1 y2 => by have := DU _ y1; unfold jn at this y2; omega⟩
  have N4 : ∀ n, n < 16 → ∃ x1 x2 x3 x4, oC h4 (sp + 73 + n) 2 [.int x1, .int x2, .int x3, .int x4] := fun n hn => by
    obtain ⟨x1, x2, x3, x4, hz⟩ := N3 n hn
    exact ⟨x1, x2, x3, x4, oC_tr hz F4 fun z => by have := DU _ z; unfold jn at this; omega⟩
  have k14 := oC_tr k13 F4 (fun z => by have := DU _ z; unfold jn at this; omega)
  have k24 := lC_tr k23 F4 (fun z => by have := DU _ z; unfold jn at this; omega)
  -- what is not touched
  have keep : ∀ {hN : jm_H}, jS (yT x sp) h hN → jS (jn x 369) h hN ∧ bA hN bk B ∧ aC hN (x + 104) 2 2000 TP ∧ kO hN sc ∧ sA hN (x + 219) (x + 201) G.1 G.2.1 G.2.2 B.2.1.length ∧ CS hN x := by
    intro hN F
    obtain ⟨c1, ⟨S, e, dd, c2⟩, ⟨l1, c3⟩, ⟨l2, c4⟩, c5⟩ := id C
    refine ⟨jS_mn F fun a ha => by unfold yT jn at ha; unfold jn; omega, bA_tr b5 F fun y y1 y2 => by unfold yT jn at y1; unfold jn at y2; omega, aC_tr b3 F fun z => by unfold yT jn at z; omega, kO_tr b8 F fun y hy => by unfold yT jn at hy; omega, sA_tr A F fun y y1 y2 => by unfold yT jn at y1; unfold jn at y2; omega, tI_tr c1 F fun y y1 y2 => by unfold yT jn at y1; unfold jn at y2; omega, ⟨S, e, dd, sA_tr c2 F fun y y1 y2 => by unfold yT jn at y1; unfold jn at y2; omega⟩, ⟨l1, pU_tr c3 F fun y y1 y2 => by unfold yT jn at y1; unfold jn at y2; omega⟩, ⟨l2, pU_tr c4 F fun y y1 y2 => by unfold yT jn at y1; unfold jn at y2; omega⟩, eI_tr c5 F fun y y1 y2 => by unfold yT jn at y1; unfold jn at y2; omega⟩
  have tp0 : ∀ TP, tpR [] TP := fun TP => ⟨Nat.zero_le _, fun j hj => absurd hj (Nat.not_lt_zero _)⟩
  -- an error
  have err : ∀ (hN : jm_H) (er0 : Int) (p e : Nat) (MKN : Nat → Int32) (gb' : Nat) (ga' : Int32), 0 < e → e < 6 → p < 2147483648 → jS (yT x sp) h hN → oC hN x 10 (CF x bk sp 0 er0) → kR hN x tp.length (ktks tp 401 0) MKN → oC hN (x + 216) 1 [.ref (x + 105), .ref gb', .int ga'] → (∃ st pt bb i, tH hN x bb st pt i) → bZ hN sp → jF (kX11_teach_61 (d + 71) x (Int32.ofNat p) (Int32.ofNat e) none hN) (.inl (some (.int (Int32.ofNat e)))) fun h' => jS (jn x 369) h h' ∧ CI h' x B G [] ((uP (ktks tp 401 0) tp.length p : Nat) : Int) sc := by
    intro hN er0 p e MKN gb' ga' he0 he6 hp FN oN RN gN tN bN
    refine jE_of (fun r => gX11_teach_61) ?_
    rw [if_neg (show ¬ Int32.ofNat e = 0 from jne (b := 0) (by omega) (by omega) (by omega))]
    obtain ⟨h5, e5, F5, o5⟩ := oC_w (k := 2) (t := 0) (v := .int (Int32.ofNat (uP (ktks tp 401 0) tp.length p))) oN (by simp [CF]) rfl
    simp only [oC_R oN (k := 3) rfl, Option.bind_some, jm_O_eq (kR_ob RN), k_placeAt hp RN, jc_I_eq, e5]
    have FF : jS (yT x sp) h h5 := jS_tr FN (jS_mn F5 fun a ha => Or.inl (by unfold jn at ha; omega))
    obtain ⟨w1, w2, w3, w4, w5, w6⟩ := keep FF
    refine jF_end ⟨w1, ⟨bk, sp, TP, b1, ?_, w3, tp0 _, w2, bZ_tr bN F5 fun y y1 y2 => by unfold jn at y1 y2; omega, ?_, w4⟩, w5, w6, g⟩
    · have : CF x bk sp 0 ((uP (ktks tp 401 0) tp.length p : Nat) : Int) = (CF x bk sp 0 er0).set 2 (.int (Int32.ofNat (uP (ktks tp 401 0) tp.length p))) := by
        unfold CF
        rw [jw_in]
        rfl
      show oC h5 x 10 (CF x bk sp 0 _)
      rw [this]
      exact o5
    · obtain ⟨st', pt', b', i', tN⟩ := tN
      exact kZ_of (kR_tr RN F5 fun y y1 y2 => by unfold jn at y1 y2; omega) (oC_tr gN F5 (by unfold jn; omega)) ⟨st', pt', b', i', tH_tr tN F5 (by unfold jn; omega) (by unfold jn; omega)⟩
  have gbk : (uBk (ktks tp 401 0) 400 0 0).2.1 ≤ 400 := by
    have : ∀ f n i, i ≤ 400 → (uBk (ktks tp 401 0) f n i).2.1 ≤ 400 := by
      intro f
      induction f with
      | zero => intro n i hi; exact hi
      | succ f ih =>
        intro n i hi
        unfold uBk
        split
        · exact hi
        · have gl := gp_line (n := n) hT hi
          by_cases c : (uLine (ktks tp 401 0) n i).1 = true
          · rw [ub_T c]
            exact ih _ _ gl.2.1
          · rw [ub_F c]
            exact gl.2.1
    exact this 400 0 0 (by omega)
  unfold aTe
  by_cases hP : (uBk (ktks tp 401 0) 400 0 0).1 = true
  · obtain ⟨q1, q2⟩ := Q4 hP
    have q1' : cs4 = cF (uBk (ktks tp 401 0) 400 0 0).2.2.1 := q1
    subst q1'
    obtain ⟨-, m1, m2, m3⟩ := gM_bk hT 400 0 0 (by omega) hP
    have hM : ∀ j, uK (ktks tp 401 0) j = 22 → MK4 j = Int32.ofNat (uM (uBk (ktks tp 401 0) 400 0 0).2.2.2 j) ∧ uM (uBk (ktks tp 401 0) 400 0 0).2.2.2 j ≤ 400 := by
      intro j hj
      rw [q2]
      by_cases c : ∃ m ∈ (uBk (ktks tp 401 0) 400 0 0).2.2.2, m.1 = j
      · obtain ⟨m, hm, rfl⟩ := c
        rw [um_at m2 hm, uM_at m2 hm]
        exact ⟨rfl, m3 m hm hj⟩
      · have c' : ∀ m ∈ (uBk (ktks tp 401 0) 400 0 0).2.2.2, m.1 ≠ j := fun m hm z => c ⟨m, hm, z⟩
        have u0 : ∀ (l : List (Nat × Nat)), (∀ m ∈ l, m.1 ≠ j) → uM l j = 0 := by
          intro l
          induction l with
          | nil => intro _; rfl
          | cons m l ih =>
            intro hl
            obtain ⟨a, b⟩ := m
            show (if a = j then b else uM l j) = 0
            rw [if_neg (hl (a, b) List.mem_cons_self)]
            exact ih fun m hm => hl m (List.mem_cons_of_mem _ hm)
        rw [um_out c', u0 _ c', Z1 j (by have := hT.2 j (by omega) (by omega); omega)]
        exact ⟨rfl, Nat.zero_le _⟩
    rw [if_pos hP]
    have hA : uA (uBk (ktks tp 401 0) 400 0 0) = -1 := if_pos hP
    obtain ⟨v5, h5, e5, F5, ⟨MK5, R5⟩, Q5⟩ := t_firstError (d := d + 62) (M := uM (uBk (ktks tp 401 0) 400 0 0).2.2.2) hb hN hT hK hP hM (fun m hm => ⟨uM_at m2 hm, fun _ => by rw [q2]; exact um_at m2 hm⟩) k14 k24 ⟨k3, k4⟩ X4.2.1 X4.2.2 P4 N4
    have e5' : jm_D (d + 71) mX6_firstError [.ref (x + 217), .ref sp] h4 = some (v5, h5) := e5
    have F5' : jS (yT x sp) h4 h5 := jS_mn F5 fun a ha => by
      rcases ha with z | z | z | z
      · exact Or.inr (Or.inr (Or.inr (by unfold jn; omega)))
      · exact Or.inr (Or.inr (Or.inr (by unfold jn; omega)))
      · exact Or.inr (Or.inl z)
      · exact Or.inr (Or.inr (Or.inl z))
    have f15 := jS_tr f14 F5'
    have DV : ∀ y, xV x sp y → y = x + 217 ∨ y = x + 218 ∨ jn (x + 105) 7 y ∨ jn sp 89 y := fun y z => z
    have o5 := oC_tr o4 F5 (fun z => by have := DV _ z; unfold jn at this; omega)
    have g5 := oC_tr X4.1 F5 (fun z => by have := DV _ z; unfold jn at this; omega)
    rw [hA, if_pos (by decide)]
    simp only [oC_R o4 (k := 5) rfl, oC_R o4 (k := 7) rfl, Option.bind_some, jm_O_eq (oC_ob k14 (cn := 6) rfl), e5']
    cases hq : qBk (ktks tp 401 0) (uM (uBk (ktks tp 401 0) 400 0 0).2.2.2) 400 0 0 aB0 with
    | inl e =>
      rw [hq] at Q5
      obtain ⟨rfl, ⟨st5, pt5, t5⟩, B5, MK5', cs5, x5⟩ := Q5
      have be := qBk_b hT 400 0 0 aB0 e (by omega) hq
      have he : 0 < e.1 ∧ e.1 < 6 := by
        have : ∀ (f n i : Nat) (B : aB) (e : Nat × Nat), qBk (ktks tp 401 0) (uM (uBk (ktks tp 401 0) 400 0 0).2.2.2) f n i B = .inl e → e.1 = 2 ∨ e.1 = 3 ∨ e.1 = 4 ∨ e.1 = 5 := by
          intro f
          induction f with
          | zero => intro n i B e h; cases h
          | succ f ih =>
            intro n i B e h
            unfold qBk at h
            split at h
            · cases h
            cases hz : qLn (ktks tp 401 0) (uM (uBk (ktks tp 401 0) 400 0 0).2.2.2) (uLine (ktks tp 401 0) n i) i B with
            | inl e' => rw [hz] at h; cases h; exact qLn_e (n := n) hz
            | inr B' => rw [hz] at h; exact ih _ _ _ _ h
        have := this 400 0 0 aB0 e hq
        omega
      have pl : jm_D (d + 71) mX6_place [.ref (x + 217)] h5 = some (.inl (some (.int (Int32.ofNat e.2))), h5) := by
        apply gX6_place
        simp only [tH_5 t5, Option.bind_some]
      simp only [jc_I_eq, oC_R o5 (k := 5) rfl, Option.bind_some, jm_O_eq (tH_ob t5), pl]
      exact err h5 er e.2 e.1 MK5 sp _ he.1 he.2 (by omega) f15 o5 R5 g5 ⟨st5, pt5, sp, e.2, t5⟩ (xB_bZ x5)
    | inr B' =>
      rw [hq] at Q5
      obtain ⟨rfl, ⟨st5, pt5, i5, t5⟩, x5⟩ := Q5
      have pl : jm_D (d + 71) mX6_place [.ref (x + 217)] h5 = some (.inl (some (.int (Int32.ofNat i5))), h5) := by
        apply gX6_place
        simp only [tH_5 t5, Option.bind_some]
      simp only [jc_I_eq, oC_R o5 (k := 5) rfl, Option.bind_some, jm_O_eq (tH_ob t5), pl]
      refine jE_of (fun r => gX11_teach_61) ?_
      rw [if_pos rfl]
      obtain ⟨h6, e6, F6, o6⟩ := oC_w (k := 2) (t := 0) (v := .int (-1)) o5 (by simp [CF]) rfl
      obtain ⟨h7, e7, F7, o7⟩ := oC_w (k := 7) (t := 2) (v := .ref bk) o6 (by simp [CF]) rfl
      obtain ⟨h8, e8, F8, o8⟩ := oC_w (k := 6) (t := 2) (v := .ref sp) o7 (by simp [CF]) rfl
      have F68 : jS (jn x 1) h5 h8 := jS_tr F6 (jS_tr F7 F8)
      have r7 : jr_R h6 x 10 7 2 = some sp := oC_R o6 rfl
      have r6 : jr_R h6 x 10 6 2 = some bk := oC_R o6 rfl
      have r9 : jr_R h8 x 10 9 2 = some (x + 219) := oC_R o8 rfl
      have r68 : jr_R h8 x 10 6 2 = some sp := oC_R o8 rfl
      have f18 : jS (yT x sp) h h8 := jS_tr f15 (jS_mn F68 fun a ha => Or.inl (by unfold jn at ha; omega))
      obtain ⟨w1, w2, w3, w4, w5, w6⟩ := keep f18
      have x8 := bA_tr x5 F68 fun y y1 y2 => by unfold jn at y1 y2; omega
      simp only [e6, r7, r6, e7, e8, r9, r68, Option.bind_some, jm_O_eq (sA_ob w5)]
      refine jE_V (g_begin (d := d + 68) (by omega) (sA_any w5 (Nat.zero_le _)) x8) ?_
      rintro h9 ⟨F9, A9⟩
      have x9 := bA_tr x8 F9 fun y y1 y2 => by unfold jn at y1 y2; omega
      refine jF_end ⟨jS_tr w1 (jS_mn F9 fun a ha => by unfold jn at ha ⊢; omega), ⟨sp, bk, TP, by omega, oC_tr (show oC h8 x 10 (CF x sp bk 0 (-1)) from o8) F9 (by unfold jn; omega), aC_tr w3 F9 (by unfold jn; omega), tp0 _, x9, bA_bZ (bA_tr w2 F9 fun y y1 y2 => by unfold jn at y1 y2; omega), ?_, kO_tr w4 F9 fun y hy => by unfold jn at hy; omega⟩, A9, ?_, (bA_g x9).2.2.2.2.2.1⟩
      · refine kZ_of (kR_tr (kR_tr R5 F68 fun y y1 y2 => by unfold jn at y1 y2; omega) F9 fun y y1 y2 => by unfold jn at y1 y2; omega) (oC_tr (oC_tr g5 F68 (by unfold jn; omega)) F9 (by unfold jn; omega)) ⟨st5, pt5, sp, i5, tH_tr (tH_tr t5 F68 (by unfold jn; omega) (by unfold jn; omega)) F9 (by unfold jn; omega) (by unfold jn; omega)⟩
      · obtain ⟨c1, ⟨S, e, dd, c2⟩, ⟨l1, c3⟩, ⟨l2, c4⟩, c5⟩ := w6
        exact ⟨tI_tr c1 F9 fun y y1 y2 => by unfold jn at y1 y2; omega, ⟨S, e, dd, sA_tr c2 F9 fun y y1 y2 => by unfold jn at y1 y2; omega⟩, ⟨l1, pU_tr c3 F9 fun y y1 y2 => by unfold jn at y1 y2; omega⟩, ⟨l2, pU_tr c4 F9 fun y y1 y2 => by unfold jn at y1 y2; omega⟩, eI_tr c5 F9 fun y y1 y2 => by unfold jn at y1 y2; omega⟩
  · rw [if_neg hP]
    have hA : uA (uBk (ktks tp 401 0) 400 0 0) = Int32.ofNat (uBk (ktks tp 401 0) 400 0 0).2.1 := if_neg hP
    rw [hA, if_neg (by rw [jw_neg (by omega)]; exact id)]
    exact err h4 er _ 1 MK4 sp _ (by omega) (by omega) (by omega) f14 o4 X4.2.1 X4.1 ⟨st, pt, tb, ti, k14, MA, k24, k3, k4⟩ ⟨[], [], 0, cs4, X4.2.2, P4, N4⟩
end CT
/-! ===== LEVEL 3: MaskPlays, feed and trim ===== -/
/-- a byte of a number -/
def yb (a k : Int32) : Nat := ((a >>> (k &&& 31)) &&& 255).toBitVec.toNat
def yB (a : Int32) : List Nat := [yb a 24, yb a 16, yb a 8, yb a 0]
section CF
variable {h h' : jm_H} {d x : Nat} {B : aB} {G : aG} {tp : List Nat} {er : Int} {sc : Nat × (Nat → Int32)} {bk sp : Nat} {TP : Nat → Int32}
theorem yb_255 {v : Int32} : (v &&& 255).toBitVec.toNat < 256 := by
  rw [Int32.toBitVec_and, BitVec.toNat_and]
  exact Nat.lt_of_le_of_lt Nat.and_le_right (by decide)
theorem yb_of {v : Int32} : Int32.ofNat (v &&& 255).toBitVec.toNat = v &&& 255 := by
  apply Int32.toBitVec_inj.mp
  rw [Int32.toBitVec_ofNat']
  simp
theorem nar8 {v : Int32} : (Int8.toInt32 (Int32.toInt8 v)) &&& 255 = v &&& 255 := by
  apply Int32.toBitVec_inj.mp
  rw [Int32.toBitVec_and, Int32.toBitVec_and]
  apply BitVec.eq_of_getLsbD_eq
  intro i hi
  rw [BitVec.getLsbD_and, BitVec.getLsbD_and]
  by_cases c : i < 8
  · congr 1
    have e : (Int8.toInt32 (Int32.toInt8 v)).toBitVec = BitVec.signExtend 32 (BitVec.signExtend 8 v.toBitVec) := by simp
    rw [e, BitVec.getLsbD_signExtend, if_pos c, BitVec.getLsbD_signExtend, if_pos (by omega)]
    simp [hi, c]
  · have : (255 : Int32).toBitVec.getLsbD i = false := by
      have : ∀ i, i < 32 → ¬ i < 8 → (255 : Int32).toBitVec.getLsbD i = false := by decide
      exact this i hi c
    rw [this, Bool.and_false, Bool.and_false]
theorem nar2 {v : Int32} : vp_nar (jm_ty 2) (Int8.toInt32 (Int32.toInt8 v)) &&& 255 = v &&& 255 := by
  have e : vp_nar (jm_ty 2) (Int8.toInt32 (Int32.toInt8 v)) = Int8.toInt32 (Int32.toInt8 (Int8.toInt32 (Int32.toInt8 v))) := rfl
  rw [e, nar8, nar8]
theorem c_app1 {a k : Int32} (hk : ¬ k < 0) (hl : tp.length < 2000) (H : oC h x 10 (CF x bk sp tp.length er)) (A : aC h (x + 104) 2 2000 TP) (R : tpR tp TP) : ∃ h' TP', jS (fun y => y = x ∨ y = x + 104) h h' ∧ oC h' x 10 (CF x bk sp (tp ++ [yb a k]).length er) ∧ aC h' (x + 104) 2 2000 TP' ∧ tpR (tp ++ [yb a k]) TP' ∧ ∀ r, kX11_appendBytes_3 d x a (k + (-8)) h' = some r → kX11_appendBytes_3 d x a k h = some r := by
  obtain ⟨h1, e1, F1, A1⟩ := aC_w (x := Int8.toInt32 (Int32.toInt8 (a >>> (k &&& 31)))) A hl (by omega)
  have o1 := oC_tr H F1 (by unfold jn; omega)
  obtain ⟨h2, e2, F2, o2⟩ := oC_w (k := 1) (t := 0) (v := .int (Int32.ofNat (tp.length + 1))) o1 (by simp [CF]) rfl
  have r1 : ∀ {g : jm_H}, oC g x 10 (CF x bk sp tp.length er) → jr_I g x 10 1 0 = some (Int32.ofNat tp.length) := fun z => oC_I z rfl
  have r0 : jr_R h x 10 0 2 = some (x + 104) := oC_R H rfl
  refine ⟨h2, _, jS_tr (jS_mn F1 fun y hy => Or.inr (by unfold jn at hy; omega)) (jS_mn F2 fun y hy => Or.inl (by unfold jn at hy; omega)), ?_, aC_tr A1 F2 (by unfold jn; omega), ⟨by rw [List.length_append]; show tp.length + 1 ≤ 2000; omega, fun i hi => ?_⟩, fun r z => ?_⟩
  · rw [List.length_append]
    exact o2
  · rw [List.length_append] at hi
    have hi' : i < tp.length + 1 := hi
    by_cases e : i = tp.length
    · subst e
      have eg : (tp ++ [yb a k]).getD tp.length 0 = yb a k := by simp [List.getD]
      rw [eg]
      refine ⟨yb_255, ?_⟩
      show (if tp.length = tp.length then _ else _) &&& 255 = _
      rw [if_pos rfl, nar2]
      exact yb_of.symm
    · have eg : (tp ++ [yb a k]).getD i 0 = tp.getD i 0 := by
        simp only [List.getD]
        rw [List.getElem?_append_left (by omega)]
      rw [eg]
      refine ⟨(R.2 i (by omega)).1, ?_⟩
      show (if i = tp.length then _ else TP i) &&& 255 = _
      rw [if_neg e]
      exact (R.2 i (by omega)).2
  · apply gX11_appendBytes_3
    simp only [r1 H, r0, aC_len A, e1, r1 o1, jw_add1, e2, Option.bind_some]
    rw [if_neg hk, if_neg (by rw [jw_neg (by omega)]; exact id), if_pos (by rw [jw_lt (by omega) (by omega)]; exact hl)]
    exact z
theorem c_app {a : Int32} (hl : tp.length + 4 ≤ 2000) (H : oC h x 10 (CF x bk sp tp.length er)) (A : aC h (x + 104) 2 2000 TP) (R : tpR tp TP) : jF (jm_D (d + 1) mX11_appendBytes [.ref x, .int a] h) (.inl none) fun h' => ∃ TP', jS (fun y => y = x ∨ y = x + 104) h h' ∧ oC h' x 10 (CF x bk sp (tp ++ yB a).length er) ∧ aC h' (x + 104) 2 2000 TP' ∧ tpR (tp ++ yB a) TP' := by
  refine jE_of (fun r => gX11_appendBytes) ?_
  obtain ⟨h1, T1, F1, H1, A1, R1, g1⟩ := c_app1 (d := d) (a := a) (k := 24) (by decide) (by omega) H A R
  have l1 : (tp ++ [yb a 24]).length = tp.length + 1 := by simp
  obtain ⟨h2, T2, F2, H2, A2, R2, g2⟩ := c_app1 (d := d) (a := a) (k := 16) (by decide) (by omega) H1 A1 R1
  have l2 : (tp ++ [yb a 24] ++ [yb a 16]).length = tp.length + 2 := by simp
  obtain ⟨h3, T3, F3, H3, A3, R3, g3⟩ := c_app1 (d := d) (a := a) (k := 8) (by decide) (by omega) H2 A2 R2
  have l3 : (tp ++ [yb a 24] ++ [yb a 16] ++ [yb a 8]).length = tp.length + 3 := by simp
  obtain ⟨h4, T4, F4, H4, A4, R4, g4⟩ := c_app1 (d := d) (a := a) (k := 0) (by decide) (by omega) H3 A3 R3
  have el : tp ++ [yb a 24] ++ [yb a 16] ++ [yb a 8] ++ [yb a 0] = tp ++ yB a := by simp [yB]
  rw [el] at H4 R4
  refine jF_eq (g1 _ (g2 _ (g3 _ (g4 _ ?_)))) (P := fun h' => ∃ TP', jS (fun y => y = x ∨ y = x + 104) h h' ∧ oC h' x 10 (CF x bk sp (tp ++ yB a).length er) ∧ aC h' (x + 104) 2 2000 TP' ∧ tpR (tp ++ yB a) TP') ⟨T4, jS_tr F1 (jS_tr F2 (jS_tr F3 F4)), H4, A4, R4⟩
  apply gX11_appendBytes_3
  rw [if_pos (by decide)]
theorem CI_tape {tp' : List Nat} {TP' : Nat → Int32} (H : CI h x B G tp er sc) (F : jS (fun y => y = x ∨ y = x + 104) h h') (H' : ∀ bk sp, oC h x 10 (CF x bk sp tp.length er) → oC h' x 10 (CF x bk sp tp'.length er)) (A : aC h' (x + 104) 2 2000 TP') (R : tpR tp' TP') : CI h' x B G tp' er sc := by
  obtain ⟨⟨bk, sp, TP, b1, b2, b3, b4, b5, b6, b7, b8⟩, a1, ⟨c1, ⟨S, e, dd, c2⟩, ⟨l1, c3⟩, ⟨l2, c4⟩, c5⟩, g⟩ := H
  have hx : 128 ≤ x := b2.2
  exact ⟨⟨bk, sp, TP', b1, H' bk sp b2, A, R, bA_tr b5 F fun y y1 y2 => by unfold jn at y2; omega, bZ_tr b6 F fun y y1 y2 => by unfold jn at y2; omega, kZ_tr b7 F fun y y1 y2 => by unfold jn at y2; omega, kO_tr b8 F fun y hy => by omega⟩, sA_tr a1 F fun y y1 y2 => by unfold jn at y2; omega, ⟨tI_tr c1 F fun y y1 y2 => by unfold jn at y2; omega, ⟨S, e, dd, sA_tr c2 F fun y y1 y2 => by unfold jn at y2; omega⟩, ⟨l1, pU_tr c3 F fun y y1 y2 => by unfold jn at y2; omega⟩, ⟨l2, pU_tr c4 F fun y y1 y2 => by unfold jn at y2; omega⟩, eI_tr c5 F fun y y1 y2 => by unfold jn at y2; omega⟩, g⟩
/-- feed -/
theorem c_feed {a b c e f : Int32} (H : CI h x B G tp er sc) : jF (jm_D (d + 2) mX11_feed [.ref x, .int a, .int b, .int c, .int e, .int f] h) (if 2000 < tp.length + 20 then .inr 0 else .inl (some (.int (Int32.ofNat (tp.length + 20))))) fun h' => jG (jn x 369) (if 2000 < tp.length + 20 then 1 else 0) h h' ∧ CI h' x B G (if 2000 < tp.length + 20 then tp else tp ++ (yB a ++ yB b ++ yB c ++ yB e ++ yB f)) er sc := by
  refine jE_of (fun r => gX11_feed) ?_
  obtain ⟨bk, sp, TP, b1, b2, b3, b4, -⟩ := id H.1
  have ln : tp.length ≤ 2000 := b4.1
  have r1 : ∀ {g : jm_H} {n : Nat}, oC g x 10 (CF x bk sp n er) → jr_I g x 10 1 0 = some (Int32.ofNat n) := fun z => oC_I z rfl
  simp only [r1 b2, Option.bind_some]
  rw [show (20 : Int32) = Int32.ofNat 20 from rfl, jw_add, show (2000 : Int32) = Int32.ofNat 2000 from rfl]
  by_cases q : 2000 < tp.length + 20
  · rw [if_pos (by rw [jw_lt (by omega) (by omega)]; exact q), if_pos q, if_pos q, if_pos q]
    refine jF_end ⟨jG_1 jS_rf, ?_⟩
    exact H
  · rw [if_neg (by rw [jw_lt (by omega) (by omega)]; exact q), if_neg q, if_neg q, if_neg q]
    have lb : ∀ a, (yB a).length = 4 := fun _ => rfl
    have ob : ∀ {g : jm_H} {n : Nat}, oC g x 10 (CF x bk sp n er) → jm_ob g x 11 = true := fun z => oC_ob z rfl
    rw [jm_O_eq (ob b2)]
    refine jE_V (c_app (by omega) b2 b3 b4) ?_
    rintro h1 ⟨T1, F1, H1, A1, R1⟩
    rw [jm_O_eq (ob H1)]
    refine jE_V (c_app (by rw [List.length_append, lb]; omega) H1 A1 R1) ?_
    rintro h2 ⟨T2, F2, H2, A2, R2⟩
    rw [jm_O_eq (ob H2)]
    refine jE_V (c_app (by rw [List.length_append, List.length_append, lb, lb]; omega) H2 A2 R2) ?_
    rintro h3 ⟨T3, F3, H3, A3, R3⟩
    rw [jm_O_eq (ob H3)]
    refine jE_V (c_app (by rw [List.length_append, List.length_append, List.length_append, lb, lb, lb]; omega) H3 A3 R3) ?_
    rintro h4 ⟨T4, F4, H4, A4, R4⟩
    rw [jm_O_eq (ob H4)]
    refine jE_V (c_app (by rw [List.length_append, List.length_append, List.length_append, List.length_append, lb, lb, lb, lb]; omega) H4 A4 R4) ?_
    rintro h5 ⟨T5, F5, H5, A5, R5⟩
    have el : tp ++ yB a ++ yB b ++ yB c ++ yB e ++ yB f = tp ++ (yB a ++ yB b ++ yB c ++ yB e ++ yB f) := by simp
    have ll : (tp ++ (yB a ++ yB b ++ yB c ++ yB e ++ yB f)).length = tp.length + 20 := by simp [lb]
    rw [el] at H5 R5
    simp only [r1 H5, Option.bind_some, ll]
    have F := jS_tr F1 (jS_tr F2 (jS_tr F3 (jS_tr F4 F5)))
    refine jF_end ⟨jG_0 (jS_mn F fun y hy => by unfold jn; omega), CI_tape H F (fun bk' sp' z => ?_) A5 R5⟩
    have zz := z.1.symm.trans b2.1
    have : CF x bk' sp' tp.length er = CF x bk sp tp.length er := by
      simp only [Option.some.injEq, Sum.inr.injEq, Prod.mk.injEq, true_and] at zz
      exact zz
    have e6 := congrArg (fun l : List Value => l[6]?) this
    have e7 := congrArg (fun l : List Value => l[7]?) this
    have e6' : bk' = bk := by simpa [CF] using e6
    have e7' : sp' = sp := by simpa [CF] using e7
    rw [e6', e7']
    exact H5
/-- trim -/
theorem c_trim {n : Int32} (H : CI h x B G tp er sc) : jF (jm_D (d + 1) mX11_trim [.ref x, .int n] h) (if n.toInt < 0 ∨ (tp.length : Int) < n.toInt then .inr 1 else .inl (some (.int n))) fun h' => jG (jn x 369) (if n.toInt < 0 ∨ (tp.length : Int) < n.toInt then 1 else 0) h h' ∧ CI h' x B G (if n.toInt < 0 ∨ (tp.length : Int) < n.toInt then tp else tp.take n.toInt.toNat) er sc := by
  refine jE_of (fun r => gX11_trim) ?_
  obtain ⟨bk, sp, TP, b1, b2, b3, b4, -⟩ := id H.1
  have ln : tp.length ≤ 2000 := b4.1
  have r1 : jr_I h x 10 1 0 = some (Int32.ofNat tp.length) := oC_I b2 rfl
  have e0 : (0 : Int32).toInt = 0 := rfl
  simp only [r1, Option.bind_some, Int32.lt_iff_toInt_lt, e0]
  have el : (Int32.ofNat tp.length).toInt = (tp.length : Int) := by
    rw [← jw_in]
    exact jw_z (by omega) (by omega)
  rw [el]
  by_cases c1 : n.toInt < 0
  · rw [if_pos c1, if_pos (Or.inl c1), if_pos (Or.inl c1), if_pos (Or.inl c1)]
    exact jF_end ⟨jG_1 jS_rf, H⟩
  rw [if_neg c1]
  by_cases c2 : (tp.length : Int) < n.toInt
  · rw [if_pos c2, if_pos (Or.inr c2), if_pos (Or.inr c2), if_pos (Or.inr c2)]
    exact jF_end ⟨jG_1 jS_rf, H⟩
  rw [if_neg c2]
  have c3 : ¬ (n.toInt < 0 ∨ (tp.length : Int) < n.toInt) := by omega
  rw [if_neg c3, if_neg c3, if_neg c3]
  have en : n = Int32.ofNat n.toInt.toNat := by
    rw [← jw_in, Int.toNat_of_nonneg (by omega)]
    exact (Int32.ofInt_toInt n).symm
  have lt : (tp.take n.toInt.toNat).length = n.toInt.toNat := by rw [List.length_take]; omega
  obtain ⟨h1, e1, F1, o1⟩ := oC_w (k := 1) (t := 0) (v := .int n) b2 (by simp [CF]) rfl
  simp only [e1, Option.bind_some]
  refine jF_end ⟨jG_0 (jS_mn F1 fun y hy => by unfold jn at hy ⊢; omega), CI_tape H (jS_mn F1 fun y hy => Or.inl (by unfold jn at hy; omega)) (fun bk' sp' z => ?_) (aC_tr b3 F1 (by unfold jn; omega)) ⟨by rw [lt]; omega, fun i hi => ?_⟩⟩
  · have zz := z.1.symm.trans b2.1
    have : CF x bk' sp' tp.length er = CF x bk sp tp.length er := by
      simp only [Option.some.injEq, Sum.inr.injEq, Prod.mk.injEq, true_and] at zz
      exact zz
    have e6 := congrArg (fun l : List Value => l[6]?) this
    have e7 := congrArg (fun l : List Value => l[7]?) this
    have e6' : bk' = bk := by simpa [CF] using e6
    have e7' : sp' = sp := by simpa [CF] using e7
    have ec : CF x bk sp n.toInt.toNat er = (CF x bk sp tp.length er).set 1 (.int n) := by
      unfold CF
      rw [← en]
      rfl
    rw [e6', e7', lt, ec]
    exact o1
  · rw [lt] at hi
    have : (tp.take n.toInt.toNat).getD i 0 = tp.getD i 0 := by
      simp only [List.getD]
      rw [List.getElem?_take_of_lt hi]
    rw [this]
    exact b4.2 i (by omega)
end CF
