/-! ===== LEVEL 3: Telling, notes ===== -/
section TP
variable {h h' : jm_H} {d x bb ln i pt : Nat} {T : List aK4} {MK : Nat → Int32} {cs : List (Nat × Nat)} {B : aB} {st : List Nat} {row : List Int} {M : Nat → Nat}
theorem xB_mark {j : Nat} {v : Int32} (hb : bb = x + 1 ∨ bb = x + 112) (hj : j < T.length) (H : tH h x bb st pt i) (HB : xB h x bb ln T MK B cs) : jF (jm_D (d + 1) mX9_mark [.ref (x + 105), .int (Int32.ofNat j), .int v] h) (.inl none) fun h' => jS (xV x bb) h h' ∧ tH h' x bb st pt i ∧ xB h' x bb ln T (upd MK j v) B cs := by
  obtain ⟨a1, a2, a3, a4, a5, a6, a7⟩ := HB
  have hle := bC_le a2
  refine jF_mono (k_mark hj a1) ?_
  rintro h1 ⟨F1, R1⟩
  have D2 : ∀ y, jn (x + 105) 7 y → jn bb 89 y → False := fun y y1 y2 => by unfold jn at y1 y2; omega
  refine ⟨jS_mn F1 fun a ha => Or.inr (Or.inr (Or.inl ha)), tH_tr H F1 (by unfold jn; omega) (by unfold jn; omega), R1, bC_tr a2 F1 (fun y y1 y2 => D2 y y1 (by unfold jn at y2 ⊢; omega)), fun p hp => ?_, fun p hp => ?_, fun n hn => ?_, fun n hn => ?_, a7⟩
  · obtain ⟨l, hl⟩ := a3 p hp
    exact ⟨l, pU_tr hl F1 fun y y1 y2 => D2 y y1 (by unfold jn at y2 ⊢; omega)⟩
  · exact pL_tr (a4 p hp) F1 fun y y1 y2 => D2 y y1 (by unfold jn at y2 ⊢; omega)
  · obtain ⟨x1, x2, x3, x4, hx⟩ := a5 n hn
    exact ⟨x1, x2, x3, x4, oC_tr hx F1 fun z => D2 _ z (by unfold jn; omega)⟩
  · exact nA_tr (a6 n hn) F1 fun z => D2 _ z (by unfold jn; omega)
/-- the code of a note, from the tokens behind a place -/
def xC (T : List aK4) (MK : Nat → Int32) (j e : Nat) (c c' : Int32) : Prop := (∀ w, j ≤ w → w < e → uK T w = 8 → (∀ u, w < u → u < e → uK T u ≠ 8) → c' = MK w) ∧ ((∀ w, j ≤ w → w < e → uK T w ≠ 8) → c' = c)
theorem t_note_loop {k0 f0 : Nat} (hb : bb = x + 1 ∨ bb = x + 112) (hN : gTn T) (hT : gT T) (hK : ∀ j, uK T j < 2147483648) {e : Nat} (he : uK T e = 24) : ∀ (f n j : Nat) (c : Int32) (MK : Nat → Int32) (h : jm_H) (o5 : Option Value), n + f = 400 → j ≤ e → e < j + f → e ≤ 400 → (∀ u, j ≤ u → u < e → uK T u ≠ 24) → tH h x bb st pt j → xB h x bb ln T MK B cs →
    match qNm T B.2.1 f j with
    | some p => jE (kX6_note_34 (d + 3) (x + 217) (Int32.ofNat k0) (Int32.ofNat f0) c (Int32.ofNat n) o5 h) fun v h' => jS (xV x bb) h h' ∧ v = .inl (some (.int 3)) ∧ tH h' x bb st pt p ∧ ∃ MK', xB h' x bb ln T MK' B cs
    | none => ∃ h' MK' c' o4 o5', jS (xV x bb) h h' ∧ tH h' x bb st pt e ∧ xB h' x bb ln T MK' B cs ∧ (∀ u, u < j ∨ uK T u ≠ 35 → MK' u = MK u) ∧ (∀ u, j ≤ u → u < e → uK T u = 35 → 0 ≤ fd B.2.1 (uW T u) ∧ MK' u = Int32.ofNat (qpl T B.2.1 u)) ∧ xC T MK j e c c' ∧
      ∀ R, (if Int32.ofNat k0 = 5 then kX6_note_173 (d + 3) (x + 217) (Int32.ofNat k0) (Int32.ofNat f0) c' o4 o5' (Int32.ofNat f0 + 2) h' else kX6_note_173 (d + 3) (x + 217) (Int32.ofNat k0) (Int32.ofNat f0) c' o4 o5' (Int32.ofNat f0) h') = some R → kX6_note_34 (d + 3) (x + 217) (Int32.ofNat k0) (Int32.ofNat f0) c (Int32.ofNat n) o5 h = some R := by
  intro f
  induction f with
  | zero => intro n j c MK h o5 hn hj hf; omega
  | succ f ih =>
    intro n j c MK h o5 hn hj hf h4 hu H HB
    have kA := k_kindAt (d := d + 2) (show j < 2147483648 by omega) HB.1
    unfold qNm
    by_cases c24 : uK T j = 24
    · rw [if_pos c24]
      have hje : j = e := by
        by_cases q : j = e
        · exact q
        · exact absurd c24 (hu j (Nat.le_refl _) (by omega))
      subst hje
      refine ⟨h, MK, c, some (.int (Int32.ofNat n)), o5, jS_rf, H, HB, fun _ _ => rfl, fun u u1 u2 => by omega, ⟨fun w w1 w2 => by omega, fun _ => rfl⟩, fun R z => ?_⟩
      apply gX6_note_34
      simp only [tH_0 H, tH_5 H, Option.bind_some, jm_O_eq (kR_ob HB.1), kA, jc_I_eq]
      rw [if_pos (by rw [show (400 : Int32) = Int32.ofNat 400 from rfl, jw_lt (by omega) (by omega)]; omega), if_pos (show Int32.ofNat (uK T j) = 24 by rw [c24]; rfl)]
      exact z
    rw [if_neg c24]
    have hje : j < e := by
      by_cases q : j = e
      · rw [q] at c24; exact absurd he c24
      · omega
    -- one token further
    have go : ∀ (c1 : Int32) (MK1 : Nat → Int32) (h1 : jm_H) (o1 : Option Value), jS (xV x bb) h h1 → tH h1 x bb st pt j → xB h1 x bb ln T MK1 B cs → (∀ u, u < j ∨ uK T u ≠ 35 → MK1 u = MK u) → (uK T j = 35 → 0 ≤ fd B.2.1 (uW T j) ∧ MK1 j = Int32.ofNat (qpl T B.2.1 j)) → (c1 = if uK T j = 8 then MK j else c) → (∀ R, kX6_note_145 (d + 3) (x + 217) (Int32.ofNat k0) (Int32.ofNat f0) c1 (Int32.ofNat n) o1 h1 = some R → kX6_note_34 (d + 3) (x + 217) (Int32.ofNat k0) (Int32.ofNat f0) c (Int32.ofNat n) o5 h = some R) →
      match qNm T B.2.1 f (j + 1) with
      | some p => jE (kX6_note_34 (d + 3) (x + 217) (Int32.ofNat k0) (Int32.ofNat f0) c (Int32.ofNat n) o5 h) fun v h' => jS (xV x bb) h h' ∧ v = .inl (some (.int 3)) ∧ tH h' x bb st pt p ∧ ∃ MK', xB h' x bb ln T MK' B cs
      | none => ∃ h' MK' c' o4 o5', jS (xV x bb) h h' ∧ tH h' x bb st pt e ∧ xB h' x bb ln T MK' B cs ∧ (∀ u, u < j ∨ uK T u ≠ 35 → MK' u = MK u) ∧ (∀ u, j ≤ u → u < e → uK T u = 35 → 0 ≤ fd B.2.1 (uW T u) ∧ MK' u = Int32.ofNat (qpl T B.2.1 u)) ∧ xC T MK j e c c' ∧
        ∀ R, (if Int32.ofNat k0 = 5 then kX6_note_173 (d + 3) (x + 217) (Int32.ofNat k0) (Int32.ofNat f0) c' o4 o5' (Int32.ofNat f0 + 2) h' else kX6_note_173 (d + 3) (x + 217) (Int32.ofNat k0) (Int32.ofNat f0) c' o4 o5' (Int32.ofNat f0) h') = some R → kX6_note_34 (d + 3) (x + 217) (Int32.ofNat k0) (Int32.ofNat f0) c (Int32.ofNat n) o5 h = some R := by
      intro c1 MK1 h1 o1 F1 H1 B1 m1 m2 hc1 st1
      obtain ⟨h2, e2, F2, H2⟩ := tH_at H1 (j + 1)
      have B2 := xB_tr B1 F2 (fun y y1 y2 => by unfold jn at y1 y2; omega) (fun y y1 y2 => by unfold jn at y1 y2; omega)
      have F12 : jS (xV x bb) h h2 := jS_tr F1 (jS_mn F2 fun a ha => Or.inl (by unfold jn at ha; omega))
      have I := ih (n + 1) (j + 1) c1 MK1 h2 o1 (by omega) (by omega) (by omega) h4 (fun u u1 u2 => hu u (by omega) u2) H2 B2
      have st2 : ∀ R, kX6_note_34 (d + 3) (x + 217) (Int32.ofNat k0) (Int32.ofNat f0) c1 (Int32.ofNat (n + 1)) o1 h2 = some R → kX6_note_34 (d + 3) (x + 217) (Int32.ofNat k0) (Int32.ofNat f0) c (Int32.ofNat n) o5 h = some R := by
        intro R z
        apply st1
        apply gX6_note_145
        simp only [tH_5 H1, Option.bind_some, jw_add1, e2]
        exact z
      cases hq : qNm T B.2.1 f (j + 1) with
      | some p =>
        rw [hq] at I
        obtain ⟨v, h3, e3, F3, Q3⟩ := I
        exact ⟨v, h3, st2 _ e3, jS_tr F12 F3, Q3⟩
      | none =>
        rw [hq] at I
        obtain ⟨h3, MK3, c3, o4, o5', F3, Q1, Q2, Q3, Q4, Q5, Q6⟩ := I
        refine ⟨h3, MK3, c3, o4, o5', jS_tr F12 F3, Q1, Q2, fun u u1 => ?_, fun u u1 u2 u3 => ?_, ⟨fun w w1 w2 w3 w4 => ?_, fun w1 => ?_⟩, fun R z => st2 R (Q6 R z)⟩
        · rw [Q3 u (by omega)]
          exact m1 u u1
        · by_cases q : u = j
          · subst q
            rw [Q3 u (Or.inl (by omega))]
            exact m2 u3
          · exact Q4 u (by omega) u2 u3
        · by_cases q : w = j
          · subst q
            rw [Q5.2 (fun u u1 u2 => w4 u (by omega) u2), hc1, if_pos w3]
          · rw [Q5.1 w (by omega) w2 w3 w4]
            exact m1 w (Or.inr (by omega))
        · rw [Q5.2 (fun u u1 u2 => w1 u (by omega) u2), hc1, if_neg (w1 j (Nat.le_refl _) hje)]
    by_cases c35 : uK T j = 35
    · have hw := hN j c35
      have hl := hT.2 j (by omega) (by omega)
      have po := b_playOf (d := d + 2) HB.2.2.2.2.2.2.2 hw.1.1 HB.2.1
      have fp := fd_b (l := B.2.1) (x := uW T j)
      have hle := bC_le HB.2.1
      have st1 : ∀ R, (if Int32.ofInt (fd B.2.1 (uW T j)) < 0 then some (.inl (some (.int 3)), h) else jc_V (jm_D (d + 3) mX9_mark [.ref (x + 105), .int (Int32.ofNat j), .int (Int32.ofInt (fd B.2.1 (uW T j)))] h) (fun h56 => kX6_note_145 (d + 3) (x + 217) (Int32.ofNat k0) (Int32.ofNat f0) c (Int32.ofNat n) (some (.int (Int32.ofInt (fd B.2.1 (uW T j))))) h56) jx) = some R → kX6_note_34 (d + 3) (x + 217) (Int32.ofNat k0) (Int32.ofNat f0) c (Int32.ofNat n) o5 h = some R := by
        intro R z
        apply gX6_note_34
        simp only [tH_0 H, tH_5 H, tH_4 H, Option.bind_some, jm_O_eq (kR_ob HB.1), kA, jc_I_eq, k_wordAt (show j < 2147483648 by omega) HB.1, jc_L_eq, jm_O_eq (bC_ob HB.2.1), po]
        rw [if_pos (by rw [show (400 : Int32) = Int32.ofNat 400 from rfl, jw_lt (by omega) (by omega)]; omega), if_neg (show ¬ Int32.ofNat (uK T j) = 24 from jne (b := 24) (hK j) (by omega) c24), if_neg (show ¬ Int32.ofNat (uK T j) = 8 from jne (b := 8) (hK j) (by omega) (by omega)), if_pos (show Int32.ofNat (uK T j) = 35 by rw [c35]; rfl)]
        exact z
      by_cases c4 : 0 ≤ fd B.2.1 (uW T j)
      · rw [if_neg (show ¬ (uK T j = 35 ∧ fd B.2.1 (uW T j) < 0) by omega)]
        have hp : fd B.2.1 (uW T j) = ((qpl T B.2.1 j : Nat) : Int) := (Int.toNat_of_nonneg c4).symm
        have hpl : qpl T B.2.1 j < 12 := by omega
        rw [hp, jw_in, if_neg (by rw [jw_neg (by omega)]; exact id)] at st1
        obtain ⟨h1, e1, F1, H1, B1⟩ := jF_ex (xB_mark (d := d + 2) (j := j) (v := Int32.ofNat (qpl T B.2.1 j)) hb (by omega) H HB)
        refine go c _ h1 (some (.int (Int32.ofNat (qpl T B.2.1 j)))) F1 H1 B1 (fun u u1 => ?_) (fun _ => ⟨c4, if_pos rfl⟩) (by rw [if_neg (by omega)]) (fun R z => st1 R ?_)
        · show (if u = j then _ else MK u) = MK u
          rw [if_neg (fun z => by rw [z] at u1; omega)]
        · rw [e1]
          exact z
      · rw [if_pos (show uK T j = 35 ∧ fd B.2.1 (uW T j) < 0 by omega)]
        refine ⟨_, _, st1 _ ?_, jS_rf, rfl, H, MK, HB⟩
        rw [if_pos (show Int32.ofInt (fd B.2.1 (uW T j)) < 0 by rw [show fd B.2.1 (uW T j) = -1 by omega]; decide)]
    · rw [if_neg (show ¬ (uK T j = 35 ∧ fd B.2.1 (uW T j) < 0) by omega)]
      by_cases c8 : uK T j = 8
      · have hl := hT.2 j (by omega) (by omega)
        refine go (MK j) MK h o5 jS_rf H HB (fun _ _ => rfl) (fun z => absurd z c35) (by rw [if_pos c8]) (fun R z => ?_)
        apply gX6_note_34
        simp only [tH_0 H, tH_5 H, tH_4 H, Option.bind_some, jm_O_eq (kR_ob HB.1), kA, jc_I_eq, k_markAt (show j < T.length by omega) HB.1]
        rw [if_pos (by rw [show (400 : Int32) = Int32.ofNat 400 from rfl, jw_lt (by omega) (by omega)]; omega), if_neg (show ¬ Int32.ofNat (uK T j) = 24 from jne (b := 24) (hK j) (by omega) c24), if_pos (show Int32.ofNat (uK T j) = 8 by rw [c8]; rfl)]
        exact z
      · refine go c MK h o5 jS_rf H HB (fun _ _ => rfl) (fun z => absurd z c35) (by rw [if_neg c8]) (fun R z => ?_)
        apply gX6_note_34
        simp only [tH_0 H, tH_5 H, tH_4 H, Option.bind_some, jm_O_eq (kR_ob HB.1), kA, jc_I_eq]
        rw [if_pos (by rw [show (400 : Int32) = Int32.ofNat 400 from rfl, jw_lt (by omega) (by omega)]; omega), if_neg (show ¬ Int32.ofNat (uK T j) = 24 from jne (b := 24) (hK j) (by omega) c24), if_neg (show ¬ Int32.ofNat (uK T j) = 8 from jne (b := 8) (hK j) (by omega) c8), if_neg (show ¬ Int32.ofNat (uK T j) = 35 from jne (b := 35) (hK j) (by omega) c35)]
        exact z
theorem t_note {n : Nat} {R : uR} (hb : bb = x + 1 ∨ bb = x + 112) (hN : gTn T) (hT : gT T) (hK : ∀ j, uK T j < 2147483648) (hi : i ≤ 400) (hS : qSh T n i R) (k0 : uK T i = 4 ∨ uK T i = 5 ∨ uK T i = 7) (hR : R.2.1 ≤ 400) (hc : ∃ rest, cs.drop n = cF R.2.2.1 ++ rest) (hm : ∀ m ∈ R.2.2.2, uK T m.1 = 8 → MK m.1 = Int32.ofNat m.2) (H : tH h x bb st pt i) (HB : xB h x bb ln T MK B cs) : jE (jm_D (d + 4) mX6_note [.ref (x + 217), .int (Int32.ofNat (uK T i))] h) (xM x bb ln T cs MK h i R.2.1 R.2.2.1 (qLn T M R i B)) := by
  refine jE_of (fun r => gX6_note) ?_
  have hle := bC_le HB.2.1
  have e0 : jr_I h bb 0 2 0 = some (Int32.ofNat B.2.2.2.length) := by
    obtain ⟨AN, PN, u, v, CK, CV, a1, -⟩ := HB.2.1
    exact oC_I a1 rfl
  obtain ⟨h1, e1, F1, H1⟩ := tH_at H (i + 1)
  have B1 := xB_tr HB F1 (fun y y1 y2 => by unfold jn at y1 y2; omega) (fun y y1 y2 => by unfold jn at y1 y2; omega)
  have f1 : jS (xV x bb) h h1 := jS_mn F1 fun a ha => Or.inl (by unfold jn at ha; omega)
  simp only [tH_4 H, e0, tH_5 H, jw_add1, e1, tH_5 H1, Option.bind_some]
  unfold qLn
  rw [if_neg (show ¬ uK T i = 0 by omega), if_neg (show ¬ uK T i = 1 by omega)]
  by_cases c16 : 16 ≤ B.2.2.2.length
  · rw [if_neg (by rw [show (16 : Int32) = Int32.ofNat 16 from rfl, jw_lt (by omega) (by omega)]; omega), if_pos c16]
    exact jE_end ⟨jS_rf, rfl, ⟨st, pt, H⟩, B, MK, HB⟩
  rw [if_pos (by rw [show (16 : Int32) = Int32.ofNat 16 from rfl, jw_lt (by omega) (by omega)]; omega), if_neg c16]
  rcases hS with ⟨q, -⟩ | ⟨q, -⟩ | ⟨w, hw, k1, hS⟩
  · omega
  · omega
  -- where the line ends, its when
  obtain ⟨e, he, e400, eR, en, wOK⟩ : ∃ e, uK T e = 24 ∧ e ≤ 400 ∧ R.2.1 = e + 1 ∧ (i + 2 ≤ e ∧ (uK T i = 5 → i + 4 ≤ e ∧ uK T (i + 3) = 35) ∧ ∀ u, i + 1 ≤ u → u < e → uK T u ≠ 24) ∧ ((R.2.2.1 = [] ∧ ∀ u, i + 1 ≤ u → u < e → uK T u ≠ 8) ∨ ∃ t w, R.2.2.1 = t ++ [(37, 0, 0)] ∧ aT t ∧ (∀ o ∈ t, gO T (i + 1) e o) ∧ i + 1 ≤ w ∧ w < e ∧ uK T w = 8 ∧ MK w = Int32.ofNat n ∧ ∀ u, i + 1 ≤ u → u < e → u ≠ w → uK T u ≠ 8) := by
    have lo : ∀ u, i + 1 ≤ u → u < w → uK T u ≠ 24 ∧ uK T u ≠ 8 := fun u u1 u2 => by
      rcases hw with ⟨a, b⟩ | ⟨a, b⟩ | ⟨a, b, c, c2⟩
      · rw [show u = i + 1 by omega, k1]; omega
      · rw [show u = i + 1 by omega, k1]; omega
      · by_cases q1 : u = i + 1
        · rw [q1, k1]; omega
        · by_cases q2 : u = i + 2
          · rw [q2, c]; omega
          · rw [show u = i + 3 by omega, c2]; omega
    rcases hS with ⟨s1, s2, s3⟩ | ⟨s1, s2, s3⟩
    · subst s3
      have e5 : (ug (w + 1)).2.1 = w + 1 := rfl
      refine ⟨w, s2, by omega, rfl, ⟨by omega, fun z => by omega, fun u u1 u2 => (lo u u1 u2).1⟩, Or.inl ⟨rfl, fun u u1 u2 => (lo u u1 u2).2⟩⟩
    · obtain ⟨w8, t, t1, t2, t3, t4, t5, t6, t7⟩ := wh_ok s1
      subst s3
      have eR : (uWh T n w).2.1 + 1 ≤ 400 := hR
      refine ⟨(uWh T n w).2.1, s2, by omega, rfl, ⟨by omega, fun z => ?_, fun u u1 u2 => ?_⟩, Or.inr ⟨t, w, t1, t3, fun o ho => ?_, by omega, by omega, w8, hm (w, n) (by show (w, n) ∈ (uWh T n w).2.2.2; rw [t2]; exact List.mem_cons_self) w8, fun u u1 u2 u3 => ?_⟩⟩
      · rcases hw with ⟨a, b⟩ | ⟨a, b⟩ | ⟨a, b, c, c2⟩
        · omega
        · omega
        · exact ⟨by omega, c2⟩
      · by_cases q : u < w
        · exact (lo u u1 q).1
        · exact (t6 u (by omega) u2).1
      · have := t7 o ho
        exact ⟨this.1, this.2.1, fun z => ⟨by have := (this.2.2.1 z).1; omega, (this.2.2.1 z).2⟩, fun z => ⟨by have := (this.2.2.2 z).1; omega, (this.2.2.2 z).2⟩⟩
      · by_cases q : u < w
        · exact (lo u u1 q).2
        · exact (t6 u (by omega) u2).2 u3
  obtain ⟨n1, n2, n3⟩ := en
  have L := t_note_loop (d := d) (k0 := uK T i) (f0 := i + 1) hb hN hT hK he 400 0 (i + 1) (-1) MK h1 none rfl (by omega) (by omega) e400 n3 H1 B1
  cases hq : qNm T B.2.1 400 (i + 1) with
  | some p =>
    rw [hq] at L
    obtain ⟨v, h2, e2, F2, rfl, H2, MK2, B2⟩ := L
    have e2' : kX6_note_34 (d + 3) (x + 217) (Int32.ofNat (uK T i)) (Int32.ofNat (i + 1)) (-1) 0 none h1 = _ := e2
    rw [e2']
    exact jE_end ⟨jS_tr f1 F2, rfl, ⟨st, pt, H2⟩, B, MK2, B2⟩
  | none =>
    rw [hq] at L
    obtain ⟨h2, MK2, c2, o4, o5, F2, H2, B2, m1, m2, mC, go⟩ := L
    refine jE_of (fun R z => go R z) ?_
    have hl1 := hT.2 (i + 1) (by omega) (by omega)
    obtain ⟨p1, p2⟩ := m2 (i + 1) (Nat.le_refl _) (by omega) k1
    -- the second name
    have two : ∀ j2, (j2 = if uK T i = 5 then i + 3 else i + 1) → jE (kX6_note_173 (d + 3) (x + 217) (Int32.ofNat (uK T i)) (Int32.ofNat (i + 1)) c2 o4 o5 (Int32.ofNat j2) h2) (xM x bb ln T cs MK h i R.2.1 R.2.2.1 (.inr (B.1, B.2.1, B.2.2.1, B.2.2.2 ++ [qnt T B.2.1 R i]))) := by
      intro j2 hj2
      have hj2' : uK T j2 = 35 ∧ i + 1 ≤ j2 ∧ j2 < e := by
        by_cases q : uK T i = 5
        · rw [if_pos q] at hj2
          have := n2 q
          exact ⟨by rw [hj2]; exact this.2, by omega, by omega⟩
        · rw [if_neg q] at hj2
          exact ⟨by rw [hj2]; exact k1, by omega, by omega⟩
      have hl2 := hT.2 j2 (by omega) (by omega)
      obtain ⟨p3, p4⟩ := m2 j2 hj2'.2.1 hj2'.2.2 hj2'.1
      refine jE_of (fun r => gX6_note_173) ?_
      obtain ⟨x1, x2, x3, x4, hx⟩ := B2.2.2.2.2.1 B.2.2.2.length (by omega)
      simp only [tH_4 H2, tH_0 H2, Option.bind_some, jm_O_eq (kR_ob B2.1), k_markAt (show j2 < T.length by omega) B2.1, k_markAt (show i + 1 < T.length by omega) B2.1, jc_I_eq, jm_O_eq (bC_ob B2.2.1), p2, p4]
      refine jE_V (b_addNote (d := d + 1) (by omega) B2.2.1 hx) ?_
      rintro h3 ⟨F3, X3, N3⟩
      have H3 := tH_tr H2 F3 (by unfold jn; omega) (by unfold jn; omega)
      obtain ⟨h4, e4, F4, H4⟩ := tH_at H3 (e + 1)
      simp only [tH_5 H3, Option.bind_some, jw_add1, e4]
      have F34 : jS (fun a => a = x + 217 ∨ jn bb 7 a ∨ jn (bb + 73 + B.2.2.2.length) 1 a) h2 h4 := jS_tr (jS_mn F3 fun a ha => Or.inr ha) (jS_mn F4 fun a ha => Or.inl (by unfold jn at ha; omega))
      have hle2 := bC_le B2.2.1
      rw [eR]
      refine jE_end ⟨jS_tr f1 (jS_tr F2 (jS_mn F34 fun a ha => ?_)), rfl, ⟨st, pt, H4⟩, MK2, ?_, fun u u1 => m1 u (by omega), fun o ho => ?_⟩
      · rcases ha with z | z | z
        · exact Or.inl z
        · exact Or.inr (Or.inr (Or.inr (by unfold jn at z ⊢; omega)))
        · exact Or.inr (Or.inr (Or.inr (by unfold jn at z ⊢; omega)))
      · obtain ⟨a1, a2, a3, a4, a5, a6, a7, a8⟩ := B2
        refine ⟨kR_tr a1 F34 fun y y1 y2 => by unfold jn at y1 y2; omega, ?_, fun p hp => ?_, fun p hp => ?_, fun n hn => ?_, fun n' hn => ?_, a7, a8⟩
        · show bC h4 bb B.1 B.2.1 (B.2.2.2 ++ [qnt T B.2.1 R i]).length cs
          rw [List.length_append]
          exact bC_tr X3 F4 (fun y y1 y2 => by unfold jn at y1 y2; omega)
        · obtain ⟨l, hl⟩ := a3 p hp
          exact ⟨l, pU_tr hl F34 fun y y1 y2 => by unfold jn at y1 y2; omega⟩
        · exact pL_tr (a4 p hp) F34 fun y y1 y2 => by
            have : p < B.2.1.length := hp
            unfold jn at y1 y2; omega
        · by_cases q : n = B.2.2.2.length
          · subst q
            exact ⟨_, _, _, _, oC_tr N3 F4 (by unfold jn; omega)⟩
          · obtain ⟨x1, x2, x3, x4, hx⟩ := a5 n hn
            exact ⟨x1, x2, x3, x4, oC_tr hx F34 fun z => by unfold jn at z; omega⟩
        · have hn' : n' < B.2.2.2.length + 1 := by
            have : n' < (B.2.2.2 ++ [qnt T B.2.1 R i]).length := hn
            rw [List.length_append] at this
            exact this
          by_cases q : n' = B.2.2.2.length
          · subst q
            have eg : (B.2.2.2 ++ [qnt T B.2.1 R i]).getD B.2.2.2.length n0 = qnt T B.2.1 R i := by simp [List.getD]
            show nA h4 (bb + 73 + B.2.2.2.length) cs ((B.2.2.2 ++ [qnt T B.2.1 R i]).getD B.2.2.2.length n0)
            rw [eg]
            refine ⟨Int32.ofNat (qpl T B.2.1 (i + 1)), c2, ?_, fun _ => ?_, ?_⟩
            · exact (show oC h4 (bb + 73 + B.2.2.2.length) 2 [.int (Int32.ofNat (uK T i)), .int (Int32.ofNat (qpl T B.2.1 (if uK T i = 5 then i + 3 else i + 1))), .int (Int32.ofNat (qpl T B.2.1 (i + 1))), .int c2] by
                rw [← hj2]; exact oC_tr N3 F4 (by unfold jn; omega))
            · rfl
            · show cP cs (if R.2.2.1 = [] then none else some R.2.2.1.dropLast) c2
              rcases wOK with ⟨r1, r2⟩ | ⟨t, w, r1, r2, r3, r4, r5, r6, r7, r8⟩
              · rw [if_pos r1]
                exact mC.2 r2
              · rw [if_neg (by rw [r1]; simp), r1, List.dropLast_concat]
                obtain ⟨rest, hrest⟩ := hc
                refine ⟨n, rest, ?_, ?_⟩
                · rw [mC.1 w r4 r5 r6 (fun u u1 u2 => r8 u (by omega) u2 (by omega)), r7]
                · rw [hrest, r1, cF_app, cF_one, List.append_assoc]
                  rfl
          · have eg : (B.2.2.2 ++ [qnt T B.2.1 R i]).getD n' n0 = B.2.2.2.getD n' n0 := by
              simp only [List.getD]
              rw [List.getElem?_append_left (by omega)]
            show nA h4 (bb + 73 + n') cs ((B.2.2.2 ++ [qnt T B.2.1 R i]).getD n' n0)
            rw [eg]
            exact nA_tr (a6 n' (by omega)) F34 fun z => by unfold jn at z; omega
      · rcases wOK with ⟨r1, -⟩ | ⟨t, w, r1, r2, r3, -⟩
        · rw [r1] at ho; cases ho
        · rw [r1] at ho
          rcases List.mem_append.mp ho with q | q
          · have g := r3 o q
            refine ⟨fun z => ?_, fun z => ?_⟩
            · obtain ⟨z1, z2, z3⟩ := g.2.2.1 z
              exact m2 _ z1 z2 z3
            · obtain ⟨z1, z2, z3⟩ := g.2.2.2 z
              exact m2 _ z1 z2 z3
          · rw [List.mem_singleton.mp q]
            exact ⟨fun z => absurd z.2 (by show ¬ (37 : Nat) ≤ 14; omega), fun z => absurd z (by show ¬ (37 : Nat) = 14; omega)⟩
    by_cases c5 : uK T i = 5
    · rw [if_pos (show Int32.ofNat (uK T i) = 5 by rw [c5]; rfl), show Int32.ofNat (i + 1) + 2 = Int32.ofNat (i + 3) from jw_addL (b := 2)]
      exact two (i + 3) (by rw [if_pos c5])
    · rw [if_neg (show ¬ Int32.ofNat (uK T i) = 5 from jne (b := 5) (hK i) (by omega) c5)]
      exact two (i + 1) (by rw [if_neg c5])
end TP
/-! ===== LEVEL 3: what is told is a playbook ===== -/
def gNt (T : List aK4) (ps : List Nat) (n : aN) : Prop := (n.1 = 4 ∨ n.1 = 5 ∨ n.1 = 7) ∧ n.2.1 < ps.length ∧ n.2.2.1 < ps.length ∧ ∀ t, n.2.2.2 = some t → aT t ∧ ∀ o ∈ t, o.1 ≠ 35 ∧ o.1 ≠ 37 ∧ (10 ≤ o.1 ∧ o.1 ≤ 14 → 0 ≤ fd ps (uW T o.2.1)) ∧ (o.1 = 14 → 0 ≤ fd ps (uW T o.2.2))
def gE (T : List aK4) (B : aB) : Prop := B.1.length ≤ 8 ∧ B.2.1.length ≤ 12 ∧ B.2.2.2.length ≤ 16 ∧ bN B.1 ∧ bN B.2.1 ∧ (∀ p, p < B.2.1.length → gR (B.2.2.1 p)) ∧ ∀ n ∈ B.2.2.2, gNt T B.2.1 n
section TE
variable {T : List aK4} {M : Nat → Nat} {B B' : aB} {R : uR} {n i : Nat}
theorem qNm_none {ps : List Nat} {e : Nat} (he : uK T e = 24) : ∀ f j, qNm T ps f j = none → j ≤ e → e < j + f → (∀ u, j ≤ u → u < e → uK T u ≠ 24) → ∀ u, j ≤ u → u < e → uK T u = 35 → 0 ≤ fd ps (uW T u)
  | 0, j, h, h1, h2, h3, u, u1, u2, u3 => by omega
  | f + 1, j, h, h1, h2, h3, u, u1, u2, u3 => by
    unfold qNm at h
    rw [if_neg (h3 j (Nat.le_refl _) (by omega))] at h
    by_cases c : uK T j = 35 ∧ fd ps (uW T j) < 0
    · rw [if_pos c] at h; cases h
    · rw [if_neg c] at h
      by_cases q : u = j
      · subst q; omega
      · exact qNm_none he f (j + 1) h (by omega) (by omega) (fun v v1 v2 => h3 v (by omega) v2) u (by omega) u2 u3
theorem qpl_lt {ps : List Nat} {j : Nat} (h : 0 ≤ fd ps (uW T j)) : qpl T ps j < ps.length := by
  have := fd_b (l := ps) (x := uW T j)
  unfold qpl; omega
/-- a note's line -/
theorem sh_note (hT : gT T) (hS : qSh T n i R) (k0 : uK T i = 4 ∨ uK T i = 5 ∨ uK T i = 7) (hR : R.2.1 ≤ 400) : ∃ e, uK T e = 24 ∧ e ≤ 400 ∧ R.2.1 = e + 1 ∧ i + 2 ≤ e ∧ uK T (i + 1) = 35 ∧ (uK T i = 5 → i + 4 ≤ e ∧ uK T (i + 3) = 35) ∧ (∀ u, i + 1 ≤ u → u < e → uK T u ≠ 24) ∧ (R.2.2.1 = [] ∨ ∃ t, R.2.2.1 = t ++ [(37, 0, 0)] ∧ aT t ∧ ∀ o ∈ t, gO T (i + 1) e o) := by
  rcases hS with ⟨q, -⟩ | ⟨q, -⟩ | ⟨w, hw, k1, hS⟩
  · omega
  · omega
  have lo : ∀ u, i + 1 ≤ u → u < w → uK T u ≠ 24 := fun u u1 u2 => by
    rcases hw with ⟨a, b⟩ | ⟨a, b⟩ | ⟨a, b, c, c2⟩
    · rw [show u = i + 1 by omega, k1]; omega
    · rw [show u = i + 1 by omega, k1]; omega
    · by_cases q1 : u = i + 1
      · rw [q1, k1]; omega
      · by_cases q2 : u = i + 2
        · rw [q2, c]; omega
        · rw [show u = i + 3 by omega, c2]; omega
  rcases hS with ⟨s1, s2, s3⟩ | ⟨s1, s2, s3⟩
  · subst s3
    have hR' : w + 1 ≤ 400 := hR
    exact ⟨w, s2, by omega, rfl, by omega, k1, fun z => by omega, fun u u1 u2 => lo u u1 u2, Or.inl rfl⟩
  · obtain ⟨w8, t, t1, t2, t3, t4, t5, t6, t7⟩ := wh_ok s1
    subst s3
    have eR : (uWh T n w).2.1 + 1 ≤ 400 := hR
    refine ⟨(uWh T n w).2.1, s2, by omega, rfl, by omega, k1, fun z => ?_, fun u u1 u2 => ?_, Or.inr ⟨t, t1, t3, fun o ho => ?_⟩⟩
    · rcases hw with ⟨a, b⟩ | ⟨a, b⟩ | ⟨a, b, c, c2⟩
      · omega
      · omega
      · exact ⟨by omega, c2⟩
    · by_cases q : u < w
      · exact lo u u1 q
      · exact (t6 u (by omega) u2).1
    · have := t7 o ho
      exact ⟨this.1, this.2.1, fun z => ⟨by have := (this.2.2.1 z).1; omega, (this.2.2.1 z).2⟩, fun z => ⟨by have := (this.2.2.2 z).1; omega, (this.2.2.2 z).2⟩⟩
theorem gNt_app {ps : List Nat} {w : Nat} {n : aN} (h : gNt T ps n) : gNt T (ps ++ [w]) n := by
  obtain ⟨h1, h2, h3, h4⟩ := h
  refine ⟨h1, by rw [List.length_append]; omega, by rw [List.length_append]; omega, fun t ht => ⟨(h4 t ht).1, fun o ho => ?_⟩⟩
  obtain ⟨g1, g2, g3, g4⟩ := (h4 t ht).2 o ho
  exact ⟨g1, g2, fun z => by rw [fd_app (g3 z)]; exact g3 z, fun z => by rw [fd_app (g4 z)]; exact g4 z⟩
theorem qLn_gE (hT : gT T) (hN : gTn T) (hS : qSh T n i R) (hR : R.2.1 ≤ 400) (hm : ∀ m ∈ R.2.2.2, M m.1 = m.2) (hB : gE T B) (h : qLn T M R i B = .inr B') : gE T B' := by
  obtain ⟨b1, b2, b3, b4, b5, b6, b7⟩ := hB
  unfold qLn at h
  by_cases c0 : uK T i = 0
  · rw [if_pos c0] at h
    have k1 : uK T (i + 1) = 35 := by
      rcases hS with ⟨-, q, -⟩ | ⟨q, -⟩ | ⟨w, q, -⟩
      · exact q
      · omega
      · omega
    split at h
    · cases h
    split at h
    · cases h
    cases h
    refine ⟨?_, b2, b3, bN_app b4 (hN _ k1), b5, b6, b7⟩
    show (B.1 ++ [_]).length ≤ 8
    rw [List.length_append]
    show B.1.length + 1 ≤ 8
    omega
  rw [if_neg c0] at h
  by_cases c1 : uK T i = 1
  · rw [if_pos c1] at h
    have sh : uK T (i + 1) = 35 ∧ (uPart T 8 (i + 3)).1 = true ∧ uK T (uPart T 8 (i + 3)).2.1 = 24 ∧ R.2.1 = (uPart T 8 (i + 3)).2.1 + 1 ∧ R.2.2.2 = (uPart T 8 (i + 3)).2.2.2 := by
      rcases hS with ⟨q, -⟩ | ⟨-, q1, -, q3, q4, q5⟩ | ⟨w, q, -⟩
      · omega
      · rw [q5]; exact ⟨q1, q3, q4, rfl, rfl⟩
      · omega
    obtain ⟨s1, s2, s3, s4, s5⟩ := sh
    have g3 := gs_part 8 _ s2
    have s7 := g3.1
    split at h
    · cases h
    split at h
    · cases h
    obtain ⟨m, hmn, hq⟩ := q_part (M := M) (as := B.1) (ps := B.2.1) (W := B.2.2.1) hT hN (fun p hp => ⟨(b6 p hp).1, (b6 p hp).2.1⟩) 8 (i + 3) (by omega) s2 (fun m hm' => hm m (by rw [s5]; exact hm')) [] [] (Nat.le_refl _)
    have hmn' : m + (i + 3) ≤ (uPart T 8 (i + 3)).2.1 := hmn
    rcases hq with ⟨r, hr, hq⟩ | ⟨e, hq⟩
    · have hgo := qGo_of (f := 400) hq (by omega) (fun s' z => by cases z; exact s3)
      rw [hgo] at h
      have h' : (if 150 < r.length then Sum.inl (5, (uPart T 8 (i + 3)).2.1) else Sum.inr (B.1, B.2.1 ++ [uW T (i + 1)], aup B.2.2.1 B.2.1.length r, B.2.2.2)) = (Sum.inr B' : (Nat × Nat) ⊕ aB) := h
      split at h'
      · cases h'
      cases h'
      refine ⟨b1, ?_, b3, b4, bN_app b5 (hN _ s1), fun p hp => ?_, fun n hn => gNt_app (b7 n hn)⟩
      · show (B.2.1 ++ [_]).length ≤ 12
        rw [List.length_append]
        show B.2.1.length + 1 ≤ 12
        omega
      · have hp' : p < B.2.1.length + 1 := by
          have : p < (B.2.1 ++ [uW T (i + 1)]).length := hp
          rw [List.length_append] at this
          exact this
        show gR (aup B.2.2.1 B.2.1.length r p)
        unfold aup
        by_cases e : p = B.2.1.length
        · rw [if_pos e]
          exact ⟨hr.1, hr.2, by omega⟩
        · rw [if_neg e]
          exact b6 p (by omega)
    · have hgo := qGo_of (f := 400) hq (by omega) (fun s' z => (by cases z))
      rw [hgo] at h
      cases h
  rw [if_neg c1] at h
  have k0 : uK T i = 4 ∨ uK T i = 5 ∨ uK T i = 7 := by
    rcases hS with ⟨q, -⟩ | ⟨q, -⟩ | ⟨w, q, -⟩ <;> omega
  split at h
  · cases h
  rename_i c16
  obtain ⟨e, he, e400, eR, n1, k1, n2, n3, wOK⟩ := sh_note hT hS k0 hR
  cases hq : qNm T B.2.1 400 (i + 1) with
  | some p => rw [hq] at h; cases h
  | none =>
    rw [hq] at h
    cases h
    have pl := qNm_none he 400 (i + 1) hq (by omega) (by omega) n3
    refine ⟨b1, b2, ?_, b4, b5, b6, fun n hn => ?_⟩
    · show (B.2.2.2 ++ [_]).length ≤ 16
      rw [List.length_append]
      show B.2.2.2.length + 1 ≤ 16
      omega
    · rcases List.mem_append.mp hn with q | q
      · exact b7 n q
      · rw [List.mem_singleton.mp q]
        refine ⟨k0, qpl_lt ?_, qpl_lt (pl (i + 1) (Nat.le_refl _) (by omega) k1), fun t ht => ?_⟩
        · by_cases c5 : uK T i = 5
          · rw [if_pos c5]; exact pl (i + 3) (by omega) (by have := n2 c5; omega) (n2 c5).2
          · rw [if_neg c5]; exact pl (i + 1) (Nat.le_refl _) (by omega) k1
        · rcases wOK with r1 | ⟨t', r1, r2, r3⟩
          · have : (if R.2.2.1 = [] then none else some R.2.2.1.dropLast) = some t := ht
            rw [if_pos r1] at this; cases this
          · have : (if R.2.2.1 = [] then none else some R.2.2.1.dropLast) = some t := ht
            rw [if_neg (by rw [r1]; simp), r1, List.dropLast_concat] at this
            cases this
            refine ⟨r2, fun o ho => ?_⟩
            obtain ⟨g1, g2, g3, g4⟩ := r3 o ho
            exact ⟨g2, g1, fun z => pl _ (g3 z).1 (g3 z).2.1 (g3 z).2.2, fun z => pl _ (g4 z).1 (g4 z).2.1 (g4 z).2.2⟩
/-- looked up, it is a playbook -/
theorem qI_1 {ps : List Nat} {o : aI} : (qI T ps o).1 = o.1 := by
  unfold qI
  split
  · rfl
  split
  · rename_i h; exact h.symm
  · rfl
theorem ak_1 {o o' : aI} (h : o.1 = o'.1) {st : List Bool} : ak o st = ak o' st := by
  unfold ak
  rw [h]
theorem aks_qI {ps : List Nat} : ∀ {t : List aI} {st : List Bool}, aks (t.map (qI T ps)) st = aks t st
  | [], _ => rfl
  | o :: t, st => by
    show (ak (qI T ps o) st).bind (fun q => aks (t.map (qI T ps)) q) = (ak o st).bind fun q => aks t q
    rw [ak_1 (qI_1 (o := o))]
    congr 1
    funext q
    exact aks_qI
theorem bN_mem {l : List Nat} (h : bN l) : ∀ x ∈ l, vW x ∧ 0 < x := fun x hx => by
  obtain ⟨k, hk, rfl⟩ := List.getElem_of_mem hx
  have := h k hk
  rw [List.getD, List.getElem?_eq_getElem hk] at this
  exact this
theorem gE_gB (h : gE T B) : gB (qFi T B) := by
  obtain ⟨b1, b2, b3, b4, b5, b6, b7⟩ := h
  refine ⟨b1, b2, by show (List.map _ _).length ≤ 16; rw [List.length_map]; exact b3, bN_mem b4, bN_mem b5, b6, fun n hn => ?_⟩
  obtain ⟨m, hm, rfl⟩ := List.mem_map.mp hn
  obtain ⟨c1, c2, c3, c4⟩ := b7 m hm
  refine ⟨c1, c2, fun _ => c3, fun t ht => ?_⟩
  have ht' : m.2.2.2.map (List.map (qI T B.2.1)) = some t := ht
  cases hq : m.2.2.2 with
  | none => rw [hq] at ht'; cases ht'
  | some u =>
    rw [hq] at ht'
    cases ht'
    obtain ⟨d1, d2⟩ := c4 u hq
    refine ⟨by unfold aT; rw [aks_qI]; exact d1, fun o ho => ?_⟩
    obtain ⟨p, hp, rfl⟩ := List.mem_map.mp ho
    obtain ⟨e1, e2, e3, e4⟩ := d2 p hp
    rw [qI_1]
    refine ⟨fun z => ?_, fun z => ?_⟩
    · have g := qpl_lt (e3 z)
      show (qI T B.2.1 p).2.1 < B.2.1.length
      unfold qI
      split
      · exact g
      split
      · exact g
      · omega
    · have g := qpl_lt (e4 z)
      show (qI T B.2.1 p).2.2 < B.2.1.length
      unfold qI
      rw [if_neg (by omega), if_pos z]
      exact g
/-- codes, looked up -/
def qc (T : List aK4) (ps : List Nat) (c : Nat × Nat) : Nat × Nat := if c.1 = 35 then (35, qpl T ps c.2) else c
theorem cI_qI {ps : List Nat} {o : aI} (h : o.1 ≠ 35) : cI (qI T ps o) = (cI o).map (qc T ps) := by
  have e : (qI T ps o).1 = o.1 := qI_1
  unfold cI
  rw [e]
  by_cases c1 : 10 ≤ o.1 ∧ o.1 ≤ 13
  · rw [if_pos c1, if_pos c1]
    have : qI T ps o = (o.1, qpl T ps o.2.1, 0) := if_pos c1
    rw [this]
    show _ = [qc T ps (35, o.2.1), qc T ps (o.1, 0)]
    unfold qc
    rw [if_pos rfl, if_neg h]
  rw [if_neg c1, if_neg c1]
  by_cases c2 : o.1 = 14
  · rw [if_pos c2, if_pos c2]
    have : qI T ps o = (14, qpl T ps o.2.1, qpl T ps o.2.2) := (if_neg c1).trans (if_pos c2)
    rw [this]
    rfl
  rw [if_neg c2, if_neg c2]
  have e2 : qI T ps o = o := (if_neg c1).trans (if_neg c2)
  rw [e2]
  split
  · rfl
  · show _ = [qc T ps (o.1, 0)]
    unfold qc
    rw [if_neg h]
theorem cF_qI {ps : List Nat} : ∀ {t : List aI}, (∀ o ∈ t, o.1 ≠ 35) → cF (t.map (qI T ps)) = (cF t).map (qc T ps)
  | [], _ => rfl
  | o :: t, h => by
    show cI (qI T ps o) ++ cF (t.map (qI T ps)) = (cI o ++ cF t).map (qc T ps)
    rw [List.map_append, cI_qI (h o List.mem_cons_self), cF_qI fun p hp => h p (List.mem_cons_of_mem _ hp)]
end TE
/-! ===== LEVEL 3: Telling, the whole ===== -/
section TW
variable {h h' : jm_H} {d x bb ln i pt : Nat} {T : List aK4} {MK : Nat → Int32} {cs : List (Nat × Nat)} {B : aB} {st : List Nat} {M : Nat → Nat} {as ps : List Nat} {nc b : Nat}
theorem bC_setV {w : Nat} (hi : i < cs.length) (H : bC h b as ps nc cs) : ∃ h1, jm_asi h (b + 6) 0 (Int32.ofNat i) (Int32.ofNat w) = some h1 ∧ jS (jn b 7) h h1 ∧ bC h1 b as ps nc (cs.set i ((cs.getD i (0, 0)).1, w)) := by
  obtain ⟨AN, PN, u, v, CK, CV, a1, a2, a3, a4, a5, a6, a7, a8, a9, a10, a11, a12, a13, a14, a15, a16⟩ := H
  obtain ⟨h1, e1, F1, H1⟩ := aC_w (x := Int32.ofNat w) a7 (show i < 400 by omega) (by omega)
  rw [nar0] at H1
  refine ⟨h1, e1, jS_1 F1 ⟨by omega, by omega⟩, AN, PN, u, v, CK, _, by rw [List.length_set]; exact oC_tr a1 F1 (by unfold jn; omega), lC_tr a2 F1 (by unfold jn; omega), lC_tr a3 F1 (by unfold jn; omega), rC_tr a4 F1 (by unfold jn; omega), rC_tr a5 F1 (by unfold jn; omega), aC_tr a6 F1 (by unfold jn; omega), H1, a8, a9, a10, a11, fun j hj => ?_, a13, a14, a15, by rw [List.length_set]; exact a16⟩
  rw [List.length_set] at hj
  by_cases e : i = j
  · subst e
    have : (cs.set i ((cs.getD i (0, 0)).1, w)).getD i (0, 0) = ((cs.getD i (0, 0)).1, w) := by
      simp only [List.getD, List.getElem?_set_self hi, Option.getD_some]
    rw [this]
    exact ⟨(a12 i hj).1, if_pos rfl⟩
  · have : (cs.set i ((cs.getD i (0, 0)).1, w)).getD j (0, 0) = cs.getD j (0, 0) := by
      simp only [List.getD, List.getElem?_set_ne e]
    rw [this]
    exact ⟨(a12 j hj).1, (if_neg (fun z => e z.symm)).trans (a12 j hj).2⟩
theorem qc_1 {c : Nat × Nat} : (qc T ps c).1 = c.1 := by
  unfold qc
  split
  · rename_i z; exact z.symm
  · rfl
theorem b_look_loop (hx : b = x + 1 ∨ b = x + 112) (hC : ∀ c ∈ cs, c.1 < 2147483648 ∧ (c.1 = 35 → c.2 < T.length ∧ MK c.2 = Int32.ofNat (qpl T ps c.2))) : ∀ (f i : Nat) (cs' : List (Nat × Nat)) (h : jm_H), i + f = cs.length → cs'.length = cs.length → (∀ j, j < i → cs'.getD j (0, 0) = qc T ps (cs.getD j (0, 0))) → (∀ j, i ≤ j → cs'.getD j (0, 0) = cs.getD j (0, 0)) → kR h x ln T MK → bC h b as ps nc cs' → jF (kX0_lookUpPlays_2 (d + 2) b (x + 105) (Int32.ofNat i) h) (.inl none) fun h' => jS (jn b 7) h h' ∧ bC h' b as ps nc (cs.map (qc T ps)) := by
  intro f
  induction f with
  | zero =>
    intro i cs' h hi hl h1 h2 R H
    refine jE_of (fun r => gX0_lookUpPlays_2) ?_
    have hle := bC_le H
    have e0 : jr_I h b 0 3 0 = some (Int32.ofNat cs'.length) := by
      obtain ⟨AN, PN, u, v, CK, CV, a1, -⟩ := H
      exact oC_I a1 rfl
    simp only [e0, Option.bind_some]
    rw [if_neg (by rw [jw_lt (by omega) (by omega)]; omega)]
    refine jF_end ⟨jS_rf, ?_⟩
    have : cs' = cs.map (qc T ps) := by
      apply List.ext_getElem
      · rw [List.length_map]; exact hl
      · intro j j1 j2
        have := h1 j (by omega)
        rw [List.getD, List.getD, List.getElem?_eq_getElem j1, List.getElem?_eq_getElem (by omega)] at this
        rw [List.getElem_map]
        exact this
    rw [← this]; exact H
  | succ f ih =>
    intro i cs' h hi hl h1 h2 R H
    refine jE_of (fun r => gX0_lookUpPlays_2) ?_
    have hle := bC_le H
    have ek := b_codeKind (d := d + 1) (i := i) H (by omega)
    obtain ⟨AN, PN, u, v, CK, CV, a1, a2, a3, a4, a5, a6, a7, a8, a9, a10, a11, a12, a13, a14, a15, a16⟩ := id H
    have e0 : jr_I h b 0 3 0 = some (Int32.ofNat cs'.length) := oC_I a1 rfl
    have e9 : jr_R h b 0 9 2 = some (b + 6) := oC_R a1 rfl
    simp only [e0, e9, aC_len a7, Option.bind_some, jm_O_eq (bC_ob H), ek, jc_I_eq, jw_add1]
    rw [if_pos (by rw [jw_lt (by omega) (by omega)]; omega), if_pos (by rw [jw_lt (by omega) (by omega)]; omega), h2 i (Nat.le_refl _)]
    have hmem : cs.getD i (0, 0) ∈ cs := by
      rw [List.getD, List.getElem?_eq_getElem (by omega)]
      exact List.getElem_mem _
    obtain ⟨c1, c2⟩ := hC _ hmem
    by_cases c : (cs.getD i (0, 0)).1 = 35
    · obtain ⟨c3, c4⟩ := c2 c
      rw [if_pos (show Int32.ofNat (cs.getD i (0, 0)).1 = 35 by rw [c]; rfl)]
      have er : jm_ali h (b + 6) 0 (Int32.ofNat i) = some (Int32.ofNat (cs.getD i (0, 0)).2) := by
        rw [aC_at a7 (show i < 400 by omega) (by omega), (a12 i (by omega)).2, h2 i (Nat.le_refl _)]
      obtain ⟨h3, e3, F3, H3⟩ := bC_setV (w := qpl T ps (cs.getD i (0, 0)).2) (show i < cs'.length by omega) H
      simp only [er, Option.bind_some, jm_O_eq (kR_ob R), k_markAt c3 R, jc_I_eq, c4, e3]
      refine jF_mono (ih (i + 1) _ h3 (by omega) (by rw [List.length_set]; exact hl) (fun j hj => ?_) (fun j hj => ?_) (kR_tr R F3 fun y y1 y2 => by unfold jn at y1 y2; omega) H3) ?_
      · by_cases e : i = j
        · subst e
          simp only [List.getD, List.getElem?_set_self (show i < cs'.length by omega), Option.getD_some]
          have h2' := h2 i (Nat.le_refl _)
          simp only [List.getD] at h2' c
          rw [h2', c]
          unfold qc
          rw [if_pos c]
        · simp only [List.getD, List.getElem?_set_ne e]
          have := h1 j (by omega)
          simp only [List.getD] at this
          exact this
      · simp only [List.getD, List.getElem?_set_ne (show i ≠ j by omega)]
        have := h2 j (by omega)
        simp only [List.getD] at this
        exact this
      · rintro h4 ⟨F4, H4⟩
        exact ⟨jS_tr F3 F4, H4⟩
    · rw [if_neg (show ¬ Int32.ofNat (cs.getD i (0, 0)).1 = 35 from jne (b := 35) c1 (by omega) c)]
      refine ih (i + 1) cs' h (by omega) hl (fun j hj => ?_) (fun j hj => h2 j (by omega)) R H
      by_cases e : j = i
      · subst e
        rw [h2 j (Nat.le_refl _)]
        unfold qc
        rw [if_neg c]
      · exact h1 j (by omega)
theorem t_line {n : Nat} {R : uR} (hb : bb = x + 1 ∨ bb = x + 112) (hN : gTn T) (hT : gT T) (hK : ∀ j, uK T j < 2147483648) (hM : ∀ j, uK T j = 22 → MK j = Int32.ofNat (M j) ∧ M j ≤ 400) (hW : ∀ p, p < B.2.1.length → gR (B.2.2.1 p)) (hi : i ≤ 400) (hS : qSh T n i R) (hR : R.2.1 ≤ 400) (hc : ∃ rest, cs.drop n = cF R.2.2.1 ++ rest) (hm8 : ∀ m ∈ R.2.2.2, uK T m.1 = 8 → MK m.1 = Int32.ofNat m.2) (hm : ∀ m ∈ R.2.2.2, M m.1 = m.2) (H : tH h x bb st pt i) (HB : xB h x bb ln T MK B cs) : jE (jm_D (d + 7) mX6_line [.ref (x + 217)] h) (xM x bb ln T cs MK h i R.2.1 R.2.2.1 (qLn T M R i B)) := by
  refine jE_of (fun r => gX6_line) ?_
  simp only [tH_0 H, tH_5 H, Option.bind_some, jm_O_eq (kR_ob HB.1), k_kindAt (show i < 2147483648 by omega) HB.1, jc_I_eq, jm_O_eq (tH_ob H)]
  have fin : ∀ {o : Option jm_R} {r : (Nat × Nat) ⊕ aB} {nx : Nat} {ops : List aI}, jE o (xM x bb ln T cs MK h i nx ops r) → jE (jc_I o (fun x24 h22 => some (.inl (some (.int x24)), h22)) jx) (xM x bb ln T cs MK h i nx ops r) := by
    intro o r nx ops ⟨v, h1, e, F, Q⟩
    cases r with
    | inl e' =>
      obtain ⟨rfl, Q⟩ := Q
      rw [e, jc_I_eq]
      exact jE_end ⟨F, rfl, Q⟩
    | inr B' =>
      obtain ⟨rfl, Q⟩ := Q
      rw [e, jc_I_eq]
      exact jE_end ⟨F, rfl, Q⟩
  rcases id hS with ⟨k0, k1, k2, k3⟩ | ⟨k0, k1, k2, k3, k4, k5⟩ | ⟨w, hw, k1, -⟩
  · have l := hT.2 i (by omega) (by omega)
    rw [if_pos (show Int32.ofNat (uK T i) = 0 by rw [k0]; rfl)]
    refine fin ?_
    obtain ⟨v, h1, e, Q⟩ := t_actor (d := d + 2) (n := n) (R := R) hb hN (by omega) k0 k1 H HB
    refine ⟨v, h1, e, ?_⟩
    have := xL_xM (i := i) Q
    subst k3
    exact this
  · have g3 := gs_part 8 _ k3
    have s7 := g3.1
    have l := hT.2 (uPart T 8 (i + 3)).2.1 (by omega) (by omega)
    rw [if_neg (show ¬ Int32.ofNat (uK T i) = 0 from jne (b := 0) (hK i) (by omega) (by omega)), if_pos (show Int32.ofNat (uK T i) = 1 by rw [k0]; rfl)]
    refine fin ?_
    obtain ⟨v, h1, e, Q⟩ := t_play (d := d) (R := R) hb hN hM hT hK hW (by omega) k0 k1 k3 k4 (fun m hm' => hm m (by rw [k5]; exact hm')) H HB
    refine ⟨v, h1, e, ?_⟩
    have := xL_xM (i := i) Q
    rw [k5] at this ⊢
    exact this
  · have k0 : uK T i = 4 ∨ uK T i = 5 ∨ uK T i = 7 := by omega
    rw [if_neg (show ¬ Int32.ofNat (uK T i) = 0 from jne (b := 0) (hK i) (by omega) (by omega)), if_neg (show ¬ Int32.ofNat (uK T i) = 1 from jne (b := 1) (hK i) (by omega) (by omega))]
    exact fin (by
      obtain ⟨v, h1, e, Q⟩ := t_note (d := d + 2) hb hN hT hK hi hS k0 hR hc hm8 H HB
      exact ⟨v, h1, e, Q⟩)
end TW
/-! ===== LEVEL 3: Telling, from the first line to the end ===== -/
section TZ
variable {h h' : jm_H} {d x bb ln i pt : Nat} {T : List aK4} {MK : Nat → Int32} {cs : List (Nat × Nat)} {B : aB} {st : List Nat} {M : Nat → Nat} {as ps : List Nat} {nc b : Nat}
theorem aks_kind : ∀ {t : List aI} {s q : List Bool}, aks t s = some q → ∀ o ∈ t, o.1 ≤ 39
  | o :: t, s, q, h, p, hp => by
    have h' : (ak o s).bind (fun q => aks t q) = some q := h
    cases ha : ak o s with
    | none => rw [ha] at h'; cases h'
    | some s' =>
      rw [ha] at h'
      have h'' : aks t s' = some q := h'
      rcases List.mem_cons.mp hp with e | e
      · subst e
        unfold ak at ha
        by_cases c1 : p.1 = 36
        · omega
        rw [if_neg c1] at ha
        by_cases c2 : p.1 = 9
        · omega
        rw [if_neg c2] at ha
        by_cases c3 : 10 ≤ p.1 ∧ p.1 ≤ 12
        · omega
        rw [if_neg c3] at ha
        by_cases c4 : p.1 = 13 ∨ p.1 = 14
        · omega
        rw [if_neg c4] at ha
        by_cases c5 : p.1 = 15
        · omega
        rw [if_neg c5] at ha
        by_cases c6 : p.1 = 39
        · omega
        rw [if_neg c6] at ha
        by_cases c7 : p.1 = 16 ∨ p.1 = 17
        · omega
        rw [if_neg c7] at ha
        by_cases c8 : p.1 = 18 ∨ p.1 = 19 ∨ (26 ≤ p.1 ∧ p.1 ≤ 29)
        · omega
        rw [if_neg c8] at ha
        by_cases c9 : 30 ≤ p.1 ∧ p.1 ≤ 34
        · omega
        rw [if_neg c9] at ha
        cases ha
      · exact aks_kind h'' p e
theorem cI_mem {o : aI} {c : Nat × Nat} (h : c ∈ cI o) : (c.1 = o.1 ∨ c.1 = 35) ∧ (c.1 = 35 → o.1 = 35 ∨ (10 ≤ o.1 ∧ o.1 ≤ 14 ∧ c.2 = o.2.1) ∨ (o.1 = 14 ∧ c.2 = o.2.2)) := by
  unfold cI at h
  by_cases c1 : 10 ≤ o.1 ∧ o.1 ≤ 13
  · rw [if_pos c1] at h
    rcases List.mem_cons.mp h with e | e
    · subst e; exact ⟨Or.inr rfl, fun _ => Or.inr (Or.inl ⟨c1.1, by omega, rfl⟩)⟩
    · rw [List.mem_singleton.mp e]
      exact ⟨Or.inl rfl, fun z => Or.inl z⟩
  rw [if_neg c1] at h
  by_cases c2 : o.1 = 14
  · rw [if_pos c2] at h
    rcases List.mem_cons.mp h with e | e
    · subst e; exact ⟨Or.inr rfl, fun _ => Or.inr (Or.inl ⟨by omega, by omega, rfl⟩)⟩
    rcases List.mem_cons.mp e with e | e
    · subst e; exact ⟨Or.inr rfl, fun _ => Or.inr (Or.inr ⟨c2, rfl⟩)⟩
    · rw [List.mem_singleton.mp e]
      exact ⟨Or.inl c2.symm, fun z => by have : (14 : Nat) = 35 := z; omega⟩
  rw [if_neg c2] at h
  by_cases c3 : o.1 = 36
  · rw [if_pos c3] at h
    rw [List.mem_singleton.mp h]
    exact ⟨Or.inl c3.symm, fun z => by have : (36 : Nat) = 35 := z; omega⟩
  rw [if_neg c3] at h
  rw [List.mem_singleton.mp h]
  exact ⟨Or.inl rfl, fun z => Or.inl z⟩
theorem nA_map {a : Nat} {n : aN} (H : nA h a cs n) (h35 : ∀ t, n.2.2.2 = some t → ∀ o ∈ t, o.1 ≠ 35) : nA h a (cs.map (qc T ps)) (n.1, n.2.1, n.2.2.1, n.2.2.2.map (List.map (qI T ps))) := by
  obtain ⟨gi, c, a1, a2, a3⟩ := H
  refine ⟨gi, c, a1, a2, ?_⟩
  show cP (cs.map (qc T ps)) (n.2.2.2.map (List.map (qI T ps))) c
  cases hq : n.2.2.2 with
  | none => rw [hq] at a3; exact a3
  | some t =>
    rw [hq] at a3
    obtain ⟨j, rest, e1, e2⟩ := a3
    refine ⟨j, rest.map (qc T ps), e1, ?_⟩
    rw [← List.map_drop, e2, List.map_append]
    have := cF_qI (T := T) (ps := ps) (t := t) (h35 t hq)
    show (cF t).map (qc T ps) ++ _ = cF (t.map (qI T ps)) ++ _
    rw [this]
    rfl
/-- what is looked up at the end -/
def xO (T : List aK4) (i : Nat) (ops : List aI) : Prop := ∀ o ∈ ops, o.1 ≠ 35 ∧ o.1 ≤ 39 ∧ (10 ≤ o.1 ∧ o.1 ≤ 14 → o.2.1 < i ∧ uK T o.2.1 = 35) ∧ (o.1 = 14 → o.2.2 < i ∧ uK T o.2.2 = 35)
theorem t_lookUp {ops : List aI} (hb : bb = x + 1 ∨ bb = x + 112) (hT : gT T) (hE : gE T B) (hO : xO T i ops) (hX : xK T MK B.2.1 ops) (HB : xB h x bb ln T MK B (cF ops)) : jF (jm_D (d + 3) mX0_lookUpPlays [.ref bb, .ref (x + 105)] h) (.inl none) fun h' => jS (jn bb 7) h h' ∧ bA h' bb (qFi T B) := by
  refine jE_of (fun r => gX0_lookUpPlays) ?_
  obtain ⟨a1, a2, a3, a4, a5, a6, a7⟩ := HB
  have hle := bC_le a2
  have key := b_look_loop (d := d) (ps := B.2.1) hb (cs := cF ops) (MK := MK) (fun c hc => by
    obtain ⟨o, ho, hc⟩ := List.mem_flatMap.mp hc
    obtain ⟨m1, m2⟩ := cI_mem hc
    obtain ⟨g1, g2, g3, g4⟩ := hO o ho
    obtain ⟨k1, k2⟩ := hX o ho
    refine ⟨by omega, fun z => ?_⟩
    rcases m2 z with q | ⟨q1, q2, q3⟩ | ⟨q1, q2⟩
    · exact absurd q g1
    · rw [q3]
      have := hT.2 o.2.1 (by have := (g3 ⟨q1, q2⟩).2; omega) (by have := (g3 ⟨q1, q2⟩).2; omega)
      exact ⟨by omega, (k1 ⟨q1, q2⟩).2⟩
    · rw [q2]
      have := hT.2 o.2.2 (by have := (g4 q1).2; omega) (by have := (g4 q1).2; omega)
      exact ⟨by omega, (k2 q1).2⟩) (cF ops).length 0 (cF ops) h (by omega) rfl (fun j hj => absurd hj (Nat.not_lt_zero _)) (fun _ _ => rfl) a1 a2
  refine jF_mono key ?_
  rintro h1 ⟨F1, H1⟩
  refine ⟨F1, (cF ops).map (qc T B.2.1), ?_, fun p hp => ?_, fun p hp => ?_, fun n hn => ?_, fun n hn => ?_, gE_gB hE⟩
  · show bC h1 bb B.1 B.2.1 (B.2.2.2.map _).length _
    rw [List.length_map]
    exact H1
  · obtain ⟨l, hl⟩ := a3 p hp
    exact ⟨l, pU_tr hl F1 fun y y1 y2 => by unfold jn at y1 y2; omega⟩
  · exact pL_tr (a4 p hp) F1 fun y y1 y2 => by unfold jn at y1 y2; omega
  · obtain ⟨x1, x2, x3, x4, hx⟩ := a5 n hn
    exact ⟨x1, x2, x3, x4, oC_tr hx F1 fun z => by unfold jn at z; omega⟩
  · have hn' : n < B.2.2.2.length := by
      have : n < (B.2.2.2.map _).length := hn
      rw [List.length_map] at this
      exact this
    have eg : (B.2.2.2.map fun n => (n.1, n.2.1, n.2.2.1, n.2.2.2.map (List.map (qI T B.2.1)))).getD n n0 = (fun n : aN => ((n.1, n.2.1, n.2.2.1, n.2.2.2.map (List.map (qI T B.2.1))) : aN)) (B.2.2.2.getD n n0) := by
      simp only [List.getD, List.getElem?_map, List.getElem?_eq_getElem hn', Option.map_some, Option.getD_some]
    show nA h1 (bb + 73 + n) _ ((B.2.2.2.map fun n => (n.1, n.2.1, n.2.2.1, n.2.2.2.map (List.map (qI T B.2.1)))).getD n n0)
    rw [eg]
    refine nA_map (nA_tr (a6 n hn') F1 fun z => by unfold jn at z; omega) fun t ht o ho => ?_
    have hm : B.2.2.2.getD n n0 ∈ B.2.2.2 := by
      rw [List.getD, List.getElem?_eq_getElem hn']
      exact List.getElem_mem _
    exact (((hE.2.2.2.2.2.2 _ hm).2.2.2 t ht).2 o ho).1
/-- the orders of a line -/
theorem sh_ops {n : Nat} {R : uR} (hT : gT T) (hS : qSh T n i R) (hR : R.2.1 ≤ 400) : xO T R.2.1 R.2.2.1 ∧ i ≤ R.2.1 := by
  rcases id hS with ⟨k0, k1, k2, k3⟩ | ⟨k0, k1, k2, k3, k4, k5⟩ | ⟨w, hw, k1, -⟩
  · subst k3
    exact ⟨fun o ho => (by cases ho), by show i ≤ i + 3; omega⟩
  · rw [k5]
    have g3 := (gs_part 8 _ k3).1
    exact ⟨fun o ho => (by cases ho), by show i ≤ (uPart T 8 (i + 3)).2.1 + 1; omega⟩
  · obtain ⟨e, he, e400, eR, n1, k1, n2, n3, wOK⟩ := sh_note hT hS (by omega) hR
    refine ⟨fun o ho => ?_, by omega⟩
    rcases wOK with r1 | ⟨t, r1, r2, r3⟩
    · rw [r1] at ho; cases ho
    · rw [r1] at ho
      rcases List.mem_append.mp ho with q | q
      · obtain ⟨g1, g2, g3, g4⟩ := r3 o q
        have := aks_kind r2 o q
        exact ⟨g2, this, fun z => ⟨by have := (g3 z).2.1; omega, (g3 z).2.2⟩, fun z => ⟨by have := (g4 z).2.1; omega, (g4 z).2.2⟩⟩
      · rw [List.mem_singleton.mp q]
        exact ⟨by show (37 : Nat) ≠ 35; omega, by show (37 : Nat) ≤ 39; omega, fun z => absurd z.2 (by show ¬ (37 : Nat) ≤ 14; omega), fun z => absurd z (by show ¬ (37 : Nat) = 14; omega)⟩
/-- what is left in the end -/
def xF (x bb ln : Nat) (T : List aK4) (h : jm_H) (r : (Nat × Nat) ⊕ aB) (v : Option Value ⊕ Nat) (h' : jm_H) : Prop :=
  jS (xV x bb) h h' ∧ (∃ MK', kR h' x ln T MK') ∧ match r with
  | .inl e => v = .inl (some (.int (Int32.ofNat e.1))) ∧ (∃ st pt, tH h' x bb st pt e.2) ∧ ∃ B' MK' cs', xB h' x bb ln T MK' B' cs'
  | .inr B' => v = .inl (some (.int 0)) ∧ (∃ st pt i', tH h' x bb st pt i') ∧ bA h' bb (qFi T B')
theorem qLn_e {n : Nat} {R : uR} {e : Nat × Nat} (h : qLn T M R i B = .inl e) : e.1 = 2 ∨ e.1 = 3 ∨ e.1 = 4 ∨ e.1 = 5 := by
  have hgo : ∀ {f : Nat} {s : aQ} {e : Nat × Nat}, qGo T M B.1 B.2.1 B.2.2.1 f s = .inl e → e.1 = 2 ∨ e.1 = 3 := by
    intro f
    induction f with
    | zero => intro s e h; cases h
    | succ f ih =>
      intro s e h
      unfold qGo at h
      split at h
      · cases h
      cases hq : qOn T M B.1 B.2.1 B.2.2.1 s with
      | inl e' =>
        rw [hq] at h
        cases h
        unfold qOn at hq
        split at hq
        · split at hq
          · cases hq; exact Or.inl rfl
          · cases hq
        split at hq
        · cases hq
        split at hq
        · cases hq
        split at hq
        · split at hq
          · cases hq
          split at hq
          · cases hq
          · cases hq; exact Or.inr rfl
        · cases hq
      | inr s' => rw [hq] at h; exact ih h
  unfold qLn at h
  split at h
  · split at h
    · cases h; exact Or.inl rfl
    split at h
    · cases h; exact Or.inr (Or.inr (Or.inl rfl))
    · cases h
  split at h
  · split at h
    · cases h; exact Or.inl rfl
    split at h
    · cases h; exact Or.inr (Or.inr (Or.inl rfl))
    cases hq : qGo T M B.1 B.2.1 B.2.2.1 400 ([], [], i + 3) with
    | inl e' =>
      rw [hq] at h
      cases h
      have := hgo hq
      omega
    | inr s =>
      rw [hq] at h
      have h' : (if 150 < s.2.1.length then Sum.inl (5, s.2.2) else Sum.inr (B.1, B.2.1 ++ [uW T (i + 1)], aup B.2.2.1 B.2.1.length s.2.1, B.2.2.2)) = (Sum.inl e : (Nat × Nat) ⊕ aB) := h
      split at h'
      · cases h'; exact Or.inr (Or.inr (Or.inr rfl))
      · cases h'
  split at h
  · cases h; exact Or.inr (Or.inr (Or.inl rfl))
  cases hq : qNm T B.2.1 400 (i + 1) with
  | some p => rw [hq] at h; cases h; exact Or.inr (Or.inl rfl)
  | none => rw [hq] at h; cases h
theorem t_book_loop (hb : bb = x + 1 ∨ bb = x + 112) (hN : gTn T) (hT : gT T) (hK : ∀ j, uK T j < 2147483648) : ∀ (f k n i : Nat) (B : aB) (MK : Nat → Int32) (ops : List aI) (h : jm_H) (o1 o3 : Option Value) (st : List Nat) (pt : Nat), k + f = 400 → (uBk T f n i).1 = true → cs = cF (ops ++ (uBk T f n i).2.2.1) → n = (cF ops).length → xO T i ops → xK T MK B.2.1 ops → gE T B → (∀ j, uK T j = 22 → MK j = Int32.ofNat (M j) ∧ M j ≤ 400) → (∀ m ∈ (uBk T f n i).2.2.2, M m.1 = m.2 ∧ (uK T m.1 = 8 → MK m.1 = Int32.ofNat m.2)) → i ≤ 400 → tH h x bb st pt i → xB h x bb ln T MK B cs → jE (kX6_firstError_12 (d + 8) (x + 217) o1 (Int32.ofNat k) o3 h) (xF x bb ln T h (qBk T M f n i B)) := by
  intro f
  induction f with
  | zero =>
    intro k n i B MK ops h o1 o3 st pt hk hP hcs hn hO hX hE hM hm hi H HB
    have e : cs = cF ops := by rw [hcs]; show cF (ops ++ []) = _; rw [List.append_nil]
    subst e
    refine jE_of (fun r => gX6_firstError_12) ?_
    rw [if_neg (by rw [show (400 : Int32) = Int32.ofNat 400 from rfl, jw_lt (by omega) (by omega)]; omega)]
    simp only [tH_4 H, tH_0 H, Option.bind_some, jm_O_eq (bC_ob HB.2.1)]
    refine jE_V (t_lookUp (d := d + 5) hb hT hE hO hX HB) ?_
    rintro h1 ⟨F1, B1⟩
    exact jE_end ⟨jS_mn F1 fun a ha => Or.inr (Or.inr (Or.inr (by unfold jn at ha ⊢; omega))), ⟨MK, kR_tr HB.1 F1 fun y y1 y2 => by unfold jn at y1 y2; omega⟩, rfl, ⟨st, pt, i, tH_tr H F1 (by unfold jn; omega) (by unfold jn; omega)⟩, B1⟩
  | succ f ih =>
    intro k n i B MK ops h o1 o3 st pt hk hP hcs hn hO hX hE hM hm hi H HB
    refine jE_of (fun r => gX6_firstError_12) ?_
    rw [if_pos (by rw [show (400 : Int32) = Int32.ofNat 400 from rfl, jw_lt (by omega) (by omega)]; omega)]
    simp only [tH_4 H, tH_0 H, tH_5 H, Option.bind_some, jm_O_eq (kR_ob HB.1), k_kindAt (show i < 2147483648 by omega) HB.1, jc_I_eq]
    unfold qBk
    unfold uBk at hP hcs hm
    by_cases c : uK T i = 37
    · rw [if_pos c] at hP hcs hm ⊢
      have e : cs = cF ops := by rw [hcs]; show cF (ops ++ []) = _; rw [List.append_nil]
      subst e
      rw [if_pos (show Int32.ofNat (uK T i) = 37 by rw [c]; rfl), jm_O_eq (bC_ob HB.2.1)]
      refine jE_V (t_lookUp (d := d + 5) hb hT hE hO hX HB) ?_
      rintro h1 ⟨F1, B1⟩
      exact jE_end ⟨jS_mn F1 fun a ha => Or.inr (Or.inr (Or.inr (by unfold jn at ha ⊢; omega))), ⟨MK, kR_tr HB.1 F1 fun y y1 y2 => by unfold jn at y1 y2; omega⟩, rfl, ⟨st, pt, i, tH_tr H F1 (by unfold jn; omega) (by unfold jn; omega)⟩, B1⟩
    rw [if_neg c] at hP hcs hm ⊢
    rw [if_neg (show ¬ Int32.ofNat (uK T i) = 37 from jne (b := 37) (hK i) (by omega) c), jm_O_eq (tH_ob H)]
    obtain ⟨p1, p2, p3, p4, p5⟩ := ub_ok hP
    rw [p4] at hcs
    rw [p5] at hm
    have gl := gp_line (n := n) hT hi
    have sh := q_shape p1
    generalize uLine T n i = R at p1 p2 p3 p4 p5 hcs hm gl sh ⊢
    obtain ⟨so1, so2⟩ := sh_ops hT sh gl.2.1
    have hdrop : ∃ rest, cs.drop n = cF R.2.2.1 ++ rest := by
      refine ⟨cF (uBk T f (n + (cF R.2.2.1).length) R.2.1).2.2.1, ?_⟩
      rw [hcs, cF_app, cF_app, hn, List.drop_left]
    obtain ⟨v, h1, e1, F1, Q1⟩ := t_line (d := d + 1) hb hN hT hK hM hE.2.2.2.2.2.1 hi sh gl.2.1 hdrop (fun m hm' => (hm m (List.mem_append_left _ hm')).2) (fun m hm' => (hm m (List.mem_append_left _ hm')).1) H HB
    have e1' : jm_D (d + 8) mX6_line [.ref (x + 217)] h = some (v, h1) := e1
    rw [e1']
    cases hq : qLn T M R i B with
    | inl e =>
      rw [hq] at Q1
      obtain ⟨rfl, tt, B', MK', X'⟩ := Q1
      have he := qLn_e (n := n) hq
      rw [jc_I_eq, if_neg (by rcases he with q | q | q | q <;> (rw [q]; decide))]
      exact jE_end ⟨F1, ⟨MK', X'.1⟩, rfl, tt, B', MK', cs, X'⟩
    | inr B' =>
      rw [hq] at Q1
      obtain ⟨rfl, ⟨st', pt', H'⟩, MK', X', m1, m2⟩ := Q1
      rw [jc_I_eq, if_pos rfl, jw_add1]
      have hE' := qLn_gE hT hN sh gl.2.1 (fun m hm' => (hm m (List.mem_append_left _ hm')).1) hE hq
      have hps : ∀ w, 0 ≤ fd B.2.1 w → fd B'.2.1 w = fd B.2.1 w := by
        intro w hw
        unfold qLn at hq
        split at hq
        · split at hq
          · cases hq
          split at hq
          · cases hq
          · cases hq; rfl
        split at hq
        · split at hq
          · cases hq
          split at hq
          · cases hq
          cases hz : qGo T M B.1 B.2.1 B.2.2.1 400 ([], [], i + 3) with
          | inl e' => rw [hz] at hq; cases hq
          | inr s =>
            rw [hz] at hq
            have h' : (if 150 < s.2.1.length then Sum.inl (5, s.2.2) else Sum.inr (B.1, B.2.1 ++ [uW T (i + 1)], aup B.2.2.1 B.2.1.length s.2.1, B.2.2.2)) = (Sum.inr B' : (Nat × Nat) ⊕ aB) := hq
            split at h'
            · cases h'
            · cases h'
              exact fd_app hw
        split at hq
        · cases hq
        cases hz : qNm T B.2.1 400 (i + 1) with
        | some p => rw [hz] at hq; cases hq
        | none => rw [hz] at hq; cases hq; rfl
      have I := ih (k + 1) (n + (cF R.2.2.1).length) R.2.1 B' MK' (ops ++ R.2.2.1) h1 (jm_dm o1) (some (.int 0)) st' pt' (by omega) p2 (by rw [hcs, List.append_assoc]) (by rw [cF_app, List.length_append, hn]) (fun o ho => ?_) (fun o ho => ?_) hE' (fun j hj => ?_) (fun m hm' => ?_) gl.2.1 H' X'
      · obtain ⟨v2, h2, e2, F2, Q2⟩ := I
        exact ⟨v2, h2, e2, jS_tr F1 F2, Q2⟩
      · rcases List.mem_append.mp ho with q | q
        · obtain ⟨g1, g2, g3, g4⟩ := hO o q
          exact ⟨g1, g2, fun z => ⟨by have := (g3 z).1; omega, (g3 z).2⟩, fun z => ⟨by have := (g4 z).1; omega, (g4 z).2⟩⟩
        · exact so1 o q
      · rcases List.mem_append.mp ho with q | q
        · obtain ⟨g1, g2, g3, g4⟩ := hO o q
          obtain ⟨y1, y2⟩ := hX o q
          refine ⟨fun z => ?_, fun z => ?_⟩
          · have := hps _ (y1 z).1
            refine ⟨by rw [this]; exact (y1 z).1, ?_⟩
            rw [m1 _ (Or.inl (g3 z).1), (y1 z).2]
            unfold qpl
            rw [this]
          · have := hps _ (y2 z).1
            refine ⟨by rw [this]; exact (y2 z).1, ?_⟩
            rw [m1 _ (Or.inl (g4 z).1), (y2 z).2]
            unfold qpl
            rw [this]
        · exact m2 o q
      · rw [m1 j (Or.inr (by omega))]
        exact hM j hj
      · have := hm m (List.mem_append_right _ hm')
        exact ⟨this.1, fun z => by rw [m1 _ (Or.inr (by omega))]; exact this.2 z⟩
end TZ
/-! ===== LEVEL 3: marks of a whole playbook; tokens of a tape ===== -/
section TM
variable {T : List aK4} {i n : Nat} {R : uR}
theorem mv_sc {own : Nat} {one : Nat → uR} (ho : ∀ a, ∀ m ∈ (one a).2.2.2, m.2 ≤ 400) : ∀ f n i, n + f ≤ 400 → ∀ m ∈ (uSc T own one f n i).2.2.2, m.2 ≤ 400 := by
  have last : ∀ (n i : Nat), n ≤ 400 → ∀ m ∈ (ub (true, i, [], [(own, n)]) (ut T 23)).2.2.2, m.2 ≤ 400 := by
    intro n i hn m hm
    rw [ub_T rfl] at hm
    have hm' : m ∈ [(own, n)] ++ (ut T 23 i).2.2.2 := hm
    rw [ut_n, List.append_nil] at hm'
    rw [List.mem_singleton.mp hm']; exact hn
  intro f
  induction f with
  | zero => intro n i hn; exact last n i (by omega)
  | succ f ih =>
    intro n i hn
    unfold uSc
    split
    · intro m hm
      by_cases c : (one i).1 = true
      · rw [ub_T c] at hm
        rcases List.mem_append.mp hm with q | q
        · exact ho i m q
        · exact ih (n + 1) _ (by omega) m q
      · rw [ub_F c] at hm
        exact ho i m hm
    · exact last n i (by omega)
theorem mv_b {R : uR} {f : Nat → uR} (h : ∀ m ∈ R.2.2.2, m.2 ≤ 400) (g : ∀ a, ∀ m ∈ (f a).2.2.2, m.2 ≤ 400) : ∀ m ∈ (ub R f).2.2.2, m.2 ≤ 400 := fun m hm => by
  by_cases c : R.1 = true
  · rw [ub_T c] at hm
    exact (List.mem_append.mp hm).elim (h m) (g _ m)
  · rw [ub_F c] at hm
    exact h m hm
theorem mv_t {k : Nat} : ∀ m ∈ (ut T k i).2.2.2, m.2 ≤ 400 := fun m hm => by rw [ut_n] at hm; cases hm
theorem mv_part : ∀ q i, ∀ m ∈ (uPart T q i).2.2.2, m.2 ≤ 400
  | 0, i => by
    unfold uPart
    split
    · exact fun m hm => (by cases hm)
    split
    · exact mv_b mv_t fun a m hm => (by cases hm)
    · exact mv_t
  | q + 1, i => by
    unfold uPart
    split
    · exact mv_sc (fun a => mv_part q a) 400 0 (i + 1) (by omega)
    split
    · exact mv_b mv_t fun a => mv_b mv_t fun a => mv_b (mv_part q a) fun a => mv_t
    · exact mv_t
def gM (T : List aK4) (i : Nat) (R : uR) : Prop := (∀ m ∈ R.2.2.2, i ≤ m.1 ∧ m.1 < R.2.1) ∧ (R.2.2.2.map (·.1)).Nodup ∧ ∀ m ∈ R.2.2.2, uK T m.1 = 22 → m.2 ≤ 400
theorem gM_line (hS : qSh T n i R) : gM T i R := by
  rcases hS with ⟨-, -, -, k3⟩ | ⟨k0, k1, k2, k3, k4, k5⟩ | ⟨w, hw, k1, hS⟩
  · subst k3
    exact ⟨fun m hm => (by cases hm), List.nodup_nil, fun m hm => (by cases hm)⟩
  · rw [k5]
    obtain ⟨m1, m2⟩ := gm_part 8 (i + 3) k3
    refine ⟨fun m hm => ?_, m2, fun m hm _ => mv_part 8 _ m hm⟩
    have := m1 m hm
    exact ⟨by omega, by show m.1 < (uPart T 8 (i + 3)).2.1 + 1; omega⟩
  · rcases hS with ⟨s1, s2, s3⟩ | ⟨s1, s2, s3⟩
    · subst s3
      exact ⟨fun m hm => (by cases hm), List.nodup_nil, fun m hm => (by cases hm)⟩
    · obtain ⟨w8, t, t1, t2, t3, t4, t5, t6, t7⟩ := wh_ok s1
      subst s3
      rw [(nm_lev 8).2.2.2] at t2
      refine ⟨fun m hm => ?_, ?_, fun m hm z => ?_⟩
      · have hm' : m ∈ (uWh T n w).2.2.2 := hm
        rw [t2] at hm'
        rw [List.mem_singleton.mp hm']
        exact ⟨by show i ≤ w; omega, by show w < (uWh T n w).2.1 + 1; omega⟩
      · show ((uWh T n w).2.2.2.map (·.1)).Nodup
        rw [t2]
        exact List.nodup_cons.mpr ⟨List.not_mem_nil, List.nodup_nil⟩
      · have hm' : m ∈ (uWh T n w).2.2.2 := hm
        rw [t2] at hm'
        rw [List.mem_singleton.mp hm'] at z
        have z' : uK T w = 22 := z
        omega
theorem gM_bk (hT : gT T) : ∀ f n i, i ≤ 400 → (uBk T f n i).1 = true → i ≤ (uBk T f n i).2.1 ∧ gM T i (uBk T f n i)
  | 0, n, i, _, _ => ⟨Nat.le_refl _, fun m hm => (by cases hm), List.nodup_nil, fun m hm => (by cases hm)⟩
  | f + 1, n, i, hi, h => by
    unfold uBk at h ⊢
    split at h
    · rename_i c
      rw [if_pos c]
      exact ⟨Nat.le_refl _, fun m hm => (by cases hm), List.nodup_nil, fun m hm => (by cases hm)⟩
    rename_i c
    rw [if_neg c]
    obtain ⟨p1, p2, p3, p4, p5⟩ := ub_ok h
    have gl := gp_line (n := n) hT hi
    have sh := q_shape p1
    obtain ⟨a1, a2, a3⟩ := gM_line sh
    have so := (sh_ops hT sh gl.2.1).2
    obtain ⟨b0, b1, b2, b3⟩ := gM_bk hT f _ _ gl.2.1 p2
    rw [p3]
    refine ⟨by omega, ?_⟩
    unfold gM
    rw [p3, p5]
    refine ⟨fun m hm => ?_, ?_, fun m hm => ?_⟩
    · rcases List.mem_append.mp hm with q | q
      · have := a1 m q; omega
      · have := b1 m q; omega
    · rw [List.map_append, List.nodup_append]
      refine ⟨a2, b2, fun a ha b hb => ?_⟩
      obtain ⟨m, hm, rfl⟩ := List.mem_map.mp ha
      obtain ⟨m', hm', rfl⟩ := List.mem_map.mp hb
      have := a1 m hm
      have := b1 m' hm'
      omega
    · rcases List.mem_append.mp hm with q | q
      · exact a3 m q
      · exact b3 m q
/-- a tape's tokens -/
theorem kkw_b {w : Nat} : kkw w ≤ 35 ∧ kkw w ≠ 37 := by
  unfold kkw
  have := fd_b (l := kws) (x := w)
  have hl : kws.length = 20 := by decide
  split <;> omega
theorem ktk_k {tp : List Nat} {i : Nat} {q : aK4 × Nat} (hi : i < tp.length) (h : ktk tp i = some q) : q.1.1 ≤ 36 ∧ (q.1.1 = 35 → vW q.1.2.2.1 ∧ 0 < q.1.2.2.1) := by
  unfold ktk at h
  split at h
  · rename_i c
    split at h
    · rename_i c10
      cases h
      have hn : tp.length - i = (tp.length - i - 1) + 1 := by omega
      have hw := kwd_b (tp := tp) (tp.length - i - 1) (i + 1)
      have ek : kwd tp (tp.length - i) i = kwd tp (tp.length - i - 1) (i + 1) := by
        rw [hn]
        show (if isL (bt tp i) = true ∨ isD (bt tp i) = true then _ else _) = _
        rw [if_pos (Or.inl c)]
        rfl
      have hv := kwv_vW (tp := tp) (i := i) (kwd tp (tp.length - i) i - i) c10 fun k hk => (isLD_of (kwd_mid (f := tp.length - i) (i := i) (k := i + k) (by omega) (by omega))).2
      refine ⟨?_, fun _ => ⟨hv.1, hv.2 (by omega)⟩⟩
      have := (kkw_b (w := kwv tp i (kwd tp (tp.length - i) i - i))).1
      show kkw _ ≤ 36
      omega
    · cases h
  split at h
  · split at h
    · cases h
      exact ⟨Nat.le_refl _, fun z => by have : (36 : Nat) = 35 := z; omega⟩
    · cases h
  · unfold ksy at h
    split at h
    · rename_i hq
      cases h
    · rename_i k hq
      cases h
      split at hq
      · rename_i c
        cases hq
        have hf := fd_b (l := sy) (x := (bt tp i).toNat)
        have hfl : sy.length = 13 := rfl
        have h12 : (fd sy (bt tp i).toNat).toNat ≤ 12 := by omega
        generalize (fd sy (bt tp i).toNat).toNat = v at h12 ⊢
        refine ⟨?_, fun z => ?_⟩
        · show (if bt tp (i + 1) = 61 ∧ bt tp i = 60 then 33 else if bt tp (i + 1) = 61 ∧ bt tp i = 62 then 34 else 20 + v) ≤ 36
          split
          · omega
          split <;> omega
        · have z' : (if bt tp (i + 1) = 61 ∧ bt tp i = 60 then 33 else if bt tp (i + 1) = 61 ∧ bt tp i = 62 then 34 else 20 + v) = 35 := z
          split at z'
          · omega
          split at z' <;> omega
      · cases hq
theorem ktks_g {tp : List Nat} : ∀ r i, i ≤ tp.length → 0 < r → 0 < (ktks tp r i).length ∧ (ktks tp r i).length ≤ r ∧ (∀ j, j + 1 < (ktks tp r i).length → ((ktks tp r i).getD j (37, 0, 0, 0)).1 ≤ 36 ∧ (((ktks tp r i).getD j (37, 0, 0, 0)).1 = 35 → vW ((ktks tp r i).getD j (37, 0, 0, 0)).2.2.1 ∧ 0 < ((ktks tp r i).getD j (37, 0, 0, 0)).2.2.1)) ∧ ∀ j, j + 1 = (ktks tp r i).length → ((ktks tp r i).getD j (37, 0, 0, 0)).1 = 37 ∨ ((ktks tp r i).getD j (37, 0, 0, 0)).1 = 38
  | r + 1, i, hi, _ => by
    have one : ∀ (k : Nat) (c : aK4), (k = 37 ∨ k = 38) → c.1 = k → 0 < [c].length ∧ [c].length ≤ r + 1 ∧ (∀ j, j + 1 < [c].length → ([c].getD j (37, 0, 0, 0)).1 ≤ 36 ∧ (([c].getD j (37, 0, 0, 0)).1 = 35 → vW ([c].getD j (37, 0, 0, 0)).2.2.1 ∧ 0 < ([c].getD j (37, 0, 0, 0)).2.2.1)) ∧ ∀ j, j + 1 = [c].length → ([c].getD j (37, 0, 0, 0)).1 = 37 ∨ ([c].getD j (37, 0, 0, 0)).1 = 38 := by
      intro k c hk hc
      refine ⟨Nat.succ_pos _, Nat.succ_le_succ (Nat.zero_le _), fun j hj => absurd hj (by show ¬ j + 1 < 1; omega), fun j hj => ?_⟩
      have : j = 0 := by
        have : j + 1 = 1 := hj
        omega
      subst this
      show c.1 = 37 ∨ c.1 = 38
      omega
    unfold ktks
    split
    · exact one 37 _ (Or.inl rfl) rfl
    rename_i c1
    split
    · exact one 38 _ (Or.inr rfl) rfl
    rename_i c2
    cases hk : ktk tp (kbl tp (tp.length - i) i) with
    | none => exact one 38 _ (Or.inr rfl) rfl
    | some q =>
      have hq := ktk_b (by omega) hk
      have hq2 := ktk_k (by omega) hk
      obtain ⟨g1, g2, g3, g4⟩ := ktks_g r q.2 hq.2 (by omega)
      show 0 < (q.1 :: ktks tp r q.2).length ∧ (q.1 :: ktks tp r q.2).length ≤ r + 1 ∧ (∀ j, j + 1 < (q.1 :: ktks tp r q.2).length → ((q.1 :: ktks tp r q.2).getD j (37, 0, 0, 0)).1 ≤ 36 ∧ (((q.1 :: ktks tp r q.2).getD j (37, 0, 0, 0)).1 = 35 → vW ((q.1 :: ktks tp r q.2).getD j (37, 0, 0, 0)).2.2.1 ∧ 0 < ((q.1 :: ktks tp r q.2).getD j (37, 0, 0, 0)).2.2.1)) ∧ ∀ j, j + 1 = (q.1 :: ktks tp r q.2).length → ((q.1 :: ktks tp r q.2).getD j (37, 0, 0, 0)).1 = 37 ∨ ((q.1 :: ktks tp r q.2).getD j (37, 0, 0, 0)).1 = 38
      rw [List.length_cons]
      refine ⟨by omega, by omega, fun j hj => ?_, fun j hj => ?_⟩
      · cases j with
        | zero => exact hq2
        | succ j => exact g3 j (by omega)
      · cases j with
        | zero => omega
        | succ j => exact g4 j (by omega)
theorem ktks_T {tp : List Nat} : gT (ktks tp 401 0) ∧ gTn (ktks tp 401 0) ∧ (∀ j, uK (ktks tp 401 0) j < 2147483648) := by
  obtain ⟨g1, g2, g3, g4⟩ := ktks_g (tp := tp) 401 0 (Nat.zero_le _) (by omega)
  have hk : ∀ j, j + 1 < (ktks tp 401 0).length ∧ uK (ktks tp 401 0) j ≤ 36 ∨ uK (ktks tp 401 0) j = 37 ∨ uK (ktks tp 401 0) j = 38 := fun j => by
    by_cases c : j + 1 < (ktks tp 401 0).length
    · exact Or.inl ⟨c, (g3 j c).1⟩
    · by_cases c2 : j + 1 = (ktks tp 401 0).length
      · exact Or.inr (g4 j c2)
      · refine Or.inr (Or.inl ?_)
        unfold uK
        rw [gDn (by omega)]
  refine ⟨⟨g2, fun j h1 h2 => ?_⟩, fun j h => ?_, fun j => ?_⟩
  · rcases hk j with q | q
    · omega
    · omega
  · rcases hk j with q | q
    · exact (g3 j q.1).2 h
    · omega
  · rcases hk j with q | q <;> omega
end TM
